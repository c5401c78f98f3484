def f_Model_firstFrom_8 (v1 : Int) (Q : Int → Prop) (m : gh_M) (K8 : Int → Int → Int → Prop) (v3 : Int) (v4 : Int) (v5 : Int) : Prop := ∃ J89 : Int → Int → Prop, (∀ (v3' : Int) (v5' : Int), J89 v3' v5' → Q (if v5' = 0 then v3' else (gh_ior_f v3' 134217728))) ∧ ((¬ (v5 = 0) → (0 ≤ v1 ∧ v1 < 20))) ∧ (((¬ (v5 = 0) ∧ (v4 < (m 80 v1))) → gh_i (4 * v1) ∧ gh_i ((4 * v1) + v4) ∧ 0 ≤ (4 * v1) + v4 ∧ ((4 * v1) + v4) < 80 ∧ ∀ v6 : Int, v6 = m 81 ((4 * v1) + v4) → (((v6 ≤ 0) → (gh_i ((-1) - v6) ∧ 0 ≤ (-1) - v6 ∧ ((-1) - v6) < 8))) ∧ ∀ v3' : Int, v3' = gh_ior_f v3 (if v6 ≤ 0 then (m 86 ((-1) - v6)) else v6) → (((v6 < 0) → (gh_i ((-1) - v6) ∧ 0 ≤ (-1) - v6 ∧ ((-1) - v6) < 8))) ∧ ∀ v5' : Int, v5' = (if ((v6 < 0) ∧ ((m 82 ((-1) - v6)) = 0)) then (1:Int) else 0) → gh_i (v4 + 1) ∧ K8 v3' (v4 + 1) v5') ∧ (¬ (¬ (v5 = 0) ∧ (v4 < (m 80 v1))) → J89 v3 v5))
def w_Model_firstFrom (v1 : Int) (v2 : Int) (m : gh_M) (Q : Int → Prop) : Prop := gh_L3 (fun K8 v3 v4 v5 => f_Model_firstFrom_8 v1 Q m K8 v3 v4 v5) 0 v2 1
theorem b_Model_firstFrom_8 {E : gh_E} {v1 : Int} {Q : Int → Prop} {K8 : Int → Int → Int → Prop} (d : Nat) {m : gh_M} (hK : ∀ (v3 : Int) (v4 : Int) (v5 : Int), gh_F m → K8 v3 v4 v5 → gh_T E (gh_yModel_firstFrom.cls, prog_14_method_37_code, 7, false, 0) (d + 0) 8 [(0, 2, 63), (1, 0, v1), (3, 0, v3), (4, 0, v4), (5, 0, v5)] [] m (fun r m1 => m1 = m ∧ Q r)) (v3 : Int) (v4 : Int) (v5 : Int) (hF : gh_F m) (h : f_Model_firstFrom_8 v1 Q m K8 v3 v4 v5) : gh_T E (gh_yModel_firstFrom.cls, prog_14_method_37_code, 7, false, 0) (d + 0) 8 [(0, 2, 63), (1, 0, v1), (3, 0, v3), (4, 0, v4), (5, 0, v5)] [] m (fun r m1 => m1 = m ∧ Q r) := by
  have hK8 := hK
  unfold f_Model_firstFrom_8 at h
  refine gh_iload gd_Model_firstFrom_8 4 rfl ?_
  obtain ⟨J89, hJ89, h⟩ := h
  have hJ89 : ∀ (v3' : Int) (v5' : Int), gh_F m → J89 v3' v5' → gh_T E (gh_yModel_firstFrom.cls, prog_14_method_37_code, 7, false, 0) (d + 0) 89 [(3, 0, v3'), (5, 0, v5')] [] m (fun r m1 => m1 = m ∧ Q r) := by
    intro v3' v5' hF hj
    have h := hJ89 v3' v5' hj
    refine gh_iload gd_Model_firstFrom_89 1 rfl ?_
    have k2903 : ∀ x2904 : Int, x2904 = (if v5' = 0 then v3' else (gh_ior_f v3' 134217728)) → gh_T E (gh_yModel_firstFrom.cls, prog_14_method_37_code, 7, false, 0) (d + 0) 103 [(3, 0, v3'), (5, 0, v5')] [(0, x2904)] m (fun r m1 => m1 = m ∧ Q r) := by
      rintro _ rfl
      exact gh_ret0 rfl gd_Model_firstFrom_103 ⟨rfl, h⟩
    refine gh_zeq (tgt := 102) gd_Model_firstFrom_91 (by decide) (fun c2905 => ?_) (fun c2905 => ?_)
    · have hz : True := trivial
      refine gh_iload_n gd_Model_firstFrom_102 0 rfl ?_
      exact k2903 _ (by rw [if_pos c2905])
    · have hz : True := trivial
      refine gh_iload_n gd_Model_firstFrom_94 0 rfl ?_
      refine gh_ldcw (n := 134217728) gd_Model_firstFrom_95 gh_k1758 (by decide) (gh_r0 rfl) ?_
      refine gh_ior gd_Model_firstFrom_98 ?_
      refine gh_goto (tgt := 103) gd_Model_firstFrom_99 (by decide) ?_
      exact k2903 _ (by rw [if_neg c2905])
  obtain ⟨hk, hA, hB⟩ := h
  have k2908 : (¬ (v5 = 0) ∧ (v4 < (m 80 v1))) → gh_T E (gh_yModel_firstFrom.cls, prog_14_method_37_code, 7, false, 0) (d + 0) 24 [(0, 2, 63), (1, 0, v1), (3, 0, v3), (4, 0, v4), (5, 0, v5)] [] m (fun r m1 => m1 = m ∧ Q r) := by
    intro c
    have h := hA c
    refine gh_aload_n gd_Model_firstFrom_24 0 rfl (by decide) ?_
    refine gf_63_34 gd_Model_firstFrom_25 gh_k1401 hF ?_
    refine gh_iconst gd_Model_firstFrom_28 (gh_r0 rfl) ?_
    refine gh_iload_n gd_Model_firstFrom_29 1 rfl ?_
    obtain ⟨q2910, h⟩ := h
    refine gh_imul gd_Model_firstFrom_30 q2910 ?_
    refine gh_iload gd_Model_firstFrom_31 3 rfl ?_
    obtain ⟨q2911, h⟩ := h
    refine gh_iadd gd_Model_firstFrom_33 q2911 ?_
    obtain ⟨q2912, h⟩ := h
    obtain ⟨q2913, h⟩ := h
    refine la_81 gd_Model_firstFrom_34 hF q2912 q2913 rfl ?_
    refine gh_name (fun v6 hn => ?_)
    have h := h v6 hn
    refine gh_istore (L2 := [(6, 0, v6), (0, 2, 63), (1, 0, v1), (3, 0, v3), (4, 0, v4), (5, 0, v5)]) gd_Model_firstFrom_35 (by decide) rfl ?_
    refine gh_iload_n gd_Model_firstFrom_37 3 rfl ?_
    refine gh_iload gd_Model_firstFrom_38 0 rfl ?_
    obtain ⟨hk, h⟩ := h
    have k2917 : ∀ x2918 : Int, x2918 = (if v6 ≤ 0 then (m 86 ((-1) - v6)) else v6) → gh_T E (gh_yModel_firstFrom.cls, prog_14_method_37_code, 7, false, 0) (d + 0) 57 [(6, 0, v6), (0, 2, 63), (1, 0, v1), (3, 0, v3), (4, 0, v4), (5, 0, v5)] [(0, x2918), (0, v3)] m (fun r m1 => m1 = m ∧ Q r) := by
      rintro _ rfl
      refine gh_ior gd_Model_firstFrom_57 ?_
      refine gh_name (fun v3' hn => ?_)
      have h := h v3' hn
      refine gh_istore_n (L2 := [(3, 0, v3'), (6, 0, v6), (0, 2, 63), (1, 0, v1), (4, 0, v4), (5, 0, v5)]) gd_Model_firstFrom_58 (by decide) rfl ?_
      refine gh_iload gd_Model_firstFrom_59 1 rfl ?_
      obtain ⟨hk, h⟩ := h
      have k2922 : ∀ x2923 : Int, x2923 = (if ((v6 < 0) ∧ ((m 82 ((-1) - v6)) = 0)) then (1:Int) else 0) → gh_T E (gh_yModel_firstFrom.cls, prog_14_method_37_code, 7, false, 0) (d + 0) 81 [(3, 0, v3'), (6, 0, v6), (0, 2, 63), (1, 0, v1), (4, 0, v4), (5, 0, v5)] [(0, x2923)] m (fun r m1 => m1 = m ∧ Q r) := by
        rintro _ rfl
        refine gh_name (fun v5' hn => ?_)
        have h := h v5' hn
        refine gh_istore (L2 := [(5, 0, v5'), (3, 0, v3'), (6, 0, v6), (0, 2, 63), (1, 0, v1), (4, 0, v4)]) gd_Model_firstFrom_81 (by decide) rfl ?_
        obtain ⟨q2924, h⟩ := h
        refine gh_iinc (L2 := [(4, 0, v4 + 1), (5, 0, v5'), (3, 0, v3'), (6, 0, v6), (0, 2, 63), (1, 0, v1)]) gd_Model_firstFrom_83 5 rfl q2924 (by decide) rfl ?_
        refine gh_goto (tgt := 8) gd_Model_firstFrom_86 (by decide) ?_
        refine gh_pick (L2 := [(0, 2, 63), (1, 0, v1), (3, 0, v3'), (4, 0, v4 + 1), (5, 0, v5')]) [4, 5, 2, 0, 1] rfl ?_
        exact hK8 v3' (v4 + 1) v5' hF h
      refine gh_zge (tgt := 80) gd_Model_firstFrom_61 (by decide) (fun c2925 => ?_) (fun c2925 => ?_)
      · have hz : True := trivial
        have hk := hk c2925
        refine gh_aload_n gd_Model_firstFrom_64 2 rfl (by decide) ?_
        refine gf_63_35 gd_Model_firstFrom_65 gh_k1402 hF ?_
        refine gh_iconst gd_Model_firstFrom_68 (gh_r0 rfl) ?_
        refine gh_iload gd_Model_firstFrom_69 1 rfl ?_
        obtain ⟨q2919, hk⟩ := hk
        refine gh_isub gd_Model_firstFrom_71 q2919 ?_
        obtain ⟨q2920, hk⟩ := hk
        have q2921 := hk
        refine la_82 gd_Model_firstFrom_72 hF q2920 q2921 rfl ?_
        refine gh_zne (tgt := 80) gd_Model_firstFrom_73 (by decide) (fun c2926 => ?_) (fun c2926 => ?_)
        · have hz : True := trivial
          refine gh_iconst gd_Model_firstFrom_76 (gh_r0 rfl) ?_
          refine gh_goto (tgt := 81) gd_Model_firstFrom_77 (by decide) ?_
          exact k2922 _ (if_pos (c := ((v6 < 0) ∧ ((m 82 ((-1) - v6)) = 0))) ⟨c2925, c2926⟩).symm
        · have hz : True := trivial
          refine gh_iconst gd_Model_firstFrom_80 (gh_r0 rfl) ?_
          exact k2922 _ (if_neg (c := ((v6 < 0) ∧ ((m 82 ((-1) - v6)) = 0))) (fun z => c2926 z.2)).symm
      · have hz : True := trivial
        refine gh_iconst gd_Model_firstFrom_80 (gh_r0 rfl) ?_
        exact k2922 _ (if_neg (c := ((v6 < 0) ∧ ((m 82 ((-1) - v6)) = 0))) (fun z => c2925 z.1)).symm
    refine gh_zle (tgt := 48) gd_Model_firstFrom_40 (by decide) (fun c2927 => ?_) (fun c2927 => ?_)
    · have hz : True := trivial
      have hk := hk c2927
      refine gh_aload_n gd_Model_firstFrom_48 1 rfl (by decide) ?_
      refine gf_63_39 gd_Model_firstFrom_49 gh_k1406 hF ?_
      refine gh_iconst gd_Model_firstFrom_52 (gh_r0 rfl) ?_
      refine gh_iload gd_Model_firstFrom_53 0 rfl ?_
      obtain ⟨q2914, hk⟩ := hk
      refine gh_isub gd_Model_firstFrom_55 q2914 ?_
      obtain ⟨q2915, hk⟩ := hk
      have q2916 := hk
      refine la_86 gd_Model_firstFrom_56 hF q2915 q2916 rfl ?_
      exact k2917 _ (by rw [if_pos c2927])
    · have hz : True := trivial
      refine gh_iload gd_Model_firstFrom_43 0 rfl ?_
      refine gh_goto (tgt := 57) gd_Model_firstFrom_45 (by decide) ?_
      exact k2917 _ (by rw [if_neg c2927])
  have k2909 : ¬ (¬ (v5 = 0) ∧ (v4 < (m 80 v1))) → gh_T E (gh_yModel_firstFrom.cls, prog_14_method_37_code, 7, false, 0) (d + 0) 89 [(0, 2, 63), (1, 0, v1), (3, 0, v3), (4, 0, v4), (5, 0, v5)] [] m (fun r m1 => m1 = m ∧ Q r) := by
    intro c
    have h := hB c
    refine gh_pick (L2 := [(3, 0, v3), (5, 0, v5)]) [2, 4] rfl ?_
    exact hJ89 v3 v5 hF h
  refine gh_zeq (tgt := 89) gd_Model_firstFrom_10 (by decide) (fun c2928 => ?_) (fun c2928 => ?_)
  · have hz : True := trivial
    exact k2909 (fun z => z.1 c2928)
  · have hz : True := trivial
    have hk := hk c2928
    refine gh_iload gd_Model_firstFrom_13 3 rfl ?_
    refine gh_aload_n gd_Model_firstFrom_15 0 rfl (by decide) ?_
    refine gf_63_33 gd_Model_firstFrom_16 gh_k1400 hF ?_
    refine gh_iload_n gd_Model_firstFrom_19 1 rfl ?_
    obtain ⟨q2906, hk⟩ := hk
    have q2907 := hk
    refine la_80 gd_Model_firstFrom_20 hF q2906 q2907 rfl ?_
    refine gh_jge (tgt := 89) gd_Model_firstFrom_21 (by decide) (fun c2929 => ?_) (fun c2929 => ?_)
    · have hz : True := trivial
      exact k2908 ⟨c2928, c2929⟩
    · have hz : True := trivial
      exact k2909 (fun z => c2929 z.2)
theorem s_Model_firstFrom {E : gh_E} {m : gh_M} {Q : Int → Prop} (d : Nat) (v1 : Int) (v2 : Int) (hF : gh_F m) (h : w_Model_firstFrom v1 v2 m Q) : gh_C E gh_yModel_firstFrom prog_14_method_37_code 7 (some .int) 0 (d + 0) [(2, 63), (0, v1), (0, v2)] m (fun r m1 => m1 = m ∧ Q r) := by
  refine gh_enter2 (L := [(0, 2, 63), (1, 0, v1), (2, 0, v2)]) (by decide +kernel) gh_rt0 (Nat.le_of_ble_eq_true rfl) rfl rfl ?_
  unfold w_Model_firstFrom at h
  refine gh_iconst gd_Model_firstFrom_0 (gh_r0 rfl) ?_
  refine gh_istore_n (L2 := [(3, 0, 0), (0, 2, 63), (1, 0, v1), (2, 0, v2)]) gd_Model_firstFrom_1 (by decide) rfl ?_
  refine gh_iload_n gd_Model_firstFrom_2 3 rfl ?_
  refine gh_istore (L2 := [(4, 0, v2), (3, 0, 0), (0, 2, 63), (1, 0, v1), (2, 0, v2)]) gd_Model_firstFrom_3 (by decide) rfl ?_
  refine gh_iconst gd_Model_firstFrom_5 (gh_r0 rfl) ?_
  refine gh_istore (L2 := [(5, 0, 1), (4, 0, v2), (3, 0, 0), (0, 2, 63), (1, 0, v1), (2, 0, v2)]) gd_Model_firstFrom_6 (by decide) rfl ?_
  refine gh_pick (L2 := [(0, 2, 63), (1, 0, v1), (3, 0, 0), (4, 0, v2), (5, 0, 1)]) [3, 4, 2, 1, 0] rfl ?_
  exact gh_L3_sound (T := fun v3 v4 v5 => gh_T E (gh_yModel_firstFrom.cls, prog_14_method_37_code, 7, false, 0) (d + 0) 8 [(0, 2, 63), (1, 0, v1), (3, 0, v3), (4, 0, v4), (5, 0, v5)] [] m (fun r m1 => m1 = m ∧ Q r)) (fun _ _ _ => gh_F m) (fun K8 v3 v4 v5 hK hF h => b_Model_firstFrom_8 d hK v3 v4 v5 hF h) 0 v2 1 hF h
def f_Model_findFirst_35 (v1 : Int) (K25 : Int → gh_M → Prop) (K35 : Int → gh_M → Prop) (v2 : Int) (m : gh_M) : Prop := ((v2 < (m 63 27) → 0 ≤ v2 ∧ v2 < 20 ∧ ∃ J76 : gh_M → Prop, (∀ (m : gh_M), J76 m → gh_i (v2 + 1) ∧ K35 (v2 + 1) m) ∧ (((m 83 v2) = 0 → J76 m) ∧ (¬ ((m 83 v2) = 0) → 0 ≤ v2 ∧ v2 < 20 ∧ 0 ≤ m 79 v2 ∧ (m 79 v2) < 8 ∧ w_Model_firstFrom v2 0 m (fun r2944 => 0 ≤ m 79 v2 ∧ (m 79 v2) < 8 ∧ J76 (gh_u m 86 (m 79 v2) (gh_ior_f (m 86 (m 79 v2)) (gh_iand_f r2944 67108863))))))) ∧ (¬ (v2 < (m 63 27)) → gh_i (v1 + 1) ∧ K25 (v1 + 1) m))
def f_Model_findFirst_25 (Q : Int → gh_M → Prop) (K25 : Int → gh_M → Prop) (v1 : Int) (m : gh_M) : Prop := ((v1 < (m 63 26) → gh_M1 (fun K35 v2 m => f_Model_findFirst_35 v1 K25 K35 v2 m) 0 m) ∧ (¬ (v1 < (m 63 26)) → Q 0 m))
def f_Model_findFirst_2 (Q : Int → gh_M → Prop) (K2 : Int → gh_M → Prop) (v1 : Int) (m : gh_M) : Prop := ((v1 < (m 63 26) → 0 ≤ v1 ∧ v1 < 8 ∧ gh_i (v1 + 1) ∧ K2 (v1 + 1) (gh_u m 86 v1 0)) ∧ (¬ (v1 < (m 63 26)) → gh_M1 (fun K25 v1 m => f_Model_findFirst_25 Q K25 v1 m) 0 m))
def w_Model_findFirst (m : gh_M) (Q : Int → gh_M → Prop) : Prop := gh_M1 (fun K2 v1 m => f_Model_findFirst_2 Q K2 v1 m) 0 m
theorem b_Model_findFirst_35 {E : gh_E} {v1 : Int} {K25 : Int → gh_M → Prop} {Q : Int → gh_M → Prop} {K35 : Int → gh_M → Prop} (d : Nat) (hK25 : ∀ (v1 : Int) (m : gh_M), gh_F m → K25 v1 m → gh_T E (gh_yModel_findFirst.cls, prog_14_method_38_code, 3, false, 9) (d + 1) 25 [(0, 2, 63), (1, 0, v1)] [] m (fun r m1 => gh_F m1 ∧ Q r m1)) (hK : ∀ (v2 : Int) (m : gh_M), gh_F m → K35 v2 m → gh_T E (gh_yModel_findFirst.cls, prog_14_method_38_code, 3, false, 9) (d + 1) 35 [(0, 2, 63), (1, 0, v1), (2, 0, v2)] [] m (fun r m1 => gh_F m1 ∧ Q r m1)) (v2 : Int) (m : gh_M) (hF : gh_F m) (h : f_Model_findFirst_35 v1 K25 K35 v2 m) : gh_T E (gh_yModel_findFirst.cls, prog_14_method_38_code, 3, false, 9) (d + 1) 35 [(0, 2, 63), (1, 0, v1), (2, 0, v2)] [] m (fun r m1 => gh_F m1 ∧ Q r m1) := by
  have hK35 := hK
  unfold f_Model_findFirst_35 at h
  refine gh_iload_n gd_Model_findFirst_35 2 rfl ?_
  refine gh_aload_n gd_Model_findFirst_36 0 rfl (by decide) ?_
  refine gf_63_27 gd_Model_findFirst_37 gh_k1394 hF rfl ?_
  obtain ⟨hA, hB⟩ := h
  refine gh_jge (tgt := 82) gd_Model_findFirst_40 (by decide) (fun c2935 => ?_) (fun c2935 => ?_)
  · have h := hA c2935
    refine gh_aload_n gd_Model_findFirst_43 0 rfl (by decide) ?_
    refine gf_63_36 gd_Model_findFirst_44 gh_k1403 hF ?_
    refine gh_iload_n gd_Model_findFirst_47 2 rfl ?_
    obtain ⟨q2936, h⟩ := h
    obtain ⟨q2937, h⟩ := h
    refine la_83 gd_Model_findFirst_48 hF q2936 q2937 rfl ?_
    obtain ⟨J76, hJ76, h⟩ := h
    have hJ76 : ∀ (m : gh_M), gh_F m → J76 m → gh_T E (gh_yModel_findFirst.cls, prog_14_method_38_code, 3, false, 9) (d + 1) 76 [(0, 2, 63), (1, 0, v1), (2, 0, v2)] [] m (fun r m1 => gh_F m1 ∧ Q r m1) := by
      intro m hF hj
      have h := hJ76 m hj
      obtain ⟨q2938, h⟩ := h
      refine gh_iinc (L2 := [(2, 0, v2 + 1), (0, 2, 63), (1, 0, v1)]) gd_Model_findFirst_76 2 rfl q2938 (by decide) rfl ?_
      refine gh_goto (tgt := 35) gd_Model_findFirst_79 (by decide) ?_
      refine gh_pick (L2 := [(0, 2, 63), (1, 0, v1), (2, 0, v2 + 1)]) [1, 2, 0] rfl ?_
      exact hK35 (v2 + 1) m hF h
    obtain ⟨hA, hB⟩ := h
    refine gh_zeq (tgt := 76) gd_Model_findFirst_49 (by decide) (fun c2939 => ?_) (fun c2939 => ?_)
    · have h := hA c2939
      exact hJ76 m hF h
    · have h := hB c2939
      refine gh_aload_n gd_Model_findFirst_52 0 rfl (by decide) ?_
      refine gf_63_39 gd_Model_findFirst_53 gh_k1406 hF ?_
      refine gh_aload_n gd_Model_findFirst_56 0 rfl (by decide) ?_
      refine gf_63_32 gd_Model_findFirst_57 gh_k1399 hF ?_
      refine gh_iload_n gd_Model_findFirst_60 2 rfl ?_
      obtain ⟨q2940, h⟩ := h
      obtain ⟨q2941, h⟩ := h
      refine la_79 gd_Model_findFirst_61 hF q2940 q2941 rfl ?_
      refine gh_dup2 gd_Model_findFirst_62 (by decide) (by decide) ?_
      obtain ⟨q2942, h⟩ := h
      obtain ⟨q2943, h⟩ := h
      refine la_86 gd_Model_findFirst_63 hF q2942 q2943 rfl ?_
      refine gh_aload_n gd_Model_findFirst_64 0 rfl (by decide) ?_
      refine gh_iload_n gd_Model_findFirst_65 2 rfl ?_
      refine gh_iconst gd_Model_findFirst_66 (gh_r0 rfl) ?_
      refine cv_Model_firstFrom (d := d) gd_Model_findFirst_67 gh_k1754 hF (Nat.le_of_ble_eq_true rfl) (gh_C.pw (s_Model_firstFrom d v2 0 hF h) (fun r2944 h => ?_))
      refine gh_ldcw (n := 67108863) gd_Model_findFirst_70 gh_k1759 (by decide) (gh_r0 rfl) ?_
      refine gh_iand gd_Model_findFirst_73 ?_
      refine gh_ior gd_Model_findFirst_74 ?_
      obtain ⟨q2946, h⟩ := h
      obtain ⟨q2947, h⟩ := h
      refine sa_86 gd_Model_findFirst_75 hF q2946 q2947 (fun hF => ?_)
      exact hJ76 (gh_u m 86 (m 79 v2) (gh_ior_f (m 86 (m 79 v2)) (gh_iand_f r2944 67108863))) hF h
  · have h := hB c2935
    obtain ⟨q2948, h⟩ := h
    refine gh_iinc (L2 := [(1, 0, v1 + 1), (0, 2, 63), (2, 0, v2)]) gd_Model_findFirst_82 1 rfl q2948 (by decide) rfl ?_
    refine gh_goto (tgt := 25) gd_Model_findFirst_85 (by decide) ?_
    refine gh_pick (L2 := [(0, 2, 63), (1, 0, v1 + 1)]) [1, 0] rfl ?_
    exact hK25 (v1 + 1) m hF h
theorem b_Model_findFirst_25 {E : gh_E} {Q : Int → gh_M → Prop} {K25 : Int → gh_M → Prop} (d : Nat) (hK : ∀ (v1 : Int) (m : gh_M), gh_F m → K25 v1 m → gh_T E (gh_yModel_findFirst.cls, prog_14_method_38_code, 3, false, 9) (d + 1) 25 [(0, 2, 63), (1, 0, v1)] [] m (fun r m1 => gh_F m1 ∧ Q r m1)) (v1 : Int) (m : gh_M) (hF : gh_F m) (h : f_Model_findFirst_25 Q K25 v1 m) : gh_T E (gh_yModel_findFirst.cls, prog_14_method_38_code, 3, false, 9) (d + 1) 25 [(0, 2, 63), (1, 0, v1)] [] m (fun r m1 => gh_F m1 ∧ Q r m1) := by
  have hK25 := hK
  unfold f_Model_findFirst_25 at h
  refine gh_iload_n gd_Model_findFirst_25 1 rfl ?_
  refine gh_aload_n gd_Model_findFirst_26 0 rfl (by decide) ?_
  refine gf_63_26 gd_Model_findFirst_27 gh_k1393 hF rfl ?_
  obtain ⟨hA, hB⟩ := h
  refine gh_jge (tgt := 88) gd_Model_findFirst_30 (by decide) (fun c2934 => ?_) (fun c2934 => ?_)
  · have h := hA c2934
    refine gh_iconst gd_Model_findFirst_33 (gh_r0 rfl) ?_
    refine gh_istore_n (L2 := [(2, 0, 0), (0, 2, 63), (1, 0, v1)]) gd_Model_findFirst_34 (by decide) rfl ?_
    refine gh_pick (L2 := [(0, 2, 63), (1, 0, v1), (2, 0, 0)]) [1, 2, 0] rfl ?_
    exact gh_M1_sound (T := fun v2 m => gh_T E (gh_yModel_findFirst.cls, prog_14_method_38_code, 3, false, 9) (d + 1) 35 [(0, 2, 63), (1, 0, v1), (2, 0, v2)] [] m (fun r m1 => gh_F m1 ∧ Q r m1)) (fun _ m => gh_F m) (fun K35 v2 m hK hF h => b_Model_findFirst_35 d hK25 hK v2 m hF h) 0 m hF h
  · have h := hB c2934
    exact gh_ret9 rfl gd_Model_findFirst_88 ⟨hF, h⟩
theorem b_Model_findFirst_2 {E : gh_E} {Q : Int → gh_M → Prop} {K2 : Int → gh_M → Prop} (d : Nat) (hK : ∀ (v1 : Int) (m : gh_M), gh_F m → K2 v1 m → gh_T E (gh_yModel_findFirst.cls, prog_14_method_38_code, 3, false, 9) (d + 1) 2 [(0, 2, 63), (1, 0, v1)] [] m (fun r m1 => gh_F m1 ∧ Q r m1)) (v1 : Int) (m : gh_M) (hF : gh_F m) (h : f_Model_findFirst_2 Q K2 v1 m) : gh_T E (gh_yModel_findFirst.cls, prog_14_method_38_code, 3, false, 9) (d + 1) 2 [(0, 2, 63), (1, 0, v1)] [] m (fun r m1 => gh_F m1 ∧ Q r m1) := by
  have hK2 := hK
  unfold f_Model_findFirst_2 at h
  refine gh_iload_n gd_Model_findFirst_2 1 rfl ?_
  refine gh_aload_n gd_Model_findFirst_3 0 rfl (by decide) ?_
  refine gf_63_26 gd_Model_findFirst_4 gh_k1393 hF rfl ?_
  obtain ⟨hA, hB⟩ := h
  refine gh_jge (tgt := 23) gd_Model_findFirst_7 (by decide) (fun c2930 => ?_) (fun c2930 => ?_)
  · have h := hA c2930
    refine gh_aload_n gd_Model_findFirst_10 0 rfl (by decide) ?_
    refine gf_63_39 gd_Model_findFirst_11 gh_k1406 hF ?_
    refine gh_iload_n gd_Model_findFirst_14 1 rfl ?_
    refine gh_iconst gd_Model_findFirst_15 (gh_r0 rfl) ?_
    obtain ⟨q2931, h⟩ := h
    obtain ⟨q2932, h⟩ := h
    refine sa_86 gd_Model_findFirst_16 hF q2931 q2932 (fun hF => ?_)
    obtain ⟨q2933, h⟩ := h
    refine gh_iinc (L2 := [(1, 0, v1 + 1), (0, 2, 63)]) gd_Model_findFirst_17 1 rfl q2933 (by decide) rfl ?_
    refine gh_goto (tgt := 2) gd_Model_findFirst_20 (by decide) ?_
    refine gh_pick (L2 := [(0, 2, 63), (1, 0, v1 + 1)]) [1, 0] rfl ?_
    exact hK2 (v1 + 1) (gh_u m 86 v1 0) hF h
  · have h := hB c2930
    refine gh_iconst gd_Model_findFirst_23 (gh_r0 rfl) ?_
    refine gh_istore_n (L2 := [(1, 0, 0), (0, 2, 63)]) gd_Model_findFirst_24 (by decide) rfl ?_
    refine gh_pick (L2 := [(0, 2, 63), (1, 0, 0)]) [1, 0] rfl ?_
    exact gh_M1_sound (T := fun v1 m => gh_T E (gh_yModel_findFirst.cls, prog_14_method_38_code, 3, false, 9) (d + 1) 25 [(0, 2, 63), (1, 0, v1)] [] m (fun r m1 => gh_F m1 ∧ Q r m1)) (fun _ m => gh_F m) (fun K25 v1 m hK hF h => b_Model_findFirst_25 d hK v1 m hF h) 0 m hF h
theorem s_Model_findFirst {E : gh_E} {m : gh_M} {Q : Int → gh_M → Prop} (d : Nat) (hF : gh_F m) (h : w_Model_findFirst m Q) : gh_C E gh_yModel_findFirst prog_14_method_38_code 3 none 9 (d + 1) [(2, 63)] m (fun r m1 => gh_F m1 ∧ Q r m1) := by
  refine gh_enter2 (L := [(0, 2, 63)]) (by decide +kernel) gh_rt9 (Nat.le_of_ble_eq_true rfl) rfl rfl ?_
  unfold w_Model_findFirst at h
  refine gh_iconst gd_Model_findFirst_0 (gh_r0 rfl) ?_
  refine gh_istore_n (L2 := [(1, 0, 0), (0, 2, 63)]) gd_Model_findFirst_1 (by decide) rfl ?_
  refine gh_pick (L2 := [(0, 2, 63), (1, 0, 0)]) [1, 0] rfl ?_
  exact gh_M1_sound (T := fun v1 m => gh_T E (gh_yModel_findFirst.cls, prog_14_method_38_code, 3, false, 9) (d + 1) 2 [(0, 2, 63), (1, 0, v1)] [] m (fun r m1 => gh_F m1 ∧ Q r m1)) (fun _ m => gh_F m) (fun K2 v1 m hK hF h => b_Model_findFirst_2 d hK v1 m hF h) 0 m hF h
def f_Model_findFollow_54 (v1 : Int) (K44 : Int → gh_M → Prop) (K54 : Int → gh_M → Prop) (v2 : Int) (m : gh_M) : Prop := gh_i (4 * (m 63 27)) ∧ ((v2 < (4 * (m 63 27)) → 0 ≤ v2 ∧ ∀ v3 : Int, v3 = v2 / 4 → 0 ≤ v2 ∧ 0 ≤ v3 ∧ v3 < 20 ∧ ∃ J173 : gh_M → Prop, (∀ (m : gh_M), J173 m → gh_i (v2 + 1) ∧ K54 (v2 + 1) m) ∧ ((((v2 % 4) < (m 80 v3)) → (0 ≤ v2 ∧ v2 < 80 ∧ (((m 81 v2) < 0) → (0 ≤ v3 ∧ v3 < 20 ∧ (¬ ((m 83 v3) = 0) → (0 ≤ v3 ∧ v3 < 20 ∧ 0 ≤ m 79 v3 ∧ (m 79 v3) < 8))))))) ∧ (((¬ ((v2 % 4) < (m 80 v3)) ∨ (¬ ((m 81 v2) < 0) ∨ (((m 83 v3) = 0) ∨ ((m 85 (m 79 v3)) = 0)))) → J173 m) ∧ (¬ (¬ ((v2 % 4) < (m 80 v3)) ∨ (¬ ((m 81 v2) < 0) ∨ (((m 83 v3) = 0) ∨ ((m 85 (m 79 v3)) = 0)))) → 0 ≤ v2 ∧ gh_i ((v2 % 4) + 1) ∧ w_Model_firstFrom v3 ((v2 % 4) + 1) m (fun r2977 => 0 ≤ v2 ∧ v2 < 80 ∧ gh_i ((-1) - (m 81 v2)) ∧ 0 ≤ (-1) - (m 81 v2) ∧ ((-1) - (m 81 v2)) < 8 ∧ ((((gh_iand_f (gh_ishr_f r2977 27) 1) = 1) → (0 ≤ v3 ∧ v3 < 20 ∧ 0 ≤ m 79 v3 ∧ (m 79 v3) < 8))) ∧ 0 ≤ (-1) - (m 81 v2) ∧ ((-1) - (m 81 v2)) < 8 ∧ J173 (gh_u m 87 ((-1) - (m 81 v2)) (gh_ior_f (m 87 ((-1) - (m 81 v2))) (gh_ior_f (gh_iand_f r2977 67108863) (if (gh_iand_f (gh_ishr_f r2977 27) 1) = 1 then (m 87 (m 79 v3)) else 0)))))))) ∧ (¬ (v2 < (4 * (m 63 27))) → gh_i (v1 + 1) ∧ K44 (v1 + 1) m))
def f_Model_findFollow_44 (Q : Int → gh_M → Prop) (K44 : Int → gh_M → Prop) (v1 : Int) (m : gh_M) : Prop := ((v1 < (m 63 26) → gh_M1 (fun K54 v2 m => f_Model_findFollow_54 v1 K44 K54 v2 m) 0 m) ∧ (¬ (v1 < (m 63 26)) → Q 0 m))
def f_Model_findFollow_2 (Q : Int → gh_M → Prop) (K2 : Int → gh_M → Prop) (v1 : Int) (m : gh_M) : Prop := ((v1 < (m 63 26) → 0 ≤ v1 ∧ v1 < 8 ∧ gh_i (v1 + 1) ∧ K2 (v1 + 1) (gh_u m 87 v1 (if v1 = 0 then (if (m 85 0) = 0 then 0 else 67108864) else 0))) ∧ (¬ (v1 < (m 63 26)) → gh_M1 (fun K44 v1 m => f_Model_findFollow_44 Q K44 v1 m) 0 m))
def w_Model_findFollow (m : gh_M) (Q : Int → gh_M → Prop) : Prop := gh_M1 (fun K2 v1 m => f_Model_findFollow_2 Q K2 v1 m) 0 m
theorem b_Model_findFollow_54 {E : gh_E} {v1 : Int} {K44 : Int → gh_M → Prop} {Q : Int → gh_M → Prop} {K54 : Int → gh_M → Prop} (d : Nat) (hK44 : ∀ (v1 : Int) (m : gh_M), gh_F m → K44 v1 m → gh_T E (gh_yModel_findFollow.cls, prog_14_method_39_code, 5, false, 9) (d + 1) 44 [(0, 2, 63), (1, 0, v1)] [] m (fun r m1 => gh_F m1 ∧ Q r m1)) (hK : ∀ (v2 : Int) (m : gh_M), gh_F m → K54 v2 m → gh_T E (gh_yModel_findFollow.cls, prog_14_method_39_code, 5, false, 9) (d + 1) 54 [(0, 2, 63), (1, 0, v1), (2, 0, v2)] [] m (fun r m1 => gh_F m1 ∧ Q r m1)) (v2 : Int) (m : gh_M) (hF : gh_F m) (h : f_Model_findFollow_54 v1 K44 K54 v2 m) : gh_T E (gh_yModel_findFollow.cls, prog_14_method_39_code, 5, false, 9) (d + 1) 54 [(0, 2, 63), (1, 0, v1), (2, 0, v2)] [] m (fun r m1 => gh_F m1 ∧ Q r m1) := by
  have hK54 := hK
  unfold f_Model_findFollow_54 at h
  refine gh_iload_n gd_Model_findFollow_54 2 rfl ?_
  refine gh_iconst gd_Model_findFollow_55 (gh_r0 rfl) ?_
  refine gh_aload_n gd_Model_findFollow_56 0 rfl (by decide) ?_
  refine gf_63_27 gd_Model_findFollow_57 gh_k1394 hF rfl ?_
  obtain ⟨q2958, h⟩ := h
  refine gh_imul gd_Model_findFollow_60 q2958 ?_
  obtain ⟨hA, hB⟩ := h
  refine gh_jge (tgt := 179) gd_Model_findFollow_61 (by decide) (fun c2959 => ?_) (fun c2959 => ?_)
  · have h := hA c2959
    refine gh_iload_n gd_Model_findFollow_64 2 rfl ?_
    refine gh_iconst gd_Model_findFollow_65 (gh_r0 rfl) ?_
    obtain ⟨q2960, h⟩ := h
    refine gh_idiv gd_Model_findFollow_66 q2960 (by decide) ?_
    refine gh_name (fun v3 hn => ?_)
    have h := h v3 hn
    refine gh_istore_n (L2 := [(3, 0, v3), (0, 2, 63), (1, 0, v1), (2, 0, v2)]) gd_Model_findFollow_67 (by decide) rfl ?_
    refine gh_iload_n gd_Model_findFollow_68 3 rfl ?_
    refine gh_iconst gd_Model_findFollow_69 (gh_r0 rfl) ?_
    obtain ⟨q2961, h⟩ := h
    refine gh_irem gd_Model_findFollow_70 q2961 (by decide) ?_
    refine gh_aload_n gd_Model_findFollow_71 1 rfl (by decide) ?_
    refine gf_63_33 gd_Model_findFollow_72 gh_k1400 hF ?_
    refine gh_iload_n gd_Model_findFollow_75 0 rfl ?_
    obtain ⟨q2962, h⟩ := h
    obtain ⟨q2963, h⟩ := h
    refine la_80 gd_Model_findFollow_76 hF q2962 q2963 rfl ?_
    obtain ⟨J173, hJ173, h⟩ := h
    have hJ173 : ∀ (m : gh_M), gh_F m → J173 m → gh_T E (gh_yModel_findFollow.cls, prog_14_method_39_code, 5, false, 9) (d + 1) 173 [(0, 2, 63), (1, 0, v1), (2, 0, v2)] [] m (fun r m1 => gh_F m1 ∧ Q r m1) := by
      intro m hF hj
      have h := hJ173 m hj
      obtain ⟨q2964, h⟩ := h
      refine gh_iinc (L2 := [(2, 0, v2 + 1), (0, 2, 63), (1, 0, v1)]) gd_Model_findFollow_173 2 rfl q2964 (by decide) rfl ?_
      refine gh_goto (tgt := 54) gd_Model_findFollow_176 (by decide) ?_
      refine gh_pick (L2 := [(0, 2, 63), (1, 0, v1), (2, 0, v2 + 1)]) [1, 2, 0] rfl ?_
      exact hK54 (v2 + 1) m hF h
    obtain ⟨hk, hA, hB⟩ := h
    have k2973 : (¬ ((v2 % 4) < (m 80 v3)) ∨ (¬ ((m 81 v2) < 0) ∨ (((m 83 v3) = 0) ∨ ((m 85 (m 79 v3)) = 0)))) → gh_T E (gh_yModel_findFollow.cls, prog_14_method_39_code, 5, false, 9) (d + 1) 173 [(3, 0, v3), (0, 2, 63), (1, 0, v1), (2, 0, v2)] [] m (fun r m1 => gh_F m1 ∧ Q r m1) := by
      intro c
      have h := hA c
      refine gh_pick (L2 := [(0, 2, 63), (1, 0, v1), (2, 0, v2)]) [1, 2, 3] rfl ?_
      exact hJ173 m hF h
    have k2974 : ¬ (¬ ((v2 % 4) < (m 80 v3)) ∨ (¬ ((m 81 v2) < 0) ∨ (((m 83 v3) = 0) ∨ ((m 85 (m 79 v3)) = 0)))) → gh_T E (gh_yModel_findFollow.cls, prog_14_method_39_code, 5, false, 9) (d + 1) 112 [(3, 0, v3), (0, 2, 63), (1, 0, v1), (2, 0, v2)] [] m (fun r m1 => gh_F m1 ∧ Q r m1) := by
      intro c
      have h := hB c
      refine gh_aload_n gd_Model_findFollow_112 1 rfl (by decide) ?_
      refine gh_iload_n gd_Model_findFollow_113 0 rfl ?_
      refine gh_iload_n gd_Model_findFollow_114 3 rfl ?_
      refine gh_iconst gd_Model_findFollow_115 (gh_r0 rfl) ?_
      obtain ⟨q2975, h⟩ := h
      refine gh_irem gd_Model_findFollow_116 q2975 (by decide) ?_
      refine gh_iconst gd_Model_findFollow_117 (gh_r0 rfl) ?_
      obtain ⟨q2976, h⟩ := h
      refine gh_iadd gd_Model_findFollow_118 q2976 ?_
      refine cv_Model_firstFrom (d := d) gd_Model_findFollow_119 gh_k1754 hF (Nat.le_of_ble_eq_true rfl) (gh_C.pw (s_Model_firstFrom d v3 ((v2 % 4) + 1) hF h) (fun r2977 h => ?_))
      refine gh_istore (L2 := [(4, 0, r2977), (3, 0, v3), (0, 2, 63), (1, 0, v1), (2, 0, v2)]) gd_Model_findFollow_122 (by decide) rfl ?_
      refine gh_aload_n gd_Model_findFollow_124 2 rfl (by decide) ?_
      refine gf_63_40 gd_Model_findFollow_125 gh_k1407 hF ?_
      refine gh_iconst gd_Model_findFollow_128 (gh_r0 rfl) ?_
      refine gh_aload_n gd_Model_findFollow_129 2 rfl (by decide) ?_
      refine gf_63_34 gd_Model_findFollow_130 gh_k1401 hF ?_
      refine gh_iload_n gd_Model_findFollow_133 4 rfl ?_
      obtain ⟨q2979, h⟩ := h
      obtain ⟨q2980, h⟩ := h
      refine la_81 gd_Model_findFollow_134 hF q2979 q2980 rfl ?_
      obtain ⟨q2981, h⟩ := h
      refine gh_isub gd_Model_findFollow_135 q2981 ?_
      refine gh_dup2 gd_Model_findFollow_136 (by decide) (by decide) ?_
      obtain ⟨q2982, h⟩ := h
      obtain ⟨q2983, h⟩ := h
      refine la_87 gd_Model_findFollow_137 hF q2982 q2983 rfl ?_
      refine gh_iload gd_Model_findFollow_138 0 rfl ?_
      refine gh_ldcw (n := 67108863) gd_Model_findFollow_140 gh_k1759 (by decide) (gh_r0 rfl) ?_
      refine gh_iand gd_Model_findFollow_143 ?_
      refine gh_iload gd_Model_findFollow_144 0 rfl ?_
      refine gh_bipush gd_Model_findFollow_146 (by decide) (gh_r0 rfl) ?_
      refine gh_ishr gd_Model_findFollow_148 ?_
      refine gh_iconst gd_Model_findFollow_149 (gh_r0 rfl) ?_
      refine gh_iand gd_Model_findFollow_150 ?_
      refine gh_iconst gd_Model_findFollow_151 (gh_r0 rfl) ?_
      obtain ⟨hk, h⟩ := h
      have k2988 : ∀ x2989 : Int, x2989 = (if (gh_iand_f (gh_ishr_f r2977 27) 1) = 1 then (m 87 (m 79 v3)) else 0) → gh_T E (gh_yModel_findFollow.cls, prog_14_method_39_code, 5, false, 9) (d + 1) 170 [(4, 0, r2977), (3, 0, v3), (0, 2, 63), (1, 0, v1), (2, 0, v2)] [(0, x2989), (0, gh_iand_f r2977 67108863), (0, m 87 ((-1) - (m 81 v2))), (0, (-1) - (m 81 v2)), (2, 87)] m (fun r m1 => gh_F m1 ∧ Q r m1) := by
        rintro _ rfl
        refine gh_ior gd_Model_findFollow_170 ?_
        refine gh_ior gd_Model_findFollow_171 ?_
        obtain ⟨q2990, h⟩ := h
        obtain ⟨q2991, h⟩ := h
        refine sa_87 gd_Model_findFollow_172 hF q2990 q2991 (fun hF => ?_)
        refine gh_pick (L2 := [(0, 2, 63), (1, 0, v1), (2, 0, v2)]) [2, 3, 4] rfl ?_
        exact hJ173 (gh_u m 87 ((-1) - (m 81 v2)) (gh_ior_f (m 87 ((-1) - (m 81 v2))) (gh_ior_f (gh_iand_f r2977 67108863) (if (gh_iand_f (gh_ishr_f r2977 27) 1) = 1 then (m 87 (m 79 v3)) else 0)))) hF h
      refine gh_jne (tgt := 169) gd_Model_findFollow_152 (by decide) (fun c2992 => ?_) (fun c2992 => ?_)
      · have hz : True := trivial
        have hk := hk c2992
        refine gh_aload_n gd_Model_findFollow_155 2 rfl (by decide) ?_
        refine gf_63_40 gd_Model_findFollow_156 gh_k1407 hF ?_
        refine gh_aload_n gd_Model_findFollow_159 2 rfl (by decide) ?_
        refine gf_63_32 gd_Model_findFollow_160 gh_k1399 hF ?_
        refine gh_iload_n gd_Model_findFollow_163 1 rfl ?_
        obtain ⟨q2984, hk⟩ := hk
        obtain ⟨q2985, hk⟩ := hk
        refine la_79 gd_Model_findFollow_164 hF q2984 q2985 rfl ?_
        obtain ⟨q2986, hk⟩ := hk
        have q2987 := hk
        refine la_87 gd_Model_findFollow_165 hF q2986 q2987 rfl ?_
        refine gh_goto (tgt := 170) gd_Model_findFollow_166 (by decide) ?_
        exact k2988 _ (by rw [if_pos c2992])
      · have hz : True := trivial
        refine gh_iconst gd_Model_findFollow_169 (gh_r0 rfl) ?_
        exact k2988 _ (by rw [if_neg c2992])
    refine gh_jge (tgt := 173) gd_Model_findFollow_77 (by decide) (fun c2993 => ?_) (fun c2993 => ?_)
    · have hz : True := trivial
      have hk := hk c2993
      refine gh_aload_n gd_Model_findFollow_80 1 rfl (by decide) ?_
      refine gf_63_34 gd_Model_findFollow_81 gh_k1401 hF ?_
      refine gh_iload_n gd_Model_findFollow_84 3 rfl ?_
      obtain ⟨q2965, hk⟩ := hk
      obtain ⟨q2966, hk⟩ := hk
      refine la_81 gd_Model_findFollow_85 hF q2965 q2966 rfl ?_
      refine gh_zge (tgt := 173) gd_Model_findFollow_86 (by decide) (fun c2994 => ?_) (fun c2994 => ?_)
      · have hz : True := trivial
        have hk := hk c2994
        refine gh_aload_n gd_Model_findFollow_89 1 rfl (by decide) ?_
        refine gf_63_36 gd_Model_findFollow_90 gh_k1403 hF ?_
        refine gh_iload_n gd_Model_findFollow_93 0 rfl ?_
        obtain ⟨q2967, hk⟩ := hk
        obtain ⟨q2968, hk⟩ := hk
        refine la_83 gd_Model_findFollow_94 hF q2967 q2968 rfl ?_
        refine gh_zeq (tgt := 173) gd_Model_findFollow_95 (by decide) (fun c2995 => ?_) (fun c2995 => ?_)
        · have hz : True := trivial
          exact k2973 (Or.inr (Or.inr (Or.inl c2995)))
        · have hz : True := trivial
          have hk := hk c2995
          refine gh_aload_n gd_Model_findFollow_98 1 rfl (by decide) ?_
          refine gf_63_38 gd_Model_findFollow_99 gh_k1405 hF ?_
          refine gh_aload_n gd_Model_findFollow_102 1 rfl (by decide) ?_
          refine gf_63_32 gd_Model_findFollow_103 gh_k1399 hF ?_
          refine gh_iload_n gd_Model_findFollow_106 0 rfl ?_
          obtain ⟨q2969, hk⟩ := hk
          obtain ⟨q2970, hk⟩ := hk
          refine la_79 gd_Model_findFollow_107 hF q2969 q2970 rfl ?_
          obtain ⟨q2971, hk⟩ := hk
          have q2972 := hk
          refine la_85 gd_Model_findFollow_108 hF q2971 q2972 rfl ?_
          refine gh_zeq (tgt := 173) gd_Model_findFollow_109 (by decide) (fun c2996 => ?_) (fun c2996 => ?_)
          · have hz : True := trivial
            exact k2973 (Or.inr (Or.inr (Or.inr c2996)))
          · have hz : True := trivial
            exact k2974 (fun z => z.elim (fun w => w c2993) (fun z => z.elim (fun w => w c2994) (fun z => z.elim c2995 c2996)))
      · have hz : True := trivial
        exact k2973 (Or.inr (Or.inl c2994))
    · have hz : True := trivial
      exact k2973 (Or.inl c2993)
  · have h := hB c2959
    obtain ⟨q2997, h⟩ := h
    refine gh_iinc (L2 := [(1, 0, v1 + 1), (0, 2, 63), (2, 0, v2)]) gd_Model_findFollow_179 1 rfl q2997 (by decide) rfl ?_
    refine gh_goto (tgt := 44) gd_Model_findFollow_182 (by decide) ?_
    refine gh_pick (L2 := [(0, 2, 63), (1, 0, v1 + 1)]) [1, 0] rfl ?_
    exact hK44 (v1 + 1) m hF h
theorem b_Model_findFollow_44 {E : gh_E} {Q : Int → gh_M → Prop} {K44 : Int → gh_M → Prop} (d : Nat) (hK : ∀ (v1 : Int) (m : gh_M), gh_F m → K44 v1 m → gh_T E (gh_yModel_findFollow.cls, prog_14_method_39_code, 5, false, 9) (d + 1) 44 [(0, 2, 63), (1, 0, v1)] [] m (fun r m1 => gh_F m1 ∧ Q r m1)) (v1 : Int) (m : gh_M) (hF : gh_F m) (h : f_Model_findFollow_44 Q K44 v1 m) : gh_T E (gh_yModel_findFollow.cls, prog_14_method_39_code, 5, false, 9) (d + 1) 44 [(0, 2, 63), (1, 0, v1)] [] m (fun r m1 => gh_F m1 ∧ Q r m1) := by
  have hK44 := hK
  unfold f_Model_findFollow_44 at h
  refine gh_iload_n gd_Model_findFollow_44 1 rfl ?_
  refine gh_aload_n gd_Model_findFollow_45 0 rfl (by decide) ?_
  refine gf_63_26 gd_Model_findFollow_46 gh_k1393 hF rfl ?_
  obtain ⟨hA, hB⟩ := h
  refine gh_jge (tgt := 185) gd_Model_findFollow_49 (by decide) (fun c2957 => ?_) (fun c2957 => ?_)
  · have h := hA c2957
    refine gh_iconst gd_Model_findFollow_52 (gh_r0 rfl) ?_
    refine gh_istore_n (L2 := [(2, 0, 0), (0, 2, 63), (1, 0, v1)]) gd_Model_findFollow_53 (by decide) rfl ?_
    refine gh_pick (L2 := [(0, 2, 63), (1, 0, v1), (2, 0, 0)]) [1, 2, 0] rfl ?_
    exact gh_M1_sound (T := fun v2 m => gh_T E (gh_yModel_findFollow.cls, prog_14_method_39_code, 5, false, 9) (d + 1) 54 [(0, 2, 63), (1, 0, v1), (2, 0, v2)] [] m (fun r m1 => gh_F m1 ∧ Q r m1)) (fun _ m => gh_F m) (fun K54 v2 m hK hF h => b_Model_findFollow_54 d hK44 hK v2 m hF h) 0 m hF h
  · have h := hB c2957
    exact gh_ret9 rfl gd_Model_findFollow_185 ⟨hF, h⟩
theorem b_Model_findFollow_2 {E : gh_E} {Q : Int → gh_M → Prop} {K2 : Int → gh_M → Prop} (d : Nat) (hK : ∀ (v1 : Int) (m : gh_M), gh_F m → K2 v1 m → gh_T E (gh_yModel_findFollow.cls, prog_14_method_39_code, 5, false, 9) (d + 1) 2 [(0, 2, 63), (1, 0, v1)] [] m (fun r m1 => gh_F m1 ∧ Q r m1)) (v1 : Int) (m : gh_M) (hF : gh_F m) (h : f_Model_findFollow_2 Q K2 v1 m) : gh_T E (gh_yModel_findFollow.cls, prog_14_method_39_code, 5, false, 9) (d + 1) 2 [(0, 2, 63), (1, 0, v1)] [] m (fun r m1 => gh_F m1 ∧ Q r m1) := by
  have hK2 := hK
  unfold f_Model_findFollow_2 at h
  refine gh_iload_n gd_Model_findFollow_2 1 rfl ?_
  refine gh_aload_n gd_Model_findFollow_3 0 rfl (by decide) ?_
  refine gf_63_26 gd_Model_findFollow_4 gh_k1393 hF rfl ?_
  obtain ⟨hA, hB⟩ := h
  refine gh_jge (tgt := 42) gd_Model_findFollow_7 (by decide) (fun c2949 => ?_) (fun c2949 => ?_)
  · have h := hA c2949
    refine gh_aload_n gd_Model_findFollow_10 0 rfl (by decide) ?_
    refine gf_63_40 gd_Model_findFollow_11 gh_k1407 hF ?_
    refine gh_iload_n gd_Model_findFollow_14 1 rfl ?_
    refine gh_iload_n gd_Model_findFollow_15 1 rfl ?_
    have k2950 : ∀ x2951 : Int, x2951 = (if v1 = 0 then (if (m 85 0) = 0 then 0 else 67108864) else 0) → gh_T E (gh_yModel_findFollow.cls, prog_14_method_39_code, 5, false, 9) (d + 1) 35 [(0, 2, 63), (1, 0, v1)] [(0, x2951), (0, v1), (2, 87)] m (fun r m1 => gh_F m1 ∧ Q r m1) := by
      rintro _ rfl
      obtain ⟨q2952, h⟩ := h
      obtain ⟨q2953, h⟩ := h
      refine sa_87 gd_Model_findFollow_35 hF q2952 q2953 (fun hF => ?_)
      obtain ⟨q2954, h⟩ := h
      refine gh_iinc (L2 := [(1, 0, v1 + 1), (0, 2, 63)]) gd_Model_findFollow_36 1 rfl q2954 (by decide) rfl ?_
      refine gh_goto (tgt := 2) gd_Model_findFollow_39 (by decide) ?_
      refine gh_pick (L2 := [(0, 2, 63), (1, 0, v1 + 1)]) [1, 0] rfl ?_
      exact hK2 (v1 + 1) (gh_u m 87 v1 (if v1 = 0 then (if (m 85 0) = 0 then 0 else 67108864) else 0)) hF h
    refine gh_zne (tgt := 34) gd_Model_findFollow_16 (by decide) (fun c2955 => ?_) (fun c2955 => ?_)
    · have hz : True := trivial
      refine gh_aload_n gd_Model_findFollow_19 0 rfl (by decide) ?_
      refine gf_63_38 gd_Model_findFollow_20 gh_k1405 hF ?_
      refine gh_iconst gd_Model_findFollow_23 (gh_r0 rfl) ?_
      refine la_85 gd_Model_findFollow_24 hF (by decide) (by decide) rfl ?_
      refine gh_zeq (tgt := 34) gd_Model_findFollow_25 (by decide) (fun c2956 => ?_) (fun c2956 => ?_)
      · have hz : True := trivial
        refine gh_iconst gd_Model_findFollow_34 (gh_r0 rfl) ?_
        exact k2950 _ (by rw [if_pos c2955, if_pos c2956])
      · have hz : True := trivial
        refine gh_ldcw (n := 67108864) gd_Model_findFollow_28 gh_k1764 (by decide) (gh_r0 rfl) ?_
        refine gh_goto (tgt := 35) gd_Model_findFollow_31 (by decide) ?_
        exact k2950 _ (by rw [if_pos c2955, if_neg c2956])
    · have hz : True := trivial
      refine gh_iconst gd_Model_findFollow_34 (gh_r0 rfl) ?_
      exact k2950 _ (by rw [if_neg c2955])
  · have h := hB c2949
    refine gh_iconst gd_Model_findFollow_42 (gh_r0 rfl) ?_
    refine gh_istore_n (L2 := [(1, 0, 0), (0, 2, 63)]) gd_Model_findFollow_43 (by decide) rfl ?_
    refine gh_pick (L2 := [(0, 2, 63), (1, 0, 0)]) [1, 0] rfl ?_
    exact gh_M1_sound (T := fun v1 m => gh_T E (gh_yModel_findFollow.cls, prog_14_method_39_code, 5, false, 9) (d + 1) 44 [(0, 2, 63), (1, 0, v1)] [] m (fun r m1 => gh_F m1 ∧ Q r m1)) (fun _ m => gh_F m) (fun K44 v1 m hK hF h => b_Model_findFollow_44 d hK v1 m hF h) 0 m hF h
theorem s_Model_findFollow {E : gh_E} {m : gh_M} {Q : Int → gh_M → Prop} (d : Nat) (hF : gh_F m) (h : w_Model_findFollow m Q) : gh_C E gh_yModel_findFollow prog_14_method_39_code 5 none 9 (d + 1) [(2, 63)] m (fun r m1 => gh_F m1 ∧ Q r m1) := by
  refine gh_enter2 (L := [(0, 2, 63)]) (by decide +kernel) gh_rt9 (Nat.le_of_ble_eq_true rfl) rfl rfl ?_
  unfold w_Model_findFollow at h
  refine gh_iconst gd_Model_findFollow_0 (gh_r0 rfl) ?_
  refine gh_istore_n (L2 := [(1, 0, 0), (0, 2, 63)]) gd_Model_findFollow_1 (by decide) rfl ?_
  refine gh_pick (L2 := [(0, 2, 63), (1, 0, 0)]) [1, 0] rfl ?_
  exact gh_M1_sound (T := fun v1 m => gh_T E (gh_yModel_findFollow.cls, prog_14_method_39_code, 5, false, 9) (d + 1) 2 [(0, 2, 63), (1, 0, v1)] [] m (fun r m1 => gh_F m1 ∧ Q r m1)) (fun _ m => gh_F m) (fun K2 v1 m hK hF h => b_Model_findFollow_2 d hK v1 m hF h) 0 m hF h
def f_Model_goesOnWith_22 (v1 : Int) (v2 : Int) (Q : Int → Prop) (m : gh_M) (K22 : Int → Int → Prop) (v3 : Int) (v4 : Int) : Prop := 0 ≤ v1 ∧ v1 < 20 ∧ ((v4 < (m 80 v1) → ((¬ (v3 = 0) → ((¬ (v4 = v2) → (gh_i (4 * v1) ∧ gh_i ((4 * v1) + v4) ∧ 0 ≤ (4 * v1) + v4 ∧ ((4 * v1) + v4) < 80 ∧ (((m 81 ((4 * v1) + v4)) < 0) → (gh_i (4 * v1) ∧ gh_i ((4 * v1) + v4) ∧ 0 ≤ (4 * v1) + v4 ∧ ((4 * v1) + v4) < 80 ∧ gh_i ((-1) - (m 81 ((4 * v1) + v4))) ∧ 0 ≤ (-1) - (m 81 ((4 * v1) + v4)) ∧ ((-1) - (m 81 ((4 * v1) + v4))) < 8))))))) ∧ ∀ v3' : Int, v3' = (if (¬ (v3 = 0) ∧ ((v4 = v2) ∨ (((m 81 ((4 * v1) + v4)) < 0) ∧ ((m 82 ((-1) - (m 81 ((4 * v1) + v4)))) = 0)))) then (1:Int) else 0) → gh_i (v4 + 1) ∧ K22 v3' (v4 + 1)) ∧ (¬ (v4 < (m 80 v1)) → (v3 = 0 ∨ v3 = 1) ∧ Q v3))
def w_Model_goesOnWith (v1 : Int) (v2 : Int) (m : gh_M) (Q : Int → Prop) : Prop := gh_i (4 * v1) ∧ gh_i ((4 * v1) + v2) ∧ 0 ≤ (4 * v1) + v2 ∧ ((4 * v1) + v2) < 80 ∧ ∀ v3 : Int, v3 = (if ((m 81 ((4 * v1) + v2)) < 0) then (1:Int) else 0) → gh_L2 (fun K22 v3 v4 => f_Model_goesOnWith_22 v1 v2 Q m K22 v3 v4) v3 0
theorem b_Model_goesOnWith_22 {E : gh_E} {v1 : Int} {v2 : Int} {Q : Int → Prop} {K22 : Int → Int → Prop} (d : Nat) {m : gh_M} (hK : ∀ (v3 : Int) (v4 : Int), gh_F m → K22 v3 v4 → gh_T E (gh_yModel_goesOnWith.cls, prog_14_method_40_code, 5, false, 8) (d + 0) 22 [(0, 2, 63), (1, 0, v1), (2, 0, v2), (3, 0, v3), (4, 0, v4)] [] m (fun r m1 => m1 = m ∧ Q r)) (v3 : Int) (v4 : Int) (hF : gh_F m) (h : f_Model_goesOnWith_22 v1 v2 Q m K22 v3 v4) : gh_T E (gh_yModel_goesOnWith.cls, prog_14_method_40_code, 5, false, 8) (d + 0) 22 [(0, 2, 63), (1, 0, v1), (2, 0, v2), (3, 0, v3), (4, 0, v4)] [] m (fun r m1 => m1 = m ∧ Q r) := by
  have hK22 := hK
  unfold f_Model_goesOnWith_22 at h
  refine gh_iload gd_Model_goesOnWith_22 4 rfl ?_
  refine gh_aload_n gd_Model_goesOnWith_24 0 rfl (by decide) ?_
  refine gf_63_33 gd_Model_goesOnWith_25 gh_k1400 hF ?_
  refine gh_iload_n gd_Model_goesOnWith_28 1 rfl ?_
  obtain ⟨q3004, h⟩ := h
  obtain ⟨q3005, h⟩ := h
  refine la_80 gd_Model_goesOnWith_29 hF q3004 q3005 rfl ?_
  obtain ⟨hA, hB⟩ := h
  refine gh_jge (tgt := 90) gd_Model_goesOnWith_30 (by decide) (fun c3006 => ?_) (fun c3006 => ?_)
  · have h := hA c3006
    refine gh_iload_n gd_Model_goesOnWith_33 3 rfl ?_
    obtain ⟨hk, h⟩ := h
    have k3018 : ∀ x3019 : Int, x3019 = (if (¬ (v3 = 0) ∧ ((v4 = v2) ∨ (((m 81 ((4 * v1) + v4)) < 0) ∧ ((m 82 ((-1) - (m 81 ((4 * v1) + v4)))) = 0)))) then (1:Int) else 0) → gh_T E (gh_yModel_goesOnWith.cls, prog_14_method_40_code, 5, false, 8) (d + 0) 83 [(0, 2, 63), (1, 0, v1), (2, 0, v2), (3, 0, v3), (4, 0, v4)] [(0, x3019)] m (fun r m1 => m1 = m ∧ Q r) := by
      rintro _ rfl
      refine gh_name (fun v3' hn => ?_)
      have h := h v3' hn
      refine gh_istore_n (L2 := [(3, 0, v3'), (0, 2, 63), (1, 0, v1), (2, 0, v2), (4, 0, v4)]) gd_Model_goesOnWith_83 (by decide) rfl ?_
      obtain ⟨q3020, h⟩ := h
      refine gh_iinc (L2 := [(4, 0, v4 + 1), (3, 0, v3'), (0, 2, 63), (1, 0, v1), (2, 0, v2)]) gd_Model_goesOnWith_84 4 rfl q3020 (by decide) rfl ?_
      refine gh_goto (tgt := 22) gd_Model_goesOnWith_87 (by decide) ?_
      refine gh_pick (L2 := [(0, 2, 63), (1, 0, v1), (2, 0, v2), (3, 0, v3'), (4, 0, v4 + 1)]) [2, 3, 4, 1, 0] rfl ?_
      exact hK22 v3' (v4 + 1) hF h
    refine gh_zeq (tgt := 82) gd_Model_goesOnWith_34 (by decide) (fun c3021 => ?_) (fun c3021 => ?_)
    · have hz : True := trivial
      refine gh_iconst gd_Model_goesOnWith_82 (gh_r0 rfl) ?_
      exact k3018 _ (if_neg (c := (¬ (v3 = 0) ∧ ((v4 = v2) ∨ (((m 81 ((4 * v1) + v4)) < 0) ∧ ((m 82 ((-1) - (m 81 ((4 * v1) + v4)))) = 0))))) (fun z => z.1 c3021)).symm
    · have hz : True := trivial
      have hk := hk c3021
      refine gh_iload gd_Model_goesOnWith_37 4 rfl ?_
      refine gh_iload_n gd_Model_goesOnWith_39 2 rfl ?_
      refine gh_jeq (tgt := 78) gd_Model_goesOnWith_40 (by decide) (fun c3022 => ?_) (fun c3022 => ?_)
      · have hz : True := trivial
        refine gh_iconst gd_Model_goesOnWith_78 (gh_r0 rfl) ?_
        refine gh_goto (tgt := 83) gd_Model_goesOnWith_79 (by decide) ?_
        exact k3018 _ (if_pos (c := (¬ (v3 = 0) ∧ ((v4 = v2) ∨ (((m 81 ((4 * v1) + v4)) < 0) ∧ ((m 82 ((-1) - (m 81 ((4 * v1) + v4)))) = 0))))) ⟨c3021, (Or.inl c3022)⟩).symm
      · have hz : True := trivial
        have hk := hk c3022
        refine gh_aload_n gd_Model_goesOnWith_43 0 rfl (by decide) ?_
        refine gf_63_34 gd_Model_goesOnWith_44 gh_k1401 hF ?_
        refine gh_iconst gd_Model_goesOnWith_47 (gh_r0 rfl) ?_
        refine gh_iload_n gd_Model_goesOnWith_48 1 rfl ?_
        obtain ⟨q3007, hk⟩ := hk
        refine gh_imul gd_Model_goesOnWith_49 q3007 ?_
        refine gh_iload gd_Model_goesOnWith_50 4 rfl ?_
        obtain ⟨q3008, hk⟩ := hk
        refine gh_iadd gd_Model_goesOnWith_52 q3008 ?_
        obtain ⟨q3009, hk⟩ := hk
        obtain ⟨q3010, hk⟩ := hk
        refine la_81 gd_Model_goesOnWith_53 hF q3009 q3010 rfl ?_
        refine gh_zge (tgt := 82) gd_Model_goesOnWith_54 (by decide) (fun c3023 => ?_) (fun c3023 => ?_)
        · have hz : True := trivial
          have hk := hk c3023
          refine gh_aload_n gd_Model_goesOnWith_57 0 rfl (by decide) ?_
          refine gf_63_35 gd_Model_goesOnWith_58 gh_k1402 hF ?_
          refine gh_iconst gd_Model_goesOnWith_61 (gh_r0 rfl) ?_
          refine gh_aload_n gd_Model_goesOnWith_62 0 rfl (by decide) ?_
          refine gf_63_34 gd_Model_goesOnWith_63 gh_k1401 hF ?_
          refine gh_iconst gd_Model_goesOnWith_66 (gh_r0 rfl) ?_
          refine gh_iload_n gd_Model_goesOnWith_67 1 rfl ?_
          obtain ⟨q3011, hk⟩ := hk
          refine gh_imul gd_Model_goesOnWith_68 q3011 ?_
          refine gh_iload gd_Model_goesOnWith_69 4 rfl ?_
          obtain ⟨q3012, hk⟩ := hk
          refine gh_iadd gd_Model_goesOnWith_71 q3012 ?_
          obtain ⟨q3013, hk⟩ := hk
          obtain ⟨q3014, hk⟩ := hk
          refine la_81 gd_Model_goesOnWith_72 hF q3013 q3014 rfl ?_
          obtain ⟨q3015, hk⟩ := hk
          refine gh_isub gd_Model_goesOnWith_73 q3015 ?_
          obtain ⟨q3016, hk⟩ := hk
          have q3017 := hk
          refine la_82 gd_Model_goesOnWith_74 hF q3016 q3017 rfl ?_
          refine gh_zne (tgt := 82) gd_Model_goesOnWith_75 (by decide) (fun c3024 => ?_) (fun c3024 => ?_)
          · have hz : True := trivial
            refine gh_iconst gd_Model_goesOnWith_78 (gh_r0 rfl) ?_
            refine gh_goto (tgt := 83) gd_Model_goesOnWith_79 (by decide) ?_
            exact k3018 _ (if_pos (c := (¬ (v3 = 0) ∧ ((v4 = v2) ∨ (((m 81 ((4 * v1) + v4)) < 0) ∧ ((m 82 ((-1) - (m 81 ((4 * v1) + v4)))) = 0))))) ⟨c3021, (Or.inr ⟨c3023, c3024⟩)⟩).symm
          · have hz : True := trivial
            refine gh_iconst gd_Model_goesOnWith_82 (gh_r0 rfl) ?_
            exact k3018 _ (if_neg (c := (¬ (v3 = 0) ∧ ((v4 = v2) ∨ (((m 81 ((4 * v1) + v4)) < 0) ∧ ((m 82 ((-1) - (m 81 ((4 * v1) + v4)))) = 0))))) (fun z => (fun z => z.elim c3022 (fun z => c3024 z.2)) z.2)).symm
        · have hz : True := trivial
          refine gh_iconst gd_Model_goesOnWith_82 (gh_r0 rfl) ?_
          exact k3018 _ (if_neg (c := (¬ (v3 = 0) ∧ ((v4 = v2) ∨ (((m 81 ((4 * v1) + v4)) < 0) ∧ ((m 82 ((-1) - (m 81 ((4 * v1) + v4)))) = 0))))) (fun z => (fun z => z.elim c3022 (fun z => c3023 z.1)) z.2)).symm
  · have h := hB c3006
    refine gh_iload_n gd_Model_goesOnWith_90 3 rfl ?_
    obtain ⟨q3025, h⟩ := h
    exact gh_ret8 rfl gd_Model_goesOnWith_91 q3025 ⟨rfl, h⟩
theorem s_Model_goesOnWith {E : gh_E} {m : gh_M} {Q : Int → Prop} (d : Nat) (v1 : Int) (v2 : Int) (hF : gh_F m) (h : w_Model_goesOnWith v1 v2 m Q) : gh_C E gh_yModel_goesOnWith prog_14_method_40_code 5 (some .boolean) 8 (d + 0) [(2, 63), (0, v1), (0, v2)] m (fun r m1 => m1 = m ∧ Q r) := by
  refine gh_enter2 (L := [(0, 2, 63), (1, 0, v1), (2, 0, v2)]) (by decide +kernel) gh_rt8 (Nat.le_of_ble_eq_true rfl) rfl rfl ?_
  unfold w_Model_goesOnWith at h
  refine gh_aload_n gd_Model_goesOnWith_0 0 rfl (by decide) ?_
  refine gf_63_34 gd_Model_goesOnWith_1 gh_k1401 hF ?_
  refine gh_iconst gd_Model_goesOnWith_4 (gh_r0 rfl) ?_
  refine gh_iload_n gd_Model_goesOnWith_5 1 rfl ?_
  obtain ⟨q2998, h⟩ := h
  refine gh_imul gd_Model_goesOnWith_6 q2998 ?_
  refine gh_iload_n gd_Model_goesOnWith_7 2 rfl ?_
  obtain ⟨q2999, h⟩ := h
  refine gh_iadd gd_Model_goesOnWith_8 q2999 ?_
  obtain ⟨q3000, h⟩ := h
  obtain ⟨q3001, h⟩ := h
  refine la_81 gd_Model_goesOnWith_9 hF q3000 q3001 rfl ?_
  have k3002 : ∀ x3003 : Int, x3003 = (if ((m 81 ((4 * v1) + v2)) < 0) then (1:Int) else 0) → gh_T E (gh_yModel_goesOnWith.cls, prog_14_method_40_code, 5, false, 8) (d + 0) 18 [(0, 2, 63), (1, 0, v1), (2, 0, v2)] [(0, x3003)] m (fun r m1 => m1 = m ∧ Q r) := by
    rintro _ rfl
    refine gh_name (fun v3 hn => ?_)
    have h := h v3 hn
    refine gh_istore_n (L2 := [(3, 0, v3), (0, 2, 63), (1, 0, v1), (2, 0, v2)]) gd_Model_goesOnWith_18 (by decide) rfl ?_
    refine gh_iconst gd_Model_goesOnWith_19 (gh_r0 rfl) ?_
    refine gh_istore (L2 := [(4, 0, 0), (3, 0, v3), (0, 2, 63), (1, 0, v1), (2, 0, v2)]) gd_Model_goesOnWith_20 (by decide) rfl ?_
    refine gh_pick (L2 := [(0, 2, 63), (1, 0, v1), (2, 0, v2), (3, 0, v3), (4, 0, 0)]) [2, 3, 4, 1, 0] rfl ?_
    exact gh_L2_sound (T := fun v3 v4 => gh_T E (gh_yModel_goesOnWith.cls, prog_14_method_40_code, 5, false, 8) (d + 0) 22 [(0, 2, 63), (1, 0, v1), (2, 0, v2), (3, 0, v3), (4, 0, v4)] [] m (fun r m1 => m1 = m ∧ Q r)) (fun _ _ => gh_F m) (fun K22 v3 v4 hK hF h => b_Model_goesOnWith_22 d hK v3 v4 hF h) v3 0 hF h
  refine gh_zge (tgt := 17) gd_Model_goesOnWith_10 (by decide) (fun c3026 => ?_) (fun c3026 => ?_)
  · have hz : True := trivial
    refine gh_iconst gd_Model_goesOnWith_13 (gh_r0 rfl) ?_
    refine gh_goto (tgt := 18) gd_Model_goesOnWith_14 (by decide) ?_
    exact k3002 _ (if_pos (c := ((m 81 ((4 * v1) + v2)) < 0)) c3026).symm
  · have hz : True := trivial
    refine gh_iconst gd_Model_goesOnWith_17 (gh_r0 rfl) ?_
    exact k3002 _ (if_neg (c := ((m 81 ((4 * v1) + v2)) < 0)) c3026).symm
def f_Model_findCircles_33 (v1 : Int) (K23 : Int → gh_M → Prop) (K33 : Int → gh_M → Prop) (v2 : Int) (m : gh_M) : Prop := 0 ≤ v1 ∧ v1 < 20 ∧ ((v2 < (m 80 v1) → w_Model_goesOnWith v1 v2 m (fun r3035 => ∃ J80 : gh_M → Prop, (∀ (m : gh_M), J80 m → gh_i (v2 + 1) ∧ K33 (v2 + 1) m) ∧ ((r3035 = 0 → J80 m) ∧ (¬ (r3035 = 0) → 0 ≤ v1 ∧ v1 < 20 ∧ gh_i (8 * (m 79 v1)) ∧ gh_i ((8 * (m 79 v1)) - 1) ∧ gh_i (4 * v1) ∧ gh_i ((4 * v1) + v2) ∧ 0 ≤ (4 * v1) + v2 ∧ ((4 * v1) + v2) < 80 ∧ gh_i (((8 * (m 79 v1)) - 1) - (m 81 ((4 * v1) + v2))) ∧ 0 ≤ ((8 * (m 79 v1)) - 1) - (m 81 ((4 * v1) + v2)) ∧ (((8 * (m 79 v1)) - 1) - (m 81 ((4 * v1) + v2))) < 64 ∧ J80 (gh_u m 88 (((8 * (m 79 v1)) - 1) - (m 81 ((4 * v1) + v2))) 1))))) ∧ (¬ (v2 < (m 80 v1)) → gh_i (v1 + 1) ∧ K23 (v1 + 1) m))
def f_Model_findCircles_104 (v1 : Int) (K94 : Int → gh_M → Prop) (K104 : Int → gh_M → Prop) (v2 : Int) (m : gh_M) : Prop := ((v2 < 64 → 0 ≤ v2 ∧ v2 < 64 ∧ ((((m 88 v2) = 0) → (0 ≤ v2 ∧ gh_i ((v2 / 8) * 8) ∧ gh_i (((v2 / 8) * 8) + v1) ∧ 0 ≤ ((v2 / 8) * 8) + v1 ∧ (((v2 / 8) * 8) + v1) < 64 ∧ (¬ ((m 88 (((v2 / 8) * 8) + v1)) = 0) → (gh_i (8 * v1) ∧ 0 ≤ v2 ∧ gh_i ((8 * v1) + (v2 % 8)) ∧ 0 ≤ (8 * v1) + (v2 % 8) ∧ ((8 * v1) + (v2 % 8)) < 64))))) ∧ 0 ≤ v2 ∧ v2 < 64 ∧ gh_i (v2 + 1) ∧ K104 (v2 + 1) (gh_u m 88 v2 (if (¬ ((m 88 v2) = 0) ∨ (¬ ((m 88 (((v2 / 8) * 8) + v1)) = 0) ∧ (¬ ((m 88 ((8 * v1) + (v2 % 8))) = 0)))) then (1:Int) else 0))) ∧ (¬ (v2 < 64) → gh_i (v1 + 1) ∧ K94 (v1 + 1) m))
def f_Model_findCircles_94 (Q : Int → gh_M → Prop) (K94 : Int → gh_M → Prop) (v1 : Int) (m : gh_M) : Prop := ((v1 < (m 63 26) → gh_M1 (fun K104 v2 m => f_Model_findCircles_104 v1 K94 K104 v2 m) 0 m) ∧ (¬ (v1 < (m 63 26)) → Q 0 m))
def f_Model_findCircles_23 (Q : Int → gh_M → Prop) (K23 : Int → gh_M → Prop) (v1 : Int) (m : gh_M) : Prop := ((v1 < (m 63 27) → gh_M1 (fun K33 v2 m => f_Model_findCircles_33 v1 K23 K33 v2 m) 0 m) ∧ (¬ (v1 < (m 63 27)) → gh_M1 (fun K94 v1 m => f_Model_findCircles_94 Q K94 v1 m) 0 m))
def f_Model_findCircles_2 (Q : Int → gh_M → Prop) (K2 : Int → gh_M → Prop) (v1 : Int) (m : gh_M) : Prop := ((v1 < 64 → 0 ≤ v1 ∧ v1 < 64 ∧ gh_i (v1 + 1) ∧ K2 (v1 + 1) (gh_u m 88 v1 0)) ∧ (¬ (v1 < 64) → gh_M1 (fun K23 v1 m => f_Model_findCircles_23 Q K23 v1 m) 0 m))
def w_Model_findCircles (m : gh_M) (Q : Int → gh_M → Prop) : Prop := gh_M1 (fun K2 v1 m => f_Model_findCircles_2 Q K2 v1 m) 0 m
theorem b_Model_findCircles_33 {E : gh_E} {v1 : Int} {K23 : Int → gh_M → Prop} {Q : Int → gh_M → Prop} {K33 : Int → gh_M → Prop} (d : Nat) (hK23 : ∀ (v1 : Int) (m : gh_M), gh_F m → K23 v1 m → gh_T E (gh_yModel_findCircles.cls, prog_14_method_41_code, 3, false, 9) (d + 1) 23 [(0, 2, 63), (1, 0, v1)] [] m (fun r m1 => gh_F m1 ∧ Q r m1)) (hK : ∀ (v2 : Int) (m : gh_M), gh_F m → K33 v2 m → gh_T E (gh_yModel_findCircles.cls, prog_14_method_41_code, 3, false, 9) (d + 1) 33 [(0, 2, 63), (1, 0, v1), (2, 0, v2)] [] m (fun r m1 => gh_F m1 ∧ Q r m1)) (v2 : Int) (m : gh_M) (hF : gh_F m) (h : f_Model_findCircles_33 v1 K23 K33 v2 m) : gh_T E (gh_yModel_findCircles.cls, prog_14_method_41_code, 3, false, 9) (d + 1) 33 [(0, 2, 63), (1, 0, v1), (2, 0, v2)] [] m (fun r m1 => gh_F m1 ∧ Q r m1) := by
  have hK33 := hK
  unfold f_Model_findCircles_33 at h
  refine gh_iload_n gd_Model_findCircles_33 2 rfl ?_
  refine gh_aload_n gd_Model_findCircles_34 0 rfl (by decide) ?_
  refine gf_63_33 gd_Model_findCircles_35 gh_k1400 hF ?_
  refine gh_iload_n gd_Model_findCircles_38 1 rfl ?_
  obtain ⟨q3032, h⟩ := h
  obtain ⟨q3033, h⟩ := h
  refine la_80 gd_Model_findCircles_39 hF q3032 q3033 rfl ?_
  obtain ⟨hA, hB⟩ := h
  refine gh_jge (tgt := 86) gd_Model_findCircles_40 (by decide) (fun c3034 => ?_) (fun c3034 => ?_)
  · have h := hA c3034
    refine gh_aload_n gd_Model_findCircles_43 0 rfl (by decide) ?_
    refine gh_iload_n gd_Model_findCircles_44 1 rfl ?_
    refine gh_iload_n gd_Model_findCircles_45 2 rfl ?_
    refine cv_Model_goesOnWith (d := d) gd_Model_findCircles_46 gh_k1769 hF (Nat.le_of_ble_eq_true rfl) (gh_C.pw (s_Model_goesOnWith d v1 v2 hF h) (fun r3035 h => ?_))
    obtain ⟨J80, hJ80, h⟩ := h
    have hJ80 : ∀ (m : gh_M), gh_F m → J80 m → gh_T E (gh_yModel_findCircles.cls, prog_14_method_41_code, 3, false, 9) (d + 1) 80 [(0, 2, 63), (1, 0, v1), (2, 0, v2)] [] m (fun r m1 => gh_F m1 ∧ Q r m1) := by
      intro m hF hj
      have h := hJ80 m hj
      obtain ⟨q3037, h⟩ := h
      refine gh_iinc (L2 := [(2, 0, v2 + 1), (0, 2, 63), (1, 0, v1)]) gd_Model_findCircles_80 2 rfl q3037 (by decide) rfl ?_
      refine gh_goto (tgt := 33) gd_Model_findCircles_83 (by decide) ?_
      refine gh_pick (L2 := [(0, 2, 63), (1, 0, v1), (2, 0, v2 + 1)]) [1, 2, 0] rfl ?_
      exact hK33 (v2 + 1) m hF h
    obtain ⟨hA, hB⟩ := h
    refine gh_zeq (tgt := 80) gd_Model_findCircles_49 (by decide) (fun c3038 => ?_) (fun c3038 => ?_)
    · have h := hA c3038
      exact hJ80 m hF h
    · have h := hB c3038
      refine gh_aload_n gd_Model_findCircles_52 0 rfl (by decide) ?_
      refine gf_63_41 gd_Model_findCircles_53 gh_k1408 hF ?_
      refine gh_bipush gd_Model_findCircles_56 (by decide) (gh_r0 rfl) ?_
      refine gh_aload_n gd_Model_findCircles_58 0 rfl (by decide) ?_
      refine gf_63_32 gd_Model_findCircles_59 gh_k1399 hF ?_
      refine gh_iload_n gd_Model_findCircles_62 1 rfl ?_
      obtain ⟨q3039, h⟩ := h
      obtain ⟨q3040, h⟩ := h
      refine la_79 gd_Model_findCircles_63 hF q3039 q3040 rfl ?_
      obtain ⟨q3041, h⟩ := h
      refine gh_imul gd_Model_findCircles_64 q3041 ?_
      refine gh_iconst gd_Model_findCircles_65 (gh_r0 rfl) ?_
      obtain ⟨q3042, h⟩ := h
      refine gh_isub gd_Model_findCircles_66 q3042 ?_
      refine gh_aload_n gd_Model_findCircles_67 0 rfl (by decide) ?_
      refine gf_63_34 gd_Model_findCircles_68 gh_k1401 hF ?_
      refine gh_iconst gd_Model_findCircles_71 (gh_r0 rfl) ?_
      refine gh_iload_n gd_Model_findCircles_72 1 rfl ?_
      obtain ⟨q3043, h⟩ := h
      refine gh_imul gd_Model_findCircles_73 q3043 ?_
      refine gh_iload_n gd_Model_findCircles_74 2 rfl ?_
      obtain ⟨q3044, h⟩ := h
      refine gh_iadd gd_Model_findCircles_75 q3044 ?_
      obtain ⟨q3045, h⟩ := h
      obtain ⟨q3046, h⟩ := h
      refine la_81 gd_Model_findCircles_76 hF q3045 q3046 rfl ?_
      obtain ⟨q3047, h⟩ := h
      refine gh_isub gd_Model_findCircles_77 q3047 ?_
      refine gh_iconst gd_Model_findCircles_78 (gh_r0 rfl) ?_
      obtain ⟨q3048, h⟩ := h
      obtain ⟨q3049, h⟩ := h
      refine sa_88 gd_Model_findCircles_79 hF q3048 q3049 (by decide) (fun hF => ?_)
      exact hJ80 (gh_u m 88 (((8 * (m 79 v1)) - 1) - (m 81 ((4 * v1) + v2))) 1) hF h
  · have h := hB c3034
    obtain ⟨q3050, h⟩ := h
    refine gh_iinc (L2 := [(1, 0, v1 + 1), (0, 2, 63), (2, 0, v2)]) gd_Model_findCircles_86 1 rfl q3050 (by decide) rfl ?_
    refine gh_goto (tgt := 23) gd_Model_findCircles_89 (by decide) ?_
    refine gh_pick (L2 := [(0, 2, 63), (1, 0, v1 + 1)]) [1, 0] rfl ?_
    exact hK23 (v1 + 1) m hF h
theorem b_Model_findCircles_104 {E : gh_E} {v1 : Int} {K94 : Int → gh_M → Prop} {Q : Int → gh_M → Prop} {K104 : Int → gh_M → Prop} (d : Nat) (hK94 : ∀ (v1 : Int) (m : gh_M), gh_F m → K94 v1 m → gh_T E (gh_yModel_findCircles.cls, prog_14_method_41_code, 3, false, 9) (d + 1) 94 [(0, 2, 63), (1, 0, v1)] [] m (fun r m1 => gh_F m1 ∧ Q r m1)) (hK : ∀ (v2 : Int) (m : gh_M), gh_F m → K104 v2 m → gh_T E (gh_yModel_findCircles.cls, prog_14_method_41_code, 3, false, 9) (d + 1) 104 [(0, 2, 63), (1, 0, v1), (2, 0, v2)] [] m (fun r m1 => gh_F m1 ∧ Q r m1)) (v2 : Int) (m : gh_M) (hF : gh_F m) (h : f_Model_findCircles_104 v1 K94 K104 v2 m) : gh_T E (gh_yModel_findCircles.cls, prog_14_method_41_code, 3, false, 9) (d + 1) 104 [(0, 2, 63), (1, 0, v1), (2, 0, v2)] [] m (fun r m1 => gh_F m1 ∧ Q r m1) := by
  have hK104 := hK
  unfold f_Model_findCircles_104 at h
  refine gh_iload_n gd_Model_findCircles_104 2 rfl ?_
  refine gh_bipush gd_Model_findCircles_105 (by decide) (gh_r0 rfl) ?_
  obtain ⟨hA, hB⟩ := h
  refine gh_jge (tgt := 170) gd_Model_findCircles_107 (by decide) (fun c3052 => ?_) (fun c3052 => ?_)
  · have h := hA c3052
    refine gh_aload_n gd_Model_findCircles_110 0 rfl (by decide) ?_
    refine gf_63_41 gd_Model_findCircles_111 gh_k1408 hF ?_
    refine gh_iload_n gd_Model_findCircles_114 2 rfl ?_
    refine gh_aload_n gd_Model_findCircles_115 0 rfl (by decide) ?_
    refine gf_63_41 gd_Model_findCircles_116 gh_k1408 hF ?_
    refine gh_iload_n gd_Model_findCircles_119 2 rfl ?_
    obtain ⟨q3053, h⟩ := h
    obtain ⟨q3054, h⟩ := h
    refine la_88 gd_Model_findCircles_120 hF q3053 q3054 rfl ?_
    obtain ⟨hk, h⟩ := h
    have k3065 : ∀ x3066 : Int, x3066 = (if (¬ ((m 88 v2) = 0) ∨ (¬ ((m 88 (((v2 / 8) * 8) + v1)) = 0) ∧ (¬ ((m 88 ((8 * v1) + (v2 % 8))) = 0)))) then (1:Int) else 0) → gh_T E (gh_yModel_findCircles.cls, prog_14_method_41_code, 3, false, 9) (d + 1) 163 [(0, 2, 63), (1, 0, v1), (2, 0, v2)] [(0, x3066), (0, v2), (2, 88)] m (fun r m1 => gh_F m1 ∧ Q r m1) := by
      rintro _ rfl
      obtain ⟨q3067, h⟩ := h
      obtain ⟨q3068, h⟩ := h
      refine sa_88 gd_Model_findCircles_163 hF q3067 q3068 gh_ib01 (fun hF => ?_)
      obtain ⟨q3069, h⟩ := h
      refine gh_iinc (L2 := [(2, 0, v2 + 1), (0, 2, 63), (1, 0, v1)]) gd_Model_findCircles_164 2 rfl q3069 (by decide) rfl ?_
      refine gh_goto (tgt := 104) gd_Model_findCircles_167 (by decide) ?_
      refine gh_pick (L2 := [(0, 2, 63), (1, 0, v1), (2, 0, v2 + 1)]) [1, 2, 0] rfl ?_
      exact hK104 (v2 + 1) (gh_u m 88 v2 (if (¬ ((m 88 v2) = 0) ∨ (¬ ((m 88 (((v2 / 8) * 8) + v1)) = 0) ∧ (¬ ((m 88 ((8 * v1) + (v2 % 8))) = 0)))) then (1:Int) else 0)) hF h
    refine gh_zne (tgt := 158) gd_Model_findCircles_121 (by decide) (fun c3070 => ?_) (fun c3070 => ?_)
    · have hz : True := trivial
      have hk := hk c3070
      refine gh_aload_n gd_Model_findCircles_124 0 rfl (by decide) ?_
      refine gf_63_41 gd_Model_findCircles_125 gh_k1408 hF ?_
      refine gh_iload_n gd_Model_findCircles_128 2 rfl ?_
      refine gh_bipush gd_Model_findCircles_129 (by decide) (gh_r0 rfl) ?_
      obtain ⟨q3055, hk⟩ := hk
      refine gh_idiv gd_Model_findCircles_131 q3055 (by decide) ?_
      refine gh_bipush gd_Model_findCircles_132 (by decide) (gh_r0 rfl) ?_
      obtain ⟨q3056, hk⟩ := hk
      refine gh_imul gd_Model_findCircles_134 q3056 ?_
      refine gh_iload_n gd_Model_findCircles_135 1 rfl ?_
      obtain ⟨q3057, hk⟩ := hk
      refine gh_iadd gd_Model_findCircles_136 q3057 ?_
      obtain ⟨q3058, hk⟩ := hk
      obtain ⟨q3059, hk⟩ := hk
      refine la_88 gd_Model_findCircles_137 hF q3058 q3059 rfl ?_
      refine gh_zeq (tgt := 162) gd_Model_findCircles_138 (by decide) (fun c3071 => ?_) (fun c3071 => ?_)
      · have hz : True := trivial
        refine gh_iconst gd_Model_findCircles_162 (gh_r0 rfl) ?_
        exact k3065 _ (if_neg (c := (¬ ((m 88 v2) = 0) ∨ (¬ ((m 88 (((v2 / 8) * 8) + v1)) = 0) ∧ (¬ ((m 88 ((8 * v1) + (v2 % 8))) = 0))))) (fun z => z.elim (fun w => w c3070) (fun z => z.1 c3071))).symm
      · have hz : True := trivial
        have hk := hk c3071
        refine gh_aload_n gd_Model_findCircles_141 0 rfl (by decide) ?_
        refine gf_63_41 gd_Model_findCircles_142 gh_k1408 hF ?_
        refine gh_bipush gd_Model_findCircles_145 (by decide) (gh_r0 rfl) ?_
        refine gh_iload_n gd_Model_findCircles_147 1 rfl ?_
        obtain ⟨q3060, hk⟩ := hk
        refine gh_imul gd_Model_findCircles_148 q3060 ?_
        refine gh_iload_n gd_Model_findCircles_149 2 rfl ?_
        refine gh_bipush gd_Model_findCircles_150 (by decide) (gh_r0 rfl) ?_
        obtain ⟨q3061, hk⟩ := hk
        refine gh_irem gd_Model_findCircles_152 q3061 (by decide) ?_
        obtain ⟨q3062, hk⟩ := hk
        refine gh_iadd gd_Model_findCircles_153 q3062 ?_
        obtain ⟨q3063, hk⟩ := hk
        have q3064 := hk
        refine la_88 gd_Model_findCircles_154 hF q3063 q3064 rfl ?_
        refine gh_zeq (tgt := 162) gd_Model_findCircles_155 (by decide) (fun c3072 => ?_) (fun c3072 => ?_)
        · have hz : True := trivial
          refine gh_iconst gd_Model_findCircles_162 (gh_r0 rfl) ?_
          exact k3065 _ (if_neg (c := (¬ ((m 88 v2) = 0) ∨ (¬ ((m 88 (((v2 / 8) * 8) + v1)) = 0) ∧ (¬ ((m 88 ((8 * v1) + (v2 % 8))) = 0))))) (fun z => z.elim (fun w => w c3070) (fun z => (not_not_intro c3072) z.2))).symm
        · have hz : True := trivial
          refine gh_iconst gd_Model_findCircles_158 (gh_r0 rfl) ?_
          refine gh_goto (tgt := 163) gd_Model_findCircles_159 (by decide) ?_
          exact k3065 _ (if_pos (c := (¬ ((m 88 v2) = 0) ∨ (¬ ((m 88 (((v2 / 8) * 8) + v1)) = 0) ∧ (¬ ((m 88 ((8 * v1) + (v2 % 8))) = 0))))) (Or.inr ⟨c3071, c3072⟩)).symm
    · have hz : True := trivial
      refine gh_iconst gd_Model_findCircles_158 (gh_r0 rfl) ?_
      refine gh_goto (tgt := 163) gd_Model_findCircles_159 (by decide) ?_
      exact k3065 _ (if_pos (c := (¬ ((m 88 v2) = 0) ∨ (¬ ((m 88 (((v2 / 8) * 8) + v1)) = 0) ∧ (¬ ((m 88 ((8 * v1) + (v2 % 8))) = 0))))) (Or.inl c3070)).symm
  · have h := hB c3052
    obtain ⟨q3073, h⟩ := h
    refine gh_iinc (L2 := [(1, 0, v1 + 1), (0, 2, 63), (2, 0, v2)]) gd_Model_findCircles_170 1 rfl q3073 (by decide) rfl ?_
    refine gh_goto (tgt := 94) gd_Model_findCircles_173 (by decide) ?_
    refine gh_pick (L2 := [(0, 2, 63), (1, 0, v1 + 1)]) [1, 0] rfl ?_
    exact hK94 (v1 + 1) m hF h
theorem b_Model_findCircles_94 {E : gh_E} {Q : Int → gh_M → Prop} {K94 : Int → gh_M → Prop} (d : Nat) (hK : ∀ (v1 : Int) (m : gh_M), gh_F m → K94 v1 m → gh_T E (gh_yModel_findCircles.cls, prog_14_method_41_code, 3, false, 9) (d + 1) 94 [(0, 2, 63), (1, 0, v1)] [] m (fun r m1 => gh_F m1 ∧ Q r m1)) (v1 : Int) (m : gh_M) (hF : gh_F m) (h : f_Model_findCircles_94 Q K94 v1 m) : gh_T E (gh_yModel_findCircles.cls, prog_14_method_41_code, 3, false, 9) (d + 1) 94 [(0, 2, 63), (1, 0, v1)] [] m (fun r m1 => gh_F m1 ∧ Q r m1) := by
  have hK94 := hK
  unfold f_Model_findCircles_94 at h
  refine gh_iload_n gd_Model_findCircles_94 1 rfl ?_
  refine gh_aload_n gd_Model_findCircles_95 0 rfl (by decide) ?_
  refine gf_63_26 gd_Model_findCircles_96 gh_k1393 hF rfl ?_
  obtain ⟨hA, hB⟩ := h
  refine gh_jge (tgt := 176) gd_Model_findCircles_99 (by decide) (fun c3051 => ?_) (fun c3051 => ?_)
  · have h := hA c3051
    refine gh_iconst gd_Model_findCircles_102 (gh_r0 rfl) ?_
    refine gh_istore_n (L2 := [(2, 0, 0), (0, 2, 63), (1, 0, v1)]) gd_Model_findCircles_103 (by decide) rfl ?_
    refine gh_pick (L2 := [(0, 2, 63), (1, 0, v1), (2, 0, 0)]) [1, 2, 0] rfl ?_
    exact gh_M1_sound (T := fun v2 m => gh_T E (gh_yModel_findCircles.cls, prog_14_method_41_code, 3, false, 9) (d + 1) 104 [(0, 2, 63), (1, 0, v1), (2, 0, v2)] [] m (fun r m1 => gh_F m1 ∧ Q r m1)) (fun _ m => gh_F m) (fun K104 v2 m hK hF h => b_Model_findCircles_104 d hK94 hK v2 m hF h) 0 m hF h
  · have h := hB c3051
    exact gh_ret9 rfl gd_Model_findCircles_176 ⟨hF, h⟩
theorem b_Model_findCircles_23 {E : gh_E} {Q : Int → gh_M → Prop} {K23 : Int → gh_M → Prop} (d : Nat) (hK : ∀ (v1 : Int) (m : gh_M), gh_F m → K23 v1 m → gh_T E (gh_yModel_findCircles.cls, prog_14_method_41_code, 3, false, 9) (d + 1) 23 [(0, 2, 63), (1, 0, v1)] [] m (fun r m1 => gh_F m1 ∧ Q r m1)) (v1 : Int) (m : gh_M) (hF : gh_F m) (h : f_Model_findCircles_23 Q K23 v1 m) : gh_T E (gh_yModel_findCircles.cls, prog_14_method_41_code, 3, false, 9) (d + 1) 23 [(0, 2, 63), (1, 0, v1)] [] m (fun r m1 => gh_F m1 ∧ Q r m1) := by
  have hK23 := hK
  unfold f_Model_findCircles_23 at h
  refine gh_iload_n gd_Model_findCircles_23 1 rfl ?_
  refine gh_aload_n gd_Model_findCircles_24 0 rfl (by decide) ?_
  refine gf_63_27 gd_Model_findCircles_25 gh_k1394 hF rfl ?_
  obtain ⟨hA, hB⟩ := h
  refine gh_jge (tgt := 92) gd_Model_findCircles_28 (by decide) (fun c3031 => ?_) (fun c3031 => ?_)
  · have h := hA c3031
    refine gh_iconst gd_Model_findCircles_31 (gh_r0 rfl) ?_
    refine gh_istore_n (L2 := [(2, 0, 0), (0, 2, 63), (1, 0, v1)]) gd_Model_findCircles_32 (by decide) rfl ?_
    refine gh_pick (L2 := [(0, 2, 63), (1, 0, v1), (2, 0, 0)]) [1, 2, 0] rfl ?_
    exact gh_M1_sound (T := fun v2 m => gh_T E (gh_yModel_findCircles.cls, prog_14_method_41_code, 3, false, 9) (d + 1) 33 [(0, 2, 63), (1, 0, v1), (2, 0, v2)] [] m (fun r m1 => gh_F m1 ∧ Q r m1)) (fun _ m => gh_F m) (fun K33 v2 m hK hF h => b_Model_findCircles_33 d hK23 hK v2 m hF h) 0 m hF h
  · have h := hB c3031
    refine gh_iconst gd_Model_findCircles_92 (gh_r0 rfl) ?_
    refine gh_istore_n (L2 := [(1, 0, 0), (0, 2, 63)]) gd_Model_findCircles_93 (by decide) rfl ?_
    refine gh_pick (L2 := [(0, 2, 63), (1, 0, 0)]) [1, 0] rfl ?_
    exact gh_M1_sound (T := fun v1 m => gh_T E (gh_yModel_findCircles.cls, prog_14_method_41_code, 3, false, 9) (d + 1) 94 [(0, 2, 63), (1, 0, v1)] [] m (fun r m1 => gh_F m1 ∧ Q r m1)) (fun _ m => gh_F m) (fun K94 v1 m hK hF h => b_Model_findCircles_94 d hK v1 m hF h) 0 m hF h
theorem b_Model_findCircles_2 {E : gh_E} {Q : Int → gh_M → Prop} {K2 : Int → gh_M → Prop} (d : Nat) (hK : ∀ (v1 : Int) (m : gh_M), gh_F m → K2 v1 m → gh_T E (gh_yModel_findCircles.cls, prog_14_method_41_code, 3, false, 9) (d + 1) 2 [(0, 2, 63), (1, 0, v1)] [] m (fun r m1 => gh_F m1 ∧ Q r m1)) (v1 : Int) (m : gh_M) (hF : gh_F m) (h : f_Model_findCircles_2 Q K2 v1 m) : gh_T E (gh_yModel_findCircles.cls, prog_14_method_41_code, 3, false, 9) (d + 1) 2 [(0, 2, 63), (1, 0, v1)] [] m (fun r m1 => gh_F m1 ∧ Q r m1) := by
  have hK2 := hK
  unfold f_Model_findCircles_2 at h
  refine gh_iload_n gd_Model_findCircles_2 1 rfl ?_
  refine gh_bipush gd_Model_findCircles_3 (by decide) (gh_r0 rfl) ?_
  obtain ⟨hA, hB⟩ := h
  refine gh_jge (tgt := 21) gd_Model_findCircles_5 (by decide) (fun c3027 => ?_) (fun c3027 => ?_)
  · have h := hA c3027
    refine gh_aload_n gd_Model_findCircles_8 0 rfl (by decide) ?_
    refine gf_63_41 gd_Model_findCircles_9 gh_k1408 hF ?_
    refine gh_iload_n gd_Model_findCircles_12 1 rfl ?_
    refine gh_iconst gd_Model_findCircles_13 (gh_r0 rfl) ?_
    obtain ⟨q3028, h⟩ := h
    obtain ⟨q3029, h⟩ := h
    refine sa_88 gd_Model_findCircles_14 hF q3028 q3029 (by decide) (fun hF => ?_)
    obtain ⟨q3030, h⟩ := h
    refine gh_iinc (L2 := [(1, 0, v1 + 1), (0, 2, 63)]) gd_Model_findCircles_15 1 rfl q3030 (by decide) rfl ?_
    refine gh_goto (tgt := 2) gd_Model_findCircles_18 (by decide) ?_
    refine gh_pick (L2 := [(0, 2, 63), (1, 0, v1 + 1)]) [1, 0] rfl ?_
    exact hK2 (v1 + 1) (gh_u m 88 v1 0) hF h
  · have h := hB c3027
    refine gh_iconst gd_Model_findCircles_21 (gh_r0 rfl) ?_
    refine gh_istore_n (L2 := [(1, 0, 0), (0, 2, 63)]) gd_Model_findCircles_22 (by decide) rfl ?_
    refine gh_pick (L2 := [(0, 2, 63), (1, 0, 0)]) [1, 0] rfl ?_
    exact gh_M1_sound (T := fun v1 m => gh_T E (gh_yModel_findCircles.cls, prog_14_method_41_code, 3, false, 9) (d + 1) 23 [(0, 2, 63), (1, 0, v1)] [] m (fun r m1 => gh_F m1 ∧ Q r m1)) (fun _ m => gh_F m) (fun K23 v1 m hK hF h => b_Model_findCircles_23 d hK v1 m hF h) 0 m hF h
theorem s_Model_findCircles {E : gh_E} {m : gh_M} {Q : Int → gh_M → Prop} (d : Nat) (hF : gh_F m) (h : w_Model_findCircles m Q) : gh_C E gh_yModel_findCircles prog_14_method_41_code 3 none 9 (d + 1) [(2, 63)] m (fun r m1 => gh_F m1 ∧ Q r m1) := by
  refine gh_enter2 (L := [(0, 2, 63)]) (by decide +kernel) gh_rt9 (Nat.le_of_ble_eq_true rfl) rfl rfl ?_
  unfold w_Model_findCircles at h
  refine gh_iconst gd_Model_findCircles_0 (gh_r0 rfl) ?_
  refine gh_istore_n (L2 := [(1, 0, 0), (0, 2, 63)]) gd_Model_findCircles_1 (by decide) rfl ?_
  refine gh_pick (L2 := [(0, 2, 63), (1, 0, 0)]) [1, 0] rfl ?_
  exact gh_M1_sound (T := fun v1 m => gh_T E (gh_yModel_findCircles.cls, prog_14_method_41_code, 3, false, 9) (d + 1) 2 [(0, 2, 63), (1, 0, v1)] [] m (fun r m1 => gh_F m1 ∧ Q r m1)) (fun _ m => gh_F m) (fun K2 v1 m hK hF h => b_Model_findCircles_2 d hK v1 m hF h) 0 m hF h
def f_Model_canLeave_13 (v1 : Int) (v2 : Int) (Q : Int → Prop) (m : gh_M) (K13 : Int → Int → Prop) (v3 : Int) (v4 : Int) : Prop := 0 ≤ v1 ∧ v1 < 20 ∧ ((v4 < (m 80 v1) → gh_i (4 * v1) ∧ gh_i ((4 * v1) + v4) ∧ 0 ≤ (4 * v1) + v4 ∧ ((4 * v1) + v4) < 80 ∧ ∀ v5 : Int, v5 = m 81 ((4 * v1) + v4) → ((¬ (v3 = 0) → ((¬ ((gh_iand_f (gh_ishr_f v2 v4) 1) = 1) → (((v5 < 0) → (gh_i ((-1) - v5) ∧ 0 ≤ (-1) - v5 ∧ ((-1) - v5) < 8))))))) ∧ ∀ v3' : Int, v3' = (if (¬ (v3 = 0) ∧ (((gh_iand_f (gh_ishr_f v2 v4) 1) = 1) ∨ ((v5 < 0) ∧ ((m 82 ((-1) - v5)) = 0)))) then (1:Int) else 0) → gh_i (v4 + 1) ∧ K13 v3' (v4 + 1)) ∧ (¬ (v4 < (m 80 v1)) → (v3 = 0 ∨ v3 = 1) ∧ Q v3))
def w_Model_canLeave (v1 : Int) (v2 : Int) (m : gh_M) (Q : Int → Prop) : Prop := ∀ v3 : Int, v3 = (if (¬ (v2 ≤ 0)) then (1:Int) else 0) → gh_L2 (fun K13 v3 v4 => f_Model_canLeave_13 v1 v2 Q m K13 v3 v4) v3 0
theorem b_Model_canLeave_13 {E : gh_E} {v1 : Int} {v2 : Int} {Q : Int → Prop} {K13 : Int → Int → Prop} (d : Nat) {m : gh_M} (hK : ∀ (v3 : Int) (v4 : Int), gh_F m → K13 v3 v4 → gh_T E (gh_yModel_canLeave.cls, prog_14_method_58_code, 6, false, 8) (d + 0) 13 [(0, 2, 63), (1, 0, v1), (2, 0, v2), (3, 0, v3), (4, 0, v4)] [] m (fun r m1 => m1 = m ∧ Q r)) (v3 : Int) (v4 : Int) (hF : gh_F m) (h : f_Model_canLeave_13 v1 v2 Q m K13 v3 v4) : gh_T E (gh_yModel_canLeave.cls, prog_14_method_58_code, 6, false, 8) (d + 0) 13 [(0, 2, 63), (1, 0, v1), (2, 0, v2), (3, 0, v3), (4, 0, v4)] [] m (fun r m1 => m1 = m ∧ Q r) := by
  have hK13 := hK
  unfold f_Model_canLeave_13 at h
  refine gh_iload gd_Model_canLeave_13 4 rfl ?_
  refine gh_aload_n gd_Model_canLeave_15 0 rfl (by decide) ?_
  refine gf_63_33 gd_Model_canLeave_16 gh_k1400 hF ?_
  refine gh_iload_n gd_Model_canLeave_19 1 rfl ?_
  obtain ⟨q3076, h⟩ := h
  obtain ⟨q3077, h⟩ := h
  refine la_80 gd_Model_canLeave_20 hF q3076 q3077 rfl ?_
  obtain ⟨hA, hB⟩ := h
  refine gh_jge (tgt := 80) gd_Model_canLeave_21 (by decide) (fun c3078 => ?_) (fun c3078 => ?_)
  · have h := hA c3078
    refine gh_aload_n gd_Model_canLeave_24 0 rfl (by decide) ?_
    refine gf_63_34 gd_Model_canLeave_25 gh_k1401 hF ?_
    refine gh_iconst gd_Model_canLeave_28 (gh_r0 rfl) ?_
    refine gh_iload_n gd_Model_canLeave_29 1 rfl ?_
    obtain ⟨q3079, h⟩ := h
    refine gh_imul gd_Model_canLeave_30 q3079 ?_
    refine gh_iload gd_Model_canLeave_31 4 rfl ?_
    obtain ⟨q3080, h⟩ := h
    refine gh_iadd gd_Model_canLeave_33 q3080 ?_
    obtain ⟨q3081, h⟩ := h
    obtain ⟨q3082, h⟩ := h
    refine la_81 gd_Model_canLeave_34 hF q3081 q3082 rfl ?_
    refine gh_name (fun v5 hn => ?_)
    have h := h v5 hn
    refine gh_istore (L2 := [(5, 0, v5), (0, 2, 63), (1, 0, v1), (2, 0, v2), (3, 0, v3), (4, 0, v4)]) gd_Model_canLeave_35 (by decide) rfl ?_
    refine gh_iload_n gd_Model_canLeave_37 4 rfl ?_
    obtain ⟨hk, h⟩ := h
    have k3086 : ∀ x3087 : Int, x3087 = (if (¬ (v3 = 0) ∧ (((gh_iand_f (gh_ishr_f v2 v4) 1) = 1) ∨ ((v5 < 0) ∧ ((m 82 ((-1) - v5)) = 0)))) then (1:Int) else 0) → gh_T E (gh_yModel_canLeave.cls, prog_14_method_58_code, 6, false, 8) (d + 0) 73 [(5, 0, v5), (0, 2, 63), (1, 0, v1), (2, 0, v2), (3, 0, v3), (4, 0, v4)] [(0, x3087)] m (fun r m1 => m1 = m ∧ Q r) := by
      rintro _ rfl
      refine gh_name (fun v3' hn => ?_)
      have h := h v3' hn
      refine gh_istore_n (L2 := [(3, 0, v3'), (5, 0, v5), (0, 2, 63), (1, 0, v1), (2, 0, v2), (4, 0, v4)]) gd_Model_canLeave_73 (by decide) rfl ?_
      obtain ⟨q3088, h⟩ := h
      refine gh_iinc (L2 := [(4, 0, v4 + 1), (3, 0, v3'), (5, 0, v5), (0, 2, 63), (1, 0, v1), (2, 0, v2)]) gd_Model_canLeave_74 5 rfl q3088 (by decide) rfl ?_
      refine gh_goto (tgt := 13) gd_Model_canLeave_77 (by decide) ?_
      refine gh_pick (L2 := [(0, 2, 63), (1, 0, v1), (2, 0, v2), (3, 0, v3'), (4, 0, v4 + 1)]) [3, 4, 5, 1, 0] rfl ?_
      exact hK13 v3' (v4 + 1) hF h
    refine gh_zeq (tgt := 72) gd_Model_canLeave_38 (by decide) (fun c3089 => ?_) (fun c3089 => ?_)
    · have hz : True := trivial
      refine gh_iconst gd_Model_canLeave_72 (gh_r0 rfl) ?_
      exact k3086 _ (if_neg (c := (¬ (v3 = 0) ∧ (((gh_iand_f (gh_ishr_f v2 v4) 1) = 1) ∨ ((v5 < 0) ∧ ((m 82 ((-1) - v5)) = 0))))) (fun z => z.1 c3089)).symm
    · have hz : True := trivial
      have hk := hk c3089
      refine gh_iload_n gd_Model_canLeave_41 3 rfl ?_
      refine gh_iload gd_Model_canLeave_42 5 rfl ?_
      refine gh_ishr gd_Model_canLeave_44 ?_
      refine gh_iconst gd_Model_canLeave_45 (gh_r0 rfl) ?_
      refine gh_iand gd_Model_canLeave_46 ?_
      refine gh_iconst gd_Model_canLeave_47 (gh_r0 rfl) ?_
      refine gh_jeq (tgt := 68) gd_Model_canLeave_48 (by decide) (fun c3090 => ?_) (fun c3090 => ?_)
      · have hz : True := trivial
        refine gh_iconst gd_Model_canLeave_68 (gh_r0 rfl) ?_
        refine gh_goto (tgt := 73) gd_Model_canLeave_69 (by decide) ?_
        exact k3086 _ (if_pos (c := (¬ (v3 = 0) ∧ (((gh_iand_f (gh_ishr_f v2 v4) 1) = 1) ∨ ((v5 < 0) ∧ ((m 82 ((-1) - v5)) = 0))))) ⟨c3089, (Or.inl c3090)⟩).symm
      · have hz : True := trivial
        have hk := hk c3090
        refine gh_iload gd_Model_canLeave_51 0 rfl ?_
        refine gh_zge (tgt := 72) gd_Model_canLeave_53 (by decide) (fun c3091 => ?_) (fun c3091 => ?_)
        · have hz : True := trivial
          have hk := hk c3091
          refine gh_aload_n gd_Model_canLeave_56 1 rfl (by decide) ?_
          refine gf_63_35 gd_Model_canLeave_57 gh_k1402 hF ?_
          refine gh_iconst gd_Model_canLeave_60 (gh_r0 rfl) ?_
          refine gh_iload gd_Model_canLeave_61 0 rfl ?_
          obtain ⟨q3083, hk⟩ := hk
          refine gh_isub gd_Model_canLeave_63 q3083 ?_
          obtain ⟨q3084, hk⟩ := hk
          have q3085 := hk
          refine la_82 gd_Model_canLeave_64 hF q3084 q3085 rfl ?_
          refine gh_zne (tgt := 72) gd_Model_canLeave_65 (by decide) (fun c3092 => ?_) (fun c3092 => ?_)
          · have hz : True := trivial
            refine gh_iconst gd_Model_canLeave_68 (gh_r0 rfl) ?_
            refine gh_goto (tgt := 73) gd_Model_canLeave_69 (by decide) ?_
            exact k3086 _ (if_pos (c := (¬ (v3 = 0) ∧ (((gh_iand_f (gh_ishr_f v2 v4) 1) = 1) ∨ ((v5 < 0) ∧ ((m 82 ((-1) - v5)) = 0))))) ⟨c3089, (Or.inr ⟨c3091, c3092⟩)⟩).symm
          · have hz : True := trivial
            refine gh_iconst gd_Model_canLeave_72 (gh_r0 rfl) ?_
            exact k3086 _ (if_neg (c := (¬ (v3 = 0) ∧ (((gh_iand_f (gh_ishr_f v2 v4) 1) = 1) ∨ ((v5 < 0) ∧ ((m 82 ((-1) - v5)) = 0))))) (fun z => (fun z => z.elim c3090 (fun z => c3092 z.2)) z.2)).symm
        · have hz : True := trivial
          refine gh_iconst gd_Model_canLeave_72 (gh_r0 rfl) ?_
          exact k3086 _ (if_neg (c := (¬ (v3 = 0) ∧ (((gh_iand_f (gh_ishr_f v2 v4) 1) = 1) ∨ ((v5 < 0) ∧ ((m 82 ((-1) - v5)) = 0))))) (fun z => (fun z => z.elim c3090 (fun z => c3091 z.1)) z.2)).symm
  · have h := hB c3078
    refine gh_iload_n gd_Model_canLeave_80 3 rfl ?_
    obtain ⟨q3093, h⟩ := h
    exact gh_ret8 rfl gd_Model_canLeave_81 q3093 ⟨rfl, h⟩
theorem s_Model_canLeave {E : gh_E} {m : gh_M} {Q : Int → Prop} (d : Nat) (v1 : Int) (v2 : Int) (hF : gh_F m) (h : w_Model_canLeave v1 v2 m Q) : gh_C E gh_yModel_canLeave prog_14_method_58_code 6 (some .boolean) 8 (d + 0) [(2, 63), (0, v1), (0, v2)] m (fun r m1 => m1 = m ∧ Q r) := by
  refine gh_enter2 (L := [(0, 2, 63), (1, 0, v1), (2, 0, v2)]) (by decide +kernel) gh_rt8 (Nat.le_of_ble_eq_true rfl) rfl rfl ?_
  unfold w_Model_canLeave at h
  refine gh_iload_n gd_Model_canLeave_0 2 rfl ?_
  have k3074 : ∀ x3075 : Int, x3075 = (if (¬ (v2 ≤ 0)) then (1:Int) else 0) → gh_T E (gh_yModel_canLeave.cls, prog_14_method_58_code, 6, false, 8) (d + 0) 9 [(0, 2, 63), (1, 0, v1), (2, 0, v2)] [(0, x3075)] m (fun r m1 => m1 = m ∧ Q r) := by
    rintro _ rfl
    refine gh_name (fun v3 hn => ?_)
    have h := h v3 hn
    refine gh_istore_n (L2 := [(3, 0, v3), (0, 2, 63), (1, 0, v1), (2, 0, v2)]) gd_Model_canLeave_9 (by decide) rfl ?_
    refine gh_iconst gd_Model_canLeave_10 (gh_r0 rfl) ?_
    refine gh_istore (L2 := [(4, 0, 0), (3, 0, v3), (0, 2, 63), (1, 0, v1), (2, 0, v2)]) gd_Model_canLeave_11 (by decide) rfl ?_
    refine gh_pick (L2 := [(0, 2, 63), (1, 0, v1), (2, 0, v2), (3, 0, v3), (4, 0, 0)]) [2, 3, 4, 1, 0] rfl ?_
    exact gh_L2_sound (T := fun v3 v4 => gh_T E (gh_yModel_canLeave.cls, prog_14_method_58_code, 6, false, 8) (d + 0) 13 [(0, 2, 63), (1, 0, v1), (2, 0, v2), (3, 0, v3), (4, 0, v4)] [] m (fun r m1 => m1 = m ∧ Q r)) (fun _ _ => gh_F m) (fun K13 v3 v4 hK hF h => b_Model_canLeave_13 d hK v3 v4 hF h) v3 0 hF h
  refine gh_zle (tgt := 8) gd_Model_canLeave_1 (by decide) (fun c3094 => ?_) (fun c3094 => ?_)
  · have hz : True := trivial
    refine gh_iconst gd_Model_canLeave_8 (gh_r0 rfl) ?_
    exact k3074 _ (if_neg (c := (¬ (v2 ≤ 0))) (not_not_intro c3094)).symm
  · have hz : True := trivial
    refine gh_iconst gd_Model_canLeave_4 (gh_r0 rfl) ?_
    refine gh_goto (tgt := 9) gd_Model_canLeave_5 (by decide) ?_
    exact k3074 _ (if_pos (c := (¬ (v2 ≤ 0))) c3094).symm
def f_Model_rowOf_102 (v3 : Int) (v4 : Int) (K72 : Int → Prop) (Q : Int → gh_M → Prop) (mo72 : gh_M) (K102 : Int → Int → Prop) (v5 : Int) (v6 : Int) : Prop := ∃ J155 : Int → Prop, (∀ (v5' : Int), J155 v5' → ((v5' = 0 → gh_i (v4 + 1) ∧ K72 (v4 + 1)) ∧ (¬ (v5' = 0) → Q v4 mo72))) ∧ (((¬ (v6 < v3) ∨ (v5 = 0)) → J155 v5) ∧ (¬ (¬ (v6 < v3) ∨ (v5 = 0)) → gh_i (4 * v4) ∧ gh_i ((4 * v4) + v6) ∧ 0 ≤ (4 * v4) + v6 ∧ ((4 * v4) + v6) < 1280 ∧ gh_i (4 * (mo72 63 42)) ∧ gh_i ((4 * (mo72 63 42)) + v6) ∧ 0 ≤ (4 * (mo72 63 42)) + v6 ∧ ((4 * (mo72 63 42)) + v6) < 1280 ∧ ∀ v5' : Int, v5' = (if ((mo72 90 ((4 * v4) + v6)) = (mo72 90 ((4 * (mo72 63 42)) + v6))) then (1:Int) else 0) → gh_i (v6 + 1) ∧ K102 v5' (v6 + 1)))
def f_Model_rowOf_72 (v3 : Int) (Q : Int → gh_M → Prop) (mo72 : gh_M) (K72 : Int → Prop) (v4 : Int) : Prop := ((v4 < (mo72 63 42) → 0 ≤ v4 ∧ v4 < 320 ∧ ∀ v5 : Int, v5 = (if ((mo72 89 v4) = v3) then (1:Int) else 0) → gh_L2 (fun K102 v5 v6 => f_Model_rowOf_102 v3 v4 K72 Q mo72 K102 v5 v6) v5 0) ∧ (¬ (v4 < (mo72 63 42)) → gh_i ((mo72 63 42) + 1) ∧ gh_i ((((mo72 63 42) + 1)) - 1) ∧ Q ((((mo72 63 42) + 1)) - 1) (gh_u mo72 63 42 ((mo72 63 42) + 1))))
def f_Model_rowOf_5 (v1 : Int) (v2 : Int) (Q : Int → gh_M → Prop) (K5 : Int → Int → gh_M → Prop) (v3 : Int) (v4 : Int) (m : gh_M) : Prop := 0 ≤ v1 ∧ v1 < 20 ∧ ((v4 < (m 80 v1) → ∃ J53 : Int → gh_M → Prop, (∀ (v3' : Int) (m : gh_M), J53 v3' m → gh_i (v4 + 1) ∧ K5 v3' (v4 + 1) m) ∧ (((gh_iand_f (gh_ishr_f v2 v4) 1) = 1 → gh_i (4 * (m 63 42)) ∧ gh_i ((4 * (m 63 42)) + v3) ∧ gh_i (4 * v1) ∧ gh_i ((4 * v1) + v4) ∧ 0 ≤ (4 * v1) + v4 ∧ ((4 * v1) + v4) < 80 ∧ 0 ≤ (4 * (m 63 42)) + v3 ∧ ((4 * (m 63 42)) + v3) < 1280 ∧ gh_i (v3 + 1) ∧ J53 (v3 + 1) (gh_u m 90 ((4 * (m 63 42)) + v3) (m 81 ((4 * v1) + v4)))) ∧ (¬ ((gh_iand_f (gh_ishr_f v2 v4) 1) = 1) → J53 v3 m))) ∧ (¬ (v4 < (m 80 v1)) → 0 ≤ m 63 42 ∧ (m 63 42) < 320 ∧ gh_L1 (fun K72 v4 => f_Model_rowOf_72 v3 Q (gh_u m 89 (m 63 42) v3) K72 v4) 0))
def w_Model_rowOf (v1 : Int) (v2 : Int) (m : gh_M) (Q : Int → gh_M → Prop) : Prop := gh_M2 (fun K5 v3 v4 m => f_Model_rowOf_5 v1 v2 Q K5 v3 v4 m) 0 0 m
theorem b_Model_rowOf_102 {E : gh_E} {v3 : Int} {v4 : Int} {K72 : Int → Prop} {Q : Int → gh_M → Prop} {K102 : Int → Int → Prop} (d : Nat) {mo72 : gh_M} (hK72 : ∀ (v4 : Int), gh_F mo72 → K72 v4 → gh_T E (gh_yModel_rowOf.cls, prog_14_method_57_code, 7, false, 0) (d + 0) 72 [(0, 2, 63), (3, 0, v3), (4, 0, v4)] [] mo72 (fun r m1 => gh_F m1 ∧ Q r m1)) (hK : ∀ (v5 : Int) (v6 : Int), gh_F mo72 → K102 v5 v6 → gh_T E (gh_yModel_rowOf.cls, prog_14_method_57_code, 7, false, 0) (d + 0) 102 [(0, 2, 63), (3, 0, v3), (4, 0, v4), (5, 0, v5), (6, 0, v6)] [] mo72 (fun r m1 => gh_F m1 ∧ Q r m1)) (v5 : Int) (v6 : Int) (hF : gh_F mo72) (h : f_Model_rowOf_102 v3 v4 K72 Q mo72 K102 v5 v6) : gh_T E (gh_yModel_rowOf.cls, prog_14_method_57_code, 7, false, 0) (d + 0) 102 [(0, 2, 63), (3, 0, v3), (4, 0, v4), (5, 0, v5), (6, 0, v6)] [] mo72 (fun r m1 => gh_F m1 ∧ Q r m1) := by
  have hK102 := hK
  unfold f_Model_rowOf_102 at h
  refine gh_iload gd_Model_rowOf_102 4 rfl ?_
  refine gh_iload_n gd_Model_rowOf_104 1 rfl ?_
  obtain ⟨J155, hJ155, h⟩ := h
  have hJ155 : ∀ (v5' : Int), gh_F mo72 → J155 v5' → gh_T E (gh_yModel_rowOf.cls, prog_14_method_57_code, 7, false, 0) (d + 0) 155 [(0, 2, 63), (3, 0, v3), (4, 0, v4), (5, 0, v5')] [] mo72 (fun r m1 => gh_F m1 ∧ Q r m1) := by
    intro v5' hF hj
    have h := hJ155 v5' hj
    refine gh_iload gd_Model_rowOf_155 3 rfl ?_
    obtain ⟨hA, hB⟩ := h
    refine gh_zeq (tgt := 163) gd_Model_rowOf_157 (by decide) (fun c3116 => ?_) (fun c3116 => ?_)
    · have h := hA c3116
      obtain ⟨q3117, h⟩ := h
      refine gh_iinc (L2 := [(4, 0, v4 + 1), (0, 2, 63), (3, 0, v3), (5, 0, v5')]) gd_Model_rowOf_163 2 rfl q3117 (by decide) rfl ?_
      refine gh_goto (tgt := 72) gd_Model_rowOf_166 (by decide) ?_
      refine gh_pick (L2 := [(0, 2, 63), (3, 0, v3), (4, 0, v4 + 1)]) [1, 2, 0] rfl ?_
      exact hK72 (v4 + 1) hF h
    · have h := hB c3116
      refine gh_iload gd_Model_rowOf_160 2 rfl ?_
      exact gh_ret0 rfl gd_Model_rowOf_162 ⟨hF, h⟩
  obtain ⟨hA, hB⟩ := h
  have k3118 : (¬ (v6 < v3) ∨ (v5 = 0)) → gh_T E (gh_yModel_rowOf.cls, prog_14_method_57_code, 7, false, 0) (d + 0) 155 [(0, 2, 63), (3, 0, v3), (4, 0, v4), (5, 0, v5), (6, 0, v6)] [] mo72 (fun r m1 => gh_F m1 ∧ Q r m1) := by
    intro c
    have h := hA c
    refine gh_pick (L2 := [(0, 2, 63), (3, 0, v3), (4, 0, v4), (5, 0, v5)]) [0, 1, 2, 3] rfl ?_
    exact hJ155 v5 hF h
  have k3119 : ¬ (¬ (v6 < v3) ∨ (v5 = 0)) → gh_T E (gh_yModel_rowOf.cls, prog_14_method_57_code, 7, false, 0) (d + 0) 113 [(0, 2, 63), (3, 0, v3), (4, 0, v4), (5, 0, v5), (6, 0, v6)] [] mo72 (fun r m1 => gh_F m1 ∧ Q r m1) := by
    intro c
    have h := hB c
    refine gh_aload_n gd_Model_rowOf_113 0 rfl (by decide) ?_
    refine gf_63_44 gd_Model_rowOf_114 gh_k1411 hF ?_
    refine gh_iconst gd_Model_rowOf_117 (gh_r0 rfl) ?_
    refine gh_iload gd_Model_rowOf_118 2 rfl ?_
    obtain ⟨q3120, h⟩ := h
    refine gh_imul gd_Model_rowOf_120 q3120 ?_
    refine gh_iload gd_Model_rowOf_121 4 rfl ?_
    obtain ⟨q3121, h⟩ := h
    refine gh_iadd gd_Model_rowOf_123 q3121 ?_
    obtain ⟨q3122, h⟩ := h
    obtain ⟨q3123, h⟩ := h
    refine la_90 gd_Model_rowOf_124 hF q3122 q3123 rfl ?_
    refine gh_aload_n gd_Model_rowOf_125 0 rfl (by decide) ?_
    refine gf_63_44 gd_Model_rowOf_126 gh_k1411 hF ?_
    refine gh_iconst gd_Model_rowOf_129 (gh_r0 rfl) ?_
    refine gh_aload_n gd_Model_rowOf_130 0 rfl (by decide) ?_
    refine gf_63_42 gd_Model_rowOf_131 gh_k1409 hF rfl ?_
    obtain ⟨q3124, h⟩ := h
    refine gh_imul gd_Model_rowOf_134 q3124 ?_
    refine gh_iload gd_Model_rowOf_135 4 rfl ?_
    obtain ⟨q3125, h⟩ := h
    refine gh_iadd gd_Model_rowOf_137 q3125 ?_
    obtain ⟨q3126, h⟩ := h
    obtain ⟨q3127, h⟩ := h
    refine la_90 gd_Model_rowOf_138 hF q3126 q3127 rfl ?_
    have k3128 : ∀ x3129 : Int, x3129 = (if ((mo72 90 ((4 * v4) + v6)) = (mo72 90 ((4 * (mo72 63 42)) + v6))) then (1:Int) else 0) → gh_T E (gh_yModel_rowOf.cls, prog_14_method_57_code, 7, false, 0) (d + 0) 147 [(0, 2, 63), (3, 0, v3), (4, 0, v4), (5, 0, v5), (6, 0, v6)] [(0, x3129)] mo72 (fun r m1 => gh_F m1 ∧ Q r m1) := by
      rintro _ rfl
      refine gh_name (fun v5' hn => ?_)
      have h := h v5' hn
      refine gh_istore (L2 := [(5, 0, v5'), (0, 2, 63), (3, 0, v3), (4, 0, v4), (6, 0, v6)]) gd_Model_rowOf_147 (by decide) rfl ?_
      obtain ⟨q3130, h⟩ := h
      refine gh_iinc (L2 := [(6, 0, v6 + 1), (5, 0, v5'), (0, 2, 63), (3, 0, v3), (4, 0, v4)]) gd_Model_rowOf_149 4 rfl q3130 (by decide) rfl ?_
      refine gh_goto (tgt := 102) gd_Model_rowOf_152 (by decide) ?_
      refine gh_pick (L2 := [(0, 2, 63), (3, 0, v3), (4, 0, v4), (5, 0, v5'), (6, 0, v6 + 1)]) [2, 3, 4, 1, 0] rfl ?_
      exact hK102 v5' (v6 + 1) hF h
    refine gh_jne (tgt := 146) gd_Model_rowOf_139 (by decide) (fun c3131 => ?_) (fun c3131 => ?_)
    · have hz : True := trivial
      refine gh_iconst gd_Model_rowOf_142 (gh_r0 rfl) ?_
      refine gh_goto (tgt := 147) gd_Model_rowOf_143 (by decide) ?_
      exact k3128 _ (if_pos (c := ((mo72 90 ((4 * v4) + v6)) = (mo72 90 ((4 * (mo72 63 42)) + v6)))) c3131).symm
    · have hz : True := trivial
      refine gh_iconst gd_Model_rowOf_146 (gh_r0 rfl) ?_
      exact k3128 _ (if_neg (c := ((mo72 90 ((4 * v4) + v6)) = (mo72 90 ((4 * (mo72 63 42)) + v6)))) c3131).symm
  refine gh_jge (tgt := 155) gd_Model_rowOf_105 (by decide) (fun c3132 => ?_) (fun c3132 => ?_)
  · have hz : True := trivial
    refine gh_iload gd_Model_rowOf_108 3 rfl ?_
    refine gh_zeq (tgt := 155) gd_Model_rowOf_110 (by decide) (fun c3133 => ?_) (fun c3133 => ?_)
    · have hz : True := trivial
      exact k3118 (Or.inr c3133)
    · have hz : True := trivial
      exact k3119 (fun z => z.elim (fun w => w c3132) c3133)
  · have hz : True := trivial
    exact k3118 (Or.inl c3132)
theorem b_Model_rowOf_72 {E : gh_E} {v3 : Int} {Q : Int → gh_M → Prop} {K72 : Int → Prop} (d : Nat) {mo72 : gh_M} (hK : ∀ (v4 : Int), gh_F mo72 → K72 v4 → gh_T E (gh_yModel_rowOf.cls, prog_14_method_57_code, 7, false, 0) (d + 0) 72 [(0, 2, 63), (3, 0, v3), (4, 0, v4)] [] mo72 (fun r m1 => gh_F m1 ∧ Q r m1)) (v4 : Int) (hF : gh_F mo72) (h : f_Model_rowOf_72 v3 Q mo72 K72 v4) : gh_T E (gh_yModel_rowOf.cls, prog_14_method_57_code, 7, false, 0) (d + 0) 72 [(0, 2, 63), (3, 0, v3), (4, 0, v4)] [] mo72 (fun r m1 => gh_F m1 ∧ Q r m1) := by
  have hK72 := hK
  unfold f_Model_rowOf_72 at h
  refine gh_iload gd_Model_rowOf_72 2 rfl ?_
  refine gh_aload_n gd_Model_rowOf_74 0 rfl (by decide) ?_
  refine gf_63_42 gd_Model_rowOf_75 gh_k1409 hF rfl ?_
  obtain ⟨hA, hB⟩ := h
  refine gh_jge (tgt := 169) gd_Model_rowOf_78 (by decide) (fun c3111 => ?_) (fun c3111 => ?_)
  · have h := hA c3111
    refine gh_aload_n gd_Model_rowOf_81 0 rfl (by decide) ?_
    refine gf_63_43 gd_Model_rowOf_82 gh_k1410 hF ?_
    refine gh_iload gd_Model_rowOf_85 2 rfl ?_
    obtain ⟨q3112, h⟩ := h
    obtain ⟨q3113, h⟩ := h
    refine la_89 gd_Model_rowOf_87 hF q3112 q3113 rfl ?_
    refine gh_iload_n gd_Model_rowOf_88 1 rfl ?_
    have k3114 : ∀ x3115 : Int, x3115 = (if ((mo72 89 v4) = v3) then (1:Int) else 0) → gh_T E (gh_yModel_rowOf.cls, prog_14_method_57_code, 7, false, 0) (d + 0) 97 [(0, 2, 63), (3, 0, v3), (4, 0, v4)] [(0, x3115)] mo72 (fun r m1 => gh_F m1 ∧ Q r m1) := by
      rintro _ rfl
      refine gh_name (fun v5 hn => ?_)
      have h := h v5 hn
      refine gh_istore (L2 := [(5, 0, v5), (0, 2, 63), (3, 0, v3), (4, 0, v4)]) gd_Model_rowOf_97 (by decide) rfl ?_
      refine gh_iconst gd_Model_rowOf_99 (gh_r0 rfl) ?_
      refine gh_istore (L2 := [(6, 0, 0), (5, 0, v5), (0, 2, 63), (3, 0, v3), (4, 0, v4)]) gd_Model_rowOf_100 (by decide) rfl ?_
      refine gh_pick (L2 := [(0, 2, 63), (3, 0, v3), (4, 0, v4), (5, 0, v5), (6, 0, 0)]) [2, 3, 4, 1, 0] rfl ?_
      exact gh_L2_sound (T := fun v5 v6 => gh_T E (gh_yModel_rowOf.cls, prog_14_method_57_code, 7, false, 0) (d + 0) 102 [(0, 2, 63), (3, 0, v3), (4, 0, v4), (5, 0, v5), (6, 0, v6)] [] mo72 (fun r m1 => gh_F m1 ∧ Q r m1)) (fun _ _ => gh_F mo72) (fun K102 v5 v6 hK hF h => b_Model_rowOf_102 d hK72 hK v5 v6 hF h) v5 0 hF h
    refine gh_jne (tgt := 96) gd_Model_rowOf_89 (by decide) (fun c3134 => ?_) (fun c3134 => ?_)
    · have hz : True := trivial
      refine gh_iconst gd_Model_rowOf_92 (gh_r0 rfl) ?_
      refine gh_goto (tgt := 97) gd_Model_rowOf_93 (by decide) ?_
      exact k3114 _ (if_pos (c := ((mo72 89 v4) = v3)) c3134).symm
    · have hz : True := trivial
      refine gh_iconst gd_Model_rowOf_96 (gh_r0 rfl) ?_
      exact k3114 _ (if_neg (c := ((mo72 89 v4) = v3)) c3134).symm
  · have h := hB c3111
    refine gh_aload_n gd_Model_rowOf_169 0 rfl (by decide) ?_
    refine gh_dup gd_Model_rowOf_170 (by decide) ?_
    refine gf_63_42 gd_Model_rowOf_171 gh_k1409 hF rfl ?_
    refine gh_iconst gd_Model_rowOf_174 (gh_r0 rfl) ?_
    obtain ⟨q3135, h⟩ := h
    refine gh_iadd gd_Model_rowOf_175 q3135 ?_
    refine pf_63_42 gd_Model_rowOf_176 gh_k1409 hF (fun hF => ?_)
    refine gh_aload_n gd_Model_rowOf_179 0 rfl (by decide) ?_
    refine gf_63_42 gd_Model_rowOf_180 gh_k1409 hF (gh_u_s _ _ _ _) ?_
    refine gh_iconst gd_Model_rowOf_183 (gh_r0 rfl) ?_
    obtain ⟨q3136, h⟩ := h
    refine gh_isub gd_Model_rowOf_184 q3136 ?_
    exact gh_ret0 rfl gd_Model_rowOf_185 ⟨hF, h⟩
theorem b_Model_rowOf_5 {E : gh_E} {v1 : Int} {v2 : Int} {Q : Int → gh_M → Prop} {K5 : Int → Int → gh_M → Prop} (d : Nat) (hK : ∀ (v3 : Int) (v4 : Int) (m : gh_M), gh_F m → K5 v3 v4 m → gh_T E (gh_yModel_rowOf.cls, prog_14_method_57_code, 7, false, 0) (d + 0) 5 [(0, 2, 63), (1, 0, v1), (2, 0, v2), (3, 0, v3), (4, 0, v4)] [] m (fun r m1 => gh_F m1 ∧ Q r m1)) (v3 : Int) (v4 : Int) (m : gh_M) (hF : gh_F m) (h : f_Model_rowOf_5 v1 v2 Q K5 v3 v4 m) : gh_T E (gh_yModel_rowOf.cls, prog_14_method_57_code, 7, false, 0) (d + 0) 5 [(0, 2, 63), (1, 0, v1), (2, 0, v2), (3, 0, v3), (4, 0, v4)] [] m (fun r m1 => gh_F m1 ∧ Q r m1) := by
  have hK5 := hK
  unfold f_Model_rowOf_5 at h
  refine gh_iload gd_Model_rowOf_5 4 rfl ?_
  refine gh_aload_n gd_Model_rowOf_7 0 rfl (by decide) ?_
  refine gf_63_33 gd_Model_rowOf_8 gh_k1400 hF ?_
  refine gh_iload_n gd_Model_rowOf_11 1 rfl ?_
  obtain ⟨q3095, h⟩ := h
  obtain ⟨q3096, h⟩ := h
  refine la_80 gd_Model_rowOf_12 hF q3095 q3096 rfl ?_
  obtain ⟨hA, hB⟩ := h
  refine gh_jge (tgt := 59) gd_Model_rowOf_13 (by decide) (fun c3097 => ?_) (fun c3097 => ?_)
  · have h := hA c3097
    refine gh_iload_n gd_Model_rowOf_16 2 rfl ?_
    refine gh_iload gd_Model_rowOf_17 4 rfl ?_
    refine gh_ishr gd_Model_rowOf_19 ?_
    refine gh_iconst gd_Model_rowOf_20 (gh_r0 rfl) ?_
    refine gh_iand gd_Model_rowOf_21 ?_
    refine gh_iconst gd_Model_rowOf_22 (gh_r0 rfl) ?_
    obtain ⟨J53, hJ53, h⟩ := h
    have hJ53 : ∀ (v3' : Int) (m : gh_M), gh_F m → J53 v3' m → gh_T E (gh_yModel_rowOf.cls, prog_14_method_57_code, 7, false, 0) (d + 0) 53 [(0, 2, 63), (1, 0, v1), (2, 0, v2), (3, 0, v3'), (4, 0, v4)] [] m (fun r m1 => gh_F m1 ∧ Q r m1) := by
      intro v3' m hF hj
      have h := hJ53 v3' m hj
      obtain ⟨q3098, h⟩ := h
      refine gh_iinc (L2 := [(4, 0, v4 + 1), (0, 2, 63), (1, 0, v1), (2, 0, v2), (3, 0, v3')]) gd_Model_rowOf_53 4 rfl q3098 (by decide) rfl ?_
      refine gh_goto (tgt := 5) gd_Model_rowOf_56 (by decide) ?_
      refine gh_pick (L2 := [(0, 2, 63), (1, 0, v1), (2, 0, v2), (3, 0, v3'), (4, 0, v4 + 1)]) [1, 2, 3, 4, 0] rfl ?_
      exact hK5 v3' (v4 + 1) m hF h
    obtain ⟨hA, hB⟩ := h
    refine gh_jne (tgt := 53) gd_Model_rowOf_23 (by decide) (fun c3099 => ?_) (fun c3099 => ?_)
    · have h := hA c3099
      refine gh_aload_n gd_Model_rowOf_26 0 rfl (by decide) ?_
      refine gf_63_44 gd_Model_rowOf_27 gh_k1411 hF ?_
      refine gh_iconst gd_Model_rowOf_30 (gh_r0 rfl) ?_
      refine gh_aload_n gd_Model_rowOf_31 0 rfl (by decide) ?_
      refine gf_63_42 gd_Model_rowOf_32 gh_k1409 hF rfl ?_
      obtain ⟨q3100, h⟩ := h
      refine gh_imul gd_Model_rowOf_35 q3100 ?_
      refine gh_iload_n gd_Model_rowOf_36 3 rfl ?_
      obtain ⟨q3101, h⟩ := h
      refine gh_iadd gd_Model_rowOf_37 q3101 ?_
      refine gh_aload_n gd_Model_rowOf_38 0 rfl (by decide) ?_
      refine gf_63_34 gd_Model_rowOf_39 gh_k1401 hF ?_
      refine gh_iconst gd_Model_rowOf_42 (gh_r0 rfl) ?_
      refine gh_iload_n gd_Model_rowOf_43 1 rfl ?_
      obtain ⟨q3102, h⟩ := h
      refine gh_imul gd_Model_rowOf_44 q3102 ?_
      refine gh_iload gd_Model_rowOf_45 4 rfl ?_
      obtain ⟨q3103, h⟩ := h
      refine gh_iadd gd_Model_rowOf_47 q3103 ?_
      obtain ⟨q3104, h⟩ := h
      obtain ⟨q3105, h⟩ := h
      refine la_81 gd_Model_rowOf_48 hF q3104 q3105 rfl ?_
      obtain ⟨q3106, h⟩ := h
      obtain ⟨q3107, h⟩ := h
      refine sa_90 gd_Model_rowOf_49 hF q3106 q3107 (fun hF => ?_)
      obtain ⟨q3108, h⟩ := h
      refine gh_iinc (L2 := [(3, 0, v3 + 1), (0, 2, 63), (1, 0, v1), (2, 0, v2), (4, 0, v4)]) gd_Model_rowOf_50 3 rfl q3108 (by decide) rfl ?_
      refine gh_pick (L2 := [(0, 2, 63), (1, 0, v1), (2, 0, v2), (3, 0, v3 + 1), (4, 0, v4)]) [1, 2, 3, 0, 4] rfl ?_
      exact hJ53 (v3 + 1) (gh_u m 90 ((4 * (m 63 42)) + v3) (m 81 ((4 * v1) + v4))) hF h
    · have h := hB c3099
      exact hJ53 v3 m hF h
  · have h := hB c3097
    refine gh_aload_n gd_Model_rowOf_59 0 rfl (by decide) ?_
    refine gf_63_43 gd_Model_rowOf_60 gh_k1410 hF ?_
    refine gh_aload_n gd_Model_rowOf_63 0 rfl (by decide) ?_
    refine gf_63_42 gd_Model_rowOf_64 gh_k1409 hF rfl ?_
    refine gh_iload_n gd_Model_rowOf_67 3 rfl ?_
    obtain ⟨q3109, h⟩ := h
    obtain ⟨q3110, h⟩ := h
    refine sa_89 gd_Model_rowOf_68 hF q3109 q3110 (fun hF => ?_)
    refine gh_iconst gd_Model_rowOf_69 (gh_r0 rfl) ?_
    refine gh_istore (L2 := [(4, 0, 0), (0, 2, 63), (1, 0, v1), (2, 0, v2), (3, 0, v3)]) gd_Model_rowOf_70 (by decide) rfl ?_
    refine gh_pick (L2 := [(0, 2, 63), (3, 0, v3), (4, 0, 0)]) [1, 4, 0] rfl ?_
    exact gh_L1_sound (T := fun v4 => gh_T E (gh_yModel_rowOf.cls, prog_14_method_57_code, 7, false, 0) (d + 0) 72 [(0, 2, 63), (3, 0, v3), (4, 0, v4)] [] (gh_u m 89 (m 63 42) v3) (fun r m1 => gh_F m1 ∧ Q r m1)) (fun _ => gh_F (gh_u m 89 (m 63 42) v3)) (fun K72 v4 hK hF h => b_Model_rowOf_72 d hK v4 hF h) 0 hF h
theorem s_Model_rowOf {E : gh_E} {m : gh_M} {Q : Int → gh_M → Prop} (d : Nat) (v1 : Int) (v2 : Int) (hF : gh_F m) (h : w_Model_rowOf v1 v2 m Q) : gh_C E gh_yModel_rowOf prog_14_method_57_code 7 (some .int) 0 (d + 0) [(2, 63), (0, v1), (0, v2)] m (fun r m1 => gh_F m1 ∧ Q r m1) := by
  refine gh_enter2 (L := [(0, 2, 63), (1, 0, v1), (2, 0, v2)]) (by decide +kernel) gh_rt0 (Nat.le_of_ble_eq_true rfl) rfl rfl ?_
  unfold w_Model_rowOf at h
  refine gh_iconst gd_Model_rowOf_0 (gh_r0 rfl) ?_
  refine gh_istore_n (L2 := [(3, 0, 0), (0, 2, 63), (1, 0, v1), (2, 0, v2)]) gd_Model_rowOf_1 (by decide) rfl ?_
  refine gh_iconst gd_Model_rowOf_2 (gh_r0 rfl) ?_
  refine gh_istore (L2 := [(4, 0, 0), (3, 0, 0), (0, 2, 63), (1, 0, v1), (2, 0, v2)]) gd_Model_rowOf_3 (by decide) rfl ?_
  refine gh_pick (L2 := [(0, 2, 63), (1, 0, v1), (2, 0, v2), (3, 0, 0), (4, 0, 0)]) [2, 3, 4, 1, 0] rfl ?_
  exact gh_M2_sound (T := fun v3 v4 m => gh_T E (gh_yModel_rowOf.cls, prog_14_method_57_code, 7, false, 0) (d + 0) 5 [(0, 2, 63), (1, 0, v1), (2, 0, v2), (3, 0, v3), (4, 0, v4)] [] m (fun r m1 => gh_F m1 ∧ Q r m1)) (fun _ _ m => gh_F m) (fun K5 v3 v4 m hK hF h => b_Model_rowOf_5 d hK v3 v4 m hF h) 0 0 m hF h
def f_Model_layRows_46 (v1 : Int) (K36 : Int → gh_M → Prop) (K46 : Int → gh_M → Prop) (v2 : Int) (m : gh_M) : Prop := 0 ≤ v1 ∧ v1 < 20 ∧ ∃ J121 : gh_M → Prop, (∀ (m : gh_M), J121 m → gh_i (v1 + 1) ∧ K36 (v1 + 1) m) ∧ (((v2 < (gh_ishl_f 1 (m 80 v1))) → (0 ≤ v1 ∧ v1 < 20 ∧ (¬ ((m 83 v1) = 0) → (0 ≤ v1 ∧ v1 < 20 ∧ 0 ≤ m 79 v1 ∧ (m 79 v1) < 8))))) ∧ (((¬ (v2 < (gh_ishl_f 1 (m 80 v1))) ∨ (((m 83 v1) = 0) ∨ ((m 85 (m 79 v1)) = 0))) → J121 m) ∧ (¬ (¬ (v2 < (gh_ishl_f 1 (m 80 v1))) ∨ (((m 83 v1) = 0) ∨ ((m 85 (m 79 v1)) = 0))) → w_Model_canLeave v1 v2 m (fun r3155 => ∃ J115 : gh_M → Prop, (∀ (m : gh_M), J115 m → gh_i (v2 + 1) ∧ K46 (v2 + 1) m) ∧ ((r3155 = 0 → J115 m) ∧ (¬ (r3155 = 0) → w_Model_rowOf v1 v2 m (fun r3159 m3160 => 0 ≤ v1 ∧ v1 < 20 ∧ gh_i (320 * (m3160 79 v1)) ∧ gh_i ((320 * (m3160 79 v1)) + r3159) ∧ 0 ≤ (320 * (m3160 79 v1)) + r3159 ∧ ((320 * (m3160 79 v1)) + r3159) < 2560 ∧ J115 (gh_u m3160 91 ((320 * (m3160 79 v1)) + r3159) 1)))))))
def f_Model_layRows_36 (Q : Int → gh_M → Prop) (K36 : Int → gh_M → Prop) (v1 : Int) (m : gh_M) : Prop := ((v1 < (m 63 27) → gh_M1 (fun K46 v2 m => f_Model_layRows_46 v1 K36 K46 v2 m) 1 m) ∧ (¬ (v1 < (m 63 27)) → Q 0 m))
def f_Model_layRows_7 (Q : Int → gh_M → Prop) (K7 : Int → gh_M → Prop) (v1 : Int) (m : gh_M) : Prop := ((v1 < 2560 → 0 ≤ v1 ∧ v1 < 2560 ∧ 0 ≤ v1 ∧ v1 < 2560 ∧ gh_i (v1 + 1) ∧ K7 (v1 + 1) (gh_u (gh_u m 91 v1 0) 92 v1 0)) ∧ (¬ (v1 < 2560) → gh_M1 (fun K36 v1 m => f_Model_layRows_36 Q K36 v1 m) 0 m))
def w_Model_layRows (m : gh_M) (Q : Int → gh_M → Prop) : Prop := gh_M1 (fun K7 v1 m => f_Model_layRows_7 Q K7 v1 m) 0 (gh_u m 63 42 0)
theorem b_Model_layRows_46 {E : gh_E} {v1 : Int} {K36 : Int → gh_M → Prop} {Q : Int → gh_M → Prop} {K46 : Int → gh_M → Prop} (d : Nat) (hK36 : ∀ (v1 : Int) (m : gh_M), gh_F m → K36 v1 m → gh_T E (gh_yModel_layRows.cls, prog_14_method_61_code, 4, false, 9) (d + 1) 36 [(0, 2, 63), (1, 0, v1)] [] m (fun r m1 => gh_F m1 ∧ Q r m1)) (hK : ∀ (v2 : Int) (m : gh_M), gh_F m → K46 v2 m → gh_T E (gh_yModel_layRows.cls, prog_14_method_61_code, 4, false, 9) (d + 1) 46 [(0, 2, 63), (1, 0, v1), (2, 0, v2)] [] m (fun r m1 => gh_F m1 ∧ Q r m1)) (v2 : Int) (m : gh_M) (hF : gh_F m) (h : f_Model_layRows_46 v1 K36 K46 v2 m) : gh_T E (gh_yModel_layRows.cls, prog_14_method_61_code, 4, false, 9) (d + 1) 46 [(0, 2, 63), (1, 0, v1), (2, 0, v2)] [] m (fun r m1 => gh_F m1 ∧ Q r m1) := by
  have hK46 := hK
  unfold f_Model_layRows_46 at h
  refine gh_iload_n gd_Model_layRows_46 2 rfl ?_
  refine gh_iconst gd_Model_layRows_47 (gh_r0 rfl) ?_
  refine gh_aload_n gd_Model_layRows_48 0 rfl (by decide) ?_
  refine gf_63_33 gd_Model_layRows_49 gh_k1400 hF ?_
  refine gh_iload_n gd_Model_layRows_52 1 rfl ?_
  obtain ⟨q3144, h⟩ := h
  obtain ⟨q3145, h⟩ := h
  refine la_80 gd_Model_layRows_53 hF q3144 q3145 rfl ?_
  refine gh_ishl gd_Model_layRows_54 ?_
  obtain ⟨J121, hJ121, h⟩ := h
  have hJ121 : ∀ (m : gh_M), gh_F m → J121 m → gh_T E (gh_yModel_layRows.cls, prog_14_method_61_code, 4, false, 9) (d + 1) 121 [(0, 2, 63), (1, 0, v1)] [] m (fun r m1 => gh_F m1 ∧ Q r m1) := by
    intro m hF hj
    have h := hJ121 m hj
    obtain ⟨q3146, h⟩ := h
    refine gh_iinc (L2 := [(1, 0, v1 + 1), (0, 2, 63)]) gd_Model_layRows_121 1 rfl q3146 (by decide) rfl ?_
    refine gh_goto (tgt := 36) gd_Model_layRows_124 (by decide) ?_
    refine gh_pick (L2 := [(0, 2, 63), (1, 0, v1 + 1)]) [1, 0] rfl ?_
    exact hK36 (v1 + 1) m hF h
  obtain ⟨hk, hA, hB⟩ := h
  have k3153 : (¬ (v2 < (gh_ishl_f 1 (m 80 v1))) ∨ (((m 83 v1) = 0) ∨ ((m 85 (m 79 v1)) = 0))) → gh_T E (gh_yModel_layRows.cls, prog_14_method_61_code, 4, false, 9) (d + 1) 121 [(0, 2, 63), (1, 0, v1), (2, 0, v2)] [] m (fun r m1 => gh_F m1 ∧ Q r m1) := by
    intro c
    have h := hA c
    refine gh_pick (L2 := [(0, 2, 63), (1, 0, v1)]) [0, 1] rfl ?_
    exact hJ121 m hF h
  have k3154 : ¬ (¬ (v2 < (gh_ishl_f 1 (m 80 v1))) ∨ (((m 83 v1) = 0) ∨ ((m 85 (m 79 v1)) = 0))) → gh_T E (gh_yModel_layRows.cls, prog_14_method_61_code, 4, false, 9) (d + 1) 81 [(0, 2, 63), (1, 0, v1), (2, 0, v2)] [] m (fun r m1 => gh_F m1 ∧ Q r m1) := by
    intro c
    have h := hB c
    refine gh_aload_n gd_Model_layRows_81 0 rfl (by decide) ?_
    refine gh_iload_n gd_Model_layRows_82 1 rfl ?_
    refine gh_iload_n gd_Model_layRows_83 2 rfl ?_
    refine cv_Model_canLeave (d := d) gd_Model_layRows_84 gh_k1781 hF (Nat.le_of_ble_eq_true rfl) (gh_C.pw (s_Model_canLeave d v1 v2 hF h) (fun r3155 h => ?_))
    obtain ⟨J115, hJ115, h⟩ := h
    have hJ115 : ∀ (m : gh_M), gh_F m → J115 m → gh_T E (gh_yModel_layRows.cls, prog_14_method_61_code, 4, false, 9) (d + 1) 115 [(0, 2, 63), (1, 0, v1), (2, 0, v2)] [] m (fun r m1 => gh_F m1 ∧ Q r m1) := by
      intro m hF hj
      have h := hJ115 m hj
      obtain ⟨q3157, h⟩ := h
      refine gh_iinc (L2 := [(2, 0, v2 + 1), (0, 2, 63), (1, 0, v1)]) gd_Model_layRows_115 2 rfl q3157 (by decide) rfl ?_
      refine gh_goto (tgt := 46) gd_Model_layRows_118 (by decide) ?_
      refine gh_pick (L2 := [(0, 2, 63), (1, 0, v1), (2, 0, v2 + 1)]) [1, 2, 0] rfl ?_
      exact hK46 (v2 + 1) m hF h
    obtain ⟨hA, hB⟩ := h
    refine gh_zeq (tgt := 115) gd_Model_layRows_87 (by decide) (fun c3158 => ?_) (fun c3158 => ?_)
    · have h := hA c3158
      exact hJ115 m hF h
    · have h := hB c3158
      refine gh_aload_n gd_Model_layRows_90 0 rfl (by decide) ?_
      refine gh_iload_n gd_Model_layRows_91 1 rfl ?_
      refine gh_iload_n gd_Model_layRows_92 2 rfl ?_
      refine cv_Model_rowOf (d := d) gd_Model_layRows_93 gh_k1785 hF (Nat.le_of_ble_eq_true rfl) (gh_C.mono (s_Model_rowOf d v1 v2 hF h) (fun r3159 m3160 hq => ?_))
      obtain ⟨hF, h⟩ := hq
      refine gh_istore_n (L2 := [(3, 0, r3159), (0, 2, 63), (1, 0, v1), (2, 0, v2)]) gd_Model_layRows_96 (by decide) rfl ?_
      refine gh_aload_n gd_Model_layRows_97 1 rfl (by decide) ?_
      refine gf_63_45 gd_Model_layRows_98 gh_k1412 hF ?_
      refine gh_sipush gd_Model_layRows_101 (by decide) (gh_r0 rfl) ?_
      refine gh_aload_n gd_Model_layRows_104 1 rfl (by decide) ?_
      refine gf_63_32 gd_Model_layRows_105 gh_k1399 hF ?_
      refine gh_iload_n gd_Model_layRows_108 2 rfl ?_
      obtain ⟨q3161, h⟩ := h
      obtain ⟨q3162, h⟩ := h
      refine la_79 gd_Model_layRows_109 hF q3161 q3162 rfl ?_
      obtain ⟨q3163, h⟩ := h
      refine gh_imul gd_Model_layRows_110 q3163 ?_
      refine gh_iload_n gd_Model_layRows_111 0 rfl ?_
      obtain ⟨q3164, h⟩ := h
      refine gh_iadd gd_Model_layRows_112 q3164 ?_
      refine gh_iconst gd_Model_layRows_113 (gh_r0 rfl) ?_
      obtain ⟨q3165, h⟩ := h
      obtain ⟨q3166, h⟩ := h
      refine sa_91 gd_Model_layRows_114 hF q3165 q3166 (by decide) (fun hF => ?_)
      refine gh_pick (L2 := [(0, 2, 63), (1, 0, v1), (2, 0, v2)]) [1, 2, 3] rfl ?_
      exact hJ115 (gh_u m3160 91 ((320 * (m3160 79 v1)) + r3159) 1) hF h
  refine gh_jge (tgt := 121) gd_Model_layRows_55 (by decide) (fun c3167 => ?_) (fun c3167 => ?_)
  · have hz : True := trivial
    have hk := hk c3167
    refine gh_aload_n gd_Model_layRows_58 0 rfl (by decide) ?_
    refine gf_63_36 gd_Model_layRows_59 gh_k1403 hF ?_
    refine gh_iload_n gd_Model_layRows_62 1 rfl ?_
    obtain ⟨q3147, hk⟩ := hk
    obtain ⟨q3148, hk⟩ := hk
    refine la_83 gd_Model_layRows_63 hF q3147 q3148 rfl ?_
    refine gh_zeq (tgt := 121) gd_Model_layRows_64 (by decide) (fun c3168 => ?_) (fun c3168 => ?_)
    · have hz : True := trivial
      exact k3153 (Or.inr (Or.inl c3168))
    · have hz : True := trivial
      have hk := hk c3168
      refine gh_aload_n gd_Model_layRows_67 0 rfl (by decide) ?_
      refine gf_63_38 gd_Model_layRows_68 gh_k1405 hF ?_
      refine gh_aload_n gd_Model_layRows_71 0 rfl (by decide) ?_
      refine gf_63_32 gd_Model_layRows_72 gh_k1399 hF ?_
      refine gh_iload_n gd_Model_layRows_75 1 rfl ?_
      obtain ⟨q3149, hk⟩ := hk
      obtain ⟨q3150, hk⟩ := hk
      refine la_79 gd_Model_layRows_76 hF q3149 q3150 rfl ?_
      obtain ⟨q3151, hk⟩ := hk
      have q3152 := hk
      refine la_85 gd_Model_layRows_77 hF q3151 q3152 rfl ?_
      refine gh_zeq (tgt := 121) gd_Model_layRows_78 (by decide) (fun c3169 => ?_) (fun c3169 => ?_)
      · have hz : True := trivial
        exact k3153 (Or.inr (Or.inr c3169))
      · have hz : True := trivial
        exact k3154 (fun z => z.elim (fun w => w c3167) (fun z => z.elim c3168 c3169))
  · have hz : True := trivial
    exact k3153 (Or.inl c3167)
theorem b_Model_layRows_36 {E : gh_E} {Q : Int → gh_M → Prop} {K36 : Int → gh_M → Prop} (d : Nat) (hK : ∀ (v1 : Int) (m : gh_M), gh_F m → K36 v1 m → gh_T E (gh_yModel_layRows.cls, prog_14_method_61_code, 4, false, 9) (d + 1) 36 [(0, 2, 63), (1, 0, v1)] [] m (fun r m1 => gh_F m1 ∧ Q r m1)) (v1 : Int) (m : gh_M) (hF : gh_F m) (h : f_Model_layRows_36 Q K36 v1 m) : gh_T E (gh_yModel_layRows.cls, prog_14_method_61_code, 4, false, 9) (d + 1) 36 [(0, 2, 63), (1, 0, v1)] [] m (fun r m1 => gh_F m1 ∧ Q r m1) := by
  have hK36 := hK
  unfold f_Model_layRows_36 at h
  refine gh_iload_n gd_Model_layRows_36 1 rfl ?_
  refine gh_aload_n gd_Model_layRows_37 0 rfl (by decide) ?_
  refine gf_63_27 gd_Model_layRows_38 gh_k1394 hF rfl ?_
  obtain ⟨hA, hB⟩ := h
  refine gh_jge (tgt := 127) gd_Model_layRows_41 (by decide) (fun c3143 => ?_) (fun c3143 => ?_)
  · have h := hA c3143
    refine gh_iconst gd_Model_layRows_44 (gh_r0 rfl) ?_
    refine gh_istore_n (L2 := [(2, 0, 1), (0, 2, 63), (1, 0, v1)]) gd_Model_layRows_45 (by decide) rfl ?_
    refine gh_pick (L2 := [(0, 2, 63), (1, 0, v1), (2, 0, 1)]) [1, 2, 0] rfl ?_
    exact gh_M1_sound (T := fun v2 m => gh_T E (gh_yModel_layRows.cls, prog_14_method_61_code, 4, false, 9) (d + 1) 46 [(0, 2, 63), (1, 0, v1), (2, 0, v2)] [] m (fun r m1 => gh_F m1 ∧ Q r m1)) (fun _ m => gh_F m) (fun K46 v2 m hK hF h => b_Model_layRows_46 d hK36 hK v2 m hF h) 1 m hF h
  · have h := hB c3143
    exact gh_ret9 rfl gd_Model_layRows_127 ⟨hF, h⟩
theorem b_Model_layRows_7 {E : gh_E} {Q : Int → gh_M → Prop} {K7 : Int → gh_M → Prop} (d : Nat) (hK : ∀ (v1 : Int) (m : gh_M), gh_F m → K7 v1 m → gh_T E (gh_yModel_layRows.cls, prog_14_method_61_code, 4, false, 9) (d + 1) 7 [(0, 2, 63), (1, 0, v1)] [] m (fun r m1 => gh_F m1 ∧ Q r m1)) (v1 : Int) (m : gh_M) (hF : gh_F m) (h : f_Model_layRows_7 Q K7 v1 m) : gh_T E (gh_yModel_layRows.cls, prog_14_method_61_code, 4, false, 9) (d + 1) 7 [(0, 2, 63), (1, 0, v1)] [] m (fun r m1 => gh_F m1 ∧ Q r m1) := by
  have hK7 := hK
  unfold f_Model_layRows_7 at h
  refine gh_iload_n gd_Model_layRows_7 1 rfl ?_
  refine gh_sipush gd_Model_layRows_8 (by decide) (gh_r0 rfl) ?_
  obtain ⟨hA, hB⟩ := h
  refine gh_jge (tgt := 34) gd_Model_layRows_11 (by decide) (fun c3137 => ?_) (fun c3137 => ?_)
  · have h := hA c3137
    refine gh_aload_n gd_Model_layRows_14 0 rfl (by decide) ?_
    refine gf_63_45 gd_Model_layRows_15 gh_k1412 hF ?_
    refine gh_iload_n gd_Model_layRows_18 1 rfl ?_
    refine gh_iconst gd_Model_layRows_19 (gh_r0 rfl) ?_
    obtain ⟨q3138, h⟩ := h
    obtain ⟨q3139, h⟩ := h
    refine sa_91 gd_Model_layRows_20 hF q3138 q3139 (by decide) (fun hF => ?_)
    refine gh_aload_n gd_Model_layRows_21 0 rfl (by decide) ?_
    refine gf_63_46 gd_Model_layRows_22 gh_k1413 hF ?_
    refine gh_iload_n gd_Model_layRows_25 1 rfl ?_
    refine gh_iconst gd_Model_layRows_26 (gh_r0 rfl) ?_
    obtain ⟨q3140, h⟩ := h
    obtain ⟨q3141, h⟩ := h
    refine sa_92 gd_Model_layRows_27 hF q3140 q3141 (by decide) (fun hF => ?_)
    obtain ⟨q3142, h⟩ := h
    refine gh_iinc (L2 := [(1, 0, v1 + 1), (0, 2, 63)]) gd_Model_layRows_28 1 rfl q3142 (by decide) rfl ?_
    refine gh_goto (tgt := 7) gd_Model_layRows_31 (by decide) ?_
    refine gh_pick (L2 := [(0, 2, 63), (1, 0, v1 + 1)]) [1, 0] rfl ?_
    exact hK7 (v1 + 1) (gh_u (gh_u m 91 v1 0) 92 v1 0) hF h
  · have h := hB c3137
    refine gh_iconst gd_Model_layRows_34 (gh_r0 rfl) ?_
    refine gh_istore_n (L2 := [(1, 0, 0), (0, 2, 63)]) gd_Model_layRows_35 (by decide) rfl ?_
    refine gh_pick (L2 := [(0, 2, 63), (1, 0, 0)]) [1, 0] rfl ?_
    exact gh_M1_sound (T := fun v1 m => gh_T E (gh_yModel_layRows.cls, prog_14_method_61_code, 4, false, 9) (d + 1) 36 [(0, 2, 63), (1, 0, v1)] [] m (fun r m1 => gh_F m1 ∧ Q r m1)) (fun _ m => gh_F m) (fun K36 v1 m hK hF h => b_Model_layRows_36 d hK v1 m hF h) 0 m hF h
theorem s_Model_layRows {E : gh_E} {m : gh_M} {Q : Int → gh_M → Prop} (d : Nat) (hF : gh_F m) (h : w_Model_layRows m Q) : gh_C E gh_yModel_layRows prog_14_method_61_code 4 none 9 (d + 1) [(2, 63)] m (fun r m1 => gh_F m1 ∧ Q r m1) := by
  refine gh_enter2 (L := [(0, 2, 63)]) (by decide +kernel) gh_rt9 (Nat.le_of_ble_eq_true rfl) rfl rfl ?_
  unfold w_Model_layRows at h
  refine gh_aload_n gd_Model_layRows_0 0 rfl (by decide) ?_
  refine gh_iconst gd_Model_layRows_1 (gh_r0 rfl) ?_
  refine pf_63_42 gd_Model_layRows_2 gh_k1409 hF (fun hF => ?_)
  refine gh_iconst gd_Model_layRows_5 (gh_r0 rfl) ?_
  refine gh_istore_n (L2 := [(1, 0, 0), (0, 2, 63)]) gd_Model_layRows_6 (by decide) rfl ?_
  refine gh_pick (L2 := [(0, 2, 63), (1, 0, 0)]) [1, 0] rfl ?_
  exact gh_M1_sound (T := fun v1 m => gh_T E (gh_yModel_layRows.cls, prog_14_method_61_code, 4, false, 9) (d + 1) 7 [(0, 2, 63), (1, 0, v1)] [] m (fun r m1 => gh_F m1 ∧ Q r m1)) (fun _ m => gh_F m) (fun K7 v1 m hK hF h => b_Model_layRows_7 d hK v1 m hF h) 0 (gh_u m 63 42 0) hF h
def f_Model_goOver_116 (v1 : Int) (K106 : Int → gh_M → Prop) (K116 : Int → gh_M → Prop) (v2 : Int) (m : gh_M) : Prop := ((v2 < 64 → 0 ≤ v2 ∧ v2 < 64 ∧ ((((m 93 v2) = 0) → (0 ≤ v2 ∧ gh_i ((v2 / 8) * 8) ∧ gh_i (((v2 / 8) * 8) + v1) ∧ 0 ≤ ((v2 / 8) * 8) + v1 ∧ (((v2 / 8) * 8) + v1) < 64 ∧ (¬ ((m 93 (((v2 / 8) * 8) + v1)) = 0) → (gh_i (8 * v1) ∧ 0 ≤ v2 ∧ gh_i ((8 * v1) + (v2 % 8)) ∧ 0 ≤ (8 * v1) + (v2 % 8) ∧ ((8 * v1) + (v2 % 8)) < 64))))) ∧ 0 ≤ v2 ∧ v2 < 64 ∧ gh_i (v2 + 1) ∧ K116 (v2 + 1) (gh_u m 93 v2 (if (¬ ((m 93 v2) = 0) ∨ (¬ ((m 93 (((v2 / 8) * 8) + v1)) = 0) ∧ (¬ ((m 93 ((8 * v1) + (v2 % 8))) = 0)))) then (1:Int) else 0))) ∧ (¬ (v2 < 64) → gh_i (v1 + 1) ∧ K106 (v1 + 1) m))
def f_Model_goOver_198 (v1 : Int) (K190 : Int → gh_M → Prop) (K198 : Int → gh_M → Prop) (v2 : Int) (m : gh_M) : Prop := ∃ J278 : gh_M → Prop, (∀ (m : gh_M), J278 m → gh_i (v1 + 1) ∧ K190 (v1 + 1) m) ∧ (((v2 < (m 63 42)) → (0 ≤ v1 ∧ v1 < 64))) ∧ (((¬ (v2 < (m 63 42)) ∨ ((m 93 v1) = 0)) → J278 m) ∧ (¬ (¬ (v2 < (m 63 42)) ∨ ((m 93 v1) = 0)) → 0 ≤ v1 ∧ gh_i (320 * (v1 / 8)) ∧ gh_i ((320 * (v1 / 8)) + v2) ∧ ∀ v3 : Int, v3 = (320 * (v1 / 8)) + v2 → 0 ≤ v3 ∧ v3 < 2560 ∧ ((((m 92 v3) = 0) → (0 ≤ v1 ∧ gh_i (320 * (v1 % 8)) ∧ gh_i ((320 * (v1 % 8)) + v2) ∧ 0 ≤ (320 * (v1 % 8)) + v2 ∧ ((320 * (v1 % 8)) + v2) < 2560 ∧ (¬ ((m 91 ((320 * (v1 % 8)) + v2)) = 0) → (k_Model_isUnit v2 m))))) ∧ 0 ≤ v3 ∧ v3 < 2560 ∧ gh_i (v2 + 1) ∧ K198 (v2 + 1) (gh_u m 92 v3 (if (¬ ((m 92 v3) = 0) ∨ (¬ ((m 91 ((320 * (v1 % 8)) + v2)) = 0) ∧ (¬ (p_Model_isUnit v2 m)))) then (1:Int) else 0))))
def f_Model_goOver_190 (Q : Int → gh_M → Prop) (K190 : Int → gh_M → Prop) (v1 : Int) (m : gh_M) : Prop := ((v1 < 64 → gh_M1 (fun K198 v2 m => f_Model_goOver_198 v1 K190 K198 v2 m) 0 m) ∧ (¬ (v1 < 64) → Q 0 m))
def f_Model_goOver_106 (Q : Int → gh_M → Prop) (K106 : Int → gh_M → Prop) (v1 : Int) (m : gh_M) : Prop := ((v1 < (m 63 26) → gh_M1 (fun K116 v2 m => f_Model_goOver_116 v1 K106 K116 v2 m) 0 m) ∧ (¬ (v1 < (m 63 26)) → gh_M1 (fun K190 v1 m => f_Model_goOver_190 Q K190 v1 m) 0 m))
def f_Model_goOver_38 (Q : Int → gh_M → Prop) (K38 : Int → gh_M → Prop) (v1 : Int) (m : gh_M) : Prop := gh_i (320 * (m 63 26)) ∧ ((v1 < (320 * (m 63 26)) → 0 ≤ v1 ∧ ∀ v2 : Int, v2 = v1 % 320 → 0 ≤ v1 ∧ v1 < 2560 ∧ ∃ J98 : gh_M → Prop, (∀ (m : gh_M), J98 m → gh_i (v1 + 1) ∧ K38 (v1 + 1) m) ∧ ((¬ ((m 91 v1) = 0) → (k_Model_isUnit v2 m))) ∧ (((¬ ((m 91 v1) = 0) ∧ (p_Model_isUnit v2 m)) → 0 ≤ v1 ∧ gh_i (8 * (v1 / 320)) ∧ gh_i ((8 * (v1 / 320)) - 1) ∧ gh_i (4 * v2) ∧ 0 ≤ 4 * v2 ∧ (4 * v2) < 1280 ∧ gh_i (((8 * (v1 / 320)) - 1) - (m 90 (4 * v2))) ∧ 0 ≤ ((8 * (v1 / 320)) - 1) - (m 90 (4 * v2)) ∧ (((8 * (v1 / 320)) - 1) - (m 90 (4 * v2))) < 64 ∧ J98 (gh_u m 93 (((8 * (v1 / 320)) - 1) - (m 90 (4 * v2))) 1)) ∧ (¬ (¬ ((m 91 v1) = 0) ∧ (p_Model_isUnit v2 m)) → J98 m))) ∧ (¬ (v1 < (320 * (m 63 26))) → gh_M1 (fun K106 v1 m => f_Model_goOver_106 Q K106 v1 m) 0 m))
def f_Model_goOver_2 (Q : Int → gh_M → Prop) (K2 : Int → gh_M → Prop) (v1 : Int) (m : gh_M) : Prop := ((v1 < 64 → 0 ≤ v1 ∧ 0 ≤ v1 ∧ 0 ≤ v1 ∧ v1 < 64 ∧ gh_i (v1 + 1) ∧ K2 (v1 + 1) (gh_u m 93 v1 (if ((v1 / 8) = (v1 % 8)) then (1:Int) else 0))) ∧ (¬ (v1 < 64) → gh_M1 (fun K38 v1 m => f_Model_goOver_38 Q K38 v1 m) 0 m))
def w_Model_goOver (m : gh_M) (Q : Int → gh_M → Prop) : Prop := gh_M1 (fun K2 v1 m => f_Model_goOver_2 Q K2 v1 m) 0 m
theorem b_Model_goOver_116 {E : gh_E} {v1 : Int} {K106 : Int → gh_M → Prop} {Q : Int → gh_M → Prop} {K116 : Int → gh_M → Prop} (d : Nat) (hK106 : ∀ (v1 : Int) (m : gh_M), gh_F m → K106 v1 m → gh_T E (gh_yModel_goOver.cls, prog_14_method_62_code, 4, false, 9) (d + 1) 106 [(0, 2, 63), (1, 0, v1)] [] m (fun r m1 => gh_F m1 ∧ Q r m1)) (hK : ∀ (v2 : Int) (m : gh_M), gh_F m → K116 v2 m → gh_T E (gh_yModel_goOver.cls, prog_14_method_62_code, 4, false, 9) (d + 1) 116 [(0, 2, 63), (1, 0, v1), (2, 0, v2)] [] m (fun r m1 => gh_F m1 ∧ Q r m1)) (v2 : Int) (m : gh_M) (hF : gh_F m) (h : f_Model_goOver_116 v1 K106 K116 v2 m) : gh_T E (gh_yModel_goOver.cls, prog_14_method_62_code, 4, false, 9) (d + 1) 116 [(0, 2, 63), (1, 0, v1), (2, 0, v2)] [] m (fun r m1 => gh_F m1 ∧ Q r m1) := by
  have hK116 := hK
  unfold f_Model_goOver_116 at h
  refine gh_iload_n gd_Model_goOver_116 2 rfl ?_
  refine gh_bipush gd_Model_goOver_117 (by decide) (gh_r0 rfl) ?_
  obtain ⟨hA, hB⟩ := h
  refine gh_jge (tgt := 182) gd_Model_goOver_119 (by decide) (fun c3200 => ?_) (fun c3200 => ?_)
  · have h := hA c3200
    refine gh_aload_n gd_Model_goOver_122 0 rfl (by decide) ?_
    refine gf_63_47 gd_Model_goOver_123 gh_k1414 hF ?_
    refine gh_iload_n gd_Model_goOver_126 2 rfl ?_
    refine gh_aload_n gd_Model_goOver_127 0 rfl (by decide) ?_
    refine gf_63_47 gd_Model_goOver_128 gh_k1414 hF ?_
    refine gh_iload_n gd_Model_goOver_131 2 rfl ?_
    obtain ⟨q3201, h⟩ := h
    obtain ⟨q3202, h⟩ := h
    refine la_93 gd_Model_goOver_132 hF q3201 q3202 rfl ?_
    obtain ⟨hk, h⟩ := h
    have k3213 : ∀ x3214 : Int, x3214 = (if (¬ ((m 93 v2) = 0) ∨ (¬ ((m 93 (((v2 / 8) * 8) + v1)) = 0) ∧ (¬ ((m 93 ((8 * v1) + (v2 % 8))) = 0)))) then (1:Int) else 0) → gh_T E (gh_yModel_goOver.cls, prog_14_method_62_code, 4, false, 9) (d + 1) 175 [(0, 2, 63), (1, 0, v1), (2, 0, v2)] [(0, x3214), (0, v2), (2, 93)] m (fun r m1 => gh_F m1 ∧ Q r m1) := by
      rintro _ rfl
      obtain ⟨q3215, h⟩ := h
      obtain ⟨q3216, h⟩ := h
      refine sa_93 gd_Model_goOver_175 hF q3215 q3216 gh_ib01 (fun hF => ?_)
      obtain ⟨q3217, h⟩ := h
      refine gh_iinc (L2 := [(2, 0, v2 + 1), (0, 2, 63), (1, 0, v1)]) gd_Model_goOver_176 2 rfl q3217 (by decide) rfl ?_
      refine gh_goto (tgt := 116) gd_Model_goOver_179 (by decide) ?_
      refine gh_pick (L2 := [(0, 2, 63), (1, 0, v1), (2, 0, v2 + 1)]) [1, 2, 0] rfl ?_
      exact hK116 (v2 + 1) (gh_u m 93 v2 (if (¬ ((m 93 v2) = 0) ∨ (¬ ((m 93 (((v2 / 8) * 8) + v1)) = 0) ∧ (¬ ((m 93 ((8 * v1) + (v2 % 8))) = 0)))) then (1:Int) else 0)) hF h
    refine gh_zne (tgt := 170) gd_Model_goOver_133 (by decide) (fun c3218 => ?_) (fun c3218 => ?_)
    · have hz : True := trivial
      have hk := hk c3218
      refine gh_aload_n gd_Model_goOver_136 0 rfl (by decide) ?_
      refine gf_63_47 gd_Model_goOver_137 gh_k1414 hF ?_
      refine gh_iload_n gd_Model_goOver_140 2 rfl ?_
      refine gh_bipush gd_Model_goOver_141 (by decide) (gh_r0 rfl) ?_
      obtain ⟨q3203, hk⟩ := hk
      refine gh_idiv gd_Model_goOver_143 q3203 (by decide) ?_
      refine gh_bipush gd_Model_goOver_144 (by decide) (gh_r0 rfl) ?_
      obtain ⟨q3204, hk⟩ := hk
      refine gh_imul gd_Model_goOver_146 q3204 ?_
      refine gh_iload_n gd_Model_goOver_147 1 rfl ?_
      obtain ⟨q3205, hk⟩ := hk
      refine gh_iadd gd_Model_goOver_148 q3205 ?_
      obtain ⟨q3206, hk⟩ := hk
      obtain ⟨q3207, hk⟩ := hk
      refine la_93 gd_Model_goOver_149 hF q3206 q3207 rfl ?_
      refine gh_zeq (tgt := 174) gd_Model_goOver_150 (by decide) (fun c3219 => ?_) (fun c3219 => ?_)
      · have hz : True := trivial
        refine gh_iconst gd_Model_goOver_174 (gh_r0 rfl) ?_
        exact k3213 _ (if_neg (c := (¬ ((m 93 v2) = 0) ∨ (¬ ((m 93 (((v2 / 8) * 8) + v1)) = 0) ∧ (¬ ((m 93 ((8 * v1) + (v2 % 8))) = 0))))) (fun z => z.elim (fun w => w c3218) (fun z => z.1 c3219))).symm
      · have hz : True := trivial
        have hk := hk c3219
        refine gh_aload_n gd_Model_goOver_153 0 rfl (by decide) ?_
        refine gf_63_47 gd_Model_goOver_154 gh_k1414 hF ?_
        refine gh_bipush gd_Model_goOver_157 (by decide) (gh_r0 rfl) ?_
        refine gh_iload_n gd_Model_goOver_159 1 rfl ?_
        obtain ⟨q3208, hk⟩ := hk
        refine gh_imul gd_Model_goOver_160 q3208 ?_
        refine gh_iload_n gd_Model_goOver_161 2 rfl ?_
        refine gh_bipush gd_Model_goOver_162 (by decide) (gh_r0 rfl) ?_
        obtain ⟨q3209, hk⟩ := hk
        refine gh_irem gd_Model_goOver_164 q3209 (by decide) ?_
        obtain ⟨q3210, hk⟩ := hk
        refine gh_iadd gd_Model_goOver_165 q3210 ?_
        obtain ⟨q3211, hk⟩ := hk
        have q3212 := hk
        refine la_93 gd_Model_goOver_166 hF q3211 q3212 rfl ?_
        refine gh_zeq (tgt := 174) gd_Model_goOver_167 (by decide) (fun c3220 => ?_) (fun c3220 => ?_)
        · have hz : True := trivial
          refine gh_iconst gd_Model_goOver_174 (gh_r0 rfl) ?_
          exact k3213 _ (if_neg (c := (¬ ((m 93 v2) = 0) ∨ (¬ ((m 93 (((v2 / 8) * 8) + v1)) = 0) ∧ (¬ ((m 93 ((8 * v1) + (v2 % 8))) = 0))))) (fun z => z.elim (fun w => w c3218) (fun z => (not_not_intro c3220) z.2))).symm
        · have hz : True := trivial
          refine gh_iconst gd_Model_goOver_170 (gh_r0 rfl) ?_
          refine gh_goto (tgt := 175) gd_Model_goOver_171 (by decide) ?_
          exact k3213 _ (if_pos (c := (¬ ((m 93 v2) = 0) ∨ (¬ ((m 93 (((v2 / 8) * 8) + v1)) = 0) ∧ (¬ ((m 93 ((8 * v1) + (v2 % 8))) = 0))))) (Or.inr ⟨c3219, c3220⟩)).symm
    · have hz : True := trivial
      refine gh_iconst gd_Model_goOver_170 (gh_r0 rfl) ?_
      refine gh_goto (tgt := 175) gd_Model_goOver_171 (by decide) ?_
      exact k3213 _ (if_pos (c := (¬ ((m 93 v2) = 0) ∨ (¬ ((m 93 (((v2 / 8) * 8) + v1)) = 0) ∧ (¬ ((m 93 ((8 * v1) + (v2 % 8))) = 0))))) (Or.inl c3218)).symm
  · have h := hB c3200
    obtain ⟨q3221, h⟩ := h
    refine gh_iinc (L2 := [(1, 0, v1 + 1), (0, 2, 63), (2, 0, v2)]) gd_Model_goOver_182 1 rfl q3221 (by decide) rfl ?_
    refine gh_goto (tgt := 106) gd_Model_goOver_185 (by decide) ?_
    refine gh_pick (L2 := [(0, 2, 63), (1, 0, v1 + 1)]) [1, 0] rfl ?_
    exact hK106 (v1 + 1) m hF h
theorem b_Model_goOver_198 {E : gh_E} {v1 : Int} {K190 : Int → gh_M → Prop} {Q : Int → gh_M → Prop} {K198 : Int → gh_M → Prop} (d : Nat) (hK190 : ∀ (v1 : Int) (m : gh_M), gh_F m → K190 v1 m → gh_T E (gh_yModel_goOver.cls, prog_14_method_62_code, 4, false, 9) (d + 1) 190 [(0, 2, 63), (1, 0, v1)] [] m (fun r m1 => gh_F m1 ∧ Q r m1)) (hK : ∀ (v2 : Int) (m : gh_M), gh_F m → K198 v2 m → gh_T E (gh_yModel_goOver.cls, prog_14_method_62_code, 4, false, 9) (d + 1) 198 [(0, 2, 63), (1, 0, v1), (2, 0, v2)] [] m (fun r m1 => gh_F m1 ∧ Q r m1)) (v2 : Int) (m : gh_M) (hF : gh_F m) (h : f_Model_goOver_198 v1 K190 K198 v2 m) : gh_T E (gh_yModel_goOver.cls, prog_14_method_62_code, 4, false, 9) (d + 1) 198 [(0, 2, 63), (1, 0, v1), (2, 0, v2)] [] m (fun r m1 => gh_F m1 ∧ Q r m1) := by
  have hK198 := hK
  unfold f_Model_goOver_198 at h
  refine gh_iload_n gd_Model_goOver_198 2 rfl ?_
  refine gh_aload_n gd_Model_goOver_199 0 rfl (by decide) ?_
  refine gf_63_42 gd_Model_goOver_200 gh_k1409 hF rfl ?_
  obtain ⟨J278, hJ278, h⟩ := h
  have hJ278 : ∀ (m : gh_M), gh_F m → J278 m → gh_T E (gh_yModel_goOver.cls, prog_14_method_62_code, 4, false, 9) (d + 1) 278 [(0, 2, 63), (1, 0, v1)] [] m (fun r m1 => gh_F m1 ∧ Q r m1) := by
    intro m hF hj
    have h := hJ278 m hj
    obtain ⟨q3223, h⟩ := h
    refine gh_iinc (L2 := [(1, 0, v1 + 1), (0, 2, 63)]) gd_Model_goOver_278 1 rfl q3223 (by decide) rfl ?_
    refine gh_goto (tgt := 190) gd_Model_goOver_281 (by decide) ?_
    refine gh_pick (L2 := [(0, 2, 63), (1, 0, v1 + 1)]) [1, 0] rfl ?_
    exact hK190 (v1 + 1) m hF h
  obtain ⟨hk, hA, hB⟩ := h
  have k3226 : (¬ (v2 < (m 63 42)) ∨ ((m 93 v1) = 0)) → gh_T E (gh_yModel_goOver.cls, prog_14_method_62_code, 4, false, 9) (d + 1) 278 [(0, 2, 63), (1, 0, v1), (2, 0, v2)] [] m (fun r m1 => gh_F m1 ∧ Q r m1) := by
    intro c
    have h := hA c
    refine gh_pick (L2 := [(0, 2, 63), (1, 0, v1)]) [0, 1] rfl ?_
    exact hJ278 m hF h
  have k3227 : ¬ (¬ (v2 < (m 63 42)) ∨ ((m 93 v1) = 0)) → gh_T E (gh_yModel_goOver.cls, prog_14_method_62_code, 4, false, 9) (d + 1) 215 [(0, 2, 63), (1, 0, v1), (2, 0, v2)] [] m (fun r m1 => gh_F m1 ∧ Q r m1) := by
    intro c
    have h := hB c
    refine gh_sipush gd_Model_goOver_215 (by decide) (gh_r0 rfl) ?_
    refine gh_iload_n gd_Model_goOver_218 1 rfl ?_
    refine gh_bipush gd_Model_goOver_219 (by decide) (gh_r0 rfl) ?_
    obtain ⟨q3228, h⟩ := h
    refine gh_idiv gd_Model_goOver_221 q3228 (by decide) ?_
    obtain ⟨q3229, h⟩ := h
    refine gh_imul gd_Model_goOver_222 q3229 ?_
    refine gh_iload_n gd_Model_goOver_223 2 rfl ?_
    obtain ⟨q3230, h⟩ := h
    refine gh_iadd gd_Model_goOver_224 q3230 ?_
    refine gh_name (fun v3 hn => ?_)
    have h := h v3 hn
    refine gh_istore_n (L2 := [(3, 0, v3), (0, 2, 63), (1, 0, v1), (2, 0, v2)]) gd_Model_goOver_225 (by decide) rfl ?_
    refine gh_aload_n gd_Model_goOver_226 1 rfl (by decide) ?_
    refine gf_63_46 gd_Model_goOver_227 gh_k1413 hF ?_
    refine gh_iload_n gd_Model_goOver_230 0 rfl ?_
    refine gh_aload_n gd_Model_goOver_231 1 rfl (by decide) ?_
    refine gf_63_46 gd_Model_goOver_232 gh_k1413 hF ?_
    refine gh_iload_n gd_Model_goOver_235 0 rfl ?_
    obtain ⟨q3231, h⟩ := h
    obtain ⟨q3232, h⟩ := h
    refine la_92 gd_Model_goOver_236 hF q3231 q3232 rfl ?_
    obtain ⟨hk, h⟩ := h
    have k3239 : ∀ x3240 : Int, x3240 = (if (¬ ((m 92 v3) = 0) ∨ (¬ ((m 91 ((320 * (v1 % 8)) + v2)) = 0) ∧ (¬ (p_Model_isUnit v2 m)))) then (1:Int) else 0) → gh_T E (gh_yModel_goOver.cls, prog_14_method_62_code, 4, false, 9) (d + 1) 271 [(3, 0, v3), (0, 2, 63), (1, 0, v1), (2, 0, v2)] [(0, x3240), (0, v3), (2, 92)] m (fun r m1 => gh_F m1 ∧ Q r m1) := by
      rintro _ rfl
      obtain ⟨q3241, h⟩ := h
      obtain ⟨q3242, h⟩ := h
      refine sa_92 gd_Model_goOver_271 hF q3241 q3242 gh_ib01 (fun hF => ?_)
      obtain ⟨q3243, h⟩ := h
      refine gh_iinc (L2 := [(2, 0, v2 + 1), (3, 0, v3), (0, 2, 63), (1, 0, v1)]) gd_Model_goOver_272 3 rfl q3243 (by decide) rfl ?_
      refine gh_goto (tgt := 198) gd_Model_goOver_275 (by decide) ?_
      refine gh_pick (L2 := [(0, 2, 63), (1, 0, v1), (2, 0, v2 + 1)]) [2, 3, 0] rfl ?_
      exact hK198 (v2 + 1) (gh_u m 92 v3 (if (¬ ((m 92 v3) = 0) ∨ (¬ ((m 91 ((320 * (v1 % 8)) + v2)) = 0) ∧ (¬ (p_Model_isUnit v2 m)))) then (1:Int) else 0)) hF h
    refine gh_zne (tgt := 266) gd_Model_goOver_237 (by decide) (fun c3244 => ?_) (fun c3244 => ?_)
    · have hz : True := trivial
      have hk := hk c3244
      refine gh_aload_n gd_Model_goOver_240 1 rfl (by decide) ?_
      refine gf_63_45 gd_Model_goOver_241 gh_k1412 hF ?_
      refine gh_sipush gd_Model_goOver_244 (by decide) (gh_r0 rfl) ?_
      refine gh_iload_n gd_Model_goOver_247 2 rfl ?_
      refine gh_bipush gd_Model_goOver_248 (by decide) (gh_r0 rfl) ?_
      obtain ⟨q3233, hk⟩ := hk
      refine gh_irem gd_Model_goOver_250 q3233 (by decide) ?_
      obtain ⟨q3234, hk⟩ := hk
      refine gh_imul gd_Model_goOver_251 q3234 ?_
      refine gh_iload_n gd_Model_goOver_252 3 rfl ?_
      obtain ⟨q3235, hk⟩ := hk
      refine gh_iadd gd_Model_goOver_253 q3235 ?_
      obtain ⟨q3236, hk⟩ := hk
      obtain ⟨q3237, hk⟩ := hk
      refine la_91 gd_Model_goOver_254 hF q3236 q3237 rfl ?_
      refine gh_zeq (tgt := 270) gd_Model_goOver_255 (by decide) (fun c3245 => ?_) (fun c3245 => ?_)
      · have hz : True := trivial
        refine gh_iconst gd_Model_goOver_270 (gh_r0 rfl) ?_
        exact k3239 _ (if_neg (c := (¬ ((m 92 v3) = 0) ∨ (¬ ((m 91 ((320 * (v1 % 8)) + v2)) = 0) ∧ (¬ (p_Model_isUnit v2 m))))) (fun z => z.elim (fun w => w c3244) (fun z => z.1 c3245))).symm
      · have hz : True := trivial
        have hk := hk c3245
        refine gh_aload_n gd_Model_goOver_258 1 rfl (by decide) ?_
        refine gh_iload_n gd_Model_goOver_259 3 rfl ?_
        have q3238 := hk
        refine cv_Model_isUnit (d := d) gd_Model_goOver_260 gh_k1793 hF (Nat.le_of_ble_eq_true rfl) (gh_C.pe (e_Model_isUnit d v2 hF q3238) ?_)
        refine gh_bne (tgt := 270) gd_Model_goOver_263 (by decide) (fun c3246 => ?_) (fun c3246 => ?_)
        · have hz : True := trivial
          refine gh_iconst gd_Model_goOver_270 (gh_r0 rfl) ?_
          exact k3239 _ (if_neg (c := (¬ ((m 92 v3) = 0) ∨ (¬ ((m 91 ((320 * (v1 % 8)) + v2)) = 0) ∧ (¬ (p_Model_isUnit v2 m))))) (fun z => z.elim (fun w => w c3244) (fun z => (not_not_intro c3246) z.2))).symm
        · have hz : True := trivial
          refine gh_iconst gd_Model_goOver_266 (gh_r0 rfl) ?_
          refine gh_goto (tgt := 271) gd_Model_goOver_267 (by decide) ?_
          exact k3239 _ (if_pos (c := (¬ ((m 92 v3) = 0) ∨ (¬ ((m 91 ((320 * (v1 % 8)) + v2)) = 0) ∧ (¬ (p_Model_isUnit v2 m))))) (Or.inr ⟨c3245, c3246⟩)).symm
    · have hz : True := trivial
      refine gh_iconst gd_Model_goOver_266 (gh_r0 rfl) ?_
      refine gh_goto (tgt := 271) gd_Model_goOver_267 (by decide) ?_
      exact k3239 _ (if_pos (c := (¬ ((m 92 v3) = 0) ∨ (¬ ((m 91 ((320 * (v1 % 8)) + v2)) = 0) ∧ (¬ (p_Model_isUnit v2 m))))) (Or.inl c3244)).symm
  refine gh_jge (tgt := 278) gd_Model_goOver_203 (by decide) (fun c3247 => ?_) (fun c3247 => ?_)
  · have hz : True := trivial
    have hk := hk c3247
    refine gh_aload_n gd_Model_goOver_206 0 rfl (by decide) ?_
    refine gf_63_47 gd_Model_goOver_207 gh_k1414 hF ?_
    refine gh_iload_n gd_Model_goOver_210 1 rfl ?_
    obtain ⟨q3224, hk⟩ := hk
    have q3225 := hk
    refine la_93 gd_Model_goOver_211 hF q3224 q3225 rfl ?_
    refine gh_zeq (tgt := 278) gd_Model_goOver_212 (by decide) (fun c3248 => ?_) (fun c3248 => ?_)
    · have hz : True := trivial
      exact k3226 (Or.inr c3248)
    · have hz : True := trivial
      exact k3227 (fun z => z.elim (fun w => w c3247) c3248)
  · have hz : True := trivial
    exact k3226 (Or.inl c3247)
theorem b_Model_goOver_190 {E : gh_E} {Q : Int → gh_M → Prop} {K190 : Int → gh_M → Prop} (d : Nat) (hK : ∀ (v1 : Int) (m : gh_M), gh_F m → K190 v1 m → gh_T E (gh_yModel_goOver.cls, prog_14_method_62_code, 4, false, 9) (d + 1) 190 [(0, 2, 63), (1, 0, v1)] [] m (fun r m1 => gh_F m1 ∧ Q r m1)) (v1 : Int) (m : gh_M) (hF : gh_F m) (h : f_Model_goOver_190 Q K190 v1 m) : gh_T E (gh_yModel_goOver.cls, prog_14_method_62_code, 4, false, 9) (d + 1) 190 [(0, 2, 63), (1, 0, v1)] [] m (fun r m1 => gh_F m1 ∧ Q r m1) := by
  have hK190 := hK
  unfold f_Model_goOver_190 at h
  refine gh_iload_n gd_Model_goOver_190 1 rfl ?_
  refine gh_bipush gd_Model_goOver_191 (by decide) (gh_r0 rfl) ?_
  obtain ⟨hA, hB⟩ := h
  refine gh_jge (tgt := 284) gd_Model_goOver_193 (by decide) (fun c3222 => ?_) (fun c3222 => ?_)
  · have h := hA c3222
    refine gh_iconst gd_Model_goOver_196 (gh_r0 rfl) ?_
    refine gh_istore_n (L2 := [(2, 0, 0), (0, 2, 63), (1, 0, v1)]) gd_Model_goOver_197 (by decide) rfl ?_
    refine gh_pick (L2 := [(0, 2, 63), (1, 0, v1), (2, 0, 0)]) [1, 2, 0] rfl ?_
    exact gh_M1_sound (T := fun v2 m => gh_T E (gh_yModel_goOver.cls, prog_14_method_62_code, 4, false, 9) (d + 1) 198 [(0, 2, 63), (1, 0, v1), (2, 0, v2)] [] m (fun r m1 => gh_F m1 ∧ Q r m1)) (fun _ m => gh_F m) (fun K198 v2 m hK hF h => b_Model_goOver_198 d hK190 hK v2 m hF h) 0 m hF h
  · have h := hB c3222
    exact gh_ret9 rfl gd_Model_goOver_284 ⟨hF, h⟩
theorem b_Model_goOver_106 {E : gh_E} {Q : Int → gh_M → Prop} {K106 : Int → gh_M → Prop} (d : Nat) (hK : ∀ (v1 : Int) (m : gh_M), gh_F m → K106 v1 m → gh_T E (gh_yModel_goOver.cls, prog_14_method_62_code, 4, false, 9) (d + 1) 106 [(0, 2, 63), (1, 0, v1)] [] m (fun r m1 => gh_F m1 ∧ Q r m1)) (v1 : Int) (m : gh_M) (hF : gh_F m) (h : f_Model_goOver_106 Q K106 v1 m) : gh_T E (gh_yModel_goOver.cls, prog_14_method_62_code, 4, false, 9) (d + 1) 106 [(0, 2, 63), (1, 0, v1)] [] m (fun r m1 => gh_F m1 ∧ Q r m1) := by
  have hK106 := hK
  unfold f_Model_goOver_106 at h
  refine gh_iload_n gd_Model_goOver_106 1 rfl ?_
  refine gh_aload_n gd_Model_goOver_107 0 rfl (by decide) ?_
  refine gf_63_26 gd_Model_goOver_108 gh_k1393 hF rfl ?_
  obtain ⟨hA, hB⟩ := h
  refine gh_jge (tgt := 188) gd_Model_goOver_111 (by decide) (fun c3199 => ?_) (fun c3199 => ?_)
  · have h := hA c3199
    refine gh_iconst gd_Model_goOver_114 (gh_r0 rfl) ?_
    refine gh_istore_n (L2 := [(2, 0, 0), (0, 2, 63), (1, 0, v1)]) gd_Model_goOver_115 (by decide) rfl ?_
    refine gh_pick (L2 := [(0, 2, 63), (1, 0, v1), (2, 0, 0)]) [1, 2, 0] rfl ?_
    exact gh_M1_sound (T := fun v2 m => gh_T E (gh_yModel_goOver.cls, prog_14_method_62_code, 4, false, 9) (d + 1) 116 [(0, 2, 63), (1, 0, v1), (2, 0, v2)] [] m (fun r m1 => gh_F m1 ∧ Q r m1)) (fun _ m => gh_F m) (fun K116 v2 m hK hF h => b_Model_goOver_116 d hK106 hK v2 m hF h) 0 m hF h
  · have h := hB c3199
    refine gh_iconst gd_Model_goOver_188 (gh_r0 rfl) ?_
    refine gh_istore_n (L2 := [(1, 0, 0), (0, 2, 63)]) gd_Model_goOver_189 (by decide) rfl ?_
    refine gh_pick (L2 := [(0, 2, 63), (1, 0, 0)]) [1, 0] rfl ?_
    exact gh_M1_sound (T := fun v1 m => gh_T E (gh_yModel_goOver.cls, prog_14_method_62_code, 4, false, 9) (d + 1) 190 [(0, 2, 63), (1, 0, v1)] [] m (fun r m1 => gh_F m1 ∧ Q r m1)) (fun _ m => gh_F m) (fun K190 v1 m hK hF h => b_Model_goOver_190 d hK v1 m hF h) 0 m hF h
theorem b_Model_goOver_38 {E : gh_E} {Q : Int → gh_M → Prop} {K38 : Int → gh_M → Prop} (d : Nat) (hK : ∀ (v1 : Int) (m : gh_M), gh_F m → K38 v1 m → gh_T E (gh_yModel_goOver.cls, prog_14_method_62_code, 4, false, 9) (d + 1) 38 [(0, 2, 63), (1, 0, v1)] [] m (fun r m1 => gh_F m1 ∧ Q r m1)) (v1 : Int) (m : gh_M) (hF : gh_F m) (h : f_Model_goOver_38 Q K38 v1 m) : gh_T E (gh_yModel_goOver.cls, prog_14_method_62_code, 4, false, 9) (d + 1) 38 [(0, 2, 63), (1, 0, v1)] [] m (fun r m1 => gh_F m1 ∧ Q r m1) := by
  have hK38 := hK
  unfold f_Model_goOver_38 at h
  refine gh_iload_n gd_Model_goOver_38 1 rfl ?_
  refine gh_sipush gd_Model_goOver_39 (by decide) (gh_r0 rfl) ?_
  refine gh_aload_n gd_Model_goOver_42 0 rfl (by decide) ?_
  refine gf_63_26 gd_Model_goOver_43 gh_k1393 hF rfl ?_
  obtain ⟨q3179, h⟩ := h
  refine gh_imul gd_Model_goOver_46 q3179 ?_
  obtain ⟨hA, hB⟩ := h
  refine gh_jge (tgt := 104) gd_Model_goOver_47 (by decide) (fun c3180 => ?_) (fun c3180 => ?_)
  · have h := hA c3180
    refine gh_iload_n gd_Model_goOver_50 1 rfl ?_
    refine gh_sipush gd_Model_goOver_51 (by decide) (gh_r0 rfl) ?_
    obtain ⟨q3181, h⟩ := h
    refine gh_irem gd_Model_goOver_54 q3181 (by decide) ?_
    refine gh_name (fun v2 hn => ?_)
    have h := h v2 hn
    refine gh_istore_n (L2 := [(2, 0, v2), (0, 2, 63), (1, 0, v1)]) gd_Model_goOver_55 (by decide) rfl ?_
    refine gh_aload_n gd_Model_goOver_56 1 rfl (by decide) ?_
    refine gf_63_45 gd_Model_goOver_57 gh_k1412 hF ?_
    refine gh_iload_n gd_Model_goOver_60 2 rfl ?_
    obtain ⟨q3182, h⟩ := h
    obtain ⟨q3183, h⟩ := h
    refine la_91 gd_Model_goOver_61 hF q3182 q3183 rfl ?_
    obtain ⟨J98, hJ98, h⟩ := h
    have hJ98 : ∀ (m : gh_M), gh_F m → J98 m → gh_T E (gh_yModel_goOver.cls, prog_14_method_62_code, 4, false, 9) (d + 1) 98 [(0, 2, 63), (1, 0, v1)] [] m (fun r m1 => gh_F m1 ∧ Q r m1) := by
      intro m hF hj
      have h := hJ98 m hj
      obtain ⟨q3184, h⟩ := h
      refine gh_iinc (L2 := [(1, 0, v1 + 1), (0, 2, 63)]) gd_Model_goOver_98 1 rfl q3184 (by decide) rfl ?_
      refine gh_goto (tgt := 38) gd_Model_goOver_101 (by decide) ?_
      refine gh_pick (L2 := [(0, 2, 63), (1, 0, v1 + 1)]) [1, 0] rfl ?_
      exact hK38 (v1 + 1) m hF h
    obtain ⟨hk, hA, hB⟩ := h
    have k3186 : (¬ ((m 91 v1) = 0) ∧ (p_Model_isUnit v2 m)) → gh_T E (gh_yModel_goOver.cls, prog_14_method_62_code, 4, false, 9) (d + 1) 73 [(2, 0, v2), (0, 2, 63), (1, 0, v1)] [] m (fun r m1 => gh_F m1 ∧ Q r m1) := by
      intro c
      have h := hA c
      refine gh_aload_n gd_Model_goOver_73 1 rfl (by decide) ?_
      refine gf_63_47 gd_Model_goOver_74 gh_k1414 hF ?_
      refine gh_bipush gd_Model_goOver_77 (by decide) (gh_r0 rfl) ?_
      refine gh_iload_n gd_Model_goOver_79 2 rfl ?_
      refine gh_sipush gd_Model_goOver_80 (by decide) (gh_r0 rfl) ?_
      obtain ⟨q3188, h⟩ := h
      refine gh_idiv gd_Model_goOver_83 q3188 (by decide) ?_
      obtain ⟨q3189, h⟩ := h
      refine gh_imul gd_Model_goOver_84 q3189 ?_
      refine gh_iconst gd_Model_goOver_85 (gh_r0 rfl) ?_
      obtain ⟨q3190, h⟩ := h
      refine gh_isub gd_Model_goOver_86 q3190 ?_
      refine gh_aload_n gd_Model_goOver_87 1 rfl (by decide) ?_
      refine gf_63_44 gd_Model_goOver_88 gh_k1411 hF ?_
      refine gh_iconst gd_Model_goOver_91 (gh_r0 rfl) ?_
      refine gh_iload_n gd_Model_goOver_92 0 rfl ?_
      obtain ⟨q3191, h⟩ := h
      refine gh_imul gd_Model_goOver_93 q3191 ?_
      obtain ⟨q3192, h⟩ := h
      obtain ⟨q3193, h⟩ := h
      refine la_90 gd_Model_goOver_94 hF q3192 q3193 rfl ?_
      obtain ⟨q3194, h⟩ := h
      refine gh_isub gd_Model_goOver_95 q3194 ?_
      refine gh_iconst gd_Model_goOver_96 (gh_r0 rfl) ?_
      obtain ⟨q3195, h⟩ := h
      obtain ⟨q3196, h⟩ := h
      refine sa_93 gd_Model_goOver_97 hF q3195 q3196 (by decide) (fun hF => ?_)
      refine gh_pick (L2 := [(0, 2, 63), (1, 0, v1)]) [1, 2] rfl ?_
      exact hJ98 (gh_u m 93 (((8 * (v1 / 320)) - 1) - (m 90 (4 * v2))) 1) hF h
    have k3187 : ¬ (¬ ((m 91 v1) = 0) ∧ (p_Model_isUnit v2 m)) → gh_T E (gh_yModel_goOver.cls, prog_14_method_62_code, 4, false, 9) (d + 1) 98 [(2, 0, v2), (0, 2, 63), (1, 0, v1)] [] m (fun r m1 => gh_F m1 ∧ Q r m1) := by
      intro c
      have h := hB c
      refine gh_pick (L2 := [(0, 2, 63), (1, 0, v1)]) [1, 2] rfl ?_
      exact hJ98 m hF h
    refine gh_zeq (tgt := 98) gd_Model_goOver_62 (by decide) (fun c3197 => ?_) (fun c3197 => ?_)
    · have hz : True := trivial
      exact k3187 (fun z => z.1 c3197)
    · have hz : True := trivial
      have hk := hk c3197
      refine gh_aload_n gd_Model_goOver_65 1 rfl (by decide) ?_
      refine gh_iload_n gd_Model_goOver_66 0 rfl ?_
      have q3185 := hk
      refine cv_Model_isUnit (d := d) gd_Model_goOver_67 gh_k1793 hF (Nat.le_of_ble_eq_true rfl) (gh_C.pe (e_Model_isUnit d v2 hF q3185) ?_)
      refine gh_beq (tgt := 98) gd_Model_goOver_70 (by decide) (fun c3198 => ?_) (fun c3198 => ?_)
      · have hz : True := trivial
        exact k3186 ⟨c3197, c3198⟩
      · have hz : True := trivial
        exact k3187 (fun z => c3198 z.2)
  · have h := hB c3180
    refine gh_iconst gd_Model_goOver_104 (gh_r0 rfl) ?_
    refine gh_istore_n (L2 := [(1, 0, 0), (0, 2, 63)]) gd_Model_goOver_105 (by decide) rfl ?_
    refine gh_pick (L2 := [(0, 2, 63), (1, 0, 0)]) [1, 0] rfl ?_
    exact gh_M1_sound (T := fun v1 m => gh_T E (gh_yModel_goOver.cls, prog_14_method_62_code, 4, false, 9) (d + 1) 106 [(0, 2, 63), (1, 0, v1)] [] m (fun r m1 => gh_F m1 ∧ Q r m1)) (fun _ m => gh_F m) (fun K106 v1 m hK hF h => b_Model_goOver_106 d hK v1 m hF h) 0 m hF h
theorem b_Model_goOver_2 {E : gh_E} {Q : Int → gh_M → Prop} {K2 : Int → gh_M → Prop} (d : Nat) (hK : ∀ (v1 : Int) (m : gh_M), gh_F m → K2 v1 m → gh_T E (gh_yModel_goOver.cls, prog_14_method_62_code, 4, false, 9) (d + 1) 2 [(0, 2, 63), (1, 0, v1)] [] m (fun r m1 => gh_F m1 ∧ Q r m1)) (v1 : Int) (m : gh_M) (hF : gh_F m) (h : f_Model_goOver_2 Q K2 v1 m) : gh_T E (gh_yModel_goOver.cls, prog_14_method_62_code, 4, false, 9) (d + 1) 2 [(0, 2, 63), (1, 0, v1)] [] m (fun r m1 => gh_F m1 ∧ Q r m1) := by
  have hK2 := hK
  unfold f_Model_goOver_2 at h
  refine gh_iload_n gd_Model_goOver_2 1 rfl ?_
  refine gh_bipush gd_Model_goOver_3 (by decide) (gh_r0 rfl) ?_
  obtain ⟨hA, hB⟩ := h
  refine gh_jge (tgt := 36) gd_Model_goOver_5 (by decide) (fun c3170 => ?_) (fun c3170 => ?_)
  · have h := hA c3170
    refine gh_aload_n gd_Model_goOver_8 0 rfl (by decide) ?_
    refine gf_63_47 gd_Model_goOver_9 gh_k1414 hF ?_
    refine gh_iload_n gd_Model_goOver_12 1 rfl ?_
    refine gh_iload_n gd_Model_goOver_13 1 rfl ?_
    refine gh_bipush gd_Model_goOver_14 (by decide) (gh_r0 rfl) ?_
    obtain ⟨q3171, h⟩ := h
    refine gh_idiv gd_Model_goOver_16 q3171 (by decide) ?_
    refine gh_iload_n gd_Model_goOver_17 1 rfl ?_
    refine gh_bipush gd_Model_goOver_18 (by decide) (gh_r0 rfl) ?_
    obtain ⟨q3172, h⟩ := h
    refine gh_irem gd_Model_goOver_20 q3172 (by decide) ?_
    have k3173 : ∀ x3174 : Int, x3174 = (if ((v1 / 8) = (v1 % 8)) then (1:Int) else 0) → gh_T E (gh_yModel_goOver.cls, prog_14_method_62_code, 4, false, 9) (d + 1) 29 [(0, 2, 63), (1, 0, v1)] [(0, x3174), (0, v1), (2, 93)] m (fun r m1 => gh_F m1 ∧ Q r m1) := by
      rintro _ rfl
      obtain ⟨q3175, h⟩ := h
      obtain ⟨q3176, h⟩ := h
      refine sa_93 gd_Model_goOver_29 hF q3175 q3176 gh_ib01 (fun hF => ?_)
      obtain ⟨q3177, h⟩ := h
      refine gh_iinc (L2 := [(1, 0, v1 + 1), (0, 2, 63)]) gd_Model_goOver_30 1 rfl q3177 (by decide) rfl ?_
      refine gh_goto (tgt := 2) gd_Model_goOver_33 (by decide) ?_
      refine gh_pick (L2 := [(0, 2, 63), (1, 0, v1 + 1)]) [1, 0] rfl ?_
      exact hK2 (v1 + 1) (gh_u m 93 v1 (if ((v1 / 8) = (v1 % 8)) then (1:Int) else 0)) hF h
    refine gh_jne (tgt := 28) gd_Model_goOver_21 (by decide) (fun c3178 => ?_) (fun c3178 => ?_)
    · have hz : True := trivial
      refine gh_iconst gd_Model_goOver_24 (gh_r0 rfl) ?_
      refine gh_goto (tgt := 29) gd_Model_goOver_25 (by decide) ?_
      exact k3173 _ (if_pos (c := ((v1 / 8) = (v1 % 8))) c3178).symm
    · have hz : True := trivial
      refine gh_iconst gd_Model_goOver_28 (gh_r0 rfl) ?_
      exact k3173 _ (if_neg (c := ((v1 / 8) = (v1 % 8))) c3178).symm
  · have h := hB c3170
    refine gh_iconst gd_Model_goOver_36 (gh_r0 rfl) ?_
    refine gh_istore_n (L2 := [(1, 0, 0), (0, 2, 63)]) gd_Model_goOver_37 (by decide) rfl ?_
    refine gh_pick (L2 := [(0, 2, 63), (1, 0, 0)]) [1, 0] rfl ?_
    exact gh_M1_sound (T := fun v1 m => gh_T E (gh_yModel_goOver.cls, prog_14_method_62_code, 4, false, 9) (d + 1) 38 [(0, 2, 63), (1, 0, v1)] [] m (fun r m1 => gh_F m1 ∧ Q r m1)) (fun _ m => gh_F m) (fun K38 v1 m hK hF h => b_Model_goOver_38 d hK v1 m hF h) 0 m hF h
theorem s_Model_goOver {E : gh_E} {m : gh_M} {Q : Int → gh_M → Prop} (d : Nat) (hF : gh_F m) (h : w_Model_goOver m Q) : gh_C E gh_yModel_goOver prog_14_method_62_code 4 none 9 (d + 1) [(2, 63)] m (fun r m1 => gh_F m1 ∧ Q r m1) := by
  refine gh_enter2 (L := [(0, 2, 63)]) (by decide +kernel) gh_rt9 (Nat.le_of_ble_eq_true rfl) rfl rfl ?_
  unfold w_Model_goOver at h
  refine gh_iconst gd_Model_goOver_0 (gh_r0 rfl) ?_
  refine gh_istore_n (L2 := [(1, 0, 0), (0, 2, 63)]) gd_Model_goOver_1 (by decide) rfl ?_
  refine gh_pick (L2 := [(0, 2, 63), (1, 0, 0)]) [1, 0] rfl ?_
  exact gh_M1_sound (T := fun v1 m => gh_T E (gh_yModel_goOver.cls, prog_14_method_62_code, 4, false, 9) (d + 1) 2 [(0, 2, 63), (1, 0, v1)] [] m (fun r m1 => gh_F m1 ∧ Q r m1)) (fun _ m => gh_F m) (fun K2 v1 m hK hF h => b_Model_goOver_2 d hK v1 m hF h) 0 m hF h
def f_Model_doesEnd_4 (v1 : Int) (Q : Int → Prop) (m : gh_M) (K4 : Int → Int → Prop) (v2 : Int) (v3 : Int) : Prop := 0 ≤ v1 ∧ v1 < 320 ∧ ((v3 < (m 89 v1) → gh_i (4 * v1) ∧ gh_i ((4 * v1) + v3) ∧ 0 ≤ (4 * v1) + v3 ∧ ((4 * v1) + v3) < 1280 ∧ ∀ v4 : Int, v4 = m 90 ((4 * v1) + v3) → ((¬ (v2 = 0) → (((v4 ≤ 0) → (gh_i ((-1) - v4) ∧ 0 ≤ (-1) - v4 ∧ ((-1) - v4) < 8))))) ∧ ∀ v2' : Int, v2' = (if (¬ (v2 = 0) ∧ (¬ (v4 ≤ 0) ∨ (¬ ((m 94 ((-1) - v4)) = 0)))) then (1:Int) else 0) → gh_i (v3 + 1) ∧ K4 v2' (v3 + 1)) ∧ (¬ (v3 < (m 89 v1)) → (v2 = 0 ∨ v2 = 1) ∧ Q v2))
def w_Model_doesEnd (v1 : Int) (m : gh_M) (Q : Int → Prop) : Prop := gh_L2 (fun K4 v2 v3 => f_Model_doesEnd_4 v1 Q m K4 v2 v3) 1 0
theorem b_Model_doesEnd_4 {E : gh_E} {v1 : Int} {Q : Int → Prop} {K4 : Int → Int → Prop} (d : Nat) {m : gh_M} (hK : ∀ (v2 : Int) (v3 : Int), gh_F m → K4 v2 v3 → gh_T E (gh_yModel_doesEnd.cls, prog_14_method_60_code, 5, false, 8) (d + 0) 4 [(0, 2, 63), (1, 0, v1), (2, 0, v2), (3, 0, v3)] [] m (fun r m1 => m1 = m ∧ Q r)) (v2 : Int) (v3 : Int) (hF : gh_F m) (h : f_Model_doesEnd_4 v1 Q m K4 v2 v3) : gh_T E (gh_yModel_doesEnd.cls, prog_14_method_60_code, 5, false, 8) (d + 0) 4 [(0, 2, 63), (1, 0, v1), (2, 0, v2), (3, 0, v3)] [] m (fun r m1 => m1 = m ∧ Q r) := by
  have hK4 := hK
  unfold f_Model_doesEnd_4 at h
  refine gh_iload_n gd_Model_doesEnd_4 3 rfl ?_
  refine gh_aload_n gd_Model_doesEnd_5 0 rfl (by decide) ?_
  refine gf_63_43 gd_Model_doesEnd_6 gh_k1410 hF ?_
  refine gh_iload_n gd_Model_doesEnd_9 1 rfl ?_
  obtain ⟨q3249, h⟩ := h
  obtain ⟨q3250, h⟩ := h
  refine la_89 gd_Model_doesEnd_10 hF q3249 q3250 rfl ?_
  obtain ⟨hA, hB⟩ := h
  refine gh_jge (tgt := 59) gd_Model_doesEnd_11 (by decide) (fun c3251 => ?_) (fun c3251 => ?_)
  · have h := hA c3251
    refine gh_aload_n gd_Model_doesEnd_14 0 rfl (by decide) ?_
    refine gf_63_44 gd_Model_doesEnd_15 gh_k1411 hF ?_
    refine gh_iconst gd_Model_doesEnd_18 (gh_r0 rfl) ?_
    refine gh_iload_n gd_Model_doesEnd_19 1 rfl ?_
    obtain ⟨q3252, h⟩ := h
    refine gh_imul gd_Model_doesEnd_20 q3252 ?_
    refine gh_iload_n gd_Model_doesEnd_21 3 rfl ?_
    obtain ⟨q3253, h⟩ := h
    refine gh_iadd gd_Model_doesEnd_22 q3253 ?_
    obtain ⟨q3254, h⟩ := h
    obtain ⟨q3255, h⟩ := h
    refine la_90 gd_Model_doesEnd_23 hF q3254 q3255 rfl ?_
    refine gh_name (fun v4 hn => ?_)
    have h := h v4 hn
    refine gh_istore (L2 := [(4, 0, v4), (0, 2, 63), (1, 0, v1), (2, 0, v2), (3, 0, v3)]) gd_Model_doesEnd_24 (by decide) rfl ?_
    refine gh_iload_n gd_Model_doesEnd_26 3 rfl ?_
    obtain ⟨hk, h⟩ := h
    have k3259 : ∀ x3260 : Int, x3260 = (if (¬ (v2 = 0) ∧ (¬ (v4 ≤ 0) ∨ (¬ ((m 94 ((-1) - v4)) = 0)))) then (1:Int) else 0) → gh_T E (gh_yModel_doesEnd.cls, prog_14_method_60_code, 5, false, 8) (d + 0) 52 [(4, 0, v4), (0, 2, 63), (1, 0, v1), (2, 0, v2), (3, 0, v3)] [(0, x3260)] m (fun r m1 => m1 = m ∧ Q r) := by
      rintro _ rfl
      refine gh_name (fun v2' hn => ?_)
      have h := h v2' hn
      refine gh_istore_n (L2 := [(2, 0, v2'), (4, 0, v4), (0, 2, 63), (1, 0, v1), (3, 0, v3)]) gd_Model_doesEnd_52 (by decide) rfl ?_
      obtain ⟨q3261, h⟩ := h
      refine gh_iinc (L2 := [(3, 0, v3 + 1), (2, 0, v2'), (4, 0, v4), (0, 2, 63), (1, 0, v1)]) gd_Model_doesEnd_53 4 rfl q3261 (by decide) rfl ?_
      refine gh_goto (tgt := 4) gd_Model_doesEnd_56 (by decide) ?_
      refine gh_pick (L2 := [(0, 2, 63), (1, 0, v1), (2, 0, v2'), (3, 0, v3 + 1)]) [3, 4, 1, 0] rfl ?_
      exact hK4 v2' (v3 + 1) hF h
    refine gh_zeq (tgt := 51) gd_Model_doesEnd_27 (by decide) (fun c3262 => ?_) (fun c3262 => ?_)
    · have hz : True := trivial
      refine gh_iconst gd_Model_doesEnd_51 (gh_r0 rfl) ?_
      exact k3259 _ (if_neg (c := (¬ (v2 = 0) ∧ (¬ (v4 ≤ 0) ∨ (¬ ((m 94 ((-1) - v4)) = 0))))) (fun z => z.1 c3262)).symm
    · have hz : True := trivial
      have hk := hk c3262
      refine gh_iload gd_Model_doesEnd_30 0 rfl ?_
      refine gh_zgt (tgt := 47) gd_Model_doesEnd_32 (by decide) (fun c3263 => ?_) (fun c3263 => ?_)
      · have hz : True := trivial
        have hk := hk c3263
        refine gh_aload_n gd_Model_doesEnd_35 1 rfl (by decide) ?_
        refine gf_63_48 gd_Model_doesEnd_36 gh_k1415 hF ?_
        refine gh_iconst gd_Model_doesEnd_39 (gh_r0 rfl) ?_
        refine gh_iload gd_Model_doesEnd_40 0 rfl ?_
        obtain ⟨q3256, hk⟩ := hk
        refine gh_isub gd_Model_doesEnd_42 q3256 ?_
        obtain ⟨q3257, hk⟩ := hk
        have q3258 := hk
        refine la_94 gd_Model_doesEnd_43 hF q3257 q3258 rfl ?_
        refine gh_zeq (tgt := 51) gd_Model_doesEnd_44 (by decide) (fun c3264 => ?_) (fun c3264 => ?_)
        · have hz : True := trivial
          refine gh_iconst gd_Model_doesEnd_51 (gh_r0 rfl) ?_
          exact k3259 _ (if_neg (c := (¬ (v2 = 0) ∧ (¬ (v4 ≤ 0) ∨ (¬ ((m 94 ((-1) - v4)) = 0))))) (fun z => (fun z => z.elim (fun w => w c3263) (not_not_intro c3264)) z.2)).symm
        · have hz : True := trivial
          refine gh_iconst gd_Model_doesEnd_47 (gh_r0 rfl) ?_
          refine gh_goto (tgt := 52) gd_Model_doesEnd_48 (by decide) ?_
          exact k3259 _ (if_pos (c := (¬ (v2 = 0) ∧ (¬ (v4 ≤ 0) ∨ (¬ ((m 94 ((-1) - v4)) = 0))))) ⟨c3262, (Or.inr c3264)⟩).symm
      · have hz : True := trivial
        refine gh_iconst gd_Model_doesEnd_47 (gh_r0 rfl) ?_
        refine gh_goto (tgt := 52) gd_Model_doesEnd_48 (by decide) ?_
        exact k3259 _ (if_pos (c := (¬ (v2 = 0) ∧ (¬ (v4 ≤ 0) ∨ (¬ ((m 94 ((-1) - v4)) = 0))))) ⟨c3262, (Or.inl c3263)⟩).symm
  · have h := hB c3251
    refine gh_iload_n gd_Model_doesEnd_59 2 rfl ?_
    obtain ⟨q3265, h⟩ := h
    exact gh_ret8 rfl gd_Model_doesEnd_60 q3265 ⟨rfl, h⟩
theorem s_Model_doesEnd {E : gh_E} {m : gh_M} {Q : Int → Prop} (d : Nat) (v1 : Int) (hF : gh_F m) (h : w_Model_doesEnd v1 m Q) : gh_C E gh_yModel_doesEnd prog_14_method_60_code 5 (some .boolean) 8 (d + 0) [(2, 63), (0, v1)] m (fun r m1 => m1 = m ∧ Q r) := by
  refine gh_enter2 (L := [(0, 2, 63), (1, 0, v1)]) (by decide +kernel) gh_rt8 (Nat.le_of_ble_eq_true rfl) rfl rfl ?_
  unfold w_Model_doesEnd at h
  refine gh_iconst gd_Model_doesEnd_0 (gh_r0 rfl) ?_
  refine gh_istore_n (L2 := [(2, 0, 1), (0, 2, 63), (1, 0, v1)]) gd_Model_doesEnd_1 (by decide) rfl ?_
  refine gh_iconst gd_Model_doesEnd_2 (gh_r0 rfl) ?_
  refine gh_istore_n (L2 := [(3, 0, 0), (2, 0, 1), (0, 2, 63), (1, 0, v1)]) gd_Model_doesEnd_3 (by decide) rfl ?_
  refine gh_pick (L2 := [(0, 2, 63), (1, 0, v1), (2, 0, 1), (3, 0, 0)]) [2, 3, 1, 0] rfl ?_
  exact gh_L2_sound (T := fun v2 v3 => gh_T E (gh_yModel_doesEnd.cls, prog_14_method_60_code, 5, false, 8) (d + 0) 4 [(0, 2, 63), (1, 0, v1), (2, 0, v2), (3, 0, v3)] [] m (fun r m1 => m1 = m ∧ Q r)) (fun _ _ => gh_F m) (fun K4 v2 v3 hK hF h => b_Model_doesEnd_4 d hK v2 v3 hF h) 1 0 hF h
def f_Model_findProper_41 (v1 : Int) (K31 : Int → gh_M → Prop) (K41 : Int → gh_M → Prop) (v2 : Int) (m : gh_M) : Prop := gh_i (320 * (m 63 26)) ∧ ((v2 < (320 * (m 63 26)) → 0 ≤ v2 ∧ 0 ≤ v2 ∧ 0 ≤ v2 / 320 ∧ (v2 / 320) < 8 ∧ ∃ J101 : Int → Int → Int → Prop, (∀ (y2 : Int) (y1 : Int) (z2 : Int), J101 y2 y1 z2 → 0 ≤ y1 ∧ y1 < 8 ∧ (y2 = 0 ∨ y2 = 1) ∧ gh_i (v2 + 1) ∧ K41 (v2 + 1) (gh_u m 94 y1 y2)) ∧ ∃ J96 : Int → Int → Prop, (∀ (y1 : Int) (z1 : Int), J96 y1 z1 → J101 1 y1 94) ∧ (((m 94 (v2 / 320)) = 0 → 0 ≤ v2 ∧ v2 < 2560 ∧ ∃ J100 : Int → Int → Prop, (∀ (y1 : Int) (z1 : Int), J100 y1 z1 → J101 0 y1 94) ∧ (((m 92 v2) = 0 → J100 (v2 / 320) 94) ∧ (¬ ((m 92 v2) = 0) → 0 ≤ v2 ∧ w_Model_doesEnd (v2 % 320) m (fun r3290 => ((r3290 = 0 → J100 (v2 / 320) 94) ∧ (¬ (r3290 = 0) → J96 (v2 / 320) 94)))))) ∧ (¬ ((m 94 (v2 / 320)) = 0) → J96 (v2 / 320) 94))) ∧ (¬ (v2 < (320 * (m 63 26))) → gh_i (v1 + 1) ∧ K31 (v1 + 1) m))
def f_Model_findProper_178 (v1 : Int) (v2 : Int) (K164 : Int → gh_M → Prop) (K178 : Int → gh_M → Prop) (v3 : Int) (m : gh_M) : Prop := 0 ≤ v2 ∧ v2 < 2560 ∧ ∃ J263 : gh_M → Prop, (∀ (m : gh_M), J263 m → gh_i (v2 + 1) ∧ K164 (v2 + 1) m) ∧ ((¬ ((m 92 v2) = 0) → (0 ≤ v2 ∧ 0 ≤ v2 / 320 ∧ (v2 / 320) < 8 ∧ (¬ ((m 95 (v2 / 320)) = 0) → (0 ≤ v2 ∧ 0 ≤ v2 % 320 ∧ (v2 % 320) < 320))))) ∧ (((((m 92 v2) = 0) ∨ (((m 95 (v2 / 320)) = 0) ∨ (¬ (v3 < (m 89 (v2 % 320)))))) → J263 m) ∧ (¬ (((m 92 v2) = 0) ∨ (((m 95 (v2 / 320)) = 0) ∨ (¬ (v3 < (m 89 (v2 % 320)))))) → 0 ≤ v2 ∧ w_Model_doesEnd (v2 % 320) m (fun r3317 => ((r3317 = 0 → J263 m) ∧ (¬ (r3317 = 0) → 0 ≤ v2 ∧ gh_i (4 * (v2 % 320)) ∧ gh_i ((4 * (v2 % 320)) + v3) ∧ 0 ≤ (4 * (v2 % 320)) + v3 ∧ ((4 * (v2 % 320)) + v3) < 1280 ∧ ∀ v4 : Int, v4 = m 90 ((4 * (v2 % 320)) + v3) → ∃ J257 : gh_M → Prop, (∀ (m : gh_M), J257 m → gh_i (v3 + 1) ∧ K178 (v3 + 1) m) ∧ ((v4 < 0 → gh_i ((-1) - v4) ∧ 0 ≤ (-1) - v4 ∧ ((-1) - v4) < 8 ∧ J257 (gh_u m 95 ((-1) - v4) 1)) ∧ (¬ (v4 < 0) → J257 m)))))))
def f_Model_findProper_164 (v1 : Int) (K154 : Int → gh_M → Prop) (K164 : Int → gh_M → Prop) (v2 : Int) (m : gh_M) : Prop := gh_i (320 * (m 63 26)) ∧ ((v2 < (320 * (m 63 26)) → gh_M1 (fun K178 v3 m => f_Model_findProper_178 v1 v2 K164 K178 v3 m) 0 m) ∧ (¬ (v2 < (320 * (m 63 26))) → gh_i (v1 + 1) ∧ K154 (v1 + 1) m))
def f_Model_findProper_277 (Q : Int → gh_M → Prop) (K277 : Int → gh_M → Prop) (v1 : Int) (m : gh_M) : Prop := ((v1 < 2560 → 0 ≤ v1 ∧ v1 < 2560 ∧ ∃ J328 : Int → Int → Int → Prop, (∀ (y2 : Int) (y1 : Int) (z2 : Int), J328 y2 y1 z2 → 0 ≤ y1 ∧ y1 < 2560 ∧ (y2 = 0 ∨ y2 = 1) ∧ gh_i (v1 + 1) ∧ K277 (v1 + 1) (gh_u m 92 y1 y2)) ∧ ∃ J327 : Int → Int → Prop, (∀ (y1 : Int) (z1 : Int), J327 y1 z1 → J328 0 y1 92) ∧ ((¬ ((m 92 v1) = 0) → (0 ≤ v1 ∧ 0 ≤ v1 / 320 ∧ (v1 / 320) < 8))) ∧ (((((m 92 v1) = 0) ∨ ((m 95 (v1 / 320)) = 0)) → J327 v1 92) ∧ (¬ (((m 92 v1) = 0) ∨ ((m 95 (v1 / 320)) = 0)) → 0 ≤ v1 ∧ w_Model_doesEnd (v1 % 320) m (fun r3347 => ((r3347 = 0 → J327 v1 92) ∧ (¬ (r3347 = 0) → J328 1 v1 92)))))) ∧ (¬ (v1 < 2560) → Q 0 m))
def f_Model_findProper_154 (Q : Int → gh_M → Prop) (K154 : Int → gh_M → Prop) (v1 : Int) (m : gh_M) : Prop := ((v1 < (m 63 26) → gh_M1 (fun K164 v2 m => f_Model_findProper_164 v1 K154 K164 v2 m) 0 m) ∧ (¬ (v1 < (m 63 26)) → gh_M1 (fun K277 v1 m => f_Model_findProper_277 Q K277 v1 m) 0 m))
def f_Model_findProper_116 (Q : Int → gh_M → Prop) (K116 : Int → gh_M → Prop) (v1 : Int) (m : gh_M) : Prop := ((v1 < 8 → 0 ≤ v1 ∧ v1 < 8 ∧ gh_i (v1 + 1) ∧ K116 (v1 + 1) (gh_u m 95 v1 (if ((v1 = 0) ∧ (¬ ((m 94 0) = 0))) then (1:Int) else 0))) ∧ (¬ (v1 < 8) → gh_M1 (fun K154 v1 m => f_Model_findProper_154 Q K154 v1 m) 0 m))
def f_Model_findProper_31 (Q : Int → gh_M → Prop) (K31 : Int → gh_M → Prop) (v1 : Int) (m : gh_M) : Prop := ((v1 < (m 63 26) → gh_M1 (fun K41 v2 m => f_Model_findProper_41 v1 K31 K41 v2 m) 0 m) ∧ (¬ (v1 < (m 63 26)) → gh_M1 (fun K116 v1 m => f_Model_findProper_116 Q K116 v1 m) 0 m))
def f_Model_findProper_10 (Q : Int → gh_M → Prop) (K10 : Int → gh_M → Prop) (v1 : Int) (m : gh_M) : Prop := ((v1 < 8 → 0 ≤ v1 ∧ v1 < 8 ∧ gh_i (v1 + 1) ∧ K10 (v1 + 1) (gh_u m 94 v1 0)) ∧ (¬ (v1 < 8) → gh_M1 (fun K31 v1 m => f_Model_findProper_31 Q K31 v1 m) 0 m))
def w_Model_findProper (m : gh_M) (Q : Int → gh_M → Prop) : Prop := w_Model_layRows m (fun _ m3267 => w_Model_goOver m3267 (fun _ m3269 => gh_M1 (fun K10 v1 m => f_Model_findProper_10 Q K10 v1 m) 0 m3269))
theorem b_Model_findProper_41 {E : gh_E} {v1 : Int} {K31 : Int → gh_M → Prop} {Q : Int → gh_M → Prop} {K41 : Int → gh_M → Prop} (d : Nat) (hK31 : ∀ (v1 : Int) (m : gh_M), gh_F m → K31 v1 m → gh_T E (gh_yModel_findProper.cls, prog_14_method_63_code, 5, false, 9) (d + 2) 31 [(0, 2, 63), (1, 0, v1)] [] m (fun r m1 => gh_F m1 ∧ Q r m1)) (hK : ∀ (v2 : Int) (m : gh_M), gh_F m → K41 v2 m → gh_T E (gh_yModel_findProper.cls, prog_14_method_63_code, 5, false, 9) (d + 2) 41 [(0, 2, 63), (1, 0, v1), (2, 0, v2)] [] m (fun r m1 => gh_F m1 ∧ Q r m1)) (v2 : Int) (m : gh_M) (hF : gh_F m) (h : f_Model_findProper_41 v1 K31 K41 v2 m) : gh_T E (gh_yModel_findProper.cls, prog_14_method_63_code, 5, false, 9) (d + 2) 41 [(0, 2, 63), (1, 0, v1), (2, 0, v2)] [] m (fun r m1 => gh_F m1 ∧ Q r m1) := by
  have hK41 := hK
  unfold f_Model_findProper_41 at h
  refine gh_iload_n gd_Model_findProper_41 2 rfl ?_
  refine gh_sipush gd_Model_findProper_42 (by decide) (gh_r0 rfl) ?_
  refine gh_aload_n gd_Model_findProper_45 0 rfl (by decide) ?_
  refine gf_63_26 gd_Model_findProper_46 gh_k1393 hF rfl ?_
  obtain ⟨q3275, h⟩ := h
  refine gh_imul gd_Model_findProper_49 q3275 ?_
  obtain ⟨hA, hB⟩ := h
  refine gh_jge (tgt := 108) gd_Model_findProper_50 (by decide) (fun c3276 => ?_) (fun c3276 => ?_)
  · have h := hA c3276
    refine gh_aload_n gd_Model_findProper_53 0 rfl (by decide) ?_
    refine gf_63_48 gd_Model_findProper_54 gh_k1415 hF ?_
    refine gh_iload_n gd_Model_findProper_57 2 rfl ?_
    refine gh_sipush gd_Model_findProper_58 (by decide) (gh_r0 rfl) ?_
    obtain ⟨q3277, h⟩ := h
    refine gh_idiv gd_Model_findProper_61 q3277 (by decide) ?_
    refine gh_aload_n gd_Model_findProper_62 0 rfl (by decide) ?_
    refine gf_63_48 gd_Model_findProper_63 gh_k1415 hF ?_
    refine gh_iload_n gd_Model_findProper_66 2 rfl ?_
    refine gh_sipush gd_Model_findProper_67 (by decide) (gh_r0 rfl) ?_
    obtain ⟨q3278, h⟩ := h
    refine gh_idiv gd_Model_findProper_70 q3278 (by decide) ?_
    obtain ⟨q3279, h⟩ := h
    obtain ⟨q3280, h⟩ := h
    refine la_94 gd_Model_findProper_71 hF q3279 q3280 rfl ?_
    obtain ⟨J101, hJ101, h⟩ := h
    have hJ101 : ∀ (y2 : Int) (y1 : Int) (z2 : Int), gh_F m → J101 y2 y1 z2 → gh_T E (gh_yModel_findProper.cls, prog_14_method_63_code, 5, false, 9) (d + 2) 101 [(0, 2, 63), (1, 0, v1), (2, 0, v2)] [(0, y2), (0, y1), (2, 94)] m (fun r m1 => gh_F m1 ∧ Q r m1) := by
      intro y2 y1 z2 hF hj
      have h := hJ101 y2 y1 z2 hj
      obtain ⟨q3281, h⟩ := h
      obtain ⟨q3282, h⟩ := h
      obtain ⟨q3283, h⟩ := h
      refine sa_94 gd_Model_findProper_101 hF q3281 q3282 q3283 (fun hF => ?_)
      obtain ⟨q3284, h⟩ := h
      refine gh_iinc (L2 := [(2, 0, v2 + 1), (0, 2, 63), (1, 0, v1)]) gd_Model_findProper_102 2 rfl q3284 (by decide) rfl ?_
      refine gh_goto (tgt := 41) gd_Model_findProper_105 (by decide) ?_
      refine gh_pick (L2 := [(0, 2, 63), (1, 0, v1), (2, 0, v2 + 1)]) [1, 2, 0] rfl ?_
      exact hK41 (v2 + 1) (gh_u m 94 y1 y2) hF h
    obtain ⟨J96, hJ96, h⟩ := h
    have hJ96 : ∀ (y1 : Int) (z1 : Int), gh_F m → J96 y1 z1 → gh_T E (gh_yModel_findProper.cls, prog_14_method_63_code, 5, false, 9) (d + 2) 96 [(0, 2, 63), (1, 0, v1), (2, 0, v2)] [(0, y1), (2, 94)] m (fun r m1 => gh_F m1 ∧ Q r m1) := by
      intro y1 z1 hF hj
      have h := hJ96 y1 z1 hj
      refine gh_iconst gd_Model_findProper_96 (gh_r0 rfl) ?_
      refine gh_goto (tgt := 101) gd_Model_findProper_97 (by decide) ?_
      exact hJ101 1 y1 94 hF h
    obtain ⟨hA, hB⟩ := h
    refine gh_zne (tgt := 96) gd_Model_findProper_72 (by decide) (fun c3285 => ?_) (fun c3285 => ?_)
    · have h := hA c3285
      refine gh_aload_n gd_Model_findProper_75 0 rfl (by decide) ?_
      refine gf_63_46 gd_Model_findProper_76 gh_k1413 hF ?_
      refine gh_iload_n gd_Model_findProper_79 2 rfl ?_
      obtain ⟨q3286, h⟩ := h
      obtain ⟨q3287, h⟩ := h
      refine la_92 gd_Model_findProper_80 hF q3286 q3287 rfl ?_
      obtain ⟨J100, hJ100, h⟩ := h
      have hJ100 : ∀ (y1 : Int) (z1 : Int), gh_F m → J100 y1 z1 → gh_T E (gh_yModel_findProper.cls, prog_14_method_63_code, 5, false, 9) (d + 2) 100 [(0, 2, 63), (1, 0, v1), (2, 0, v2)] [(0, y1), (2, 94)] m (fun r m1 => gh_F m1 ∧ Q r m1) := by
        intro y1 z1 hF hj
        have h := hJ100 y1 z1 hj
        refine gh_iconst gd_Model_findProper_100 (gh_r0 rfl) ?_
        exact hJ101 0 y1 94 hF h
      obtain ⟨hA, hB⟩ := h
      refine gh_zeq (tgt := 100) gd_Model_findProper_81 (by decide) (fun c3288 => ?_) (fun c3288 => ?_)
      · have h := hA c3288
        exact hJ100 (v2 / 320) 94 hF h
      · have h := hB c3288
        refine gh_aload_n gd_Model_findProper_84 0 rfl (by decide) ?_
        refine gh_iload_n gd_Model_findProper_85 2 rfl ?_
        refine gh_sipush gd_Model_findProper_86 (by decide) (gh_r0 rfl) ?_
        obtain ⟨q3289, h⟩ := h
        refine gh_irem gd_Model_findProper_89 q3289 (by decide) ?_
        refine cv_Model_doesEnd (d := d + 1) gd_Model_findProper_90 gh_k1797 hF (Nat.le_of_ble_eq_true rfl) (gh_C.pw (s_Model_doesEnd (d + 1) (v2 % 320) hF h) (fun r3290 h => ?_))
        obtain ⟨hA, hB⟩ := h
        refine gh_zeq (tgt := 100) gd_Model_findProper_93 (by decide) (fun c3292 => ?_) (fun c3292 => ?_)
        · have h := hA c3292
          exact hJ100 (v2 / 320) 94 hF h
        · have h := hB c3292
          exact hJ96 (v2 / 320) 94 hF h
    · have h := hB c3285
      exact hJ96 (v2 / 320) 94 hF h
  · have h := hB c3276
    obtain ⟨q3293, h⟩ := h
    refine gh_iinc (L2 := [(1, 0, v1 + 1), (0, 2, 63), (2, 0, v2)]) gd_Model_findProper_108 1 rfl q3293 (by decide) rfl ?_
    refine gh_goto (tgt := 31) gd_Model_findProper_111 (by decide) ?_
    refine gh_pick (L2 := [(0, 2, 63), (1, 0, v1 + 1)]) [1, 0] rfl ?_
    exact hK31 (v1 + 1) m hF h
theorem b_Model_findProper_178 {E : gh_E} {v1 : Int} {v2 : Int} {K164 : Int → gh_M → Prop} {Q : Int → gh_M → Prop} {K178 : Int → gh_M → Prop} (d : Nat) (hK164 : ∀ (v2 : Int) (m : gh_M), gh_F m → K164 v2 m → gh_T E (gh_yModel_findProper.cls, prog_14_method_63_code, 5, false, 9) (d + 2) 164 [(0, 2, 63), (1, 0, v1), (2, 0, v2)] [] m (fun r m1 => gh_F m1 ∧ Q r m1)) (hK : ∀ (v3 : Int) (m : gh_M), gh_F m → K178 v3 m → gh_T E (gh_yModel_findProper.cls, prog_14_method_63_code, 5, false, 9) (d + 2) 178 [(0, 2, 63), (1, 0, v1), (2, 0, v2), (3, 0, v3)] [] m (fun r m1 => gh_F m1 ∧ Q r m1)) (v3 : Int) (m : gh_M) (hF : gh_F m) (h : f_Model_findProper_178 v1 v2 K164 K178 v3 m) : gh_T E (gh_yModel_findProper.cls, prog_14_method_63_code, 5, false, 9) (d + 2) 178 [(0, 2, 63), (1, 0, v1), (2, 0, v2), (3, 0, v3)] [] m (fun r m1 => gh_F m1 ∧ Q r m1) := by
  have hK178 := hK
  unfold f_Model_findProper_178 at h
  refine gh_aload_n gd_Model_findProper_178 0 rfl (by decide) ?_
  refine gf_63_46 gd_Model_findProper_179 gh_k1413 hF ?_
  refine gh_iload_n gd_Model_findProper_182 2 rfl ?_
  obtain ⟨q3305, h⟩ := h
  obtain ⟨q3306, h⟩ := h
  refine la_92 gd_Model_findProper_183 hF q3305 q3306 rfl ?_
  obtain ⟨J263, hJ263, h⟩ := h
  have hJ263 : ∀ (m : gh_M), gh_F m → J263 m → gh_T E (gh_yModel_findProper.cls, prog_14_method_63_code, 5, false, 9) (d + 2) 263 [(0, 2, 63), (1, 0, v1), (2, 0, v2)] [] m (fun r m1 => gh_F m1 ∧ Q r m1) := by
    intro m hF hj
    have h := hJ263 m hj
    obtain ⟨q3307, h⟩ := h
    refine gh_iinc (L2 := [(2, 0, v2 + 1), (0, 2, 63), (1, 0, v1)]) gd_Model_findProper_263 2 rfl q3307 (by decide) rfl ?_
    refine gh_goto (tgt := 164) gd_Model_findProper_266 (by decide) ?_
    refine gh_pick (L2 := [(0, 2, 63), (1, 0, v1), (2, 0, v2 + 1)]) [1, 2, 0] rfl ?_
    exact hK164 (v2 + 1) m hF h
  obtain ⟨hk, hA, hB⟩ := h
  have k3314 : (((m 92 v2) = 0) ∨ (((m 95 (v2 / 320)) = 0) ∨ (¬ (v3 < (m 89 (v2 % 320)))))) → gh_T E (gh_yModel_findProper.cls, prog_14_method_63_code, 5, false, 9) (d + 2) 263 [(0, 2, 63), (1, 0, v1), (2, 0, v2), (3, 0, v3)] [] m (fun r m1 => gh_F m1 ∧ Q r m1) := by
    intro c
    have h := hA c
    refine gh_pick (L2 := [(0, 2, 63), (1, 0, v1), (2, 0, v2)]) [0, 1, 2] rfl ?_
    exact hJ263 m hF h
  have k3315 : ¬ (((m 92 v2) = 0) ∨ (((m 95 (v2 / 320)) = 0) ∨ (¬ (v3 < (m 89 (v2 % 320)))))) → gh_T E (gh_yModel_findProper.cls, prog_14_method_63_code, 5, false, 9) (d + 2) 214 [(0, 2, 63), (1, 0, v1), (2, 0, v2), (3, 0, v3)] [] m (fun r m1 => gh_F m1 ∧ Q r m1) := by
    intro c
    have h := hB c
    refine gh_aload_n gd_Model_findProper_214 0 rfl (by decide) ?_
    refine gh_iload_n gd_Model_findProper_215 2 rfl ?_
    refine gh_sipush gd_Model_findProper_216 (by decide) (gh_r0 rfl) ?_
    obtain ⟨q3316, h⟩ := h
    refine gh_irem gd_Model_findProper_219 q3316 (by decide) ?_
    refine cv_Model_doesEnd (d := d + 1) gd_Model_findProper_220 gh_k1797 hF (Nat.le_of_ble_eq_true rfl) (gh_C.pw (s_Model_doesEnd (d + 1) (v2 % 320) hF h) (fun r3317 h => ?_))
    obtain ⟨hA, hB⟩ := h
    refine gh_zeq (tgt := 263) gd_Model_findProper_223 (by decide) (fun c3319 => ?_) (fun c3319 => ?_)
    · have h := hA c3319
      refine gh_pick (L2 := [(0, 2, 63), (1, 0, v1), (2, 0, v2)]) [0, 1, 2] rfl ?_
      exact hJ263 m hF h
    · have h := hB c3319
      refine gh_aload_n gd_Model_findProper_226 0 rfl (by decide) ?_
      refine gf_63_44 gd_Model_findProper_227 gh_k1411 hF ?_
      refine gh_iconst gd_Model_findProper_230 (gh_r0 rfl) ?_
      refine gh_iload_n gd_Model_findProper_231 2 rfl ?_
      refine gh_sipush gd_Model_findProper_232 (by decide) (gh_r0 rfl) ?_
      obtain ⟨q3320, h⟩ := h
      refine gh_irem gd_Model_findProper_235 q3320 (by decide) ?_
      obtain ⟨q3321, h⟩ := h
      refine gh_imul gd_Model_findProper_236 q3321 ?_
      refine gh_iload_n gd_Model_findProper_237 3 rfl ?_
      obtain ⟨q3322, h⟩ := h
      refine gh_iadd gd_Model_findProper_238 q3322 ?_
      obtain ⟨q3323, h⟩ := h
      obtain ⟨q3324, h⟩ := h
      refine la_90 gd_Model_findProper_239 hF q3323 q3324 rfl ?_
      refine gh_name (fun v4 hn => ?_)
      have h := h v4 hn
      refine gh_istore (L2 := [(4, 0, v4), (0, 2, 63), (1, 0, v1), (2, 0, v2), (3, 0, v3)]) gd_Model_findProper_240 (by decide) rfl ?_
      refine gh_iload gd_Model_findProper_242 0 rfl ?_
      obtain ⟨J257, hJ257, h⟩ := h
      have hJ257 : ∀ (m : gh_M), gh_F m → J257 m → gh_T E (gh_yModel_findProper.cls, prog_14_method_63_code, 5, false, 9) (d + 2) 257 [(0, 2, 63), (1, 0, v1), (2, 0, v2), (3, 0, v3)] [] m (fun r m1 => gh_F m1 ∧ Q r m1) := by
        intro m hF hj
        have h := hJ257 m hj
        obtain ⟨q3325, h⟩ := h
        refine gh_iinc (L2 := [(3, 0, v3 + 1), (0, 2, 63), (1, 0, v1), (2, 0, v2)]) gd_Model_findProper_257 3 rfl q3325 (by decide) rfl ?_
        refine gh_goto (tgt := 178) gd_Model_findProper_260 (by decide) ?_
        refine gh_pick (L2 := [(0, 2, 63), (1, 0, v1), (2, 0, v2), (3, 0, v3 + 1)]) [1, 2, 3, 0] rfl ?_
        exact hK178 (v3 + 1) m hF h
      obtain ⟨hA, hB⟩ := h
      refine gh_zge (tgt := 257) gd_Model_findProper_244 (by decide) (fun c3326 => ?_) (fun c3326 => ?_)
      · have h := hA c3326
        refine gh_aload_n gd_Model_findProper_247 1 rfl (by decide) ?_
        refine gf_63_49 gd_Model_findProper_248 gh_k1416 hF ?_
        refine gh_iconst gd_Model_findProper_251 (gh_r0 rfl) ?_
        refine gh_iload gd_Model_findProper_252 0 rfl ?_
        obtain ⟨q3327, h⟩ := h
        refine gh_isub gd_Model_findProper_254 q3327 ?_
        refine gh_iconst gd_Model_findProper_255 (gh_r0 rfl) ?_
        obtain ⟨q3328, h⟩ := h
        obtain ⟨q3329, h⟩ := h
        refine sa_95 gd_Model_findProper_256 hF q3328 q3329 (by decide) (fun hF => ?_)
        refine gh_pick (L2 := [(0, 2, 63), (1, 0, v1), (2, 0, v2), (3, 0, v3)]) [1, 2, 3, 4] rfl ?_
        exact hJ257 (gh_u m 95 ((-1) - v4) 1) hF h
      · have h := hB c3326
        refine gh_pick (L2 := [(0, 2, 63), (1, 0, v1), (2, 0, v2), (3, 0, v3)]) [1, 2, 3, 4] rfl ?_
        exact hJ257 m hF h
  refine gh_zeq (tgt := 263) gd_Model_findProper_184 (by decide) (fun c3330 => ?_) (fun c3330 => ?_)
  · have hz : True := trivial
    exact k3314 (Or.inl c3330)
  · have hz : True := trivial
    have hk := hk c3330
    refine gh_aload_n gd_Model_findProper_187 0 rfl (by decide) ?_
    refine gf_63_49 gd_Model_findProper_188 gh_k1416 hF ?_
    refine gh_iload_n gd_Model_findProper_191 2 rfl ?_
    refine gh_sipush gd_Model_findProper_192 (by decide) (gh_r0 rfl) ?_
    obtain ⟨q3308, hk⟩ := hk
    refine gh_idiv gd_Model_findProper_195 q3308 (by decide) ?_
    obtain ⟨q3309, hk⟩ := hk
    obtain ⟨q3310, hk⟩ := hk
    refine la_95 gd_Model_findProper_196 hF q3309 q3310 rfl ?_
    refine gh_zeq (tgt := 263) gd_Model_findProper_197 (by decide) (fun c3331 => ?_) (fun c3331 => ?_)
    · have hz : True := trivial
      exact k3314 (Or.inr (Or.inl c3331))
    · have hz : True := trivial
      have hk := hk c3331
      refine gh_iload_n gd_Model_findProper_200 3 rfl ?_
      refine gh_aload_n gd_Model_findProper_201 0 rfl (by decide) ?_
      refine gf_63_43 gd_Model_findProper_202 gh_k1410 hF ?_
      refine gh_iload_n gd_Model_findProper_205 2 rfl ?_
      refine gh_sipush gd_Model_findProper_206 (by decide) (gh_r0 rfl) ?_
      obtain ⟨q3311, hk⟩ := hk
      refine gh_irem gd_Model_findProper_209 q3311 (by decide) ?_
      obtain ⟨q3312, hk⟩ := hk
      have q3313 := hk
      refine la_89 gd_Model_findProper_210 hF q3312 q3313 rfl ?_
      refine gh_jge (tgt := 263) gd_Model_findProper_211 (by decide) (fun c3332 => ?_) (fun c3332 => ?_)
      · have hz : True := trivial
        exact k3315 (fun z => z.elim c3330 (fun z => z.elim c3331 (not_not_intro c3332)))
      · have hz : True := trivial
        exact k3314 (Or.inr (Or.inr c3332))
theorem b_Model_findProper_164 {E : gh_E} {v1 : Int} {K154 : Int → gh_M → Prop} {Q : Int → gh_M → Prop} {K164 : Int → gh_M → Prop} (d : Nat) (hK154 : ∀ (v1 : Int) (m : gh_M), gh_F m → K154 v1 m → gh_T E (gh_yModel_findProper.cls, prog_14_method_63_code, 5, false, 9) (d + 2) 154 [(0, 2, 63), (1, 0, v1)] [] m (fun r m1 => gh_F m1 ∧ Q r m1)) (hK : ∀ (v2 : Int) (m : gh_M), gh_F m → K164 v2 m → gh_T E (gh_yModel_findProper.cls, prog_14_method_63_code, 5, false, 9) (d + 2) 164 [(0, 2, 63), (1, 0, v1), (2, 0, v2)] [] m (fun r m1 => gh_F m1 ∧ Q r m1)) (v2 : Int) (m : gh_M) (hF : gh_F m) (h : f_Model_findProper_164 v1 K154 K164 v2 m) : gh_T E (gh_yModel_findProper.cls, prog_14_method_63_code, 5, false, 9) (d + 2) 164 [(0, 2, 63), (1, 0, v1), (2, 0, v2)] [] m (fun r m1 => gh_F m1 ∧ Q r m1) := by
  have hK164 := hK
  unfold f_Model_findProper_164 at h
  refine gh_iload_n gd_Model_findProper_164 2 rfl ?_
  refine gh_sipush gd_Model_findProper_165 (by decide) (gh_r0 rfl) ?_
  refine gh_aload_n gd_Model_findProper_168 0 rfl (by decide) ?_
  refine gf_63_26 gd_Model_findProper_169 gh_k1393 hF rfl ?_
  obtain ⟨q3303, h⟩ := h
  refine gh_imul gd_Model_findProper_172 q3303 ?_
  obtain ⟨hA, hB⟩ := h
  refine gh_jge (tgt := 269) gd_Model_findProper_173 (by decide) (fun c3304 => ?_) (fun c3304 => ?_)
  · have h := hA c3304
    refine gh_iconst gd_Model_findProper_176 (gh_r0 rfl) ?_
    refine gh_istore_n (L2 := [(3, 0, 0), (0, 2, 63), (1, 0, v1), (2, 0, v2)]) gd_Model_findProper_177 (by decide) rfl ?_
    refine gh_pick (L2 := [(0, 2, 63), (1, 0, v1), (2, 0, v2), (3, 0, 0)]) [1, 2, 3, 0] rfl ?_
    exact gh_M1_sound (T := fun v3 m => gh_T E (gh_yModel_findProper.cls, prog_14_method_63_code, 5, false, 9) (d + 2) 178 [(0, 2, 63), (1, 0, v1), (2, 0, v2), (3, 0, v3)] [] m (fun r m1 => gh_F m1 ∧ Q r m1)) (fun _ m => gh_F m) (fun K178 v3 m hK hF h => b_Model_findProper_178 d hK164 hK v3 m hF h) 0 m hF h
  · have h := hB c3304
    obtain ⟨q3333, h⟩ := h
    refine gh_iinc (L2 := [(1, 0, v1 + 1), (0, 2, 63), (2, 0, v2)]) gd_Model_findProper_269 1 rfl q3333 (by decide) rfl ?_
    refine gh_goto (tgt := 154) gd_Model_findProper_272 (by decide) ?_
    refine gh_pick (L2 := [(0, 2, 63), (1, 0, v1 + 1)]) [1, 0] rfl ?_
    exact hK154 (v1 + 1) m hF h
theorem b_Model_findProper_277 {E : gh_E} {Q : Int → gh_M → Prop} {K277 : Int → gh_M → Prop} (d : Nat) (hK : ∀ (v1 : Int) (m : gh_M), gh_F m → K277 v1 m → gh_T E (gh_yModel_findProper.cls, prog_14_method_63_code, 5, false, 9) (d + 2) 277 [(0, 2, 63), (1, 0, v1)] [] m (fun r m1 => gh_F m1 ∧ Q r m1)) (v1 : Int) (m : gh_M) (hF : gh_F m) (h : f_Model_findProper_277 Q K277 v1 m) : gh_T E (gh_yModel_findProper.cls, prog_14_method_63_code, 5, false, 9) (d + 2) 277 [(0, 2, 63), (1, 0, v1)] [] m (fun r m1 => gh_F m1 ∧ Q r m1) := by
  have hK277 := hK
  unfold f_Model_findProper_277 at h
  refine gh_iload_n gd_Model_findProper_277 1 rfl ?_
  refine gh_sipush gd_Model_findProper_278 (by decide) (gh_r0 rfl) ?_
  obtain ⟨hA, hB⟩ := h
  refine gh_jge (tgt := 335) gd_Model_findProper_281 (by decide) (fun c3334 => ?_) (fun c3334 => ?_)
  · have h := hA c3334
    refine gh_aload_n gd_Model_findProper_284 0 rfl (by decide) ?_
    refine gf_63_46 gd_Model_findProper_285 gh_k1413 hF ?_
    refine gh_iload_n gd_Model_findProper_288 1 rfl ?_
    refine gh_aload_n gd_Model_findProper_289 0 rfl (by decide) ?_
    refine gf_63_46 gd_Model_findProper_290 gh_k1413 hF ?_
    refine gh_iload_n gd_Model_findProper_293 1 rfl ?_
    obtain ⟨q3335, h⟩ := h
    obtain ⟨q3336, h⟩ := h
    refine la_92 gd_Model_findProper_294 hF q3335 q3336 rfl ?_
    obtain ⟨J328, hJ328, h⟩ := h
    have hJ328 : ∀ (y2 : Int) (y1 : Int) (z2 : Int), gh_F m → J328 y2 y1 z2 → gh_T E (gh_yModel_findProper.cls, prog_14_method_63_code, 5, false, 9) (d + 2) 328 [(0, 2, 63), (1, 0, v1)] [(0, y2), (0, y1), (2, 92)] m (fun r m1 => gh_F m1 ∧ Q r m1) := by
      intro y2 y1 z2 hF hj
      have h := hJ328 y2 y1 z2 hj
      obtain ⟨q3337, h⟩ := h
      obtain ⟨q3338, h⟩ := h
      obtain ⟨q3339, h⟩ := h
      refine sa_92 gd_Model_findProper_328 hF q3337 q3338 q3339 (fun hF => ?_)
      obtain ⟨q3340, h⟩ := h
      refine gh_iinc (L2 := [(1, 0, v1 + 1), (0, 2, 63)]) gd_Model_findProper_329 1 rfl q3340 (by decide) rfl ?_
      refine gh_goto (tgt := 277) gd_Model_findProper_332 (by decide) ?_
      refine gh_pick (L2 := [(0, 2, 63), (1, 0, v1 + 1)]) [1, 0] rfl ?_
      exact hK277 (v1 + 1) (gh_u m 92 y1 y2) hF h
    obtain ⟨J327, hJ327, h⟩ := h
    have hJ327 : ∀ (y1 : Int) (z1 : Int), gh_F m → J327 y1 z1 → gh_T E (gh_yModel_findProper.cls, prog_14_method_63_code, 5, false, 9) (d + 2) 327 [(0, 2, 63), (1, 0, v1)] [(0, y1), (2, 92)] m (fun r m1 => gh_F m1 ∧ Q r m1) := by
      intro y1 z1 hF hj
      have h := hJ327 y1 z1 hj
      refine gh_iconst gd_Model_findProper_327 (gh_r0 rfl) ?_
      exact hJ328 0 y1 92 hF h
    obtain ⟨hk, hA, hB⟩ := h
    have k3344 : (((m 92 v1) = 0) ∨ ((m 95 (v1 / 320)) = 0)) → gh_T E (gh_yModel_findProper.cls, prog_14_method_63_code, 5, false, 9) (d + 2) 327 [(0, 2, 63), (1, 0, v1)] [(0, v1), (2, 92)] m (fun r m1 => gh_F m1 ∧ Q r m1) := by
      intro c
      have h := hA c
      exact hJ327 v1 92 hF h
    have k3345 : ¬ (((m 92 v1) = 0) ∨ ((m 95 (v1 / 320)) = 0)) → gh_T E (gh_yModel_findProper.cls, prog_14_method_63_code, 5, false, 9) (d + 2) 311 [(0, 2, 63), (1, 0, v1)] [(0, v1), (2, 92)] m (fun r m1 => gh_F m1 ∧ Q r m1) := by
      intro c
      have h := hB c
      refine gh_aload_n gd_Model_findProper_311 0 rfl (by decide) ?_
      refine gh_iload_n gd_Model_findProper_312 1 rfl ?_
      refine gh_sipush gd_Model_findProper_313 (by decide) (gh_r0 rfl) ?_
      obtain ⟨q3346, h⟩ := h
      refine gh_irem gd_Model_findProper_316 q3346 (by decide) ?_
      refine cv_Model_doesEnd (d := d + 1) gd_Model_findProper_317 gh_k1797 hF (Nat.le_of_ble_eq_true rfl) (gh_C.pw (s_Model_doesEnd (d + 1) (v1 % 320) hF h) (fun r3347 h => ?_))
      obtain ⟨hA, hB⟩ := h
      refine gh_zeq (tgt := 327) gd_Model_findProper_320 (by decide) (fun c3349 => ?_) (fun c3349 => ?_)
      · have h := hA c3349
        exact hJ327 v1 92 hF h
      · have h := hB c3349
        refine gh_iconst gd_Model_findProper_323 (gh_r0 rfl) ?_
        refine gh_goto (tgt := 328) gd_Model_findProper_324 (by decide) ?_
        exact hJ328 1 v1 92 hF h
    refine gh_zeq (tgt := 327) gd_Model_findProper_295 (by decide) (fun c3350 => ?_) (fun c3350 => ?_)
    · have hz : True := trivial
      exact k3344 (Or.inl c3350)
    · have hz : True := trivial
      have hk := hk c3350
      refine gh_aload_n gd_Model_findProper_298 0 rfl (by decide) ?_
      refine gf_63_49 gd_Model_findProper_299 gh_k1416 hF ?_
      refine gh_iload_n gd_Model_findProper_302 1 rfl ?_
      refine gh_sipush gd_Model_findProper_303 (by decide) (gh_r0 rfl) ?_
      obtain ⟨q3341, hk⟩ := hk
      refine gh_idiv gd_Model_findProper_306 q3341 (by decide) ?_
      obtain ⟨q3342, hk⟩ := hk
      have q3343 := hk
      refine la_95 gd_Model_findProper_307 hF q3342 q3343 rfl ?_
      refine gh_zeq (tgt := 327) gd_Model_findProper_308 (by decide) (fun c3351 => ?_) (fun c3351 => ?_)
      · have hz : True := trivial
        exact k3344 (Or.inr c3351)
      · have hz : True := trivial
        exact k3345 (fun z => z.elim c3350 c3351)
  · have h := hB c3334
    exact gh_ret9 rfl gd_Model_findProper_335 ⟨hF, h⟩
theorem b_Model_findProper_154 {E : gh_E} {Q : Int → gh_M → Prop} {K154 : Int → gh_M → Prop} (d : Nat) (hK : ∀ (v1 : Int) (m : gh_M), gh_F m → K154 v1 m → gh_T E (gh_yModel_findProper.cls, prog_14_method_63_code, 5, false, 9) (d + 2) 154 [(0, 2, 63), (1, 0, v1)] [] m (fun r m1 => gh_F m1 ∧ Q r m1)) (v1 : Int) (m : gh_M) (hF : gh_F m) (h : f_Model_findProper_154 Q K154 v1 m) : gh_T E (gh_yModel_findProper.cls, prog_14_method_63_code, 5, false, 9) (d + 2) 154 [(0, 2, 63), (1, 0, v1)] [] m (fun r m1 => gh_F m1 ∧ Q r m1) := by
  have hK154 := hK
  unfold f_Model_findProper_154 at h
  refine gh_iload_n gd_Model_findProper_154 1 rfl ?_
  refine gh_aload_n gd_Model_findProper_155 0 rfl (by decide) ?_
  refine gf_63_26 gd_Model_findProper_156 gh_k1393 hF rfl ?_
  obtain ⟨hA, hB⟩ := h
  refine gh_jge (tgt := 275) gd_Model_findProper_159 (by decide) (fun c3302 => ?_) (fun c3302 => ?_)
  · have h := hA c3302
    refine gh_iconst gd_Model_findProper_162 (gh_r0 rfl) ?_
    refine gh_istore_n (L2 := [(2, 0, 0), (0, 2, 63), (1, 0, v1)]) gd_Model_findProper_163 (by decide) rfl ?_
    refine gh_pick (L2 := [(0, 2, 63), (1, 0, v1), (2, 0, 0)]) [1, 2, 0] rfl ?_
    exact gh_M1_sound (T := fun v2 m => gh_T E (gh_yModel_findProper.cls, prog_14_method_63_code, 5, false, 9) (d + 2) 164 [(0, 2, 63), (1, 0, v1), (2, 0, v2)] [] m (fun r m1 => gh_F m1 ∧ Q r m1)) (fun _ m => gh_F m) (fun K164 v2 m hK hF h => b_Model_findProper_164 d hK154 hK v2 m hF h) 0 m hF h
  · have h := hB c3302
    refine gh_iconst gd_Model_findProper_275 (gh_r0 rfl) ?_
    refine gh_istore_n (L2 := [(1, 0, 0), (0, 2, 63)]) gd_Model_findProper_276 (by decide) rfl ?_
    refine gh_pick (L2 := [(0, 2, 63), (1, 0, 0)]) [1, 0] rfl ?_
    exact gh_M1_sound (T := fun v1 m => gh_T E (gh_yModel_findProper.cls, prog_14_method_63_code, 5, false, 9) (d + 2) 277 [(0, 2, 63), (1, 0, v1)] [] m (fun r m1 => gh_F m1 ∧ Q r m1)) (fun _ m => gh_F m) (fun K277 v1 m hK hF h => b_Model_findProper_277 d hK v1 m hF h) 0 m hF h
theorem b_Model_findProper_116 {E : gh_E} {Q : Int → gh_M → Prop} {K116 : Int → gh_M → Prop} (d : Nat) (hK : ∀ (v1 : Int) (m : gh_M), gh_F m → K116 v1 m → gh_T E (gh_yModel_findProper.cls, prog_14_method_63_code, 5, false, 9) (d + 2) 116 [(0, 2, 63), (1, 0, v1)] [] m (fun r m1 => gh_F m1 ∧ Q r m1)) (v1 : Int) (m : gh_M) (hF : gh_F m) (h : f_Model_findProper_116 Q K116 v1 m) : gh_T E (gh_yModel_findProper.cls, prog_14_method_63_code, 5, false, 9) (d + 2) 116 [(0, 2, 63), (1, 0, v1)] [] m (fun r m1 => gh_F m1 ∧ Q r m1) := by
  have hK116 := hK
  unfold f_Model_findProper_116 at h
  refine gh_iload_n gd_Model_findProper_116 1 rfl ?_
  refine gh_bipush gd_Model_findProper_117 (by decide) (gh_r0 rfl) ?_
  obtain ⟨hA, hB⟩ := h
  refine gh_jge (tgt := 152) gd_Model_findProper_119 (by decide) (fun c3294 => ?_) (fun c3294 => ?_)
  · have h := hA c3294
    refine gh_aload_n gd_Model_findProper_122 0 rfl (by decide) ?_
    refine gf_63_49 gd_Model_findProper_123 gh_k1416 hF ?_
    refine gh_iload_n gd_Model_findProper_126 1 rfl ?_
    refine gh_iload_n gd_Model_findProper_127 1 rfl ?_
    have k3295 : ∀ x3296 : Int, x3296 = (if ((v1 = 0) ∧ (¬ ((m 94 0) = 0))) then (1:Int) else 0) → gh_T E (gh_yModel_findProper.cls, prog_14_method_63_code, 5, false, 9) (d + 2) 145 [(0, 2, 63), (1, 0, v1)] [(0, x3296), (0, v1), (2, 95)] m (fun r m1 => gh_F m1 ∧ Q r m1) := by
      rintro _ rfl
      obtain ⟨q3297, h⟩ := h
      obtain ⟨q3298, h⟩ := h
      refine sa_95 gd_Model_findProper_145 hF q3297 q3298 gh_ib01 (fun hF => ?_)
      obtain ⟨q3299, h⟩ := h
      refine gh_iinc (L2 := [(1, 0, v1 + 1), (0, 2, 63)]) gd_Model_findProper_146 1 rfl q3299 (by decide) rfl ?_
      refine gh_goto (tgt := 116) gd_Model_findProper_149 (by decide) ?_
      refine gh_pick (L2 := [(0, 2, 63), (1, 0, v1 + 1)]) [1, 0] rfl ?_
      exact hK116 (v1 + 1) (gh_u m 95 v1 (if ((v1 = 0) ∧ (¬ ((m 94 0) = 0))) then (1:Int) else 0)) hF h
    refine gh_zne (tgt := 144) gd_Model_findProper_128 (by decide) (fun c3300 => ?_) (fun c3300 => ?_)
    · have hz : True := trivial
      refine gh_aload_n gd_Model_findProper_131 0 rfl (by decide) ?_
      refine gf_63_48 gd_Model_findProper_132 gh_k1415 hF ?_
      refine gh_iconst gd_Model_findProper_135 (gh_r0 rfl) ?_
      refine la_94 gd_Model_findProper_136 hF (by decide) (by decide) rfl ?_
      refine gh_zeq (tgt := 144) gd_Model_findProper_137 (by decide) (fun c3301 => ?_) (fun c3301 => ?_)
      · have hz : True := trivial
        refine gh_iconst gd_Model_findProper_144 (gh_r0 rfl) ?_
        exact k3295 _ (if_neg (c := ((v1 = 0) ∧ (¬ ((m 94 0) = 0)))) (fun z => (not_not_intro c3301) z.2)).symm
      · have hz : True := trivial
        refine gh_iconst gd_Model_findProper_140 (gh_r0 rfl) ?_
        refine gh_goto (tgt := 145) gd_Model_findProper_141 (by decide) ?_
        exact k3295 _ (if_pos (c := ((v1 = 0) ∧ (¬ ((m 94 0) = 0)))) ⟨c3300, c3301⟩).symm
    · have hz : True := trivial
      refine gh_iconst gd_Model_findProper_144 (gh_r0 rfl) ?_
      exact k3295 _ (if_neg (c := ((v1 = 0) ∧ (¬ ((m 94 0) = 0)))) (fun z => c3300 z.1)).symm
  · have h := hB c3294
    refine gh_iconst gd_Model_findProper_152 (gh_r0 rfl) ?_
    refine gh_istore_n (L2 := [(1, 0, 0), (0, 2, 63)]) gd_Model_findProper_153 (by decide) rfl ?_
    refine gh_pick (L2 := [(0, 2, 63), (1, 0, 0)]) [1, 0] rfl ?_
    exact gh_M1_sound (T := fun v1 m => gh_T E (gh_yModel_findProper.cls, prog_14_method_63_code, 5, false, 9) (d + 2) 154 [(0, 2, 63), (1, 0, v1)] [] m (fun r m1 => gh_F m1 ∧ Q r m1)) (fun _ m => gh_F m) (fun K154 v1 m hK hF h => b_Model_findProper_154 d hK v1 m hF h) 0 m hF h
theorem b_Model_findProper_31 {E : gh_E} {Q : Int → gh_M → Prop} {K31 : Int → gh_M → Prop} (d : Nat) (hK : ∀ (v1 : Int) (m : gh_M), gh_F m → K31 v1 m → gh_T E (gh_yModel_findProper.cls, prog_14_method_63_code, 5, false, 9) (d + 2) 31 [(0, 2, 63), (1, 0, v1)] [] m (fun r m1 => gh_F m1 ∧ Q r m1)) (v1 : Int) (m : gh_M) (hF : gh_F m) (h : f_Model_findProper_31 Q K31 v1 m) : gh_T E (gh_yModel_findProper.cls, prog_14_method_63_code, 5, false, 9) (d + 2) 31 [(0, 2, 63), (1, 0, v1)] [] m (fun r m1 => gh_F m1 ∧ Q r m1) := by
  have hK31 := hK
  unfold f_Model_findProper_31 at h
  refine gh_iload_n gd_Model_findProper_31 1 rfl ?_
  refine gh_aload_n gd_Model_findProper_32 0 rfl (by decide) ?_
  refine gf_63_26 gd_Model_findProper_33 gh_k1393 hF rfl ?_
  obtain ⟨hA, hB⟩ := h
  refine gh_jge (tgt := 114) gd_Model_findProper_36 (by decide) (fun c3274 => ?_) (fun c3274 => ?_)
  · have h := hA c3274
    refine gh_iconst gd_Model_findProper_39 (gh_r0 rfl) ?_
    refine gh_istore_n (L2 := [(2, 0, 0), (0, 2, 63), (1, 0, v1)]) gd_Model_findProper_40 (by decide) rfl ?_
    refine gh_pick (L2 := [(0, 2, 63), (1, 0, v1), (2, 0, 0)]) [1, 2, 0] rfl ?_
    exact gh_M1_sound (T := fun v2 m => gh_T E (gh_yModel_findProper.cls, prog_14_method_63_code, 5, false, 9) (d + 2) 41 [(0, 2, 63), (1, 0, v1), (2, 0, v2)] [] m (fun r m1 => gh_F m1 ∧ Q r m1)) (fun _ m => gh_F m) (fun K41 v2 m hK hF h => b_Model_findProper_41 d hK31 hK v2 m hF h) 0 m hF h
  · have h := hB c3274
    refine gh_iconst gd_Model_findProper_114 (gh_r0 rfl) ?_
    refine gh_istore_n (L2 := [(1, 0, 0), (0, 2, 63)]) gd_Model_findProper_115 (by decide) rfl ?_
    refine gh_pick (L2 := [(0, 2, 63), (1, 0, 0)]) [1, 0] rfl ?_
    exact gh_M1_sound (T := fun v1 m => gh_T E (gh_yModel_findProper.cls, prog_14_method_63_code, 5, false, 9) (d + 2) 116 [(0, 2, 63), (1, 0, v1)] [] m (fun r m1 => gh_F m1 ∧ Q r m1)) (fun _ m => gh_F m) (fun K116 v1 m hK hF h => b_Model_findProper_116 d hK v1 m hF h) 0 m hF h
theorem b_Model_findProper_10 {E : gh_E} {Q : Int → gh_M → Prop} {K10 : Int → gh_M → Prop} (d : Nat) (hK : ∀ (v1 : Int) (m : gh_M), gh_F m → K10 v1 m → gh_T E (gh_yModel_findProper.cls, prog_14_method_63_code, 5, false, 9) (d + 2) 10 [(0, 2, 63), (1, 0, v1)] [] m (fun r m1 => gh_F m1 ∧ Q r m1)) (v1 : Int) (m : gh_M) (hF : gh_F m) (h : f_Model_findProper_10 Q K10 v1 m) : gh_T E (gh_yModel_findProper.cls, prog_14_method_63_code, 5, false, 9) (d + 2) 10 [(0, 2, 63), (1, 0, v1)] [] m (fun r m1 => gh_F m1 ∧ Q r m1) := by
  have hK10 := hK
  unfold f_Model_findProper_10 at h
  refine gh_iload_n gd_Model_findProper_10 1 rfl ?_
  refine gh_bipush gd_Model_findProper_11 (by decide) (gh_r0 rfl) ?_
  obtain ⟨hA, hB⟩ := h
  refine gh_jge (tgt := 29) gd_Model_findProper_13 (by decide) (fun c3270 => ?_) (fun c3270 => ?_)
  · have h := hA c3270
    refine gh_aload_n gd_Model_findProper_16 0 rfl (by decide) ?_
    refine gf_63_48 gd_Model_findProper_17 gh_k1415 hF ?_
    refine gh_iload_n gd_Model_findProper_20 1 rfl ?_
    refine gh_iconst gd_Model_findProper_21 (gh_r0 rfl) ?_
    obtain ⟨q3271, h⟩ := h
    obtain ⟨q3272, h⟩ := h
    refine sa_94 gd_Model_findProper_22 hF q3271 q3272 (by decide) (fun hF => ?_)
    obtain ⟨q3273, h⟩ := h
    refine gh_iinc (L2 := [(1, 0, v1 + 1), (0, 2, 63)]) gd_Model_findProper_23 1 rfl q3273 (by decide) rfl ?_
    refine gh_goto (tgt := 10) gd_Model_findProper_26 (by decide) ?_
    refine gh_pick (L2 := [(0, 2, 63), (1, 0, v1 + 1)]) [1, 0] rfl ?_
    exact hK10 (v1 + 1) (gh_u m 94 v1 0) hF h
  · have h := hB c3270
    refine gh_iconst gd_Model_findProper_29 (gh_r0 rfl) ?_
    refine gh_istore_n (L2 := [(1, 0, 0), (0, 2, 63)]) gd_Model_findProper_30 (by decide) rfl ?_
    refine gh_pick (L2 := [(0, 2, 63), (1, 0, 0)]) [1, 0] rfl ?_
    exact gh_M1_sound (T := fun v1 m => gh_T E (gh_yModel_findProper.cls, prog_14_method_63_code, 5, false, 9) (d + 2) 31 [(0, 2, 63), (1, 0, v1)] [] m (fun r m1 => gh_F m1 ∧ Q r m1)) (fun _ m => gh_F m) (fun K31 v1 m hK hF h => b_Model_findProper_31 d hK v1 m hF h) 0 m hF h
theorem s_Model_findProper {E : gh_E} {m : gh_M} {Q : Int → gh_M → Prop} (d : Nat) (hF : gh_F m) (h : w_Model_findProper m Q) : gh_C E gh_yModel_findProper prog_14_method_63_code 5 none 9 (d + 2) [(2, 63)] m (fun r m1 => gh_F m1 ∧ Q r m1) := by
  refine gh_enter2 (L := [(0, 2, 63)]) (by decide +kernel) gh_rt9 (Nat.le_of_ble_eq_true rfl) rfl rfl ?_
  unfold w_Model_findProper at h
  refine gh_aload_n gd_Model_findProper_0 0 rfl (by decide) ?_
  refine cv_Model_layRows (d := d + 1) gd_Model_findProper_1 gh_k1777 hF (Nat.le_of_ble_eq_true rfl) (gh_C.mono (s_Model_layRows d hF h) (fun r3266 m3267 hq => ?_))
  obtain ⟨hF, h⟩ := hq
  refine gh_aload_n gd_Model_findProper_4 0 rfl (by decide) ?_
  refine cv_Model_goOver (d := d + 1) gd_Model_findProper_5 gh_k1789 hF (Nat.le_of_ble_eq_true rfl) (gh_C.mono (s_Model_goOver d hF h) (fun r3268 m3269 hq => ?_))
  obtain ⟨hF, h⟩ := hq
  refine gh_iconst gd_Model_findProper_8 (gh_r0 rfl) ?_
  refine gh_istore_n (L2 := [(1, 0, 0), (0, 2, 63)]) gd_Model_findProper_9 (by decide) rfl ?_
  refine gh_pick (L2 := [(0, 2, 63), (1, 0, 0)]) [1, 0] rfl ?_
  exact gh_M1_sound (T := fun v1 m => gh_T E (gh_yModel_findProper.cls, prog_14_method_63_code, 5, false, 9) (d + 2) 10 [(0, 2, 63), (1, 0, v1)] [] m (fun r m1 => gh_F m1 ∧ Q r m1)) (fun _ m => gh_F m) (fun K10 v1 m hK hF h => b_Model_findProper_10 d hK v1 m hF h) 0 m3269 hF h
def w_Model_changed (m : gh_M) (Q : Int → gh_M → Prop) : Prop := Q 0 (gh_u (gh_u (gh_u (gh_u m 63 52 0) 63 61 0) 63 68 0) 63 70 0)
theorem s_Model_changed {E : gh_E} {m : gh_M} {Q : Int → gh_M → Prop} (d : Nat) (hF : gh_F m) (h : w_Model_changed m Q) : gh_C E gh_yModel_changed prog_14_method_33_code 1 none 9 (d + 0) [(2, 63)] m (fun r m1 => gh_F m1 ∧ Q r m1) := by
  refine gh_enter2 (L := [(0, 2, 63)]) (by decide +kernel) gh_rt9 (Nat.le_of_ble_eq_true rfl) rfl rfl ?_
  unfold w_Model_changed at h
  refine gh_aload_n gd_Model_changed_0 0 rfl (by decide) ?_
  refine gh_iconst gd_Model_changed_1 (gh_r0 rfl) ?_
  refine pf_63_52 gd_Model_changed_2 gh_k1419 hF (by decide) (fun hF => ?_)
  refine gh_aload_n gd_Model_changed_5 0 rfl (by decide) ?_
  refine gh_iconst gd_Model_changed_6 (gh_r0 rfl) ?_
  refine pf_63_61 gd_Model_changed_7 gh_k1428 hF (by decide) (fun hF => ?_)
  refine gh_aload_n gd_Model_changed_10 0 rfl (by decide) ?_
  refine gh_iconst gd_Model_changed_11 (gh_r0 rfl) ?_
  refine pf_63_68 gd_Model_changed_12 gh_k1435 hF (fun hF => ?_)
  refine gh_aload_n gd_Model_changed_15 0 rfl (by decide) ?_
  refine gh_iconst gd_Model_changed_16 (gh_r0 rfl) ?_
  refine pf_63_70 gd_Model_changed_17 gh_k1437 hF (fun hF => ?_)
  exact gh_ret9 rfl gd_Model_changed_20 ⟨hF, h⟩
def w_Model_read (m : gh_M) (Q : Int → gh_M → Prop) : Prop := w_Model_readRows m (fun r3352 m3353 => (((r3352) ≤ 0 → gh_i ((m3353 63 8) + (m3353 63 9)) ∧ w_Model_takeNames (gh_u (gh_u (gh_u (gh_u m3353 63 2 r3352) 63 3 (if (r3352) = 0 then (-1) else (m3353 63 6))) 63 25 (m3353 63 8)) 63 26 ((m3353 63 8) + (m3353 63 9))) (fun _ m3359 => w_Model_takeRules m3359 (fun _ m3361 => w_Model_findLeast (gh_u m3361 63 24 1) (fun _ m3363 => w_Model_findUseful m3363 (fun _ m3365 => w_Model_findFirst m3365 (fun _ m3367 => w_Model_findFollow m3367 (fun _ m3369 => w_Model_findCircles m3369 (fun _ m3371 => w_Model_findProper m3371 (fun _ m3373 => w_Model_changed (gh_u m3373 63 50 0) (fun _ m3375 => Q (m3375 63 27) m3375)))))))))) ∧ (¬ ((r3352) ≤ 0) → gh_i ((-10) - (r3352)) ∧ Q ((-10) - (r3352)) (gh_u (gh_u m3353 63 2 r3352) 63 3 (if (r3352) = 0 then (-1) else (m3353 63 6))))))
theorem s_Model_read {E : gh_E} {m : gh_M} {Q : Int → gh_M → Prop} (d : Nat) (hF : gh_F m) (h : w_Model_read m Q) : gh_C E gh_yModel_read prog_14_method_31_code 1 (some .int) 0 (d + 7) [(2, 63)] m (fun r m1 => gh_F m1 ∧ Q r m1) := by
  refine gh_enter2 (L := [(0, 2, 63)]) (by decide +kernel) gh_rt0 (Nat.le_of_ble_eq_true rfl) rfl rfl ?_
  unfold w_Model_read at h
  refine gh_aload_n gd_Model_read_0 0 rfl (by decide) ?_
  refine gh_aload_n gd_Model_read_1 0 rfl (by decide) ?_
  refine cv_Model_readRows (d := d + 6) gd_Model_read_2 gh_k1650 hF (Nat.le_of_ble_eq_true rfl) (gh_C.mono (s_Model_readRows d hF h) (fun r3352 m3353 hq => ?_))
  obtain ⟨hF, h⟩ := hq
  refine pf_63_2 gd_Model_read_5 gh_k1369 hF (fun hF => ?_)
  refine gh_aload_n gd_Model_read_8 0 rfl (by decide) ?_
  refine gh_aload_n gd_Model_read_9 0 rfl (by decide) ?_
  refine gf_63_2 gd_Model_read_10 gh_k1369 hF (gh_u_s _ _ _ _) ?_
  have k3354 : ∀ x3355 : Int, x3355 = (if (r3352) = 0 then (-1) else (m3353 63 6)) → gh_T E (gh_yModel_read.cls, prog_14_method_31_code, 1, false, 0) (d + 7) 24 [(0, 2, 63)] [(0, x3355), (2, 63)] (gh_u m3353 63 2 r3352) (fun r m1 => gh_F m1 ∧ Q r m1) := by
    rintro _ rfl
    refine pf_63_3 gd_Model_read_24 gh_k1370 hF (fun hF => ?_)
    refine gh_aload_n gd_Model_read_27 0 rfl (by decide) ?_
    refine gf_63_2 gd_Model_read_28 gh_k1369 hF ((gh_u_i (by decide)).trans (gh_u_s _ _ _ _)) ?_
    obtain ⟨hA, hB⟩ := h
    refine gh_zle (tgt := 42) gd_Model_read_31 (by decide) (fun c3356 => ?_) (fun c3356 => ?_)
    · have h := hA c3356
      refine gh_aload_n gd_Model_read_42 0 rfl (by decide) ?_
      refine gh_aload_n gd_Model_read_43 0 rfl (by decide) ?_
      refine gf_63_8 gd_Model_read_44 gh_k1375 hF ((gh_u_i (by decide)).trans (gh_u_i (by decide))) ?_
      refine pf_63_25 gd_Model_read_47 gh_k1392 hF (fun hF => ?_)
      refine gh_aload_n gd_Model_read_50 0 rfl (by decide) ?_
      refine gh_aload_n gd_Model_read_51 0 rfl (by decide) ?_
      refine gf_63_8 gd_Model_read_52 gh_k1375 hF ((gh_u_i (by decide)).trans ((gh_u_i (by decide)).trans (gh_u_i (by decide)))) ?_
      refine gh_aload_n gd_Model_read_55 0 rfl (by decide) ?_
      refine gf_63_9 gd_Model_read_56 gh_k1376 hF ((gh_u_i (by decide)).trans ((gh_u_i (by decide)).trans (gh_u_i (by decide)))) ?_
      obtain ⟨q3357, h⟩ := h
      refine gh_iadd gd_Model_read_59 q3357 ?_
      refine pf_63_26 gd_Model_read_60 gh_k1393 hF (fun hF => ?_)
      refine gh_aload_n gd_Model_read_63 0 rfl (by decide) ?_
      refine cv_Model_takeNames (d := d + 6) gd_Model_read_64 gh_k1721 hF (Nat.le_of_ble_eq_true rfl) (gh_C.mono (s_Model_takeNames (d + 3) hF h) (fun r3358 m3359 hq => ?_))
      obtain ⟨hF, h⟩ := hq
      refine gh_aload_n gd_Model_read_67 0 rfl (by decide) ?_
      refine cv_Model_takeRules (d := d + 6) gd_Model_read_68 gh_k1725 hF (Nat.le_of_ble_eq_true rfl) (gh_C.mono (s_Model_takeRules d hF h) (fun r3360 m3361 hq => ?_))
      obtain ⟨hF, h⟩ := hq
      refine gh_aload_n gd_Model_read_71 0 rfl (by decide) ?_
      refine gh_iconst gd_Model_read_72 (gh_r0 rfl) ?_
      refine pf_63_24 gd_Model_read_73 gh_k1391 hF (by decide) (fun hF => ?_)
      refine gh_aload_n gd_Model_read_76 0 rfl (by decide) ?_
      refine cv_Model_findLeast (d := d + 6) gd_Model_read_77 gh_k1737 hF (Nat.le_of_ble_eq_true rfl) (gh_C.mono (s_Model_findLeast (d + 5) hF h) (fun r3362 m3363 hq => ?_))
      obtain ⟨hF, h⟩ := hq
      refine gh_aload_n gd_Model_read_80 0 rfl (by decide) ?_
      refine cv_Model_findUseful (d := d + 6) gd_Model_read_81 gh_k1746 hF (Nat.le_of_ble_eq_true rfl) (gh_C.mono (s_Model_findUseful (d + 5) hF h) (fun r3364 m3365 hq => ?_))
      obtain ⟨hF, h⟩ := hq
      refine gh_aload_n gd_Model_read_84 0 rfl (by decide) ?_
      refine cv_Model_findFirst (d := d + 6) gd_Model_read_85 gh_k1750 hF (Nat.le_of_ble_eq_true rfl) (gh_C.mono (s_Model_findFirst (d + 5) hF h) (fun r3366 m3367 hq => ?_))
      obtain ⟨hF, h⟩ := hq
      refine gh_aload_n gd_Model_read_88 0 rfl (by decide) ?_
      refine cv_Model_findFollow (d := d + 6) gd_Model_read_89 gh_k1760 hF (Nat.le_of_ble_eq_true rfl) (gh_C.mono (s_Model_findFollow (d + 5) hF h) (fun r3368 m3369 hq => ?_))
      obtain ⟨hF, h⟩ := hq
      refine gh_aload_n gd_Model_read_92 0 rfl (by decide) ?_
      refine cv_Model_findCircles (d := d + 6) gd_Model_read_93 gh_k1765 hF (Nat.le_of_ble_eq_true rfl) (gh_C.mono (s_Model_findCircles (d + 5) hF h) (fun r3370 m3371 hq => ?_))
      obtain ⟨hF, h⟩ := hq
      refine gh_aload_n gd_Model_read_96 0 rfl (by decide) ?_
      refine cv_Model_findProper (d := d + 6) gd_Model_read_97 gh_k1773 hF (Nat.le_of_ble_eq_true rfl) (gh_C.mono (s_Model_findProper (d + 4) hF h) (fun r3372 m3373 hq => ?_))
      obtain ⟨hF, h⟩ := hq
      refine gh_aload_n gd_Model_read_100 0 rfl (by decide) ?_
      refine gh_iconst gd_Model_read_101 (gh_r0 rfl) ?_
      refine pf_63_50 gd_Model_read_102 gh_k1417 hF (fun hF => ?_)
      refine gh_aload_n gd_Model_read_105 0 rfl (by decide) ?_
      refine cv_Model_changed (d := d + 6) gd_Model_read_106 gh_k1801 hF (Nat.le_of_ble_eq_true rfl) (gh_C.mono (s_Model_changed (d + 6) hF h) (fun r3374 m3375 hq => ?_))
      obtain ⟨hF, h⟩ := hq
      refine gh_aload_n gd_Model_read_109 0 rfl (by decide) ?_
      refine gf_63_27 gd_Model_read_110 gh_k1394 hF rfl ?_
      exact gh_ret0 rfl gd_Model_read_113 ⟨hF, h⟩
    · have h := hB c3356
      refine gh_bipush gd_Model_read_34 (by decide) (gh_r0 rfl) ?_
      refine gh_aload_n gd_Model_read_36 0 rfl (by decide) ?_
      refine gf_63_2 gd_Model_read_37 gh_k1369 hF ((gh_u_i (by decide)).trans (gh_u_s _ _ _ _)) ?_
      obtain ⟨q3376, h⟩ := h
      refine gh_isub gd_Model_read_40 q3376 ?_
      exact gh_ret0 rfl gd_Model_read_41 ⟨hF, h⟩
  refine gh_zne (tgt := 20) gd_Model_read_13 (by decide) (fun c3377 => ?_) (fun c3377 => ?_)
  · have hz : True := trivial
    refine gh_iconst gd_Model_read_16 (gh_r0 rfl) ?_
    refine gh_goto (tgt := 24) gd_Model_read_17 (by decide) ?_
    exact k3354 _ (by rw [if_pos c3377])
  · have hz : True := trivial
    refine gh_aload_n gd_Model_read_20 0 rfl (by decide) ?_
    refine gf_63_6 gd_Model_read_21 gh_k1373 hF (gh_u_i (by decide)) ?_
    exact k3354 _ (by rw [if_neg c3377])
def w_Model_name (v1 : Int) (v2 : Int) (m : gh_M) (Q : Int → Prop) : Prop := ∃ J19 : Prop, (J19 → (((¬ (v2 < 0) ∧ (v2 ≤ 7)) → (((m 63 24) = 0 → Q (-1003)) ∧ (¬ ((m 63 24) = 0) → ((v2 = 0 → 0 ≤ v1 ∧ v1 < 8 ∧ Q (m 77 v1)) ∧ ((v2 = 1 → 0 ≤ v1 ∧ v1 < 8 ∧ Q (m 78 v1)) ∧ ((v2 = 2 → 0 ≤ v1 ∧ v1 < 8 ∧ Q (if ((m 82 v1) = 0) then (1:Int) else 0)) ∧ ((v2 = 3 → 0 ≤ v1 ∧ v1 < 8 ∧ Q (if ((m 82 v1) < 1000000000) then (1:Int) else 0)) ∧ ((v2 = 4 → 0 ≤ v1 ∧ v1 < 8 ∧ Q (if p_Model_bit (m 84 v1) then (1:Int) else 0)) ∧ ((v2 = 5 → 0 ≤ v1 ∧ v1 < 8 ∧ Q (if p_Model_bit (m 85 v1) then (1:Int) else 0)) ∧ ((v2 = 6 → k_Model_leastTold v1 m ∧ Q (x_Model_leastTold v1 m)) ∧ (¬ (v2 = 0) → ¬ (v2 = 1) → ¬ (v2 = 2) → ¬ (v2 = 3) → ¬ (v2 = 4) → ¬ (v2 = 5) → ¬ (v2 = 6) → gh_i (9 * v1) ∧ 0 ≤ 9 * v1 ∧ (9 * v1) < 64 ∧ Q (if p_Model_bit (m 88 (9 * v1)) then (1:Int) else 0)))))))))))) ∧ (¬ ((¬ (v2 < 0) ∧ (v2 ≤ 7))) → Q (-1002)))) ∧ ((¬ ((m 63 24) = 0) → (k_Model_isName v1 m))) ∧ (((((m 63 24) = 0) ∨ (p_Model_isName v1 m)) → J19) ∧ (¬ (((m 63 24) = 0) ∨ (p_Model_isName v1 m)) → Q (-1001)))
theorem s_Model_name {E : gh_E} {m : gh_M} {Q : Int → Prop} (d : Nat) (v1 : Int) (v2 : Int) (hF : gh_F m) (h : w_Model_name v1 v2 m Q) : gh_C E gh_yModel_name prog_14_method_47_code 3 (some .int) 0 (d + 2) [(2, 63), (0, v1), (0, v2)] m (fun r m1 => m1 = m ∧ Q r) := by
  refine gh_enter2 (L := [(0, 2, 63), (1, 0, v1), (2, 0, v2)]) (by decide +kernel) gh_rt0 (Nat.le_of_ble_eq_true rfl) rfl rfl ?_
  unfold w_Model_name at h
  refine gh_aload_n gd_Model_name_0 0 rfl (by decide) ?_
  refine gf_63_24 gd_Model_name_1 gh_k1391 hF rfl ?_
  obtain ⟨J19, hJ19, h⟩ := h
  have hJ19 : gh_F m → J19 → gh_T E (gh_yModel_name.cls, prog_14_method_47_code, 3, false, 0) (d + 2) 19 [(0, 2, 63), (1, 0, v1), (2, 0, v2)] [] m (fun r m1 => m1 = m ∧ Q r) := by
    intro hF hj
    have h := hJ19 hj
    refine gh_iload_n gd_Model_name_19 2 rfl ?_
    refine gh_iconst gd_Model_name_20 (gh_r0 rfl) ?_
    refine gh_bipush gd_Model_name_21 (by decide) (gh_r0 rfl) ?_
    refine cv_Model_in (d := d + 1) gd_Model_name_23 gh_k1628 (Nat.le_of_ble_eq_true rfl) (gh_C.pe (e_Model_in (d + 1) v2 0 7) ?_)
    obtain ⟨hA, hB⟩ := h
    refine gh_bne (tgt := 33) gd_Model_name_26 (by decide) (fun c3378 => ?_) (fun c3378 => ?_)
    · have h := hA c3378
      refine gh_aload_n gd_Model_name_33 0 rfl (by decide) ?_
      refine gf_63_24 gd_Model_name_34 gh_k1391 hF rfl ?_
      obtain ⟨hA, hB⟩ := h
      refine gh_zne (tgt := 44) gd_Model_name_37 (by decide) (fun c3379 => ?_) (fun c3379 => ?_)
      · have h := hA c3379
        refine gh_sipush gd_Model_name_40 (by decide) (gh_r0 rfl) ?_
        exact gh_ret0 rfl gd_Model_name_43 ⟨rfl, h⟩
      · have h := hB c3379
        refine gh_iload_n gd_Model_name_44 2 rfl ?_
        obtain ⟨hA, h⟩ := h
        by_cases c3380 : v2 = 0
        · have h := hA c3380
          refine gh_tabIn (tgt := 88) gd_Model_name_45 (by rw [c3380]; decide) (by rw [c3380]; decide) (by rw [c3380]; rfl) (by decide) ?_
          refine gh_aload_n gd_Model_name_88 0 rfl (by decide) ?_
          refine gf_63_30 gd_Model_name_89 gh_k1397 hF ?_
          refine gh_iload_n gd_Model_name_92 1 rfl ?_
          obtain ⟨q3381, h⟩ := h
          obtain ⟨q3382, h⟩ := h
          refine la_77 gd_Model_name_93 hF q3381 q3382 rfl ?_
          exact gh_ret0 rfl gd_Model_name_94 ⟨rfl, h⟩
        obtain ⟨hA, h⟩ := h
        by_cases c3383 : v2 = 1
        · have h := hA c3383
          refine gh_tabIn (tgt := 95) gd_Model_name_45 (by rw [c3383]; decide) (by rw [c3383]; decide) (by rw [c3383]; rfl) (by decide) ?_
          refine gh_aload_n gd_Model_name_95 0 rfl (by decide) ?_
          refine gf_63_31 gd_Model_name_96 gh_k1398 hF ?_
          refine gh_iload_n gd_Model_name_99 1 rfl ?_
          obtain ⟨q3384, h⟩ := h
          obtain ⟨q3385, h⟩ := h
          refine la_78 gd_Model_name_100 hF q3384 q3385 rfl ?_
          exact gh_ret0 rfl gd_Model_name_101 ⟨rfl, h⟩
        obtain ⟨hA, h⟩ := h
        by_cases c3386 : v2 = 2
        · have h := hA c3386
          refine gh_tabIn (tgt := 102) gd_Model_name_45 (by rw [c3386]; decide) (by rw [c3386]; decide) (by rw [c3386]; rfl) (by decide) ?_
          refine gh_aload_n gd_Model_name_102 0 rfl (by decide) ?_
          refine gf_63_35 gd_Model_name_103 gh_k1402 hF ?_
          refine gh_iload_n gd_Model_name_106 1 rfl ?_
          obtain ⟨q3387, h⟩ := h
          obtain ⟨q3388, h⟩ := h
          refine la_82 gd_Model_name_107 hF q3387 q3388 rfl ?_
          have k3389 : ∀ x3390 : Int, x3390 = (if ((m 82 v1) = 0) then (1:Int) else 0) → gh_T E (gh_yModel_name.cls, prog_14_method_47_code, 3, false, 0) (d + 2) 116 [(0, 2, 63), (1, 0, v1), (2, 0, v2)] [(0, x3390)] m (fun r m1 => m1 = m ∧ Q r) := by
            rintro _ rfl
            refine cv_Model_bit (d := d + 1) gd_Model_name_116 gh_k1817 (Nat.le_of_ble_eq_true rfl) (gh_C.pe (eb_Model_bit (d + 1) (P := ((m 82 v1) = 0))) ?_)
            exact gh_ret0 rfl gd_Model_name_119 ⟨rfl, h⟩
          refine gh_zne (tgt := 115) gd_Model_name_108 (by decide) (fun c3391 => ?_) (fun c3391 => ?_)
          · have hz : True := trivial
            refine gh_iconst gd_Model_name_111 (gh_r0 rfl) ?_
            refine gh_goto (tgt := 116) gd_Model_name_112 (by decide) ?_
            exact k3389 _ (if_pos (c := ((m 82 v1) = 0)) c3391).symm
          · have hz : True := trivial
            refine gh_iconst gd_Model_name_115 (gh_r0 rfl) ?_
            exact k3389 _ (if_neg (c := ((m 82 v1) = 0)) c3391).symm
        obtain ⟨hA, h⟩ := h
        by_cases c3392 : v2 = 3
        · have h := hA c3392
          refine gh_tabIn (tgt := 120) gd_Model_name_45 (by rw [c3392]; decide) (by rw [c3392]; decide) (by rw [c3392]; rfl) (by decide) ?_
          refine gh_aload_n gd_Model_name_120 0 rfl (by decide) ?_
          refine gf_63_35 gd_Model_name_121 gh_k1402 hF ?_
          refine gh_iload_n gd_Model_name_124 1 rfl ?_
          obtain ⟨q3393, h⟩ := h
          obtain ⟨q3394, h⟩ := h
          refine la_82 gd_Model_name_125 hF q3393 q3394 rfl ?_
          refine gh_ldcw (n := 1000000000) gd_Model_name_126 gh_k1741 (by decide) (gh_r0 rfl) ?_
          have k3395 : ∀ x3396 : Int, x3396 = (if ((m 82 v1) < 1000000000) then (1:Int) else 0) → gh_T E (gh_yModel_name.cls, prog_14_method_47_code, 3, false, 0) (d + 2) 137 [(0, 2, 63), (1, 0, v1), (2, 0, v2)] [(0, x3396)] m (fun r m1 => m1 = m ∧ Q r) := by
            rintro _ rfl
            refine cv_Model_bit (d := d + 1) gd_Model_name_137 gh_k1817 (Nat.le_of_ble_eq_true rfl) (gh_C.pe (eb_Model_bit (d + 1) (P := ((m 82 v1) < 1000000000))) ?_)
            exact gh_ret0 rfl gd_Model_name_140 ⟨rfl, h⟩
          refine gh_jge (tgt := 136) gd_Model_name_129 (by decide) (fun c3397 => ?_) (fun c3397 => ?_)
          · have hz : True := trivial
            refine gh_iconst gd_Model_name_132 (gh_r0 rfl) ?_
            refine gh_goto (tgt := 137) gd_Model_name_133 (by decide) ?_
            exact k3395 _ (if_pos (c := ((m 82 v1) < 1000000000)) c3397).symm
          · have hz : True := trivial
            refine gh_iconst gd_Model_name_136 (gh_r0 rfl) ?_
            exact k3395 _ (if_neg (c := ((m 82 v1) < 1000000000)) c3397).symm
        obtain ⟨hA, h⟩ := h
        by_cases c3398 : v2 = 4
        · have h := hA c3398
          refine gh_tabIn (tgt := 141) gd_Model_name_45 (by rw [c3398]; decide) (by rw [c3398]; decide) (by rw [c3398]; rfl) (by decide) ?_
          refine gh_aload_n gd_Model_name_141 0 rfl (by decide) ?_
          refine gf_63_37 gd_Model_name_142 gh_k1404 hF ?_
          refine gh_iload_n gd_Model_name_145 1 rfl ?_
          obtain ⟨q3399, h⟩ := h
          obtain ⟨q3400, h⟩ := h
          refine la_84 gd_Model_name_146 hF q3399 q3400 rfl ?_
          refine cv_Model_bit (d := d + 1) gd_Model_name_147 gh_k1817 (Nat.le_of_ble_eq_true rfl) (gh_C.pe (e_Model_bit (d + 1) (m 84 v1)) ?_)
          exact gh_ret0 rfl gd_Model_name_150 ⟨rfl, h⟩
        obtain ⟨hA, h⟩ := h
        by_cases c3401 : v2 = 5
        · have h := hA c3401
          refine gh_tabIn (tgt := 151) gd_Model_name_45 (by rw [c3401]; decide) (by rw [c3401]; decide) (by rw [c3401]; rfl) (by decide) ?_
          refine gh_aload_n gd_Model_name_151 0 rfl (by decide) ?_
          refine gf_63_38 gd_Model_name_152 gh_k1405 hF ?_
          refine gh_iload_n gd_Model_name_155 1 rfl ?_
          obtain ⟨q3402, h⟩ := h
          obtain ⟨q3403, h⟩ := h
          refine la_85 gd_Model_name_156 hF q3402 q3403 rfl ?_
          refine cv_Model_bit (d := d + 1) gd_Model_name_157 gh_k1817 (Nat.le_of_ble_eq_true rfl) (gh_C.pe (e_Model_bit (d + 1) (m 85 v1)) ?_)
          exact gh_ret0 rfl gd_Model_name_160 ⟨rfl, h⟩
        obtain ⟨hA, h⟩ := h
        by_cases c3404 : v2 = 6
        · have h := hA c3404
          refine gh_tabIn (tgt := 161) gd_Model_name_45 (by rw [c3404]; decide) (by rw [c3404]; decide) (by rw [c3404]; rfl) (by decide) ?_
          refine gh_aload_n gd_Model_name_161 0 rfl (by decide) ?_
          refine gh_iload_n gd_Model_name_162 1 rfl ?_
          obtain ⟨q3405, h⟩ := h
          refine cv_Model_leastTold (d := d + 1) gd_Model_name_163 gh_k1820 hF (Nat.le_of_ble_eq_true rfl) (gh_C.pe (e_Model_leastTold (d + 1) v1 hF q3405) ?_)
          exact gh_ret0 rfl gd_Model_name_166 ⟨rfl, h⟩
        have n3406 : ¬ (v2 = 0) := c3380
        have n3407 : ¬ (v2 = 1) := c3383
        have n3408 : ¬ (v2 = 2) := c3386
        have n3409 : ¬ (v2 = 3) := c3392
        have n3410 : ¬ (v2 = 4) := c3398
        have n3411 : ¬ (v2 = 5) := c3401
        have n3412 : ¬ (v2 = 6) := c3404
        refine gh_tabOut (tgt := 167) gd_Model_name_45 (by omega) (by decide) ?_
        have h := h c3380 c3383 c3386 c3392 c3398 c3401 c3404
        refine gh_aload_n gd_Model_name_167 0 rfl (by decide) ?_
        refine gf_63_41 gd_Model_name_168 gh_k1408 hF ?_
        refine gh_bipush gd_Model_name_171 (by decide) (gh_r0 rfl) ?_
        refine gh_iload_n gd_Model_name_173 1 rfl ?_
        obtain ⟨q3413, h⟩ := h
        refine gh_imul gd_Model_name_174 q3413 ?_
        obtain ⟨q3414, h⟩ := h
        obtain ⟨q3415, h⟩ := h
        refine la_88 gd_Model_name_175 hF q3414 q3415 rfl ?_
        refine cv_Model_bit (d := d + 1) gd_Model_name_176 gh_k1817 (Nat.le_of_ble_eq_true rfl) (gh_C.pe (e_Model_bit (d + 1) (m 88 (9 * v1))) ?_)
        exact gh_ret0 rfl gd_Model_name_179 ⟨rfl, h⟩
    · have h := hB c3378
      refine gh_sipush gd_Model_name_29 (by decide) (gh_r0 rfl) ?_
      exact gh_ret0 rfl gd_Model_name_32 ⟨rfl, h⟩
  obtain ⟨hk, hA, hB⟩ := h
  have k3417 : (((m 63 24) = 0) ∨ (p_Model_isName v1 m)) → gh_T E (gh_yModel_name.cls, prog_14_method_47_code, 3, false, 0) (d + 2) 19 [(0, 2, 63), (1, 0, v1), (2, 0, v2)] [] m (fun r m1 => m1 = m ∧ Q r) := by
    intro c
    have h := hA c
    exact hJ19 hF h
  have k3418 : ¬ (((m 63 24) = 0) ∨ (p_Model_isName v1 m)) → gh_T E (gh_yModel_name.cls, prog_14_method_47_code, 3, false, 0) (d + 2) 15 [(0, 2, 63), (1, 0, v1), (2, 0, v2)] [] m (fun r m1 => m1 = m ∧ Q r) := by
    intro c
    have h := hB c
    refine gh_sipush gd_Model_name_15 (by decide) (gh_r0 rfl) ?_
    exact gh_ret0 rfl gd_Model_name_18 ⟨rfl, h⟩
  refine gh_zeq (tgt := 19) gd_Model_name_4 (by decide) (fun c3419 => ?_) (fun c3419 => ?_)
  · have hz : True := trivial
    exact k3417 (Or.inl c3419)
  · have hz : True := trivial
    have hk := hk c3419
    refine gh_aload_n gd_Model_name_7 0 rfl (by decide) ?_
    refine gh_iload_n gd_Model_name_8 1 rfl ?_
    have q3416 := hk
    refine cv_Model_isName (d := d + 1) gd_Model_name_9 gh_k1813 hF (Nat.le_of_ble_eq_true rfl) (gh_C.pe (e_Model_isName d v1 hF q3416) ?_)
    refine gh_bne (tgt := 19) gd_Model_name_12 (by decide) (fun c3420 => ?_) (fun c3420 => ?_)
    · have hz : True := trivial
      exact k3417 (Or.inr c3420)
    · have hz : True := trivial
      exact k3418 (fun z => z.elim c3419 c3420)
def f_Model_tabled_10 (v1 : Int) (v2 : Int) (Q : Int → Prop) (m : gh_M) (K10 : Int → Int → Prop) (v3 : Int) (v4 : Int) : Prop := 0 ≤ v1 ∧ v1 < 8 ∧ 0 ≤ v1 ∧ v1 < 8 ∧ gh_i ((m 77 v1) + (m 78 v1)) ∧ ((v4 < ((m 77 v1) + (m 78 v1)) → w_Model_firstFrom v4 0 m (fun r3429 => 0 ≤ v1 ∧ v1 < 8 ∧ ((¬ ((m 85 v1) = 0) → (0 ≤ v4 ∧ v4 < 20 ∧ (¬ ((m 83 v4) = 0) → (0 ≤ v1 ∧ v1 < 8))))) ∧ ∀ v6 : Int, v6 = (if (¬ ((m 85 v1) = 0) ∧ (¬ ((m 83 v4) = 0) ∧ ((gh_ior_f (gh_iand_f (gh_ishr_f (gh_iand_f r3429 67108863) v2) 1) (gh_iand_f (gh_iand_f (gh_ishr_f r3429 27) (gh_ishr_f (m 87 v1) v2)) 1)) = 1))) then (1:Int) else 0) → ∀ v3' : Int, v3' = (if v6 = 0 then v3 else (if v3 = (-1) then v4 else (-2))) → gh_i (v4 + 1) ∧ K10 v3' (v4 + 1))) ∧ (¬ (v4 < ((m 77 v1) + (m 78 v1))) → Q v3))
def w_Model_tabled (v1 : Int) (v2 : Int) (m : gh_M) (Q : Int → Prop) : Prop := 0 ≤ v1 ∧ v1 < 8 ∧ ∀ v4 : Int, v4 = m 77 v1 → gh_L2 (fun K10 v3 v4 => f_Model_tabled_10 v1 v2 Q m K10 v3 v4) (-1) v4
theorem b_Model_tabled_10 {E : gh_E} {v1 : Int} {v2 : Int} {Q : Int → Prop} {K10 : Int → Int → Prop} (d : Nat) {m : gh_M} (hK : ∀ (v3 : Int) (v4 : Int), gh_F m → K10 v3 v4 → gh_T E (gh_yModel_tabled.cls, prog_14_method_53_code, 7, false, 0) (d + 1) 10 [(0, 2, 63), (1, 0, v1), (2, 0, v2), (3, 0, v3), (4, 0, v4)] [] m (fun r m1 => m1 = m ∧ Q r)) (v3 : Int) (v4 : Int) (hF : gh_F m) (h : f_Model_tabled_10 v1 v2 Q m K10 v3 v4) : gh_T E (gh_yModel_tabled.cls, prog_14_method_53_code, 7, false, 0) (d + 1) 10 [(0, 2, 63), (1, 0, v1), (2, 0, v2), (3, 0, v3), (4, 0, v4)] [] m (fun r m1 => m1 = m ∧ Q r) := by
  have hK10 := hK
  unfold f_Model_tabled_10 at h
  refine gh_iload gd_Model_tabled_10 4 rfl ?_
  refine gh_aload_n gd_Model_tabled_12 0 rfl (by decide) ?_
  refine gf_63_30 gd_Model_tabled_13 gh_k1397 hF ?_
  refine gh_iload_n gd_Model_tabled_16 1 rfl ?_
  obtain ⟨q3423, h⟩ := h
  obtain ⟨q3424, h⟩ := h
  refine la_77 gd_Model_tabled_17 hF q3423 q3424 rfl ?_
  refine gh_aload_n gd_Model_tabled_18 0 rfl (by decide) ?_
  refine gf_63_31 gd_Model_tabled_19 gh_k1398 hF ?_
  refine gh_iload_n gd_Model_tabled_22 1 rfl ?_
  obtain ⟨q3425, h⟩ := h
  obtain ⟨q3426, h⟩ := h
  refine la_78 gd_Model_tabled_23 hF q3425 q3426 rfl ?_
  obtain ⟨q3427, h⟩ := h
  refine gh_iadd gd_Model_tabled_24 q3427 ?_
  obtain ⟨hA, hB⟩ := h
  refine gh_jge (tgt := 122) gd_Model_tabled_25 (by decide) (fun c3428 => ?_) (fun c3428 => ?_)
  · have h := hA c3428
    refine gh_aload_n gd_Model_tabled_28 0 rfl (by decide) ?_
    refine gh_iload gd_Model_tabled_29 4 rfl ?_
    refine gh_iconst gd_Model_tabled_31 (gh_r0 rfl) ?_
    refine cv_Model_firstFrom (d := d) gd_Model_tabled_32 gh_k1754 hF (Nat.le_of_ble_eq_true rfl) (gh_C.pw (s_Model_firstFrom d v4 0 hF h) (fun r3429 h => ?_))
    refine gh_istore (L2 := [(5, 0, r3429), (0, 2, 63), (1, 0, v1), (2, 0, v2), (3, 0, v3), (4, 0, v4)]) gd_Model_tabled_35 (by decide) rfl ?_
    refine gh_aload_n gd_Model_tabled_37 1 rfl (by decide) ?_
    refine gf_63_38 gd_Model_tabled_38 gh_k1405 hF ?_
    refine gh_iload_n gd_Model_tabled_41 2 rfl ?_
    obtain ⟨q3431, h⟩ := h
    obtain ⟨q3432, h⟩ := h
    refine la_85 gd_Model_tabled_42 hF q3431 q3432 rfl ?_
    obtain ⟨hk, h⟩ := h
    have k3437 : ∀ x3438 : Int, x3438 = (if (¬ ((m 85 v1) = 0) ∧ (¬ ((m 83 v4) = 0) ∧ ((gh_ior_f (gh_iand_f (gh_ishr_f (gh_iand_f r3429 67108863) v2) 1) (gh_iand_f (gh_iand_f (gh_ishr_f r3429 27) (gh_ishr_f (m 87 v1) v2)) 1)) = 1))) then (1:Int) else 0) → gh_T E (gh_yModel_tabled.cls, prog_14_method_53_code, 7, false, 0) (d + 1) 92 [(5, 0, r3429), (0, 2, 63), (1, 0, v1), (2, 0, v2), (3, 0, v3), (4, 0, v4)] [(0, x3438)] m (fun r m1 => m1 = m ∧ Q r) := by
      rintro _ rfl
      refine gh_name (fun v6 hn => ?_)
      have h := h v6 hn
      refine gh_istore (L2 := [(6, 0, v6), (5, 0, r3429), (0, 2, 63), (1, 0, v1), (2, 0, v2), (3, 0, v3), (4, 0, v4)]) gd_Model_tabled_92 (by decide) rfl ?_
      refine gh_iload gd_Model_tabled_94 0 rfl ?_
      have k3439 : ∀ x3440 : Int, x3440 = (if v6 = 0 then v3 else (if v3 = (-1) then v4 else (-2))) → gh_T E (gh_yModel_tabled.cls, prog_14_method_53_code, 7, false, 0) (d + 1) 115 [(6, 0, v6), (5, 0, r3429), (0, 2, 63), (1, 0, v1), (2, 0, v2), (3, 0, v3), (4, 0, v4)] [(0, x3440)] m (fun r m1 => m1 = m ∧ Q r) := by
        rintro _ rfl
        refine gh_name (fun v3' hn => ?_)
        have h := h v3' hn
        refine gh_istore_n (L2 := [(3, 0, v3'), (6, 0, v6), (5, 0, r3429), (0, 2, 63), (1, 0, v1), (2, 0, v2), (4, 0, v4)]) gd_Model_tabled_115 (by decide) rfl ?_
        obtain ⟨q3441, h⟩ := h
        refine gh_iinc (L2 := [(4, 0, v4 + 1), (3, 0, v3'), (6, 0, v6), (5, 0, r3429), (0, 2, 63), (1, 0, v1), (2, 0, v2)]) gd_Model_tabled_116 6 rfl q3441 (by decide) rfl ?_
        refine gh_goto (tgt := 10) gd_Model_tabled_119 (by decide) ?_
        refine gh_pick (L2 := [(0, 2, 63), (1, 0, v1), (2, 0, v2), (3, 0, v3'), (4, 0, v4 + 1)]) [4, 5, 6, 1, 0] rfl ?_
        exact hK10 v3' (v4 + 1) hF h
      refine gh_zne (tgt := 103) gd_Model_tabled_96 (by decide) (fun c3442 => ?_) (fun c3442 => ?_)
      · have hz : True := trivial
        refine gh_iload_n gd_Model_tabled_99 5 rfl ?_
        refine gh_goto (tgt := 115) gd_Model_tabled_100 (by decide) ?_
        exact k3439 _ (by rw [if_pos c3442])
      · have hz : True := trivial
        refine gh_iload_n gd_Model_tabled_103 5 rfl ?_
        refine gh_iconst gd_Model_tabled_104 (gh_r0 rfl) ?_
        refine gh_jne (tgt := 113) gd_Model_tabled_105 (by decide) (fun c3443 => ?_) (fun c3443 => ?_)
        · have hz : True := trivial
          refine gh_iload gd_Model_tabled_108 6 rfl ?_
          refine gh_goto (tgt := 115) gd_Model_tabled_110 (by decide) ?_
          exact k3439 _ (by rw [if_neg c3442, if_pos c3443])
        · have hz : True := trivial
          refine gh_bipush gd_Model_tabled_113 (by decide) (gh_r0 rfl) ?_
          exact k3439 _ (by rw [if_neg c3442, if_neg c3443])
    refine gh_zeq (tgt := 91) gd_Model_tabled_43 (by decide) (fun c3444 => ?_) (fun c3444 => ?_)
    · have hz : True := trivial
      refine gh_iconst gd_Model_tabled_91 (gh_r0 rfl) ?_
      exact k3437 _ (if_neg (c := (¬ ((m 85 v1) = 0) ∧ (¬ ((m 83 v4) = 0) ∧ ((gh_ior_f (gh_iand_f (gh_ishr_f (gh_iand_f r3429 67108863) v2) 1) (gh_iand_f (gh_iand_f (gh_ishr_f r3429 27) (gh_ishr_f (m 87 v1) v2)) 1)) = 1)))) (fun z => z.1 c3444)).symm
    · have hz : True := trivial
      have hk := hk c3444
      refine gh_aload_n gd_Model_tabled_46 1 rfl (by decide) ?_
      refine gf_63_36 gd_Model_tabled_47 gh_k1403 hF ?_
      refine gh_iload gd_Model_tabled_50 5 rfl ?_
      obtain ⟨q3433, hk⟩ := hk
      obtain ⟨q3434, hk⟩ := hk
      refine la_83 gd_Model_tabled_52 hF q3433 q3434 rfl ?_
      refine gh_zeq (tgt := 91) gd_Model_tabled_53 (by decide) (fun c3445 => ?_) (fun c3445 => ?_)
      · have hz : True := trivial
        refine gh_iconst gd_Model_tabled_91 (gh_r0 rfl) ?_
        exact k3437 _ (if_neg (c := (¬ ((m 85 v1) = 0) ∧ (¬ ((m 83 v4) = 0) ∧ ((gh_ior_f (gh_iand_f (gh_ishr_f (gh_iand_f r3429 67108863) v2) 1) (gh_iand_f (gh_iand_f (gh_ishr_f r3429 27) (gh_ishr_f (m 87 v1) v2)) 1)) = 1)))) (fun z => (fun z => z.1 c3445) z.2)).symm
      · have hz : True := trivial
        have hk := hk c3445
        refine gh_iload gd_Model_tabled_56 0 rfl ?_
        refine gh_ldcw (n := 67108863) gd_Model_tabled_58 gh_k1759 (by decide) (gh_r0 rfl) ?_
        refine gh_iand gd_Model_tabled_61 ?_
        refine gh_iload_n gd_Model_tabled_62 3 rfl ?_
        refine gh_ishr gd_Model_tabled_63 ?_
        refine gh_iconst gd_Model_tabled_64 (gh_r0 rfl) ?_
        refine gh_iand gd_Model_tabled_65 ?_
        refine gh_iload gd_Model_tabled_66 0 rfl ?_
        refine gh_bipush gd_Model_tabled_68 (by decide) (gh_r0 rfl) ?_
        refine gh_ishr gd_Model_tabled_70 ?_
        refine gh_aload_n gd_Model_tabled_71 1 rfl (by decide) ?_
        refine gf_63_40 gd_Model_tabled_72 gh_k1407 hF ?_
        refine gh_iload_n gd_Model_tabled_75 2 rfl ?_
        obtain ⟨q3435, hk⟩ := hk
        have q3436 := hk
        refine la_87 gd_Model_tabled_76 hF q3435 q3436 rfl ?_
        refine gh_iload_n gd_Model_tabled_77 3 rfl ?_
        refine gh_ishr gd_Model_tabled_78 ?_
        refine gh_iand gd_Model_tabled_79 ?_
        refine gh_iconst gd_Model_tabled_80 (gh_r0 rfl) ?_
        refine gh_iand gd_Model_tabled_81 ?_
        refine gh_ior gd_Model_tabled_82 ?_
        refine gh_iconst gd_Model_tabled_83 (gh_r0 rfl) ?_
        refine gh_jne (tgt := 91) gd_Model_tabled_84 (by decide) (fun c3446 => ?_) (fun c3446 => ?_)
        · have hz : True := trivial
          refine gh_iconst gd_Model_tabled_87 (gh_r0 rfl) ?_
          refine gh_goto (tgt := 92) gd_Model_tabled_88 (by decide) ?_
          exact k3437 _ (if_pos (c := (¬ ((m 85 v1) = 0) ∧ (¬ ((m 83 v4) = 0) ∧ ((gh_ior_f (gh_iand_f (gh_ishr_f (gh_iand_f r3429 67108863) v2) 1) (gh_iand_f (gh_iand_f (gh_ishr_f r3429 27) (gh_ishr_f (m 87 v1) v2)) 1)) = 1)))) ⟨c3444, ⟨c3445, c3446⟩⟩).symm
        · have hz : True := trivial
          refine gh_iconst gd_Model_tabled_91 (gh_r0 rfl) ?_
          exact k3437 _ (if_neg (c := (¬ ((m 85 v1) = 0) ∧ (¬ ((m 83 v4) = 0) ∧ ((gh_ior_f (gh_iand_f (gh_ishr_f (gh_iand_f r3429 67108863) v2) 1) (gh_iand_f (gh_iand_f (gh_ishr_f r3429 27) (gh_ishr_f (m 87 v1) v2)) 1)) = 1)))) (fun z => (fun z => c3446 z.2) z.2)).symm
  · have h := hB c3428
    refine gh_iload_n gd_Model_tabled_122 3 rfl ?_
    exact gh_ret0 rfl gd_Model_tabled_123 ⟨rfl, h⟩
theorem s_Model_tabled {E : gh_E} {m : gh_M} {Q : Int → Prop} (d : Nat) (v1 : Int) (v2 : Int) (hF : gh_F m) (h : w_Model_tabled v1 v2 m Q) : gh_C E gh_yModel_tabled prog_14_method_53_code 7 (some .int) 0 (d + 1) [(2, 63), (0, v1), (0, v2)] m (fun r m1 => m1 = m ∧ Q r) := by
  refine gh_enter2 (L := [(0, 2, 63), (1, 0, v1), (2, 0, v2)]) (by decide +kernel) gh_rt0 (Nat.le_of_ble_eq_true rfl) rfl rfl ?_
  unfold w_Model_tabled at h
  refine gh_iconst gd_Model_tabled_0 (gh_r0 rfl) ?_
  refine gh_istore_n (L2 := [(3, 0, (-1)), (0, 2, 63), (1, 0, v1), (2, 0, v2)]) gd_Model_tabled_1 (by decide) rfl ?_
  refine gh_aload_n gd_Model_tabled_2 1 rfl (by decide) ?_
  refine gf_63_30 gd_Model_tabled_3 gh_k1397 hF ?_
  refine gh_iload_n gd_Model_tabled_6 2 rfl ?_
  obtain ⟨q3421, h⟩ := h
  obtain ⟨q3422, h⟩ := h
  refine la_77 gd_Model_tabled_7 hF q3421 q3422 rfl ?_
  refine gh_name (fun v4 hn => ?_)
  have h := h v4 hn
  refine gh_istore (L2 := [(4, 0, v4), (3, 0, (-1)), (0, 2, 63), (1, 0, v1), (2, 0, v2)]) gd_Model_tabled_8 (by decide) rfl ?_
  refine gh_pick (L2 := [(0, 2, 63), (1, 0, v1), (2, 0, v2), (3, 0, (-1)), (4, 0, v4)]) [2, 3, 4, 1, 0] rfl ?_
  exact gh_L2_sound (T := fun v3 v4 => gh_T E (gh_yModel_tabled.cls, prog_14_method_53_code, 7, false, 0) (d + 1) 10 [(0, 2, 63), (1, 0, v1), (2, 0, v2), (3, 0, v3), (4, 0, v4)] [] m (fun r m1 => m1 = m ∧ Q r)) (fun _ _ => gh_F m) (fun K10 v3 v4 hK hF h => b_Model_tabled_10 d hK v3 v4 hF h) (-1) v4 hF h
def w_Model_table (v1 : Int) (v2 : Int) (m : gh_M) (Q : Int → Prop) : Prop := ∃ J19 : Prop, (J19 → (((¬ (v2 < 0) ∧ (v2 ≤ 26)) → (((m 63 24) = 0 → Q (-1003)) ∧ (¬ ((m 63 24) = 0) → w_Model_tabled v1 v2 m (fun r3449 => Q r3449)))) ∧ (¬ ((¬ (v2 < 0) ∧ (v2 ≤ 26))) → Q (-1002)))) ∧ ((¬ ((m 63 24) = 0) → (k_Model_isName v1 m))) ∧ (((((m 63 24) = 0) ∨ (p_Model_isName v1 m)) → J19) ∧ (¬ (((m 63 24) = 0) ∨ (p_Model_isName v1 m)) → Q (-1001)))
theorem s_Model_table {E : gh_E} {m : gh_M} {Q : Int → Prop} (d : Nat) (v1 : Int) (v2 : Int) (hF : gh_F m) (h : w_Model_table v1 v2 m Q) : gh_C E gh_yModel_table prog_14_method_54_code 3 (some .int) 0 (d + 2) [(2, 63), (0, v1), (0, v2)] m (fun r m1 => m1 = m ∧ Q r) := by
  refine gh_enter2 (L := [(0, 2, 63), (1, 0, v1), (2, 0, v2)]) (by decide +kernel) gh_rt0 (Nat.le_of_ble_eq_true rfl) rfl rfl ?_
  unfold w_Model_table at h
  refine gh_aload_n gd_Model_table_0 0 rfl (by decide) ?_
  refine gf_63_24 gd_Model_table_1 gh_k1391 hF rfl ?_
  obtain ⟨J19, hJ19, h⟩ := h
  have hJ19 : gh_F m → J19 → gh_T E (gh_yModel_table.cls, prog_14_method_54_code, 3, false, 0) (d + 2) 19 [(0, 2, 63), (1, 0, v1), (2, 0, v2)] [] m (fun r m1 => m1 = m ∧ Q r) := by
    intro hF hj
    have h := hJ19 hj
    refine gh_iload_n gd_Model_table_19 2 rfl ?_
    refine gh_iconst gd_Model_table_20 (gh_r0 rfl) ?_
    refine gh_bipush gd_Model_table_21 (by decide) (gh_r0 rfl) ?_
    refine cv_Model_in (d := d + 1) gd_Model_table_23 gh_k1628 (Nat.le_of_ble_eq_true rfl) (gh_C.pe (e_Model_in (d + 1) v2 0 26) ?_)
    obtain ⟨hA, hB⟩ := h
    refine gh_bne (tgt := 33) gd_Model_table_26 (by decide) (fun c3447 => ?_) (fun c3447 => ?_)
    · have h := hA c3447
      refine gh_aload_n gd_Model_table_33 0 rfl (by decide) ?_
      refine gf_63_24 gd_Model_table_34 gh_k1391 hF rfl ?_
      obtain ⟨hA, hB⟩ := h
      refine gh_zeq (tgt := 49) gd_Model_table_37 (by decide) (fun c3448 => ?_) (fun c3448 => ?_)
      · have h := hA c3448
        refine gh_sipush gd_Model_table_49 (by decide) (gh_r0 rfl) ?_
        exact gh_ret0 rfl gd_Model_table_52 ⟨rfl, h⟩
      · have h := hB c3448
        refine gh_aload_n gd_Model_table_40 0 rfl (by decide) ?_
        refine gh_iload_n gd_Model_table_41 1 rfl ?_
        refine gh_iload_n gd_Model_table_42 2 rfl ?_
        refine cv_Model_tabled (d := d + 1) gd_Model_table_43 gh_k1852 hF (Nat.le_of_ble_eq_true rfl) (gh_C.pw (s_Model_tabled d v1 v2 hF h) (fun r3449 h => ?_))
        refine gh_goto (tgt := 52) gd_Model_table_46 (by decide) ?_
        exact gh_ret0 rfl gd_Model_table_52 ⟨rfl, h⟩
    · have h := hB c3447
      refine gh_sipush gd_Model_table_29 (by decide) (gh_r0 rfl) ?_
      exact gh_ret0 rfl gd_Model_table_32 ⟨rfl, h⟩
  obtain ⟨hk, hA, hB⟩ := h
  have k3452 : (((m 63 24) = 0) ∨ (p_Model_isName v1 m)) → gh_T E (gh_yModel_table.cls, prog_14_method_54_code, 3, false, 0) (d + 2) 19 [(0, 2, 63), (1, 0, v1), (2, 0, v2)] [] m (fun r m1 => m1 = m ∧ Q r) := by
    intro c
    have h := hA c
    exact hJ19 hF h
  have k3453 : ¬ (((m 63 24) = 0) ∨ (p_Model_isName v1 m)) → gh_T E (gh_yModel_table.cls, prog_14_method_54_code, 3, false, 0) (d + 2) 15 [(0, 2, 63), (1, 0, v1), (2, 0, v2)] [] m (fun r m1 => m1 = m ∧ Q r) := by
    intro c
    have h := hB c
    refine gh_sipush gd_Model_table_15 (by decide) (gh_r0 rfl) ?_
    exact gh_ret0 rfl gd_Model_table_18 ⟨rfl, h⟩
  refine gh_zeq (tgt := 19) gd_Model_table_4 (by decide) (fun c3454 => ?_) (fun c3454 => ?_)
  · have hz : True := trivial
    exact k3452 (Or.inl c3454)
  · have hz : True := trivial
    have hk := hk c3454
    refine gh_aload_n gd_Model_table_7 0 rfl (by decide) ?_
    refine gh_iload_n gd_Model_table_8 1 rfl ?_
    have q3451 := hk
    refine cv_Model_isName (d := d + 1) gd_Model_table_9 gh_k1813 hF (Nat.le_of_ble_eq_true rfl) (gh_C.pe (e_Model_isName d v1 hF q3451) ?_)
    refine gh_bne (tgt := 19) gd_Model_table_12 (by decide) (fun c3455 => ?_) (fun c3455 => ?_)
    · have hz : True := trivial
      exact k3452 (Or.inr c3455)
    · have hz : True := trivial
      exact k3453 (fun z => z.elim c3454 c3455)
def f_Model_unclear_4 (Q : Int → Prop) (m : gh_M) (K4 : Int → Int → Prop) (v1 : Int) (v2 : Int) : Prop := gh_i (27 * (m 63 26)) ∧ ((v2 < (27 * (m 63 26)) → 0 ≤ v2 ∧ 0 ≤ v2 ∧ w_Model_tabled (v2 / 27) (v2 % 27) m (fun r3460 => gh_i (v1 + (if (r3460 = (-2)) then (1:Int) else 0)) ∧ ∀ v1' : Int, v1' = v1 + (if (r3460 = (-2)) then (1:Int) else 0) → gh_i (v2 + 1) ∧ K4 v1' (v2 + 1))) ∧ (¬ (v2 < (27 * (m 63 26))) → Q v1))
def w_Model_unclear (m : gh_M) (Q : Int → Prop) : Prop := gh_L2 (fun K4 v1 v2 => f_Model_unclear_4 Q m K4 v1 v2) 0 0
theorem b_Model_unclear_4 {E : gh_E} {Q : Int → Prop} {K4 : Int → Int → Prop} (d : Nat) {m : gh_M} (hK : ∀ (v1 : Int) (v2 : Int), gh_F m → K4 v1 v2 → gh_T E (gh_yModel_unclear.cls, prog_14_method_55_code, 3, false, 0) (d + 2) 4 [(0, 2, 63), (1, 0, v1), (2, 0, v2)] [] m (fun r m1 => m1 = m ∧ Q r)) (v1 : Int) (v2 : Int) (hF : gh_F m) (h : f_Model_unclear_4 Q m K4 v1 v2) : gh_T E (gh_yModel_unclear.cls, prog_14_method_55_code, 3, false, 0) (d + 2) 4 [(0, 2, 63), (1, 0, v1), (2, 0, v2)] [] m (fun r m1 => m1 = m ∧ Q r) := by
  have hK4 := hK
  unfold f_Model_unclear_4 at h
  refine gh_iload_n gd_Model_unclear_4 2 rfl ?_
  refine gh_bipush gd_Model_unclear_5 (by decide) (gh_r0 rfl) ?_
  refine gh_aload_n gd_Model_unclear_7 0 rfl (by decide) ?_
  refine gf_63_26 gd_Model_unclear_8 gh_k1393 hF rfl ?_
  obtain ⟨q3456, h⟩ := h
  refine gh_imul gd_Model_unclear_11 q3456 ?_
  obtain ⟨hA, hB⟩ := h
  refine gh_jge (tgt := 46) gd_Model_unclear_12 (by decide) (fun c3457 => ?_) (fun c3457 => ?_)
  · have h := hA c3457
    refine gh_iload_n gd_Model_unclear_15 1 rfl ?_
    refine gh_aload_n gd_Model_unclear_16 0 rfl (by decide) ?_
    refine gh_iload_n gd_Model_unclear_17 2 rfl ?_
    refine gh_bipush gd_Model_unclear_18 (by decide) (gh_r0 rfl) ?_
    obtain ⟨q3458, h⟩ := h
    refine gh_idiv gd_Model_unclear_20 q3458 (by decide) ?_
    refine gh_iload_n gd_Model_unclear_21 2 rfl ?_
    refine gh_bipush gd_Model_unclear_22 (by decide) (gh_r0 rfl) ?_
    obtain ⟨q3459, h⟩ := h
    refine gh_irem gd_Model_unclear_24 q3459 (by decide) ?_
    refine cv_Model_tabled (d := d + 1) gd_Model_unclear_25 gh_k1852 hF (Nat.le_of_ble_eq_true rfl) (gh_C.pw (s_Model_tabled d (v2 / 27) (v2 % 27) hF h) (fun r3460 h => ?_))
    refine gh_bipush gd_Model_unclear_28 (by decide) (gh_r0 rfl) ?_
    have k3462 : ∀ x3463 : Int, x3463 = (if (r3460 = (-2)) then (1:Int) else 0) → gh_T E (gh_yModel_unclear.cls, prog_14_method_55_code, 3, false, 0) (d + 2) 38 [(0, 2, 63), (1, 0, v1), (2, 0, v2)] [(0, x3463), (0, v1)] m (fun r m1 => m1 = m ∧ Q r) := by
      rintro _ rfl
      obtain ⟨q3464, h⟩ := h
      refine gh_iadd gd_Model_unclear_38 q3464 ?_
      refine gh_name (fun v1' hn => ?_)
      have h := h v1' hn
      refine gh_istore_n (L2 := [(1, 0, v1'), (0, 2, 63), (2, 0, v2)]) gd_Model_unclear_39 (by decide) rfl ?_
      obtain ⟨q3465, h⟩ := h
      refine gh_iinc (L2 := [(2, 0, v2 + 1), (1, 0, v1'), (0, 2, 63)]) gd_Model_unclear_40 2 rfl q3465 (by decide) rfl ?_
      refine gh_goto (tgt := 4) gd_Model_unclear_43 (by decide) ?_
      refine gh_pick (L2 := [(0, 2, 63), (1, 0, v1'), (2, 0, v2 + 1)]) [2, 1, 0] rfl ?_
      exact hK4 v1' (v2 + 1) hF h
    refine gh_jne (tgt := 37) gd_Model_unclear_30 (by decide) (fun c3466 => ?_) (fun c3466 => ?_)
    · have hz : True := trivial
      refine gh_iconst gd_Model_unclear_33 (gh_r0 rfl) ?_
      refine gh_goto (tgt := 38) gd_Model_unclear_34 (by decide) ?_
      exact k3462 _ (if_pos (c := (r3460 = (-2))) c3466).symm
    · have hz : True := trivial
      refine gh_iconst gd_Model_unclear_37 (gh_r0 rfl) ?_
      exact k3462 _ (if_neg (c := (r3460 = (-2))) c3466).symm
  · have h := hB c3457
    refine gh_iload_n gd_Model_unclear_46 1 rfl ?_
    exact gh_ret0 rfl gd_Model_unclear_47 ⟨rfl, h⟩
theorem s_Model_unclear {E : gh_E} {m : gh_M} {Q : Int → Prop} (d : Nat) (hF : gh_F m) (h : w_Model_unclear m Q) : gh_C E gh_yModel_unclear prog_14_method_55_code 3 (some .int) 0 (d + 2) [(2, 63)] m (fun r m1 => m1 = m ∧ Q r) := by
  refine gh_enter2 (L := [(0, 2, 63)]) (by decide +kernel) gh_rt0 (Nat.le_of_ble_eq_true rfl) rfl rfl ?_
  unfold w_Model_unclear at h
  refine gh_iconst gd_Model_unclear_0 (gh_r0 rfl) ?_
  refine gh_istore_n (L2 := [(1, 0, 0), (0, 2, 63)]) gd_Model_unclear_1 (by decide) rfl ?_
  refine gh_iconst gd_Model_unclear_2 (gh_r0 rfl) ?_
  refine gh_istore_n (L2 := [(2, 0, 0), (1, 0, 0), (0, 2, 63)]) gd_Model_unclear_3 (by decide) rfl ?_
  refine gh_pick (L2 := [(0, 2, 63), (1, 0, 0), (2, 0, 0)]) [2, 1, 0] rfl ?_
  exact gh_L2_sound (T := fun v1 v2 => gh_T E (gh_yModel_unclear.cls, prog_14_method_55_code, 3, false, 0) (d + 2) 4 [(0, 2, 63), (1, 0, v1), (2, 0, v2)] [] m (fun r m1 => m1 = m ∧ Q r)) (fun _ _ => gh_F m) (fun K4 v1 v2 hK hF h => b_Model_unclear_4 d hK v1 v2 hF h) 0 0 hF h
def f_Model_sum_29 (v1 : Int) (Q : Int → Prop) (m : gh_M) (K29 : Int → Int → Prop) (v2 : Int) (v3 : Int) : Prop := ((v3 < (m 63 27) → 0 ≤ v3 ∧ v3 < 20 ∧ gh_i (v2 + (m 80 v3)) ∧ ∀ v2' : Int, v2' = v2 + (m 80 v3) → gh_i (v3 + 1) ∧ K29 v2' (v3 + 1)) ∧ (¬ (v3 < (m 63 27)) → ((v1 = 0 → Q (m 63 25)) ∧ (¬ (v1 = 0) → ((v1 = 1 → Q (m 63 26)) ∧ (¬ (v1 = 1) → ((v1 = 2 → Q (m 63 27)) ∧ (¬ (v1 = 2) → ((v1 = 3 → Q v2) ∧ (¬ (v1 = 3) → ((v1 = 4 → Q (m 63 50)) ∧ (¬ (v1 = 4) → ((v1 = 5 → w_Model_unclear m (fun r3480 => Q r3480)) ∧ (¬ (v1 = 5) → Q (m 63 68)))))))))))))))
def w_Model_sum (v1 : Int) (m : gh_M) (Q : Int → Prop) : Prop := (((¬ (v1 < 0) ∧ (v1 ≤ 6)) → (((m 63 24) = 0 → Q (-1003)) ∧ (¬ ((m 63 24) = 0) → gh_L2 (fun K29 v2 v3 => f_Model_sum_29 v1 Q m K29 v2 v3) 0 0))) ∧ (¬ ((¬ (v1 < 0) ∧ (v1 ≤ 6))) → Q (-1002)))
theorem b_Model_sum_29 {E : gh_E} {v1 : Int} {Q : Int → Prop} {K29 : Int → Int → Prop} (d : Nat) {m : gh_M} (hK : ∀ (v2 : Int) (v3 : Int), gh_F m → K29 v2 v3 → gh_T E (gh_yModel_sum.cls, prog_14_method_56_code, 4, false, 0) (d + 3) 29 [(0, 2, 63), (1, 0, v1), (2, 0, v2), (3, 0, v3)] [] m (fun r m1 => m1 = m ∧ Q r)) (v2 : Int) (v3 : Int) (hF : gh_F m) (h : f_Model_sum_29 v1 Q m K29 v2 v3) : gh_T E (gh_yModel_sum.cls, prog_14_method_56_code, 4, false, 0) (d + 3) 29 [(0, 2, 63), (1, 0, v1), (2, 0, v2), (3, 0, v3)] [] m (fun r m1 => m1 = m ∧ Q r) := by
  have hK29 := hK
  unfold f_Model_sum_29 at h
  refine gh_iload_n gd_Model_sum_29 3 rfl ?_
  refine gh_aload_n gd_Model_sum_30 0 rfl (by decide) ?_
  refine gf_63_27 gd_Model_sum_31 gh_k1394 hF rfl ?_
  obtain ⟨hA, hB⟩ := h
  refine gh_jge (tgt := 52) gd_Model_sum_34 (by decide) (fun c3469 => ?_) (fun c3469 => ?_)
  · have h := hA c3469
    refine gh_iload_n gd_Model_sum_37 2 rfl ?_
    refine gh_aload_n gd_Model_sum_38 0 rfl (by decide) ?_
    refine gf_63_33 gd_Model_sum_39 gh_k1400 hF ?_
    refine gh_iload_n gd_Model_sum_42 3 rfl ?_
    obtain ⟨q3470, h⟩ := h
    obtain ⟨q3471, h⟩ := h
    refine la_80 gd_Model_sum_43 hF q3470 q3471 rfl ?_
    obtain ⟨q3472, h⟩ := h
    refine gh_iadd gd_Model_sum_44 q3472 ?_
    refine gh_name (fun v2' hn => ?_)
    have h := h v2' hn
    refine gh_istore_n (L2 := [(2, 0, v2'), (0, 2, 63), (1, 0, v1), (3, 0, v3)]) gd_Model_sum_45 (by decide) rfl ?_
    obtain ⟨q3473, h⟩ := h
    refine gh_iinc (L2 := [(3, 0, v3 + 1), (2, 0, v2'), (0, 2, 63), (1, 0, v1)]) gd_Model_sum_46 3 rfl q3473 (by decide) rfl ?_
    refine gh_goto (tgt := 29) gd_Model_sum_49 (by decide) ?_
    refine gh_pick (L2 := [(0, 2, 63), (1, 0, v1), (2, 0, v2'), (3, 0, v3 + 1)]) [2, 3, 1, 0] rfl ?_
    exact hK29 v2' (v3 + 1) hF h
  · have h := hB c3469
    refine gh_iload_n gd_Model_sum_52 1 rfl ?_
    obtain ⟨hA, hB⟩ := h
    refine gh_zne (tgt := 63) gd_Model_sum_53 (by decide) (fun c3474 => ?_) (fun c3474 => ?_)
    · have h := hA c3474
      refine gh_aload_n gd_Model_sum_56 0 rfl (by decide) ?_
      refine gf_63_25 gd_Model_sum_57 gh_k1392 hF rfl ?_
      refine gh_goto (tgt := 124) gd_Model_sum_60 (by decide) ?_
      exact gh_ret0 rfl gd_Model_sum_124 ⟨rfl, h⟩
    · have h := hB c3474
      refine gh_iload_n gd_Model_sum_63 1 rfl ?_
      refine gh_iconst gd_Model_sum_64 (gh_r0 rfl) ?_
      obtain ⟨hA, hB⟩ := h
      refine gh_jne (tgt := 75) gd_Model_sum_65 (by decide) (fun c3475 => ?_) (fun c3475 => ?_)
      · have h := hA c3475
        refine gh_aload_n gd_Model_sum_68 0 rfl (by decide) ?_
        refine gf_63_26 gd_Model_sum_69 gh_k1393 hF rfl ?_
        refine gh_goto (tgt := 124) gd_Model_sum_72 (by decide) ?_
        exact gh_ret0 rfl gd_Model_sum_124 ⟨rfl, h⟩
      · have h := hB c3475
        refine gh_iload_n gd_Model_sum_75 1 rfl ?_
        refine gh_iconst gd_Model_sum_76 (gh_r0 rfl) ?_
        obtain ⟨hA, hB⟩ := h
        refine gh_jne (tgt := 87) gd_Model_sum_77 (by decide) (fun c3476 => ?_) (fun c3476 => ?_)
        · have h := hA c3476
          refine gh_aload_n gd_Model_sum_80 0 rfl (by decide) ?_
          refine gf_63_27 gd_Model_sum_81 gh_k1394 hF rfl ?_
          refine gh_goto (tgt := 124) gd_Model_sum_84 (by decide) ?_
          exact gh_ret0 rfl gd_Model_sum_124 ⟨rfl, h⟩
        · have h := hB c3476
          refine gh_iload_n gd_Model_sum_87 1 rfl ?_
          refine gh_iconst gd_Model_sum_88 (gh_r0 rfl) ?_
          obtain ⟨hA, hB⟩ := h
          refine gh_jne (tgt := 96) gd_Model_sum_89 (by decide) (fun c3477 => ?_) (fun c3477 => ?_)
          · have h := hA c3477
            refine gh_iload_n gd_Model_sum_92 2 rfl ?_
            refine gh_goto (tgt := 124) gd_Model_sum_93 (by decide) ?_
            exact gh_ret0 rfl gd_Model_sum_124 ⟨rfl, h⟩
          · have h := hB c3477
            refine gh_iload_n gd_Model_sum_96 1 rfl ?_
            refine gh_iconst gd_Model_sum_97 (gh_r0 rfl) ?_
            obtain ⟨hA, hB⟩ := h
            refine gh_jne (tgt := 108) gd_Model_sum_98 (by decide) (fun c3478 => ?_) (fun c3478 => ?_)
            · have h := hA c3478
              refine gh_aload_n gd_Model_sum_101 0 rfl (by decide) ?_
              refine gf_63_50 gd_Model_sum_102 gh_k1417 hF rfl ?_
              refine gh_goto (tgt := 124) gd_Model_sum_105 (by decide) ?_
              exact gh_ret0 rfl gd_Model_sum_124 ⟨rfl, h⟩
            · have h := hB c3478
              refine gh_iload_n gd_Model_sum_108 1 rfl ?_
              refine gh_iconst gd_Model_sum_109 (gh_r0 rfl) ?_
              obtain ⟨hA, hB⟩ := h
              refine gh_jne (tgt := 120) gd_Model_sum_110 (by decide) (fun c3479 => ?_) (fun c3479 => ?_)
              · have h := hA c3479
                refine gh_aload_n gd_Model_sum_113 0 rfl (by decide) ?_
                refine cv_Model_unclear (d := d + 2) gd_Model_sum_114 gh_k1860 hF (Nat.le_of_ble_eq_true rfl) (gh_C.pw (s_Model_unclear d hF h) (fun r3480 h => ?_))
                refine gh_goto (tgt := 124) gd_Model_sum_117 (by decide) ?_
                exact gh_ret0 rfl gd_Model_sum_124 ⟨rfl, h⟩
              · have h := hB c3479
                refine gh_aload_n gd_Model_sum_120 0 rfl (by decide) ?_
                refine gf_63_68 gd_Model_sum_121 gh_k1435 hF rfl ?_
                exact gh_ret0 rfl gd_Model_sum_124 ⟨rfl, h⟩
theorem s_Model_sum {E : gh_E} {m : gh_M} {Q : Int → Prop} (d : Nat) (v1 : Int) (hF : gh_F m) (h : w_Model_sum v1 m Q) : gh_C E gh_yModel_sum prog_14_method_56_code 4 (some .int) 0 (d + 3) [(2, 63), (0, v1)] m (fun r m1 => m1 = m ∧ Q r) := by
  refine gh_enter2 (L := [(0, 2, 63), (1, 0, v1)]) (by decide +kernel) gh_rt0 (Nat.le_of_ble_eq_true rfl) rfl rfl ?_
  unfold w_Model_sum at h
  refine gh_iload_n gd_Model_sum_0 1 rfl ?_
  refine gh_iconst gd_Model_sum_1 (gh_r0 rfl) ?_
  refine gh_bipush gd_Model_sum_2 (by decide) (gh_r0 rfl) ?_
  refine cv_Model_in (d := d + 2) gd_Model_sum_4 gh_k1628 (Nat.le_of_ble_eq_true rfl) (gh_C.pe (e_Model_in (d + 2) v1 0 6) ?_)
  obtain ⟨hA, hB⟩ := h
  refine gh_bne (tgt := 14) gd_Model_sum_7 (by decide) (fun c3467 => ?_) (fun c3467 => ?_)
  · have h := hA c3467
    refine gh_aload_n gd_Model_sum_14 0 rfl (by decide) ?_
    refine gf_63_24 gd_Model_sum_15 gh_k1391 hF rfl ?_
    obtain ⟨hA, hB⟩ := h
    refine gh_zne (tgt := 25) gd_Model_sum_18 (by decide) (fun c3468 => ?_) (fun c3468 => ?_)
    · have h := hA c3468
      refine gh_sipush gd_Model_sum_21 (by decide) (gh_r0 rfl) ?_
      exact gh_ret0 rfl gd_Model_sum_24 ⟨rfl, h⟩
    · have h := hB c3468
      refine gh_iconst gd_Model_sum_25 (gh_r0 rfl) ?_
      refine gh_istore_n (L2 := [(2, 0, 0), (0, 2, 63), (1, 0, v1)]) gd_Model_sum_26 (by decide) rfl ?_
      refine gh_iconst gd_Model_sum_27 (gh_r0 rfl) ?_
      refine gh_istore_n (L2 := [(3, 0, 0), (2, 0, 0), (0, 2, 63), (1, 0, v1)]) gd_Model_sum_28 (by decide) rfl ?_
      refine gh_pick (L2 := [(0, 2, 63), (1, 0, v1), (2, 0, 0), (3, 0, 0)]) [2, 3, 1, 0] rfl ?_
      exact gh_L2_sound (T := fun v2 v3 => gh_T E (gh_yModel_sum.cls, prog_14_method_56_code, 4, false, 0) (d + 3) 29 [(0, 2, 63), (1, 0, v1), (2, 0, v2), (3, 0, v3)] [] m (fun r m1 => m1 = m ∧ Q r)) (fun _ _ => gh_F m) (fun K29 v2 v3 hK hF h => b_Model_sum_29 d hK v2 v3 hF h) 0 0 hF h
  · have h := hB c3467
    refine gh_sipush gd_Model_sum_10 (by decide) (gh_r0 rfl) ?_
    exact gh_ret0 rfl gd_Model_sum_13 ⟨rfl, h⟩
def f_Model_proper_49 (v1 : Int) (v2 : Int) (v4 : Int) (v5 : Int) (K34 : Int → Int → Int → Int → Prop) (m : gh_M) (K49 : Int → Int → Int → Prop) (v3 : Int) (v6 : Int) (v7 : Int) : Prop := ((v7 < (m 63 42) → gh_i (320 * v5) ∧ gh_i ((320 * v5) + v7) ∧ 0 ≤ (320 * v5) + v7 ∧ ((320 * v5) + v7) < 2560 ∧ gh_i (v6 + (if (¬ ((m 92 ((320 * v5) + v7)) = 0)) then (1:Int) else 0)) ∧ ∀ v6' : Int, v6' = v6 + (if (¬ ((m 92 ((320 * v5) + v7)) = 0)) then (1:Int) else 0) → gh_i (320 * v5) ∧ gh_i ((320 * v5) + v7) ∧ 0 ≤ (320 * v5) + v7 ∧ ((320 * v5) + v7) < 2560 ∧ ((¬ ((m 92 ((320 * v5) + v7)) = 0) → (0 ≤ v7 ∧ v7 < 320))) ∧ gh_i (v3 + (if (m 92 ((320 * v5) + v7)) = 0 then 0 else (m 89 v7))) ∧ ∀ v3' : Int, v3' = v3 + (if (m 92 ((320 * v5) + v7)) = 0 then 0 else (m 89 v7)) → gh_i (v7 + 1) ∧ K49 v3' v6' (v7 + 1)) ∧ (¬ (v7 < (m 63 42)) → gh_i (v2 + v6) ∧ ∀ v2' : Int, v2' = v2 + v6 → gh_i (v4 + (if (¬ (v6 ≤ 0)) then (1:Int) else 0)) ∧ ∀ v4' : Int, v4' = v4 + (if (¬ (v6 ≤ 0)) then (1:Int) else 0) → gh_i (v5 + 1) ∧ K34 v2' v3 v4' (v5 + 1)))
def f_Model_proper_34 (v1 : Int) (Q : Int → Prop) (m : gh_M) (K34 : Int → Int → Int → Int → Prop) (v2 : Int) (v3 : Int) (v4 : Int) (v5 : Int) : Prop := ((v5 < (m 63 26) → gh_L3 (fun K49 v3 v6 v7 => f_Model_proper_49 v1 v2 v4 v5 K34 m K49 v3 v6 v7) v3 0 0) ∧ (¬ (v5 < (m 63 26)) → Q (if v1 = 0 then v2 else (if v1 = 1 then v4 else v3))))
def w_Model_proper (v1 : Int) (m : gh_M) (Q : Int → Prop) : Prop := (((¬ (v1 < 0) ∧ (v1 ≤ 2)) → (((m 63 24) = 0 → Q (-1003)) ∧ (¬ ((m 63 24) = 0) → gh_L4 (fun K34 v2 v3 v4 v5 => f_Model_proper_34 v1 Q m K34 v2 v3 v4 v5) 0 0 0 0))) ∧ (¬ ((¬ (v1 < 0) ∧ (v1 ≤ 2))) → Q (-1002)))
theorem b_Model_proper_49 {E : gh_E} {v1 : Int} {v2 : Int} {v4 : Int} {v5 : Int} {K34 : Int → Int → Int → Int → Prop} {Q : Int → Prop} {K49 : Int → Int → Int → Prop} (d : Nat) {m : gh_M} (hK34 : ∀ (v2 : Int) (v3 : Int) (v4 : Int) (v5 : Int), gh_F m → K34 v2 v3 v4 v5 → gh_T E (gh_yModel_proper.cls, prog_14_method_64_code, 8, false, 0) (d + 1) 34 [(0, 2, 63), (1, 0, v1), (2, 0, v2), (3, 0, v3), (4, 0, v4), (5, 0, v5)] [] m (fun r m1 => m1 = m ∧ Q r)) (hK : ∀ (v3 : Int) (v6 : Int) (v7 : Int), gh_F m → K49 v3 v6 v7 → gh_T E (gh_yModel_proper.cls, prog_14_method_64_code, 8, false, 0) (d + 1) 49 [(0, 2, 63), (1, 0, v1), (2, 0, v2), (3, 0, v3), (4, 0, v4), (5, 0, v5), (6, 0, v6), (7, 0, v7)] [] m (fun r m1 => m1 = m ∧ Q r)) (v3 : Int) (v6 : Int) (v7 : Int) (hF : gh_F m) (h : f_Model_proper_49 v1 v2 v4 v5 K34 m K49 v3 v6 v7) : gh_T E (gh_yModel_proper.cls, prog_14_method_64_code, 8, false, 0) (d + 1) 49 [(0, 2, 63), (1, 0, v1), (2, 0, v2), (3, 0, v3), (4, 0, v4), (5, 0, v5), (6, 0, v6), (7, 0, v7)] [] m (fun r m1 => m1 = m ∧ Q r) := by
  have hK49 := hK
  unfold f_Model_proper_49 at h
  refine gh_iload gd_Model_proper_49 7 rfl ?_
  refine gh_aload_n gd_Model_proper_51 0 rfl (by decide) ?_
  refine gf_63_42 gd_Model_proper_52 gh_k1409 hF rfl ?_
  obtain ⟨hA, hB⟩ := h
  refine gh_jge (tgt := 122) gd_Model_proper_55 (by decide) (fun c3485 => ?_) (fun c3485 => ?_)
  · have h := hA c3485
    refine gh_iload gd_Model_proper_58 6 rfl ?_
    refine gh_aload_n gd_Model_proper_60 0 rfl (by decide) ?_
    refine gf_63_46 gd_Model_proper_61 gh_k1413 hF ?_
    refine gh_sipush gd_Model_proper_64 (by decide) (gh_r0 rfl) ?_
    refine gh_iload gd_Model_proper_67 5 rfl ?_
    obtain ⟨q3486, h⟩ := h
    refine gh_imul gd_Model_proper_69 q3486 ?_
    refine gh_iload gd_Model_proper_70 7 rfl ?_
    obtain ⟨q3487, h⟩ := h
    refine gh_iadd gd_Model_proper_72 q3487 ?_
    obtain ⟨q3488, h⟩ := h
    obtain ⟨q3489, h⟩ := h
    refine la_92 gd_Model_proper_73 hF q3488 q3489 rfl ?_
    have k3490 : ∀ x3491 : Int, x3491 = (if (¬ ((m 92 ((320 * v5) + v7)) = 0)) then (1:Int) else 0) → gh_T E (gh_yModel_proper.cls, prog_14_method_64_code, 8, false, 0) (d + 1) 82 [(0, 2, 63), (1, 0, v1), (2, 0, v2), (3, 0, v3), (4, 0, v4), (5, 0, v5), (6, 0, v6), (7, 0, v7)] [(0, x3491), (0, v6)] m (fun r m1 => m1 = m ∧ Q r) := by
      rintro _ rfl
      obtain ⟨q3492, h⟩ := h
      refine gh_iadd gd_Model_proper_82 q3492 ?_
      refine gh_name (fun v6' hn => ?_)
      have h := h v6' hn
      refine gh_istore (L2 := [(6, 0, v6'), (0, 2, 63), (1, 0, v1), (2, 0, v2), (3, 0, v3), (4, 0, v4), (5, 0, v5), (7, 0, v7)]) gd_Model_proper_83 (by decide) rfl ?_
      refine gh_iload_n gd_Model_proper_85 4 rfl ?_
      refine gh_aload_n gd_Model_proper_86 1 rfl (by decide) ?_
      refine gf_63_46 gd_Model_proper_87 gh_k1413 hF ?_
      refine gh_sipush gd_Model_proper_90 (by decide) (gh_r0 rfl) ?_
      refine gh_iload gd_Model_proper_93 6 rfl ?_
      obtain ⟨q3493, h⟩ := h
      refine gh_imul gd_Model_proper_95 q3493 ?_
      refine gh_iload gd_Model_proper_96 7 rfl ?_
      obtain ⟨q3494, h⟩ := h
      refine gh_iadd gd_Model_proper_98 q3494 ?_
      obtain ⟨q3495, h⟩ := h
      obtain ⟨q3496, h⟩ := h
      refine la_92 gd_Model_proper_99 hF q3495 q3496 rfl ?_
      obtain ⟨hk, h⟩ := h
      have k3499 : ∀ x3500 : Int, x3500 = (if (m 92 ((320 * v5) + v7)) = 0 then 0 else (m 89 v7)) → gh_T E (gh_yModel_proper.cls, prog_14_method_64_code, 8, false, 0) (d + 1) 114 [(6, 0, v6'), (0, 2, 63), (1, 0, v1), (2, 0, v2), (3, 0, v3), (4, 0, v4), (5, 0, v5), (7, 0, v7)] [(0, x3500), (0, v3)] m (fun r m1 => m1 = m ∧ Q r) := by
        rintro _ rfl
        obtain ⟨q3501, h⟩ := h
        refine gh_iadd gd_Model_proper_114 q3501 ?_
        refine gh_name (fun v3' hn => ?_)
        have h := h v3' hn
        refine gh_istore_n (L2 := [(3, 0, v3'), (6, 0, v6'), (0, 2, 63), (1, 0, v1), (2, 0, v2), (4, 0, v4), (5, 0, v5), (7, 0, v7)]) gd_Model_proper_115 (by decide) rfl ?_
        obtain ⟨q3502, h⟩ := h
        refine gh_iinc (L2 := [(7, 0, v7 + 1), (3, 0, v3'), (6, 0, v6'), (0, 2, 63), (1, 0, v1), (2, 0, v2), (4, 0, v4), (5, 0, v5)]) gd_Model_proper_116 7 rfl q3502 (by decide) rfl ?_
        refine gh_goto (tgt := 49) gd_Model_proper_119 (by decide) ?_
        refine gh_pick (L2 := [(0, 2, 63), (1, 0, v1), (2, 0, v2), (3, 0, v3'), (4, 0, v4), (5, 0, v5), (6, 0, v6'), (7, 0, v7 + 1)]) [3, 4, 5, 1, 6, 7, 2, 0] rfl ?_
        exact hK49 v3' v6' (v7 + 1) hF h
      refine gh_zeq (tgt := 113) gd_Model_proper_100 (by decide) (fun c3503 => ?_) (fun c3503 => ?_)
      · have hz : True := trivial
        refine gh_iconst gd_Model_proper_113 (gh_r0 rfl) ?_
        exact k3499 _ (by rw [if_pos c3503])
      · have hz : True := trivial
        have hk := hk c3503
        refine gh_aload_n gd_Model_proper_103 1 rfl (by decide) ?_
        refine gf_63_43 gd_Model_proper_104 gh_k1410 hF ?_
        refine gh_iload gd_Model_proper_107 7 rfl ?_
        obtain ⟨q3497, hk⟩ := hk
        have q3498 := hk
        refine la_89 gd_Model_proper_109 hF q3497 q3498 rfl ?_
        refine gh_goto (tgt := 114) gd_Model_proper_110 (by decide) ?_
        exact k3499 _ (by rw [if_neg c3503])
    refine gh_zeq (tgt := 81) gd_Model_proper_74 (by decide) (fun c3504 => ?_) (fun c3504 => ?_)
    · have hz : True := trivial
      refine gh_iconst gd_Model_proper_81 (gh_r0 rfl) ?_
      exact k3490 _ (if_neg (c := (¬ ((m 92 ((320 * v5) + v7)) = 0))) (not_not_intro c3504)).symm
    · have hz : True := trivial
      refine gh_iconst gd_Model_proper_77 (gh_r0 rfl) ?_
      refine gh_goto (tgt := 82) gd_Model_proper_78 (by decide) ?_
      exact k3490 _ (if_pos (c := (¬ ((m 92 ((320 * v5) + v7)) = 0))) c3504).symm
  · have h := hB c3485
    refine gh_iload_n gd_Model_proper_122 2 rfl ?_
    refine gh_iload gd_Model_proper_123 6 rfl ?_
    obtain ⟨q3505, h⟩ := h
    refine gh_iadd gd_Model_proper_125 q3505 ?_
    refine gh_name (fun v2' hn => ?_)
    have h := h v2' hn
    refine gh_istore_n (L2 := [(2, 0, v2'), (0, 2, 63), (1, 0, v1), (3, 0, v3), (4, 0, v4), (5, 0, v5), (6, 0, v6), (7, 0, v7)]) gd_Model_proper_126 (by decide) rfl ?_
    refine gh_iload gd_Model_proper_127 4 rfl ?_
    refine gh_iload gd_Model_proper_129 6 rfl ?_
    have k3506 : ∀ x3507 : Int, x3507 = (if (¬ (v6 ≤ 0)) then (1:Int) else 0) → gh_T E (gh_yModel_proper.cls, prog_14_method_64_code, 8, false, 0) (d + 1) 139 [(2, 0, v2'), (0, 2, 63), (1, 0, v1), (3, 0, v3), (4, 0, v4), (5, 0, v5), (6, 0, v6), (7, 0, v7)] [(0, x3507), (0, v4)] m (fun r m1 => m1 = m ∧ Q r) := by
      rintro _ rfl
      obtain ⟨q3508, h⟩ := h
      refine gh_iadd gd_Model_proper_139 q3508 ?_
      refine gh_name (fun v4' hn => ?_)
      have h := h v4' hn
      refine gh_istore (L2 := [(4, 0, v4'), (2, 0, v2'), (0, 2, 63), (1, 0, v1), (3, 0, v3), (5, 0, v5), (6, 0, v6), (7, 0, v7)]) gd_Model_proper_140 (by decide) rfl ?_
      obtain ⟨q3509, h⟩ := h
      refine gh_iinc (L2 := [(5, 0, v5 + 1), (4, 0, v4'), (2, 0, v2'), (0, 2, 63), (1, 0, v1), (3, 0, v3), (6, 0, v6), (7, 0, v7)]) gd_Model_proper_142 5 rfl q3509 (by decide) rfl ?_
      refine gh_goto (tgt := 34) gd_Model_proper_145 (by decide) ?_
      refine gh_pick (L2 := [(0, 2, 63), (1, 0, v1), (2, 0, v2'), (3, 0, v3), (4, 0, v4'), (5, 0, v5 + 1)]) [3, 4, 2, 5, 1, 0] rfl ?_
      exact hK34 v2' v3 v4' (v5 + 1) hF h
    refine gh_zle (tgt := 138) gd_Model_proper_131 (by decide) (fun c3510 => ?_) (fun c3510 => ?_)
    · have hz : True := trivial
      refine gh_iconst gd_Model_proper_138 (gh_r0 rfl) ?_
      exact k3506 _ (if_neg (c := (¬ (v6 ≤ 0))) (not_not_intro c3510)).symm
    · have hz : True := trivial
      refine gh_iconst gd_Model_proper_134 (gh_r0 rfl) ?_
      refine gh_goto (tgt := 139) gd_Model_proper_135 (by decide) ?_
      exact k3506 _ (if_pos (c := (¬ (v6 ≤ 0))) c3510).symm
theorem b_Model_proper_34 {E : gh_E} {v1 : Int} {Q : Int → Prop} {K34 : Int → Int → Int → Int → Prop} (d : Nat) {m : gh_M} (hK : ∀ (v2 : Int) (v3 : Int) (v4 : Int) (v5 : Int), gh_F m → K34 v2 v3 v4 v5 → gh_T E (gh_yModel_proper.cls, prog_14_method_64_code, 8, false, 0) (d + 1) 34 [(0, 2, 63), (1, 0, v1), (2, 0, v2), (3, 0, v3), (4, 0, v4), (5, 0, v5)] [] m (fun r m1 => m1 = m ∧ Q r)) (v2 : Int) (v3 : Int) (v4 : Int) (v5 : Int) (hF : gh_F m) (h : f_Model_proper_34 v1 Q m K34 v2 v3 v4 v5) : gh_T E (gh_yModel_proper.cls, prog_14_method_64_code, 8, false, 0) (d + 1) 34 [(0, 2, 63), (1, 0, v1), (2, 0, v2), (3, 0, v3), (4, 0, v4), (5, 0, v5)] [] m (fun r m1 => m1 = m ∧ Q r) := by
  have hK34 := hK
  unfold f_Model_proper_34 at h
  refine gh_iload gd_Model_proper_34 5 rfl ?_
  refine gh_aload_n gd_Model_proper_36 0 rfl (by decide) ?_
  refine gf_63_26 gd_Model_proper_37 gh_k1393 hF rfl ?_
  obtain ⟨hA, hB⟩ := h
  refine gh_jge (tgt := 148) gd_Model_proper_40 (by decide) (fun c3484 => ?_) (fun c3484 => ?_)
  · have h := hA c3484
    refine gh_iconst gd_Model_proper_43 (gh_r0 rfl) ?_
    refine gh_istore (L2 := [(6, 0, 0), (0, 2, 63), (1, 0, v1), (2, 0, v2), (3, 0, v3), (4, 0, v4), (5, 0, v5)]) gd_Model_proper_44 (by decide) rfl ?_
    refine gh_iconst gd_Model_proper_46 (gh_r0 rfl) ?_
    refine gh_istore (L2 := [(7, 0, 0), (6, 0, 0), (0, 2, 63), (1, 0, v1), (2, 0, v2), (3, 0, v3), (4, 0, v4), (5, 0, v5)]) gd_Model_proper_47 (by decide) rfl ?_
    refine gh_pick (L2 := [(0, 2, 63), (1, 0, v1), (2, 0, v2), (3, 0, v3), (4, 0, v4), (5, 0, v5), (6, 0, 0), (7, 0, 0)]) [2, 3, 4, 5, 6, 7, 1, 0] rfl ?_
    exact gh_L3_sound (T := fun v3 v6 v7 => gh_T E (gh_yModel_proper.cls, prog_14_method_64_code, 8, false, 0) (d + 1) 49 [(0, 2, 63), (1, 0, v1), (2, 0, v2), (3, 0, v3), (4, 0, v4), (5, 0, v5), (6, 0, v6), (7, 0, v7)] [] m (fun r m1 => m1 = m ∧ Q r)) (fun _ _ _ => gh_F m) (fun K49 v3 v6 v7 hK hF h => b_Model_proper_49 d hK34 hK v3 v6 v7 hF h) v3 0 0 hF h
  · have h := hB c3484
    refine gh_iload_n gd_Model_proper_148 1 rfl ?_
    have k3511 : ∀ x3512 : Int, x3512 = (if v1 = 0 then v2 else (if v1 = 1 then v4 else v3)) → gh_T E (gh_yModel_proper.cls, prog_14_method_64_code, 8, false, 0) (d + 1) 167 [(0, 2, 63), (1, 0, v1), (2, 0, v2), (3, 0, v3), (4, 0, v4), (5, 0, v5)] [(0, x3512)] m (fun r m1 => m1 = m ∧ Q r) := by
      rintro _ rfl
      exact gh_ret0 rfl gd_Model_proper_167 ⟨rfl, h⟩
    refine gh_zne (tgt := 156) gd_Model_proper_149 (by decide) (fun c3513 => ?_) (fun c3513 => ?_)
    · have hz : True := trivial
      refine gh_iload_n gd_Model_proper_152 2 rfl ?_
      refine gh_goto (tgt := 167) gd_Model_proper_153 (by decide) ?_
      exact k3511 _ (by rw [if_pos c3513])
    · have hz : True := trivial
      refine gh_iload_n gd_Model_proper_156 1 rfl ?_
      refine gh_iconst gd_Model_proper_157 (gh_r0 rfl) ?_
      refine gh_jne (tgt := 166) gd_Model_proper_158 (by decide) (fun c3514 => ?_) (fun c3514 => ?_)
      · have hz : True := trivial
        refine gh_iload gd_Model_proper_161 4 rfl ?_
        refine gh_goto (tgt := 167) gd_Model_proper_163 (by decide) ?_
        exact k3511 _ (by rw [if_neg c3513, if_pos c3514])
      · have hz : True := trivial
        refine gh_iload_n gd_Model_proper_166 3 rfl ?_
        exact k3511 _ (by rw [if_neg c3513, if_neg c3514])
theorem s_Model_proper {E : gh_E} {m : gh_M} {Q : Int → Prop} (d : Nat) (v1 : Int) (hF : gh_F m) (h : w_Model_proper v1 m Q) : gh_C E gh_yModel_proper prog_14_method_64_code 8 (some .int) 0 (d + 1) [(2, 63), (0, v1)] m (fun r m1 => m1 = m ∧ Q r) := by
  refine gh_enter2 (L := [(0, 2, 63), (1, 0, v1)]) (by decide +kernel) gh_rt0 (Nat.le_of_ble_eq_true rfl) rfl rfl ?_
  unfold w_Model_proper at h
  refine gh_iload_n gd_Model_proper_0 1 rfl ?_
  refine gh_iconst gd_Model_proper_1 (gh_r0 rfl) ?_
  refine gh_iconst gd_Model_proper_2 (gh_r0 rfl) ?_
  refine cv_Model_in (d := d) gd_Model_proper_3 gh_k1628 (Nat.le_of_ble_eq_true rfl) (gh_C.pe (e_Model_in d v1 0 2) ?_)
  obtain ⟨hA, hB⟩ := h
  refine gh_bne (tgt := 13) gd_Model_proper_6 (by decide) (fun c3482 => ?_) (fun c3482 => ?_)
  · have h := hA c3482
    refine gh_aload_n gd_Model_proper_13 0 rfl (by decide) ?_
    refine gf_63_24 gd_Model_proper_14 gh_k1391 hF rfl ?_
    obtain ⟨hA, hB⟩ := h
    refine gh_zne (tgt := 24) gd_Model_proper_17 (by decide) (fun c3483 => ?_) (fun c3483 => ?_)
    · have h := hA c3483
      refine gh_sipush gd_Model_proper_20 (by decide) (gh_r0 rfl) ?_
      exact gh_ret0 rfl gd_Model_proper_23 ⟨rfl, h⟩
    · have h := hB c3483
      refine gh_iconst gd_Model_proper_24 (gh_r0 rfl) ?_
      refine gh_istore_n (L2 := [(2, 0, 0), (0, 2, 63), (1, 0, v1)]) gd_Model_proper_25 (by decide) rfl ?_
      refine gh_iconst gd_Model_proper_26 (gh_r0 rfl) ?_
      refine gh_istore_n (L2 := [(3, 0, 0), (2, 0, 0), (0, 2, 63), (1, 0, v1)]) gd_Model_proper_27 (by decide) rfl ?_
      refine gh_iconst gd_Model_proper_28 (gh_r0 rfl) ?_
      refine gh_istore (L2 := [(4, 0, 0), (3, 0, 0), (2, 0, 0), (0, 2, 63), (1, 0, v1)]) gd_Model_proper_29 (by decide) rfl ?_
      refine gh_iconst gd_Model_proper_31 (gh_r0 rfl) ?_
      refine gh_istore (L2 := [(5, 0, 0), (4, 0, 0), (3, 0, 0), (2, 0, 0), (0, 2, 63), (1, 0, v1)]) gd_Model_proper_32 (by decide) rfl ?_
      refine gh_pick (L2 := [(0, 2, 63), (1, 0, v1), (2, 0, 0), (3, 0, 0), (4, 0, 0), (5, 0, 0)]) [4, 5, 3, 2, 1, 0] rfl ?_
      exact gh_L4_sound (T := fun v2 v3 v4 v5 => gh_T E (gh_yModel_proper.cls, prog_14_method_64_code, 8, false, 0) (d + 1) 34 [(0, 2, 63), (1, 0, v1), (2, 0, v2), (3, 0, v3), (4, 0, v4), (5, 0, v5)] [] m (fun r m1 => m1 = m ∧ Q r)) (fun _ _ _ _ => gh_F m) (fun K34 v2 v3 v4 v5 hK hF h => b_Model_proper_34 d hK v2 v3 v4 v5 hF h) 0 0 0 0 hF h
  · have h := hB c3482
    refine gh_sipush gd_Model_proper_9 (by decide) (gh_r0 rfl) ?_
    exact gh_ret0 rfl gd_Model_proper_12 ⟨rfl, h⟩
