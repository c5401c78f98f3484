def w_Forest_keep (v1 : Int) (v2 : Int) (v3 : Int) (v4 : Int) (v5 : Int) (m : gh_M) (Q : Int → gh_M → Prop) : Prop := ((v4 = 0 → (gh_i (v1 * 9) ∧ gh_i ((v1 * 9) + v2) ∧ gh_i (((v1 * 9) + v2) * 9) ∧ gh_i ((((v1 * 9) + v2) * 9) + v3)) ∧ 0 ≤ ((((v1 * 9) + v2) * 9) + v3) ∧ (((((v1 * 9) + v2) * 9) + v3)) < 648 ∧ Q 0 (gh_u m 42 (((((v1 * 9) + v2) * 9) + v3)) v5)) ∧ (¬ (v4 = 0) → gh_isA m (m 41 7) 3 ∧ ∃ J45 : gh_M → Prop, (∀ (m : gh_M), J45 m → (((v2 = v3) → (gh_i (0 + v1) ∧ gh_i ((0 + v1) * 256) ∧ gh_i (((0 + v1) * 256) + v4))) ∧ (¬ (v2 = v3) → (gh_i (8 + v1) ∧ gh_i ((8 + v1) * 256) ∧ gh_i (((8 + v1) * 256) + v4)))) ∧ ∀ v7 : Int, v7 = (if v2 = v3 then (((0 + v1) * 256) + v4) else (((8 + v1) * 256) + v4)) → gh_isA m (m 41 7) 3 ∧ 0 ≤ v7 ∧ v7 < m 0 (2 * (m 41 7) + 1) ∧ gh_isA (gh_u m (m 41 7) v7 v5) ((gh_u m (m 41 7) v7 v5) 41 8) 1 ∧ 0 ≤ v7 ∧ v7 < (gh_u m (m 41 7) v7 v5) 0 (2 * ((gh_u m (m 41 7) v7 v5) 41 8) + 1) ∧ Q 0 (gh_u (gh_u m (m 41 7) v7 v5) ((gh_u m (m 41 7) v7 v5) 41 8) v7 (if v2 = v3 then ((gh_u m (m 41 7) v7 v5) 41 10) else ((gh_u m (m 41 7) v7 v5) 41 9)))) ∧ (((m 0 (2 * (m 41 7) + 1)) = 0 → J45 (gh_u (gh_al (gh_u (gh_al m 3 4096) 41 7 (m 0 1)) 1 4096) 41 8 ((gh_u (gh_al m 3 4096) 41 7 (m 0 1)) 0 1))) ∧ (¬ ((m 0 (2 * (m 41 7) + 1)) = 0) → J45 m))))
theorem s_Forest_keep {E : gh_E} {m : gh_M} {Q : Int → gh_M → Prop} (d : Nat) (v1 : Int) (v2 : Int) (v3 : Int) (v4 : Int) (v5 : Int) (hF : gh_F m) (h : w_Forest_keep v1 v2 v3 v4 v5 m Q) : gh_C E gh_yForest_keep prog_5_method_9_code 8 none 9 (d + 1) [(2, 41), (0, v1), (0, v2), (0, v3), (0, v4), (1, v5)] m (fun r m1 => gh_F m1 ∧ Q r m1) := by
  refine gh_enter2 (L := [(0, 2, 41), (1, 0, v1), (2, 0, v2), (3, 0, v3), (4, 0, v4), (5, 1, v5)]) (by decide +kernel) gh_rt9 (Nat.le_of_ble_eq_true rfl) rfl rfl ?_
  unfold w_Forest_keep at h
  refine gh_iload gd_Forest_keep_0 4 rfl ?_
  obtain ⟨hA, hB⟩ := h
  refine gh_zne (tgt := 19) gd_Forest_keep_2 (by decide) (fun c1831 => ?_) (fun c1831 => ?_)
  · have h := hA c1831
    refine gh_aload_n gd_Forest_keep_5 0 rfl (by decide) ?_
    refine gf_41_4 gd_Forest_keep_6 gh_k491 hF ?_
    refine gh_iload_n gd_Forest_keep_9 1 rfl ?_
    refine gh_iload_n gd_Forest_keep_10 2 rfl ?_
    refine gh_iload_n gd_Forest_keep_11 3 rfl ?_
    obtain ⟨q1832, h⟩ := h
    refine cv_Forest_plainAt (d := d) gd_Forest_keep_12 gh_k1205 (Nat.le_of_ble_eq_true rfl) (gh_C.pe (e_Forest_plainAt d v1 v2 v3 q1832) ?_)
    refine gh_lload gd_Forest_keep_15 5 rfl ?_
    obtain ⟨q1833, h⟩ := h
    obtain ⟨q1834, h⟩ := h
    refine sa_42 gd_Forest_keep_17 hF q1833 q1834 (fun hF => ?_)
    exact gh_ret9 rfl gd_Forest_keep_18 ⟨hF, h⟩
  · have h := hB c1831
    refine gh_aload_n gd_Forest_keep_19 0 rfl (by decide) ?_
    refine gf_41_7 gd_Forest_keep_20 gh_k494 hF rfl ?_
    obtain ⟨q1835, h⟩ := h
    refine gh_alen gd_Forest_keep_23 q1835 (by decide) ?_
    obtain ⟨J45, hJ45, h⟩ := h
    have hJ45 : ∀ (m : gh_M), gh_F m → J45 m → gh_T E (gh_yForest_keep.cls, prog_5_method_9_code, 8, false, 9) (d + 1) 45 [(0, 2, 41), (1, 0, v1), (2, 0, v2), (3, 0, v3), (4, 0, v4), (5, 1, v5)] [] m (fun r m1 => gh_F m1 ∧ Q r m1) := by
      intro m hF hj
      have h := hJ45 m hj
      refine gh_iload_n gd_Forest_keep_45 1 rfl ?_
      refine gh_iload_n gd_Forest_keep_46 2 rfl ?_
      refine gh_iload_n gd_Forest_keep_47 3 rfl ?_
      refine gh_iload gd_Forest_keep_48 4 rfl ?_
      obtain ⟨q1836, h⟩ := h
      refine cv_Forest_underAt (d := d) gd_Forest_keep_50 gh_k1218 (Nat.le_of_ble_eq_true rfl) (gh_C.pe (e_Forest_underAt d v1 v2 v3 v4 q1836) ?_)
      refine gh_name (fun v7 hn => ?_)
      have h := h v7 hn
      refine gh_istore (L2 := [(7, 0, v7), (0, 2, 41), (1, 0, v1), (2, 0, v2), (3, 0, v3), (4, 0, v4), (5, 1, v5)]) gd_Forest_keep_53 (by decide) rfl ?_
      refine gh_aload_n gd_Forest_keep_55 1 rfl (by decide) ?_
      refine gf_41_7 gd_Forest_keep_56 gh_k494 hF rfl ?_
      refine gh_iload gd_Forest_keep_59 0 rfl ?_
      refine gh_lload gd_Forest_keep_61 6 rfl ?_
      obtain ⟨q1837, h⟩ := h
      obtain ⟨q1838, h⟩ := h
      obtain ⟨q1839, h⟩ := h
      refine gh_lastF gd_Forest_keep_63 hF q1837 q1838 q1839 (fun hF => ?_)
      refine gh_aload_n gd_Forest_keep_64 1 rfl (by decide) ?_
      refine gf_41_8 gd_Forest_keep_65 gh_k495 hF rfl ?_
      refine gh_iload gd_Forest_keep_68 0 rfl ?_
      refine gh_iload_n gd_Forest_keep_70 3 rfl ?_
      refine gh_iload_n gd_Forest_keep_71 4 rfl ?_
      have k1840 : ∀ x1841 : Int, x1841 = (if v2 = v3 then ((gh_u m (m 41 7) v7 v5) 41 10) else ((gh_u m (m 41 7) v7 v5) 41 9)) → gh_T E (gh_yForest_keep.cls, prog_5_method_9_code, 8, false, 9) (d + 1) 86 [(7, 0, v7), (0, 2, 41), (1, 0, v1), (2, 0, v2), (3, 0, v3), (4, 0, v4), (5, 1, v5)] [(0, x1841), (0, v7), (2, (gh_u m (m 41 7) v7 v5) 41 8)] (gh_u m (m 41 7) v7 v5) (fun r m1 => gh_F m1 ∧ Q r m1) := by
        rintro _ rfl
        obtain ⟨q1842, h⟩ := h
        obtain ⟨q1843, h⟩ := h
        obtain ⟨q1844, h⟩ := h
        refine gh_iastF gd_Forest_keep_86 hF q1842 q1843 q1844 (fun hF => ?_)
        exact gh_ret9 rfl gd_Forest_keep_87 ⟨hF, h⟩
      refine gh_jne (tgt := 82) gd_Forest_keep_72 (by decide) (fun c1845 => ?_) (fun c1845 => ?_)
      · have hz : True := trivial
        refine gh_aload_n gd_Forest_keep_75 1 rfl (by decide) ?_
        refine gf_41_10 gd_Forest_keep_76 gh_k497 hF rfl ?_
        refine gh_goto (tgt := 86) gd_Forest_keep_79 (by decide) ?_
        exact k1840 _ (by rw [if_pos c1845])
      · have hz : True := trivial
        refine gh_aload_n gd_Forest_keep_82 1 rfl (by decide) ?_
        refine gf_41_9 gd_Forest_keep_83 gh_k496 hF rfl ?_
        exact k1840 _ (by rw [if_neg c1845])
    obtain ⟨hA, hB⟩ := h
    refine gh_zne (tgt := 45) gd_Forest_keep_24 (by decide) (fun c1846 => ?_) (fun c1846 => ?_)
    · have h := hA c1846
      refine gh_aload_n gd_Forest_keep_27 0 rfl (by decide) ?_
      refine gh_sipush gd_Forest_keep_28 (by decide) (gh_r0 rfl) ?_
      refine gh_newarrF (κ := 3) gd_Forest_keep_31 (by decide) gh_k524 (by decide) (by decide) hF (fun hF => ?_)
      refine pf_41_7 gd_Forest_keep_33 gh_k494 hF (fun hF => ?_)
      refine gh_aload_n gd_Forest_keep_36 0 rfl (by decide) ?_
      refine gh_sipush gd_Forest_keep_37 (by decide) (gh_r0 rfl) ?_
      refine gh_newarrF (κ := 1) gd_Forest_keep_40 (by decide) gh_k180 (by decide) (by decide) hF (fun hF => ?_)
      refine pf_41_8 gd_Forest_keep_42 gh_k495 hF (fun hF => ?_)
      exact hJ45 (gh_u (gh_al (gh_u (gh_al m 3 4096) 41 7 (m 0 1)) 1 4096) 41 8 ((gh_u (gh_al m 3 4096) 41 7 (m 0 1)) 0 1)) hF h
    · have h := hB c1846
      exact hJ45 m hF h
def f_Forest_countOf_80 (REC : Int → Int → Int → Int → Int → gh_M → (Int → gh_M → Prop) → Prop) (v1 : Int) (v2 : Int) (v3 : Int) (v5 : Int) (v6 : Int) (Q : Int → gh_M → Prop) (K80 : Int → Int → gh_M → Prop) (v7 : Int) (v9 : Int) (m : gh_M) : Prop := k_Grammar_behindRules v1 m ∧ ((v9 < (x_Grammar_behindRules v1 m) → w_Forest_countByRule REC v9 v2 v3 (gh_ior_f v6 (gh_ishl_f 1 v1)) v5 m (fun r1859 m1860 => k_Forest_plus v7 r1859 ∧ ∀ v7' : Int, v7' = x_Forest_plus v7 r1859 → gh_i (v9 + 1) ∧ K80 v7' (v9 + 1) m1860)) ∧ (¬ (v9 < (x_Grammar_behindRules v1 m)) → w_Forest_keep v1 v2 v3 v6 v7 m (fun _ m1864 => Q v7 m1864)))
def w_Forest_countOf (REC : Int → Int → Int → Int → Int → gh_M → (Int → gh_M → Prop) → Prop) (v1 : Int) (v2 : Int) (v3 : Int) (v4 : Int) (v5 : Int) (m : gh_M) (Q : Int → gh_M → Prop) : Prop := ((((gh_iand_f (gh_ishr_f v4 v1) 1) = 0) → (((v5 < 8) → (k_Chart_covers v1 v2 v3))))) ∧ (((((gh_iand_f (gh_ishr_f v4 v1) 1) = 0) ∧ ((v5 < 8) ∧ (p_Chart_covers v1 v2 v3 m))) → 0 ≤ v1 ∧ v1 < 8 ∧ ∀ v6 : Int, v6 = gh_iand_f v4 (m 24 v1) → w_Forest_recall v1 v2 v3 v6 m (fun r1852 => ((r1852 < 0 → 0 ≤ v1 ∧ v1 < 8 ∧ ∀ v9 : Int, v9 = m 14 v1 → gh_M2 (fun K80 v7 v9 m => f_Forest_countOf_80 REC v1 v2 v3 v5 v6 Q K80 v7 v9 m) 0 v9 m) ∧ (¬ (r1852 < 0) → Q r1852 m)))) ∧ (¬ (((gh_iand_f (gh_ishr_f v4 v1) 1) = 0) ∧ ((v5 < 8) ∧ (p_Chart_covers v1 v2 v3 m))) → Q 0 m))
theorem b_Forest_countOf_80 {E : gh_E} {v1 : Int} {v2 : Int} {v3 : Int} {v5 : Int} {v6 : Int} {Q : Int → gh_M → Prop} {K80 : Int → Int → gh_M → Prop} (d : Nat) (REC : Int → Int → Int → Int → Int → gh_M → (Int → gh_M → Prop) → Prop) (hrec : ∀ (a b c d0 e0 : Int) (m : gh_M) (Q : Int → gh_M → Prop), gh_F m → REC a b c d0 e0 m Q → gh_C E gh_yForest_countOf prog_5_method_7_code 10 (some .long) 1 (d + 0) [(2, 41), (0, a), (0, b), (0, c), (0, d0), (0, e0)] m (fun r m1 => gh_F m1 ∧ Q r m1)) (hK : ∀ (v7 : Int) (v9 : Int) (m : gh_M), gh_F m → K80 v7 v9 m → gh_T E (gh_yForest_countOf.cls, prog_5_method_7_code, 10, false, 1) (d + 3) 80 [(0, 2, 41), (1, 0, v1), (2, 0, v2), (3, 0, v3), (5, 0, v5), (6, 0, v6), (7, 1, v7), (9, 0, v9)] [] m (fun r m1 => gh_F m1 ∧ Q r m1)) (v7 : Int) (v9 : Int) (m : gh_M) (hF : gh_F m) (h : f_Forest_countOf_80 REC v1 v2 v3 v5 v6 Q K80 v7 v9 m) : gh_T E (gh_yForest_countOf.cls, prog_5_method_7_code, 10, false, 1) (d + 3) 80 [(0, 2, 41), (1, 0, v1), (2, 0, v2), (3, 0, v3), (5, 0, v5), (6, 0, v6), (7, 1, v7), (9, 0, v9)] [] m (fun r m1 => gh_F m1 ∧ Q r m1) := by
  have hK80 := hK
  unfold f_Forest_countOf_80 at h
  refine gh_iload gd_Forest_countOf_80 7 rfl ?_
  refine gh_aload_n gd_Forest_countOf_82 0 rfl (by decide) ?_
  refine gf_41_0 gd_Forest_countOf_83 gh_k487 hF ?_
  refine gh_iload_n gd_Forest_countOf_86 1 rfl ?_
  obtain ⟨q1857, h⟩ := h
  refine cv_Grammar_behindRules (d := d + 2) gd_Forest_countOf_87 gh_k1221 hF (Nat.le_of_ble_eq_true rfl) (gh_C.pe (e_Grammar_behindRules (d + 2) v1 hF q1857) ?_)
  obtain ⟨hA, hB⟩ := h
  refine gh_jge (tgt := 122) gd_Forest_countOf_90 (by decide) (fun c1858 => ?_) (fun c1858 => ?_)
  · have h := hA c1858
    refine gh_lload gd_Forest_countOf_93 6 rfl ?_
    refine gh_aload_n gd_Forest_countOf_95 0 rfl (by decide) ?_
    refine gh_iload gd_Forest_countOf_96 7 rfl ?_
    refine gh_iload_n gd_Forest_countOf_98 2 rfl ?_
    refine gh_iload_n gd_Forest_countOf_99 3 rfl ?_
    refine gh_iload gd_Forest_countOf_100 5 rfl ?_
    refine gh_iconst gd_Forest_countOf_102 (gh_r0 rfl) ?_
    refine gh_iload_n gd_Forest_countOf_103 1 rfl ?_
    refine gh_ishl gd_Forest_countOf_104 ?_
    refine gh_ior gd_Forest_countOf_105 ?_
    refine gh_iload gd_Forest_countOf_106 4 rfl ?_
    refine cv_Forest_countByRule (d := d + 2) gd_Forest_countOf_108 gh_k1222 hF (Nat.le_of_ble_eq_true rfl) (gh_C.mono (s_Forest_countByRule d REC hrec v9 v2 v3 (gh_ior_f v6 (gh_ishl_f 1 v1)) v5 hF h) (fun r1859 m1860 hq => ?_))
    obtain ⟨hF, h⟩ := hq
    obtain ⟨q1861, h⟩ := h
    refine cv_Forest_plus (d := d + 2) gd_Forest_countOf_111 gh_k1241 (Nat.le_of_ble_eq_true rfl) (gh_C.pe (e_Forest_plus (d + 1) v7 r1859 q1861) ?_)
    refine gh_name (fun v7' hn => ?_)
    have h := h v7' hn
    refine gh_lstore (L2 := [(7, 1, v7'), (0, 2, 41), (1, 0, v1), (2, 0, v2), (3, 0, v3), (5, 0, v5), (6, 0, v6), (9, 0, v9)]) gd_Forest_countOf_114 (by decide) rfl ?_
    obtain ⟨q1862, h⟩ := h
    refine gh_iinc (L2 := [(9, 0, v9 + 1), (7, 1, v7'), (0, 2, 41), (1, 0, v1), (2, 0, v2), (3, 0, v3), (5, 0, v5), (6, 0, v6)]) gd_Forest_countOf_116 7 rfl q1862 (by decide) rfl ?_
    refine gh_goto (tgt := 80) gd_Forest_countOf_119 (by decide) ?_
    refine gh_pick (L2 := [(0, 2, 41), (1, 0, v1), (2, 0, v2), (3, 0, v3), (5, 0, v5), (6, 0, v6), (7, 1, v7'), (9, 0, v9 + 1)]) [2, 3, 4, 5, 6, 7, 1, 0] rfl ?_
    exact hK80 v7' (v9 + 1) m1860 hF h
  · have h := hB c1858
    refine gh_aload_n gd_Forest_countOf_122 0 rfl (by decide) ?_
    refine gh_iload_n gd_Forest_countOf_123 1 rfl ?_
    refine gh_iload_n gd_Forest_countOf_124 2 rfl ?_
    refine gh_iload_n gd_Forest_countOf_125 3 rfl ?_
    refine gh_iload gd_Forest_countOf_126 5 rfl ?_
    refine gh_lload gd_Forest_countOf_128 6 rfl ?_
    refine cv_Forest_keep (d := d + 2) gd_Forest_countOf_130 gh_k1244 hF (Nat.le_of_ble_eq_true rfl) (gh_C.mono (s_Forest_keep (d + 1) v1 v2 v3 v6 v7 hF h) (fun r1863 m1864 hq => ?_))
    obtain ⟨hF, h⟩ := hq
    refine gh_lload gd_Forest_countOf_133 6 rfl ?_
    exact gh_ret1 rfl gd_Forest_countOf_135 ⟨hF, h⟩
theorem s_Forest_countOf {E : gh_E} {m : gh_M} {Q : Int → gh_M → Prop} (d : Nat) (REC : Int → Int → Int → Int → Int → gh_M → (Int → gh_M → Prop) → Prop) (hrec : ∀ (a b c d0 e0 : Int) (m : gh_M) (Q : Int → gh_M → Prop), gh_F m → REC a b c d0 e0 m Q → gh_C E gh_yForest_countOf prog_5_method_7_code 10 (some .long) 1 (d + 0) [(2, 41), (0, a), (0, b), (0, c), (0, d0), (0, e0)] m (fun r m1 => gh_F m1 ∧ Q r m1)) (v1 : Int) (v2 : Int) (v3 : Int) (v4 : Int) (v5 : Int) (hF : gh_F m) (h : w_Forest_countOf REC v1 v2 v3 v4 v5 m Q) : gh_C E gh_yForest_countOf prog_5_method_7_code 10 (some .long) 1 (d + 3) [(2, 41), (0, v1), (0, v2), (0, v3), (0, v4), (0, v5)] m (fun r m1 => gh_F m1 ∧ Q r m1) := by
  refine gh_enter2 (L := [(0, 2, 41), (1, 0, v1), (2, 0, v2), (3, 0, v3), (4, 0, v4), (5, 0, v5)]) (by decide +kernel) gh_rt1 (Nat.le_of_ble_eq_true rfl) rfl rfl ?_
  unfold w_Forest_countOf at h
  refine gh_iload gd_Forest_countOf_0 4 rfl ?_
  refine gh_iload_n gd_Forest_countOf_2 1 rfl ?_
  refine gh_ishr gd_Forest_countOf_3 ?_
  refine gh_iconst gd_Forest_countOf_4 (gh_r0 rfl) ?_
  refine gh_iand gd_Forest_countOf_5 ?_
  obtain ⟨hk, hA, hB⟩ := h
  have k1848 : (((gh_iand_f (gh_ishr_f v4 v1) 1) = 0) ∧ ((v5 < 8) ∧ (p_Chart_covers v1 v2 v3 m))) → gh_T E (gh_yForest_countOf.cls, prog_5_method_7_code, 10, false, 1) (d + 3) 31 [(0, 2, 41), (1, 0, v1), (2, 0, v2), (3, 0, v3), (4, 0, v4), (5, 0, v5)] [] m (fun r m1 => gh_F m1 ∧ Q r m1) := by
    intro c
    have h := hA c
    refine gh_iload gd_Forest_countOf_31 4 rfl ?_
    refine gh_aload_n gd_Forest_countOf_33 0 rfl (by decide) ?_
    refine gf_41_1 gd_Forest_countOf_34 gh_k488 hF ?_
    refine gf_20_9 gd_Forest_countOf_37 gh_k342 hF ?_
    refine gh_iload_n gd_Forest_countOf_40 1 rfl ?_
    obtain ⟨q1850, h⟩ := h
    obtain ⟨q1851, h⟩ := h
    refine la_24 gd_Forest_countOf_41 hF q1850 q1851 rfl ?_
    refine gh_iand gd_Forest_countOf_42 ?_
    refine gh_name (fun v6 hn => ?_)
    have h := h v6 hn
    refine gh_istore (L2 := [(6, 0, v6), (0, 2, 41), (1, 0, v1), (2, 0, v2), (3, 0, v3), (4, 0, v4), (5, 0, v5)]) gd_Forest_countOf_43 (by decide) rfl ?_
    refine gh_aload_n gd_Forest_countOf_45 1 rfl (by decide) ?_
    refine gh_iload_n gd_Forest_countOf_46 2 rfl ?_
    refine gh_iload_n gd_Forest_countOf_47 3 rfl ?_
    refine gh_iload_n gd_Forest_countOf_48 4 rfl ?_
    refine gh_iload gd_Forest_countOf_49 0 rfl ?_
    refine cv_Forest_recall (d := d + 2) gd_Forest_countOf_51 gh_k1214 hF (Nat.le_of_ble_eq_true rfl) (gh_C.pw (s_Forest_recall (d + 1) v1 v2 v3 v6 hF h) (fun r1852 h => ?_))
    refine gh_lstore (L2 := [(7, 1, r1852), (6, 0, v6), (0, 2, 41), (1, 0, v1), (2, 0, v2), (3, 0, v3), (4, 0, v4), (5, 0, v5)]) gd_Forest_countOf_54 (by decide) rfl ?_
    refine gh_lload gd_Forest_countOf_56 0 rfl ?_
    refine gh_lconst (n := 0) gd_Forest_countOf_58 (by decide) (gh_r1 rfl) ?_
    refine gh_lcmp gd_Forest_countOf_59 ?_
    obtain ⟨hA, hB⟩ := h
    refine gh_clt (tgt := 66) gd_Forest_countOf_60 (by decide) (fun c1854 => ?_) (fun c1854 => ?_)
    · have h := hA c1854
      refine gh_lconst (n := 0) gd_Forest_countOf_66 (by decide) (gh_r1 rfl) ?_
      refine gh_lstore (L2 := [(7, 1, 0), (6, 0, v6), (0, 2, 41), (1, 0, v1), (2, 0, v2), (3, 0, v3), (4, 0, v4), (5, 0, v5)]) gd_Forest_countOf_67 (by decide) rfl ?_
      refine gh_aload_n gd_Forest_countOf_69 2 rfl (by decide) ?_
      refine gf_41_0 gd_Forest_countOf_70 gh_k487 hF ?_
      refine gf_13_3 gd_Forest_countOf_73 gh_k272 hF ?_
      refine gh_iload_n gd_Forest_countOf_76 3 rfl ?_
      obtain ⟨q1855, h⟩ := h
      obtain ⟨q1856, h⟩ := h
      refine la_14 gd_Forest_countOf_77 hF q1855 q1856 rfl ?_
      refine gh_name (fun v9 hn => ?_)
      have h := h v9 hn
      refine gh_istore (L2 := [(9, 0, v9), (7, 1, 0), (6, 0, v6), (0, 2, 41), (1, 0, v1), (2, 0, v2), (3, 0, v3), (4, 0, v4), (5, 0, v5)]) gd_Forest_countOf_78 (by decide) rfl ?_
      refine gh_pick (L2 := [(0, 2, 41), (1, 0, v1), (2, 0, v2), (3, 0, v3), (5, 0, v5), (6, 0, v6), (7, 1, 0), (9, 0, v9)]) [3, 4, 5, 6, 8, 2, 1, 0] rfl ?_
      exact gh_M2_sound (T := fun v7 v9 m => gh_T E (gh_yForest_countOf.cls, prog_5_method_7_code, 10, false, 1) (d + 3) 80 [(0, 2, 41), (1, 0, v1), (2, 0, v2), (3, 0, v3), (5, 0, v5), (6, 0, v6), (7, 1, v7), (9, 0, v9)] [] m (fun r m1 => gh_F m1 ∧ Q r m1)) (fun _ _ m => gh_F m) (fun K80 v7 v9 m hK hF h => b_Forest_countOf_80 d REC hrec hK v7 v9 m hF h) 0 v9 m hF h
    · have h := hB c1854
      refine gh_lload gd_Forest_countOf_63 0 rfl ?_
      exact gh_ret1 rfl gd_Forest_countOf_65 ⟨hF, h⟩
  have k1849 : ¬ (((gh_iand_f (gh_ishr_f v4 v1) 1) = 0) ∧ ((v5 < 8) ∧ (p_Chart_covers v1 v2 v3 m))) → gh_T E (gh_yForest_countOf.cls, prog_5_method_7_code, 10, false, 1) (d + 3) 29 [(0, 2, 41), (1, 0, v1), (2, 0, v2), (3, 0, v3), (4, 0, v4), (5, 0, v5)] [] m (fun r m1 => gh_F m1 ∧ Q r m1) := by
    intro c
    have h := hB c
    refine gh_lconst (n := 0) gd_Forest_countOf_29 (by decide) (gh_r1 rfl) ?_
    exact gh_ret1 rfl gd_Forest_countOf_30 ⟨hF, h⟩
  refine gh_zne (tgt := 29) gd_Forest_countOf_6 (by decide) (fun c1865 => ?_) (fun c1865 => ?_)
  · have hz : True := trivial
    have hk := hk c1865
    refine gh_iload gd_Forest_countOf_9 5 rfl ?_
    refine gh_bipush gd_Forest_countOf_11 (by decide) (gh_r0 rfl) ?_
    refine gh_jge (tgt := 29) gd_Forest_countOf_13 (by decide) (fun c1866 => ?_) (fun c1866 => ?_)
    · have hz : True := trivial
      have hk := hk c1866
      refine gh_aload_n gd_Forest_countOf_16 0 rfl (by decide) ?_
      refine gf_41_3 gd_Forest_countOf_17 gh_k490 hF ?_
      refine gh_iload_n gd_Forest_countOf_20 1 rfl ?_
      refine gh_iload_n gd_Forest_countOf_21 2 rfl ?_
      refine gh_iload_n gd_Forest_countOf_22 3 rfl ?_
      have q1847 := hk
      refine cv_Chart_covers (d := d + 2) gd_Forest_countOf_23 gh_k1213 hF (Nat.le_of_ble_eq_true rfl) (gh_C.pe (e_Chart_covers (d + 2) v1 v2 v3 hF q1847) ?_)
      refine gh_bne (tgt := 31) gd_Forest_countOf_26 (by decide) (fun c1867 => ?_) (fun c1867 => ?_)
      · have hz : True := trivial
        exact k1848 ⟨c1865, ⟨c1866, c1867⟩⟩
      · have hz : True := trivial
        exact k1849 (fun z => (fun z => c1867 z.2) z.2)
    · have hz : True := trivial
      exact k1849 (fun z => (fun z => c1866 z.1) z.2)
  · have hz : True := trivial
    exact k1849 (fun z => c1865 z.1)
/-- counting trees, so many names above one another at most -/
def gh_rec : Nat → (Int → Int → Int → Int → Int → gh_M → (Int → gh_M → Prop) → Prop)
  | 0 => fun _ _ _ _ _ _ _ => False
  | n + 1 => fun a b c d e m Q => w_Forest_countOf (gh_rec n) a b c d e m Q
def wr_Forest_countOf (a b c d e : Int) (m : gh_M) (Q : Int → gh_M → Prop) : Prop := gh_rec 10 a b c d e m Q
def wr_Forest_countByRule (a b c d e : Int) (m : gh_M) (Q : Int → gh_M → Prop) : Prop := w_Forest_countByRule (gh_rec 10) a b c d e m Q
def wr_Forest_countOfPart (a b c d e f g : Int) (m : gh_M) (Q : Int → gh_M → Prop) : Prop := w_Forest_countOfPart (gh_rec 10) a b c d e f g m Q
theorem gh_rec_s {E : gh_E} (d : Nat) : ∀ (n : Nat) (a b c d0 e0 : Int) (m : gh_M) (Q : Int → gh_M → Prop), gh_F m → gh_rec n a b c d0 e0 m Q → gh_C E gh_yForest_countOf prog_5_method_7_code 10 (some .long) 1 (d + 3 * n) [(2, 41), (0, a), (0, b), (0, c), (0, d0), (0, e0)] m (fun r m1 => gh_F m1 ∧ Q r m1) := by
  intro n
  induction n with
  | zero => intro a b c d0 e0 m Q hF h; exact absurd h (fun z => z)
  | succ n ih =>
    intro a b c d0 e0 m Q hF h
    exact s_Forest_countOf (d + 3 * n) (gh_rec n) ih a b c d0 e0 hF h
theorem sr_Forest_countOf {E : gh_E} {m : gh_M} {Q : Int → gh_M → Prop} (d : Nat) (v1 : Int) (v2 : Int) (v3 : Int) (v4 : Int) (v5 : Int) (hF : gh_F m) (h : wr_Forest_countOf v1 v2 v3 v4 v5 m Q) : gh_C E gh_yForest_countOf prog_5_method_7_code 10 (some .long) 1 (d + 30) [(2, 41), (0, v1), (0, v2), (0, v3), (0, v4), (0, v5)] m (fun r m1 => gh_F m1 ∧ Q r m1) := gh_rec_s d 10 v1 v2 v3 v4 v5 m Q hF h
theorem sr_Forest_countByRule {E : gh_E} {m : gh_M} {Q : Int → gh_M → Prop} (d : Nat) (v1 : Int) (v2 : Int) (v3 : Int) (v4 : Int) (v5 : Int) (hF : gh_F m) (h : wr_Forest_countByRule v1 v2 v3 v4 v5 m Q) : gh_C E gh_yForest_countByRule prog_5_method_11_code 19 (some .long) 1 (d + 32) [(2, 41), (0, v1), (0, v2), (0, v3), (0, v4), (0, v5)] m (fun r m1 => gh_F m1 ∧ Q r m1) := s_Forest_countByRule (d + 30) (gh_rec 10) (gh_rec_s d 10) v1 v2 v3 v4 v5 hF h
theorem sr_Forest_countOfPart {E : gh_E} {m : gh_M} {Q : Int → gh_M → Prop} (d : Nat) (v1 : Int) (v2 : Int) (v3 : Int) (v4 : Int) (v5 : Int) (v6 : Int) (v7 : Int) (hF : gh_F m) (h : wr_Forest_countOfPart v1 v2 v3 v4 v5 v6 v7 m Q) : gh_C E gh_yForest_countOfPart prog_5_method_13_code 9 (some .long) 1 (d + 31) [(2, 41), (0, v1), (0, v2), (0, v3), (0, v4), (0, v5), (0, v6), (0, v7)] m (fun r m1 => gh_F m1 ∧ Q r m1) := s_Forest_countOfPart (d + 30) (gh_rec 10) (gh_rec_s d 10) v1 v2 v3 v4 v5 v6 v7 hF h
def f_Forest_countOver_80 (v1 : Int) (v2 : Int) (Q : Int → gh_M → Prop) (K80 : Int → gh_M → Prop) (v3 : Int) (m : gh_M) : Prop := ((v3 < (m 13 1) → (gh_i (v3 * 9) ∧ gh_i ((v3 * 9) + v1) ∧ gh_i (((v3 * 9) + v1) * 9) ∧ gh_i ((((v3 * 9) + v1) * 9) + v2)) ∧ wr_Forest_countOf v3 v1 v2 0 0 m (fun r1883 m1884 => 0 ≤ ((((v3 * 9) + v1) * 9) + v2) ∧ (((((v3 * 9) + v1) * 9) + v2)) < 648 ∧ gh_i (v3 + 1) ∧ K80 (v3 + 1) (gh_u m1884 42 (((((v3 * 9) + v1) * 9) + v2)) r1883))) ∧ (¬ (v3 < (m 13 1)) → Q 0 m))
def f_Forest_countOver_24 (v1 : Int) (v2 : Int) (Q : Int → gh_M → Prop) (K24 : Int → gh_M → Prop) (v3 : Int) (m : gh_M) : Prop := ((v3 < (m 13 1) → (gh_i (v3 * 9) ∧ gh_i ((v3 * 9) + v1) ∧ gh_i (((v3 * 9) + v1) * 9) ∧ gh_i ((((v3 * 9) + v1) * 9) + v2)) ∧ (((v1 = v2) → ((¬ (v2 ≤ 0) → ((gh_i (v3 * 9) ∧ gh_i ((v3 * 9) + 0) ∧ gh_i (((v3 * 9) + 0) * 9) ∧ gh_i ((((v3 * 9) + 0) * 9) + 0)) ∧ 0 ≤ ((((v3 * 9) + 0) * 9) + 0) ∧ (((((v3 * 9) + 0) * 9) + 0)) < 648))))) ∧ 0 ≤ ((((v3 * 9) + v1) * 9) + v2) ∧ (((((v3 * 9) + v1) * 9) + v2)) < 648 ∧ gh_i (v3 + 1) ∧ K24 (v3 + 1) (gh_u m 42 (((((v3 * 9) + v1) * 9) + v2)) (if v1 = v2 then (if v2 ≤ 0 then (-1) else (m 42 (((((v3 * 9) + 0) * 9) + 0)))) else (-1)))) ∧ (¬ (v3 < (m 13 1)) → gh_M1 (fun K80 v3 m => f_Forest_countOver_80 v1 v2 Q K80 v3 m) 0 m))
def w_Forest_countOver (v1 : Int) (v2 : Int) (m : gh_M) (Q : Int → gh_M → Prop) : Prop := gh_i ((m 41 9) + 1) ∧ ∃ J22 : gh_M → Prop, (∀ (m : gh_M), J22 m → gh_M1 (fun K24 v3 m => f_Forest_countOver_24 v1 v2 Q K24 v3 m) 0 m) ∧ ((v2 = 0 → J22 (gh_u (gh_u m 41 9 ((m 41 9) + 1)) 41 10 (((m 41 9) + 1)))) ∧ (¬ (v2 = 0) → J22 (gh_u m 41 9 ((m 41 9) + 1))))
theorem b_Forest_countOver_80 {E : gh_E} {v1 : Int} {v2 : Int} {Q : Int → gh_M → Prop} {K80 : Int → gh_M → Prop} (d : Nat) (hK : ∀ (v3 : Int) (m : gh_M), gh_F m → K80 v3 m → gh_T E (gh_yForest_countOver.cls, prog_5_method_4_code, 4, false, 9) (d + 31) 80 [(0, 2, 41), (1, 0, v1), (2, 0, v2), (3, 0, v3)] [] m (fun r m1 => gh_F m1 ∧ Q r m1)) (v3 : Int) (m : gh_M) (hF : gh_F m) (h : f_Forest_countOver_80 v1 v2 Q K80 v3 m) : gh_T E (gh_yForest_countOver.cls, prog_5_method_4_code, 4, false, 9) (d + 31) 80 [(0, 2, 41), (1, 0, v1), (2, 0, v2), (3, 0, v3)] [] m (fun r m1 => gh_F m1 ∧ Q r m1) := by
  have hK80 := hK
  unfold f_Forest_countOver_80 at h
  refine gh_iload_n gd_Forest_countOver_80 3 rfl ?_
  refine gh_aload_n gd_Forest_countOver_81 0 rfl (by decide) ?_
  refine gf_41_0 gd_Forest_countOver_82 gh_k487 hF ?_
  refine gf_13_1 gd_Forest_countOver_85 gh_k260 hF rfl ?_
  obtain ⟨hA, hB⟩ := h
  refine gh_jge (tgt := 117) gd_Forest_countOver_88 (by decide) (fun c1881 => ?_) (fun c1881 => ?_)
  · have h := hA c1881
    refine gh_aload_n gd_Forest_countOver_91 0 rfl (by decide) ?_
    refine gf_41_4 gd_Forest_countOver_92 gh_k491 hF ?_
    refine gh_iload_n gd_Forest_countOver_95 3 rfl ?_
    refine gh_iload_n gd_Forest_countOver_96 1 rfl ?_
    refine gh_iload_n gd_Forest_countOver_97 2 rfl ?_
    obtain ⟨q1882, h⟩ := h
    refine cv_Forest_plainAt (d := d + 30) gd_Forest_countOver_98 gh_k1205 (Nat.le_of_ble_eq_true rfl) (gh_C.pe (e_Forest_plainAt (d + 30) v3 v1 v2 q1882) ?_)
    refine gh_aload_n gd_Forest_countOver_101 0 rfl (by decide) ?_
    refine gh_iload_n gd_Forest_countOver_102 3 rfl ?_
    refine gh_iload_n gd_Forest_countOver_103 1 rfl ?_
    refine gh_iload_n gd_Forest_countOver_104 2 rfl ?_
    refine gh_iconst gd_Forest_countOver_105 (gh_r0 rfl) ?_
    refine gh_iconst gd_Forest_countOver_106 (gh_r0 rfl) ?_
    refine cv_Forest_countOf (d := d + 30) gd_Forest_countOver_107 gh_k1209 hF (Nat.le_of_ble_eq_true rfl) (gh_C.mono (sr_Forest_countOf d v3 v1 v2 0 0 hF h) (fun r1883 m1884 hq => ?_))
    obtain ⟨hF, h⟩ := hq
    obtain ⟨q1885, h⟩ := h
    obtain ⟨q1886, h⟩ := h
    refine sa_42 gd_Forest_countOver_110 hF q1885 q1886 (fun hF => ?_)
    obtain ⟨q1887, h⟩ := h
    refine gh_iinc (L2 := [(3, 0, v3 + 1), (0, 2, 41), (1, 0, v1), (2, 0, v2)]) gd_Forest_countOver_111 3 rfl q1887 (by decide) rfl ?_
    refine gh_goto (tgt := 80) gd_Forest_countOver_114 (by decide) ?_
    refine gh_pick (L2 := [(0, 2, 41), (1, 0, v1), (2, 0, v2), (3, 0, v3 + 1)]) [1, 2, 3, 0] rfl ?_
    exact hK80 (v3 + 1) (gh_u m1884 42 (((((v3 * 9) + v1) * 9) + v2)) r1883) hF h
  · have h := hB c1881
    exact gh_ret9 rfl gd_Forest_countOver_117 ⟨hF, h⟩
theorem b_Forest_countOver_24 {E : gh_E} {v1 : Int} {v2 : Int} {Q : Int → gh_M → Prop} {K24 : Int → gh_M → Prop} (d : Nat) (hK : ∀ (v3 : Int) (m : gh_M), gh_F m → K24 v3 m → gh_T E (gh_yForest_countOver.cls, prog_5_method_4_code, 4, false, 9) (d + 31) 24 [(0, 2, 41), (1, 0, v1), (2, 0, v2), (3, 0, v3)] [] m (fun r m1 => gh_F m1 ∧ Q r m1)) (v3 : Int) (m : gh_M) (hF : gh_F m) (h : f_Forest_countOver_24 v1 v2 Q K24 v3 m) : gh_T E (gh_yForest_countOver.cls, prog_5_method_4_code, 4, false, 9) (d + 31) 24 [(0, 2, 41), (1, 0, v1), (2, 0, v2), (3, 0, v3)] [] m (fun r m1 => gh_F m1 ∧ Q r m1) := by
  have hK24 := hK
  unfold f_Forest_countOver_24 at h
  refine gh_iload_n gd_Forest_countOver_24 3 rfl ?_
  refine gh_aload_n gd_Forest_countOver_25 0 rfl (by decide) ?_
  refine gf_41_0 gd_Forest_countOver_26 gh_k487 hF ?_
  refine gf_13_1 gd_Forest_countOver_29 gh_k260 hF rfl ?_
  obtain ⟨hA, hB⟩ := h
  refine gh_jge (tgt := 78) gd_Forest_countOver_32 (by decide) (fun c1869 => ?_) (fun c1869 => ?_)
  · have h := hA c1869
    refine gh_aload_n gd_Forest_countOver_35 0 rfl (by decide) ?_
    refine gf_41_4 gd_Forest_countOver_36 gh_k491 hF ?_
    refine gh_iload_n gd_Forest_countOver_39 3 rfl ?_
    refine gh_iload_n gd_Forest_countOver_40 1 rfl ?_
    refine gh_iload_n gd_Forest_countOver_41 2 rfl ?_
    obtain ⟨q1870, h⟩ := h
    refine cv_Forest_plainAt (d := d + 30) gd_Forest_countOver_42 gh_k1205 (Nat.le_of_ble_eq_true rfl) (gh_C.pe (e_Forest_plainAt (d + 30) v3 v1 v2 q1870) ?_)
    refine gh_iload_n gd_Forest_countOver_45 1 rfl ?_
    refine gh_iload_n gd_Forest_countOver_46 2 rfl ?_
    obtain ⟨hk, h⟩ := h
    have k1874 : ∀ x1875 : Int, x1875 = (if v1 = v2 then (if v2 ≤ 0 then (-1) else (m 42 (((((v3 * 9) + 0) * 9) + 0)))) else (-1)) → gh_T E (gh_yForest_countOver.cls, prog_5_method_4_code, 4, false, 9) (d + 31) 71 [(0, 2, 41), (1, 0, v1), (2, 0, v2), (3, 0, v3)] [(1, x1875), (0, ((((v3 * 9) + v1) * 9) + v2)), (2, 42)] m (fun r m1 => gh_F m1 ∧ Q r m1) := by
      rintro _ rfl
      obtain ⟨q1876, h⟩ := h
      obtain ⟨q1877, h⟩ := h
      refine sa_42 gd_Forest_countOver_71 hF q1876 q1877 (fun hF => ?_)
      obtain ⟨q1878, h⟩ := h
      refine gh_iinc (L2 := [(3, 0, v3 + 1), (0, 2, 41), (1, 0, v1), (2, 0, v2)]) gd_Forest_countOver_72 3 rfl q1878 (by decide) rfl ?_
      refine gh_goto (tgt := 24) gd_Forest_countOver_75 (by decide) ?_
      refine gh_pick (L2 := [(0, 2, 41), (1, 0, v1), (2, 0, v2), (3, 0, v3 + 1)]) [1, 2, 3, 0] rfl ?_
      exact hK24 (v3 + 1) (gh_u m 42 (((((v3 * 9) + v1) * 9) + v2)) (if v1 = v2 then (if v2 ≤ 0 then (-1) else (m 42 (((((v3 * 9) + 0) * 9) + 0)))) else (-1))) hF h
    refine gh_jne (tgt := 68) gd_Forest_countOver_47 (by decide) (fun c1879 => ?_) (fun c1879 => ?_)
    · have hz : True := trivial
      have hk := hk c1879
      refine gh_iload_n gd_Forest_countOver_50 2 rfl ?_
      refine gh_zle (tgt := 68) gd_Forest_countOver_51 (by decide) (fun c1880 => ?_) (fun c1880 => ?_)
      · have hz : True := trivial
        refine gh_ldc2 (n := (-1)) gd_Forest_countOver_68 gh_k1208 (by decide) (gh_r1 rfl) ?_
        exact k1874 _ (by rw [if_pos c1879, if_pos c1880])
      · have hz : True := trivial
        have hk := hk c1880
        refine gh_aload_n gd_Forest_countOver_54 0 rfl (by decide) ?_
        refine gf_41_4 gd_Forest_countOver_55 gh_k491 hF ?_
        refine gh_iload_n gd_Forest_countOver_58 3 rfl ?_
        refine gh_iconst gd_Forest_countOver_59 (gh_r0 rfl) ?_
        refine gh_iconst gd_Forest_countOver_60 (gh_r0 rfl) ?_
        obtain ⟨q1871, hk⟩ := hk
        refine cv_Forest_plainAt (d := d + 30) gd_Forest_countOver_61 gh_k1205 (Nat.le_of_ble_eq_true rfl) (gh_C.pe (e_Forest_plainAt (d + 30) v3 0 0 q1871) ?_)
        obtain ⟨q1872, hk⟩ := hk
        have q1873 := hk
        refine la_42 gd_Forest_countOver_64 hF q1872 q1873 rfl ?_
        refine gh_goto (tgt := 71) gd_Forest_countOver_65 (by decide) ?_
        exact k1874 _ (by rw [if_pos c1879, if_neg c1880])
    · have hz : True := trivial
      refine gh_ldc2 (n := (-1)) gd_Forest_countOver_68 gh_k1208 (by decide) (gh_r1 rfl) ?_
      exact k1874 _ (by rw [if_neg c1879])
  · have h := hB c1869
    refine gh_iconst gd_Forest_countOver_78 (gh_r0 rfl) ?_
    refine gh_istore_n (L2 := [(3, 0, 0), (0, 2, 41), (1, 0, v1), (2, 0, v2)]) gd_Forest_countOver_79 (by decide) rfl ?_
    refine gh_pick (L2 := [(0, 2, 41), (1, 0, v1), (2, 0, v2), (3, 0, 0)]) [1, 2, 3, 0] rfl ?_
    exact gh_M1_sound (T := fun v3 m => gh_T E (gh_yForest_countOver.cls, prog_5_method_4_code, 4, false, 9) (d + 31) 80 [(0, 2, 41), (1, 0, v1), (2, 0, v2), (3, 0, v3)] [] m (fun r m1 => gh_F m1 ∧ Q r m1)) (fun _ m => gh_F m) (fun K80 v3 m hK hF h => b_Forest_countOver_80 d hK v3 m hF h) 0 m hF h
theorem s_Forest_countOver {E : gh_E} {m : gh_M} {Q : Int → gh_M → Prop} (d : Nat) (v1 : Int) (v2 : Int) (hF : gh_F m) (h : w_Forest_countOver v1 v2 m Q) : gh_C E gh_yForest_countOver prog_5_method_4_code 4 none 9 (d + 31) [(2, 41), (0, v1), (0, v2)] m (fun r m1 => gh_F m1 ∧ Q r m1) := by
  refine gh_enter2 (L := [(0, 2, 41), (1, 0, v1), (2, 0, v2)]) (by decide +kernel) gh_rt9 (Nat.le_of_ble_eq_true rfl) rfl rfl ?_
  unfold w_Forest_countOver at h
  refine gh_aload_n gd_Forest_countOver_0 0 rfl (by decide) ?_
  refine gh_dup gd_Forest_countOver_1 (by decide) ?_
  refine gf_41_9 gd_Forest_countOver_2 gh_k496 hF rfl ?_
  refine gh_iconst gd_Forest_countOver_5 (gh_r0 rfl) ?_
  obtain ⟨q1868, h⟩ := h
  refine gh_iadd gd_Forest_countOver_6 q1868 ?_
  refine pf_41_9 gd_Forest_countOver_7 gh_k496 hF (fun hF => ?_)
  refine gh_iload_n gd_Forest_countOver_10 2 rfl ?_
  obtain ⟨J22, hJ22, h⟩ := h
  have hJ22 : ∀ (m : gh_M), gh_F m → J22 m → gh_T E (gh_yForest_countOver.cls, prog_5_method_4_code, 4, false, 9) (d + 31) 22 [(0, 2, 41), (1, 0, v1), (2, 0, v2)] [] m (fun r m1 => gh_F m1 ∧ Q r m1) := by
    intro m hF hj
    have h := hJ22 m hj
    refine gh_iconst gd_Forest_countOver_22 (gh_r0 rfl) ?_
    refine gh_istore_n (L2 := [(3, 0, 0), (0, 2, 41), (1, 0, v1), (2, 0, v2)]) gd_Forest_countOver_23 (by decide) rfl ?_
    refine gh_pick (L2 := [(0, 2, 41), (1, 0, v1), (2, 0, v2), (3, 0, 0)]) [1, 2, 3, 0] rfl ?_
    exact gh_M1_sound (T := fun v3 m => gh_T E (gh_yForest_countOver.cls, prog_5_method_4_code, 4, false, 9) (d + 31) 24 [(0, 2, 41), (1, 0, v1), (2, 0, v2), (3, 0, v3)] [] m (fun r m1 => gh_F m1 ∧ Q r m1)) (fun _ m => gh_F m) (fun K24 v3 m hK hF h => b_Forest_countOver_24 d hK v3 m hF h) 0 m hF h
  obtain ⟨hA, hB⟩ := h
  refine gh_zne (tgt := 22) gd_Forest_countOver_11 (by decide) (fun c1888 => ?_) (fun c1888 => ?_)
  · have h := hA c1888
    refine gh_aload_n gd_Forest_countOver_14 0 rfl (by decide) ?_
    refine gh_aload_n gd_Forest_countOver_15 0 rfl (by decide) ?_
    refine gf_41_9 gd_Forest_countOver_16 gh_k496 hF (gh_u_s _ _ _ _) ?_
    refine pf_41_10 gd_Forest_countOver_19 gh_k497 hF (fun hF => ?_)
    exact hJ22 (gh_u (gh_u m 41 9 ((m 41 9) + 1)) 41 10 (((m 41 9) + 1))) hF h
  · have h := hB c1888
    exact hJ22 (gh_u m 41 9 ((m 41 9) + 1)) hF h
def f_Forest_treesOf_18 (v1 : Int) (v2 : Int) (v3 : Int) (v4 : Int) (K8 : Int → gh_M → Prop) (K18 : Int → gh_M → Prop) (v5 : Int) (m : gh_M) : Prop := ((v5 < 0 → gh_i (v4 + 1) ∧ K8 (v4 + 1) (gh_u m 41 11 v4)) ∧ (¬ (v5 < 0) → w_Forest_countOver v5 v4 m (fun _ m1894 => gh_i (v5 + (-1)) ∧ K18 (v5 + (-1)) m1894)))
def f_Forest_treesOf_8 (v1 : Int) (v2 : Int) (v3 : Int) (Q : Int → gh_M → Prop) (K8 : Int → gh_M → Prop) (v4 : Int) (m : gh_M) : Prop := ((v4 ≤ v3 → gh_M1 (fun K18 v5 m => f_Forest_treesOf_18 v1 v2 v3 v4 K8 K18 v5 m) v4 m) ∧ (¬ (v4 ≤ v3) → (gh_i (v1 * 9) ∧ gh_i ((v1 * 9) + v2) ∧ gh_i (((v1 * 9) + v2) * 9) ∧ gh_i ((((v1 * 9) + v2) * 9) + v3)) ∧ 0 ≤ ((((v1 * 9) + v2) * 9) + v3) ∧ (((((v1 * 9) + v2) * 9) + v3)) < 648 ∧ Q (m 42 (((((v1 * 9) + v2) * 9) + v3))) m))
def w_Forest_treesOf (v1 : Int) (v2 : Int) (v3 : Int) (m : gh_M) (Q : Int → gh_M → Prop) : Prop := gh_i ((m 41 11) + 1) ∧ ∀ v4 : Int, v4 = (m 41 11) + 1 → gh_M1 (fun K8 v4 m => f_Forest_treesOf_8 v1 v2 v3 Q K8 v4 m) v4 m
theorem b_Forest_treesOf_18 {E : gh_E} {v1 : Int} {v2 : Int} {v3 : Int} {v4 : Int} {K8 : Int → gh_M → Prop} {Q : Int → gh_M → Prop} {K18 : Int → gh_M → Prop} (d : Nat) (hK8 : ∀ (v4 : Int) (m : gh_M), gh_F m → K8 v4 m → gh_T E (gh_yForest_treesOf.cls, prog_5_method_3_code, 6, false, 1) (d + 32) 8 [(0, 2, 41), (1, 0, v1), (2, 0, v2), (3, 0, v3), (4, 0, v4)] [] m (fun r m1 => gh_F m1 ∧ Q r m1)) (hK : ∀ (v5 : Int) (m : gh_M), gh_F m → K18 v5 m → gh_T E (gh_yForest_treesOf.cls, prog_5_method_3_code, 6, false, 1) (d + 32) 18 [(0, 2, 41), (1, 0, v1), (2, 0, v2), (3, 0, v3), (4, 0, v4), (5, 0, v5)] [] m (fun r m1 => gh_F m1 ∧ Q r m1)) (v5 : Int) (m : gh_M) (hF : gh_F m) (h : f_Forest_treesOf_18 v1 v2 v3 v4 K8 K18 v5 m) : gh_T E (gh_yForest_treesOf.cls, prog_5_method_3_code, 6, false, 1) (d + 32) 18 [(0, 2, 41), (1, 0, v1), (2, 0, v2), (3, 0, v3), (4, 0, v4), (5, 0, v5)] [] m (fun r m1 => gh_F m1 ∧ Q r m1) := by
  have hK18 := hK
  unfold f_Forest_treesOf_18 at h
  refine gh_iload gd_Forest_treesOf_18 5 rfl ?_
  obtain ⟨hA, hB⟩ := h
  refine gh_zlt (tgt := 37) gd_Forest_treesOf_20 (by decide) (fun c1891 => ?_) (fun c1891 => ?_)
  · have h := hA c1891
    refine gh_aload_n gd_Forest_treesOf_37 0 rfl (by decide) ?_
    refine gh_iload gd_Forest_treesOf_38 4 rfl ?_
    refine pf_41_11 gd_Forest_treesOf_40 gh_k498 hF (fun hF => ?_)
    obtain ⟨q1892, h⟩ := h
    refine gh_iinc (L2 := [(4, 0, v4 + 1), (0, 2, 41), (1, 0, v1), (2, 0, v2), (3, 0, v3), (5, 0, v5)]) gd_Forest_treesOf_43 4 rfl q1892 (by decide) rfl ?_
    refine gh_goto (tgt := 8) gd_Forest_treesOf_46 (by decide) ?_
    refine gh_pick (L2 := [(0, 2, 41), (1, 0, v1), (2, 0, v2), (3, 0, v3), (4, 0, v4 + 1)]) [1, 2, 3, 4, 0] rfl ?_
    exact hK8 (v4 + 1) (gh_u m 41 11 v4) hF h
  · have h := hB c1891
    refine gh_aload_n gd_Forest_treesOf_23 0 rfl (by decide) ?_
    refine gh_iload gd_Forest_treesOf_24 5 rfl ?_
    refine gh_iload gd_Forest_treesOf_26 4 rfl ?_
    refine cv_Forest_countOver (d := d + 31) gd_Forest_treesOf_28 gh_k1201 hF (Nat.le_of_ble_eq_true rfl) (gh_C.mono (s_Forest_countOver d v5 v4 hF h) (fun r1893 m1894 hq => ?_))
    obtain ⟨hF, h⟩ := hq
    obtain ⟨q1895, h⟩ := h
    refine gh_iinc (L2 := [(5, 0, v5 + (-1)), (0, 2, 41), (1, 0, v1), (2, 0, v2), (3, 0, v3), (4, 0, v4)]) gd_Forest_treesOf_31 5 rfl q1895 (by decide) rfl ?_
    refine gh_goto (tgt := 18) gd_Forest_treesOf_34 (by decide) ?_
    refine gh_pick (L2 := [(0, 2, 41), (1, 0, v1), (2, 0, v2), (3, 0, v3), (4, 0, v4), (5, 0, v5 + (-1))]) [1, 2, 3, 4, 5, 0] rfl ?_
    exact hK18 (v5 + (-1)) m1894 hF h
theorem b_Forest_treesOf_8 {E : gh_E} {v1 : Int} {v2 : Int} {v3 : Int} {Q : Int → gh_M → Prop} {K8 : Int → gh_M → Prop} (d : Nat) (hK : ∀ (v4 : Int) (m : gh_M), gh_F m → K8 v4 m → gh_T E (gh_yForest_treesOf.cls, prog_5_method_3_code, 6, false, 1) (d + 32) 8 [(0, 2, 41), (1, 0, v1), (2, 0, v2), (3, 0, v3), (4, 0, v4)] [] m (fun r m1 => gh_F m1 ∧ Q r m1)) (v4 : Int) (m : gh_M) (hF : gh_F m) (h : f_Forest_treesOf_8 v1 v2 v3 Q K8 v4 m) : gh_T E (gh_yForest_treesOf.cls, prog_5_method_3_code, 6, false, 1) (d + 32) 8 [(0, 2, 41), (1, 0, v1), (2, 0, v2), (3, 0, v3), (4, 0, v4)] [] m (fun r m1 => gh_F m1 ∧ Q r m1) := by
  have hK8 := hK
  unfold f_Forest_treesOf_8 at h
  refine gh_iload gd_Forest_treesOf_8 4 rfl ?_
  refine gh_iload_n gd_Forest_treesOf_10 3 rfl ?_
  obtain ⟨hA, hB⟩ := h
  refine gh_jgt (tgt := 49) gd_Forest_treesOf_11 (by decide) (fun c1890 => ?_) (fun c1890 => ?_)
  · have h := hA c1890
    refine gh_iload gd_Forest_treesOf_14 4 rfl ?_
    refine gh_istore (L2 := [(5, 0, v4), (0, 2, 41), (1, 0, v1), (2, 0, v2), (3, 0, v3), (4, 0, v4)]) gd_Forest_treesOf_16 (by decide) rfl ?_
    refine gh_pick (L2 := [(0, 2, 41), (1, 0, v1), (2, 0, v2), (3, 0, v3), (4, 0, v4), (5, 0, v4)]) [1, 2, 3, 4, 5, 0] rfl ?_
    exact gh_M1_sound (T := fun v5 m => gh_T E (gh_yForest_treesOf.cls, prog_5_method_3_code, 6, false, 1) (d + 32) 18 [(0, 2, 41), (1, 0, v1), (2, 0, v2), (3, 0, v3), (4, 0, v4), (5, 0, v5)] [] m (fun r m1 => gh_F m1 ∧ Q r m1)) (fun _ m => gh_F m) (fun K18 v5 m hK hF h => b_Forest_treesOf_18 d hK8 hK v5 m hF h) v4 m hF h
  · have h := hB c1890
    refine gh_aload_n gd_Forest_treesOf_49 0 rfl (by decide) ?_
    refine gf_41_4 gd_Forest_treesOf_50 gh_k491 hF ?_
    refine gh_iload_n gd_Forest_treesOf_53 1 rfl ?_
    refine gh_iload_n gd_Forest_treesOf_54 2 rfl ?_
    refine gh_iload_n gd_Forest_treesOf_55 3 rfl ?_
    obtain ⟨q1896, h⟩ := h
    refine cv_Forest_plainAt (d := d + 31) gd_Forest_treesOf_56 gh_k1205 (Nat.le_of_ble_eq_true rfl) (gh_C.pe (e_Forest_plainAt (d + 31) v1 v2 v3 q1896) ?_)
    obtain ⟨q1897, h⟩ := h
    obtain ⟨q1898, h⟩ := h
    refine la_42 gd_Forest_treesOf_59 hF q1897 q1898 rfl ?_
    exact gh_ret1 rfl gd_Forest_treesOf_60 ⟨hF, h⟩
theorem s_Forest_treesOf {E : gh_E} {m : gh_M} {Q : Int → gh_M → Prop} (d : Nat) (v1 : Int) (v2 : Int) (v3 : Int) (hF : gh_F m) (h : w_Forest_treesOf v1 v2 v3 m Q) : gh_C E gh_yForest_treesOf prog_5_method_3_code 6 (some .long) 1 (d + 32) [(2, 41), (0, v1), (0, v2), (0, v3)] m (fun r m1 => gh_F m1 ∧ Q r m1) := by
  refine gh_enter2 (L := [(0, 2, 41), (1, 0, v1), (2, 0, v2), (3, 0, v3)]) (by decide +kernel) gh_rt1 (Nat.le_of_ble_eq_true rfl) rfl rfl ?_
  unfold w_Forest_treesOf at h
  refine gh_aload_n gd_Forest_treesOf_0 0 rfl (by decide) ?_
  refine gf_41_11 gd_Forest_treesOf_1 gh_k498 hF rfl ?_
  refine gh_iconst gd_Forest_treesOf_4 (gh_r0 rfl) ?_
  obtain ⟨q1889, h⟩ := h
  refine gh_iadd gd_Forest_treesOf_5 q1889 ?_
  refine gh_name (fun v4 hn => ?_)
  have h := h v4 hn
  refine gh_istore (L2 := [(4, 0, v4), (0, 2, 41), (1, 0, v1), (2, 0, v2), (3, 0, v3)]) gd_Forest_treesOf_6 (by decide) rfl ?_
  refine gh_pick (L2 := [(0, 2, 41), (1, 0, v1), (2, 0, v2), (3, 0, v3), (4, 0, v4)]) [1, 2, 3, 4, 0] rfl ?_
  exact gh_M1_sound (T := fun v4 m => gh_T E (gh_yForest_treesOf.cls, prog_5_method_3_code, 6, false, 1) (d + 32) 8 [(0, 2, 41), (1, 0, v1), (2, 0, v2), (3, 0, v3), (4, 0, v4)] [] m (fun r m1 => gh_F m1 ∧ Q r m1)) (fun _ m => gh_F m) (fun K8 v4 m hK hF h => b_Forest_treesOf_8 d hK v4 m hF h) v4 m hF h
def w_House_trees (v1 : Int) (v2 : Int) (v3 : Int) (m : gh_M) (Q : Int → gh_M → Prop) : Prop := ∃ J35 : Prop, (J35 → ((v2 ≤ v3 → (((m 2 10) = 0 → Q (-1003) m) ∧ (¬ ((m 2 10) = 0) → w_Chart_refresh m (fun _ m1902 => w_Forest_treesOf v1 v2 v3 m1902 (fun r1903 m1904 => Q (if r1903 < 1000000000000000000 then r1903 else (-2)) m1904))))) ∧ (¬ (v2 ≤ v3) → Q (-1002) m))) ∧ (((((m 2 10) = 0) ∨ ((p_House_isName v1 m) ∧ ((p_House_isPlace v2 m) ∧ (p_House_isPlace v3 m)))) → J35) ∧ (¬ (((m 2 10) = 0) ∨ ((p_House_isName v1 m) ∧ ((p_House_isPlace v2 m) ∧ (p_House_isPlace v3 m)))) → Q (-1001) m))
theorem s_House_trees {E : gh_E} {m : gh_M} {Q : Int → gh_M → Prop} (d : Nat) (v1 : Int) (v2 : Int) (v3 : Int) (hF : gh_F m) (h : w_House_trees v1 v2 v3 m Q) : gh_C E gh_yHouse_trees prog_1_method_26_code 6 (some .long) 1 (d + 33) [(2, 2), (0, v1), (0, v2), (0, v3)] m (fun r m1 => gh_F m1 ∧ Q r m1) := by
  refine gh_enter2 (L := [(0, 2, 2), (1, 0, v1), (2, 0, v2), (3, 0, v3)]) (by decide +kernel) gh_rt1 (Nat.le_of_ble_eq_true rfl) rfl rfl ?_
  unfold w_House_trees at h
  refine gh_aload_n gd_House_trees_0 0 rfl (by decide) ?_
  refine gf_2_10 gd_House_trees_1 gh_k643 hF rfl ?_
  obtain ⟨J35, hJ35, h⟩ := h
  have hJ35 : gh_F m → J35 → gh_T E (gh_yHouse_trees.cls, prog_1_method_26_code, 6, false, 1) (d + 33) 35 [(0, 2, 2), (1, 0, v1), (2, 0, v2), (3, 0, v3)] [] m (fun r m1 => gh_F m1 ∧ Q r m1) := by
    intro hF hj
    have h := hJ35 hj
    refine gh_iload_n gd_House_trees_35 2 rfl ?_
    refine gh_iload_n gd_House_trees_36 3 rfl ?_
    obtain ⟨hA, hB⟩ := h
    refine gh_jle (tgt := 44) gd_House_trees_37 (by decide) (fun c1899 => ?_) (fun c1899 => ?_)
    · have h := hA c1899
      refine gh_aload_n gd_House_trees_44 0 rfl (by decide) ?_
      refine gf_2_10 gd_House_trees_45 gh_k643 hF rfl ?_
      obtain ⟨hA, hB⟩ := h
      refine gh_zne (tgt := 55) gd_House_trees_48 (by decide) (fun c1900 => ?_) (fun c1900 => ?_)
      · have h := hA c1900
        refine gh_ldc2 (n := (-1003)) gd_House_trees_51 gh_k1196 (by decide) (gh_r1 rfl) ?_
        exact gh_ret1 rfl gd_House_trees_54 ⟨hF, h⟩
      · have h := hB c1900
        refine gh_aload_n gd_House_trees_55 0 rfl (by decide) ?_
        refine gf_2_5 gd_House_trees_56 gh_k638 hF ?_
        refine cv_Chart_refresh (d := d + 32) gd_House_trees_59 gh_k1077 hF (Nat.le_of_ble_eq_true rfl) (gh_C.mono (s_Chart_refresh (d + 27) hF h) (fun r1901 m1902 hq => ?_))
        obtain ⟨hF, h⟩ := hq
        refine gh_aload_n gd_House_trees_62 0 rfl (by decide) ?_
        refine gf_2_7 gd_House_trees_63 gh_k640 hF ?_
        refine gh_iload_n gd_House_trees_66 1 rfl ?_
        refine gh_iload_n gd_House_trees_67 2 rfl ?_
        refine gh_iload_n gd_House_trees_68 3 rfl ?_
        refine cv_Forest_treesOf (d := d + 32) gd_House_trees_69 gh_k1197 hF (Nat.le_of_ble_eq_true rfl) (gh_C.mono (s_Forest_treesOf d v1 v2 v3 hF h) (fun r1903 m1904 hq => ?_))
        obtain ⟨hF, h⟩ := hq
        refine gh_lstore (L2 := [(4, 1, r1903), (0, 2, 2), (1, 0, v1), (2, 0, v2), (3, 0, v3)]) gd_House_trees_72 (by decide) rfl ?_
        refine gh_lload gd_House_trees_74 0 rfl ?_
        refine gh_ldc2 (n := 1000000000000000000) gd_House_trees_76 gh_k1248 (by decide) (gh_r1 rfl) ?_
        refine gh_lcmp gd_House_trees_79 ?_
        have k1905 : ∀ x1906 : Int, x1906 = (if r1903 < 1000000000000000000 then r1903 else (-2)) → gh_T E (gh_yHouse_trees.cls, prog_1_method_26_code, 6, false, 1) (d + 33) 91 [(4, 1, r1903), (0, 2, 2), (1, 0, v1), (2, 0, v2), (3, 0, v3)] [(1, x1906)] m1904 (fun r m1 => gh_F m1 ∧ Q r m1) := by
          rintro _ rfl
          exact gh_ret1 rfl gd_House_trees_91 ⟨hF, h⟩
        refine gh_cge (tgt := 88) gd_House_trees_80 (by decide) (fun c1907 => ?_) (fun c1907 => ?_)
        · have hz : True := trivial
          refine gh_lload gd_House_trees_83 0 rfl ?_
          refine gh_goto (tgt := 91) gd_House_trees_85 (by decide) ?_
          exact k1905 _ (by rw [if_pos c1907])
        · have hz : True := trivial
          refine gh_ldc2 (n := (-2)) gd_House_trees_88 gh_k1249 (by decide) (gh_r1 rfl) ?_
          exact k1905 _ (by rw [if_neg c1907])
    · have h := hB c1899
      refine gh_ldc2 (n := (-1002)) gd_House_trees_40 gh_k1195 (by decide) (gh_r1 rfl) ?_
      exact gh_ret1 rfl gd_House_trees_43 ⟨hF, h⟩
  obtain ⟨hA, hB⟩ := h
  have k1908 : (((m 2 10) = 0) ∨ ((p_House_isName v1 m) ∧ ((p_House_isPlace v2 m) ∧ (p_House_isPlace v3 m)))) → gh_T E (gh_yHouse_trees.cls, prog_1_method_26_code, 6, false, 1) (d + 33) 35 [(0, 2, 2), (1, 0, v1), (2, 0, v2), (3, 0, v3)] [] m (fun r m1 => gh_F m1 ∧ Q r m1) := by
    intro c
    have h := hA c
    exact hJ35 hF h
  have k1909 : ¬ (((m 2 10) = 0) ∨ ((p_House_isName v1 m) ∧ ((p_House_isPlace v2 m) ∧ (p_House_isPlace v3 m)))) → gh_T E (gh_yHouse_trees.cls, prog_1_method_26_code, 6, false, 1) (d + 33) 31 [(0, 2, 2), (1, 0, v1), (2, 0, v2), (3, 0, v3)] [] m (fun r m1 => gh_F m1 ∧ Q r m1) := by
    intro c
    have h := hB c
    refine gh_ldc2 (n := (-1001)) gd_House_trees_31 gh_k1194 (by decide) (gh_r1 rfl) ?_
    exact gh_ret1 rfl gd_House_trees_34 ⟨hF, h⟩
  refine gh_zeq (tgt := 35) gd_House_trees_4 (by decide) (fun c1910 => ?_) (fun c1910 => ?_)
  · have hz : True := trivial
    exact k1908 (Or.inl c1910)
  · have hz : True := trivial
    refine gh_aload_n gd_House_trees_7 0 rfl (by decide) ?_
    refine gh_iload_n gd_House_trees_8 1 rfl ?_
    refine cv_House_isName (d := d + 32) gd_House_trees_9 gh_k983 hF (Nat.le_of_ble_eq_true rfl) (gh_C.pe (e_House_isName (d + 32) v1 hF) ?_)
    refine gh_beq (tgt := 31) gd_House_trees_12 (by decide) (fun c1911 => ?_) (fun c1911 => ?_)
    · have hz : True := trivial
      refine gh_aload_n gd_House_trees_15 0 rfl (by decide) ?_
      refine gh_iload_n gd_House_trees_16 2 rfl ?_
      refine cv_House_isPlace (d := d + 32) gd_House_trees_17 gh_k1073 hF (Nat.le_of_ble_eq_true rfl) (gh_C.pe (e_House_isPlace (d + 32) v2 hF) ?_)
      refine gh_beq (tgt := 31) gd_House_trees_20 (by decide) (fun c1912 => ?_) (fun c1912 => ?_)
      · have hz : True := trivial
        refine gh_aload_n gd_House_trees_23 0 rfl (by decide) ?_
        refine gh_iload_n gd_House_trees_24 3 rfl ?_
        refine cv_House_isPlace (d := d + 32) gd_House_trees_25 gh_k1073 hF (Nat.le_of_ble_eq_true rfl) (gh_C.pe (e_House_isPlace (d + 32) v3 hF) ?_)
        refine gh_bne (tgt := 35) gd_House_trees_28 (by decide) (fun c1913 => ?_) (fun c1913 => ?_)
        · have hz : True := trivial
          exact k1908 (Or.inr ⟨c1911, ⟨c1912, c1913⟩⟩)
        · have hz : True := trivial
          exact k1909 (fun z => z.elim c1910 (fun z => (fun z => c1913 z.2) z.2))
      · have hz : True := trivial
        exact k1909 (fun z => z.elim c1910 (fun z => (fun z => c1912 z.1) z.2))
    · have hz : True := trivial
      exact k1909 (fun z => z.elim c1910 (fun z => c1911 z.1))
def w_Picker_push (v1 : Int) (v2 : Int) (v3 : Int) (v4 : Int) (v5 : Int) (v6 : Int) (m : gh_M) (Q : Int → gh_M → Prop) : Prop := (((m 47 14) < 289 → 0 ≤ m 47 14 ∧ (m 47 14) < 289 ∧ 0 ≤ m 47 14 ∧ (m 47 14) < 289 ∧ 0 ≤ m 47 14 ∧ (m 47 14) < 289 ∧ 0 ≤ m 47 14 ∧ (m 47 14) < 289 ∧ 0 ≤ m 47 14 ∧ (m 47 14) < 289 ∧ 0 ≤ m 47 14 ∧ (m 47 14) < 289 ∧ gh_i ((m 47 14) + 1) ∧ Q 0 (gh_u (gh_u (gh_u (gh_u (gh_u (gh_u (gh_u m 50 (m 47 14) v1) 51 (m 47 14) v2) 52 (m 47 14) v3) 53 (m 47 14) v4) 54 (m 47 14) v5) 55 (m 47 14) v6) 47 14 ((m 47 14) + 1))) ∧ (¬ ((m 47 14) < 289) → Q 0 m))
theorem s_Picker_push {E : gh_E} {m : gh_M} {Q : Int → gh_M → Prop} (d : Nat) (v1 : Int) (v2 : Int) (v3 : Int) (v4 : Int) (v5 : Int) (v6 : Int) (hF : gh_F m) (h : w_Picker_push v1 v2 v3 v4 v5 v6 m Q) : gh_C E gh_yPicker_push prog_7_method_3_code 8 none 9 (d + 0) [(2, 47), (0, v1), (0, v2), (0, v3), (0, v4), (0, v5), (1, v6)] m (fun r m1 => gh_F m1 ∧ Q r m1) := by
  refine gh_enter2 (L := [(0, 2, 47), (1, 0, v1), (2, 0, v2), (3, 0, v3), (4, 0, v4), (5, 0, v5), (6, 1, v6)]) (by decide +kernel) gh_rt9 (Nat.le_of_ble_eq_true rfl) rfl rfl ?_
  unfold w_Picker_push at h
  refine gh_aload_n gd_Picker_push_0 0 rfl (by decide) ?_
  refine gf_47_14 gd_Picker_push_1 gh_k548 hF rfl ?_
  refine gh_sipush gd_Picker_push_4 (by decide) (gh_r0 rfl) ?_
  obtain ⟨hA, hB⟩ := h
  refine gh_jge (tgt := 83) gd_Picker_push_7 (by decide) (fun c1914 => ?_) (fun c1914 => ?_)
  · have h := hA c1914
    refine gh_aload_n gd_Picker_push_10 0 rfl (by decide) ?_
    refine gf_47_8 gd_Picker_push_11 gh_k542 hF ?_
    refine gh_aload_n gd_Picker_push_14 0 rfl (by decide) ?_
    refine gf_47_14 gd_Picker_push_15 gh_k548 hF rfl ?_
    refine gh_iload_n gd_Picker_push_18 1 rfl ?_
    obtain ⟨q1915, h⟩ := h
    obtain ⟨q1916, h⟩ := h
    refine sa_50 gd_Picker_push_19 hF q1915 q1916 (fun hF => ?_)
    refine gh_aload_n gd_Picker_push_20 0 rfl (by decide) ?_
    refine gf_47_9 gd_Picker_push_21 gh_k543 hF ?_
    refine gh_aload_n gd_Picker_push_24 0 rfl (by decide) ?_
    refine gf_47_14 gd_Picker_push_25 gh_k548 hF (gh_u_a (by decide)) ?_
    refine gh_iload_n gd_Picker_push_28 2 rfl ?_
    obtain ⟨q1917, h⟩ := h
    obtain ⟨q1918, h⟩ := h
    refine sa_51 gd_Picker_push_29 hF q1917 q1918 (fun hF => ?_)
    refine gh_aload_n gd_Picker_push_30 0 rfl (by decide) ?_
    refine gf_47_10 gd_Picker_push_31 gh_k544 hF ?_
    refine gh_aload_n gd_Picker_push_34 0 rfl (by decide) ?_
    refine gf_47_14 gd_Picker_push_35 gh_k548 hF ((gh_u_a (by decide)).trans (gh_u_a (by decide))) ?_
    refine gh_iload_n gd_Picker_push_38 3 rfl ?_
    obtain ⟨q1919, h⟩ := h
    obtain ⟨q1920, h⟩ := h
    refine sa_52 gd_Picker_push_39 hF q1919 q1920 (fun hF => ?_)
    refine gh_aload_n gd_Picker_push_40 0 rfl (by decide) ?_
    refine gf_47_11 gd_Picker_push_41 gh_k545 hF ?_
    refine gh_aload_n gd_Picker_push_44 0 rfl (by decide) ?_
    refine gf_47_14 gd_Picker_push_45 gh_k548 hF ((gh_u_a (by decide)).trans ((gh_u_a (by decide)).trans (gh_u_a (by decide)))) ?_
    refine gh_iload gd_Picker_push_48 4 rfl ?_
    obtain ⟨q1921, h⟩ := h
    obtain ⟨q1922, h⟩ := h
    refine sa_53 gd_Picker_push_50 hF q1921 q1922 (fun hF => ?_)
    refine gh_aload_n gd_Picker_push_51 0 rfl (by decide) ?_
    refine gf_47_12 gd_Picker_push_52 gh_k546 hF ?_
    refine gh_aload_n gd_Picker_push_55 0 rfl (by decide) ?_
    refine gf_47_14 gd_Picker_push_56 gh_k548 hF ((gh_u_a (by decide)).trans ((gh_u_a (by decide)).trans ((gh_u_a (by decide)).trans (gh_u_a (by decide))))) ?_
    refine gh_iload gd_Picker_push_59 5 rfl ?_
    obtain ⟨q1923, h⟩ := h
    obtain ⟨q1924, h⟩ := h
    refine sa_54 gd_Picker_push_61 hF q1923 q1924 (fun hF => ?_)
    refine gh_aload_n gd_Picker_push_62 0 rfl (by decide) ?_
    refine gf_47_13 gd_Picker_push_63 gh_k547 hF ?_
    refine gh_aload_n gd_Picker_push_66 0 rfl (by decide) ?_
    refine gf_47_14 gd_Picker_push_67 gh_k548 hF ((gh_u_a (by decide)).trans ((gh_u_a (by decide)).trans ((gh_u_a (by decide)).trans ((gh_u_a (by decide)).trans (gh_u_a (by decide)))))) ?_
    refine gh_lload gd_Picker_push_70 6 rfl ?_
    obtain ⟨q1925, h⟩ := h
    obtain ⟨q1926, h⟩ := h
    refine sa_55 gd_Picker_push_72 hF q1925 q1926 (fun hF => ?_)
    refine gh_aload_n gd_Picker_push_73 0 rfl (by decide) ?_
    refine gh_dup gd_Picker_push_74 (by decide) ?_
    refine gf_47_14 gd_Picker_push_75 gh_k548 hF ((gh_u_a (by decide)).trans ((gh_u_a (by decide)).trans ((gh_u_a (by decide)).trans ((gh_u_a (by decide)).trans ((gh_u_a (by decide)).trans (gh_u_a (by decide))))))) ?_
    refine gh_iconst gd_Picker_push_78 (gh_r0 rfl) ?_
    obtain ⟨q1927, h⟩ := h
    refine gh_iadd gd_Picker_push_79 q1927 ?_
    refine pf_47_14 gd_Picker_push_80 gh_k548 hF (fun hF => ?_)
    exact gh_ret9 rfl gd_Picker_push_83 ⟨hF, h⟩
  · have h := hB c1914
    exact gh_ret9 rfl gd_Picker_push_83 ⟨hF, h⟩
def w_Forest_takeTurn (m : gh_M) (Q : Int → gh_M → Prop) : Prop := gh_i ((m 41 9) + 1) ∧ Q 0 (gh_u m 41 9 ((m 41 9) + 1))
theorem s_Forest_takeTurn {E : gh_E} {m : gh_M} {Q : Int → gh_M → Prop} (d : Nat) (hF : gh_F m) (h : w_Forest_takeTurn m Q) : gh_C E gh_yForest_takeTurn prog_5_method_5_code 1 none 9 (d + 0) [(2, 41)] m (fun r m1 => gh_F m1 ∧ Q r m1) := by
  refine gh_enter2 (L := [(0, 2, 41)]) (by decide +kernel) gh_rt9 (Nat.le_of_ble_eq_true rfl) rfl rfl ?_
  unfold w_Forest_takeTurn at h
  refine gh_aload_n gd_Forest_takeTurn_0 0 rfl (by decide) ?_
  refine gh_dup gd_Forest_takeTurn_1 (by decide) ?_
  refine gf_41_9 gd_Forest_takeTurn_2 gh_k496 hF rfl ?_
  refine gh_iconst gd_Forest_takeTurn_5 (gh_r0 rfl) ?_
  obtain ⟨q1928, h⟩ := h
  refine gh_iadd gd_Forest_takeTurn_6 q1928 ?_
  refine pf_41_9 gd_Forest_takeTurn_7 gh_k496 hF (fun hF => ?_)
  exact gh_ret9 rfl gd_Forest_takeTurn_10 ⟨hF, h⟩
def f_Picker_ruleOf_53 (v1 : Int) (v2 : Int) (v3 : Int) (Q : Int → gh_M → Prop) (K53 : Int → gh_M → Prop) (v4 : Int) (m : gh_M) : Prop := k_Grammar_behindRules v1 m ∧ ((v4 < (x_Grammar_behindRules v1 m) → 0 ≤ v2 ∧ v2 < 289 ∧ 0 ≤ v2 ∧ v2 < 289 ∧ wr_Forest_countByRule v4 (m 51 v2) (m 52 v2) v3 0 m (fun r1943 m1944 => 0 ≤ v2 ∧ v2 < 289 ∧ (((m1944 55 v2) < r1943 → Q v4 m1944) ∧ (¬ ((m1944 55 v2) < r1943) → 0 ≤ v2 ∧ v2 < 289 ∧ gh_j ((m1944 55 v2) - r1943) ∧ 0 ≤ v2 ∧ v2 < 289 ∧ gh_i (v4 + 1) ∧ K53 (v4 + 1) (gh_u m1944 55 v2 ((m1944 55 v2) - r1943)))))) ∧ (¬ (v4 < (x_Grammar_behindRules v1 m)) → Q (-1) m))
def w_Picker_ruleOf (v1 : Int) (v2 : Int) (m : gh_M) (Q : Int → gh_M → Prop) : Prop := 0 ≤ v2 ∧ v2 < 289 ∧ ∀ v3 : Int, v3 = gh_ior_f (m 53 v2) (gh_ishl_f 1 v1) → 0 ≤ v2 ∧ v2 < 289 ∧ 0 ≤ v2 ∧ v2 < 289 ∧ ∃ J42 : gh_M → Prop, (∀ (m : gh_M), J42 m → 0 ≤ v1 ∧ v1 < 8 ∧ ∀ v4 : Int, v4 = m 14 v1 → gh_M1 (fun K53 v4 m => f_Picker_ruleOf_53 v1 v2 v3 Q K53 v4 m) v4 m) ∧ ((((m 51 v2) < (m 52 v2)) → (0 ≤ v2 ∧ v2 < 289))) ∧ (((((m 51 v2) < (m 52 v2)) ∧ ((m 53 v2) = 0)) → w_Forest_takeTurn m (fun _ m1959 => J42 m1959)) ∧ (¬ (((m 51 v2) < (m 52 v2)) ∧ ((m 53 v2) = 0)) → J42 m))
theorem b_Picker_ruleOf_53 {E : gh_E} {v1 : Int} {v2 : Int} {v3 : Int} {Q : Int → gh_M → Prop} {K53 : Int → gh_M → Prop} (d : Nat) (hK : ∀ (v4 : Int) (m : gh_M), gh_F m → K53 v4 m → gh_T E (gh_yPicker_ruleOf.cls, prog_7_method_4_code, 7, false, 0) (d + 33) 53 [(0, 2, 47), (1, 0, v1), (2, 0, v2), (3, 0, v3), (4, 0, v4)] [] m (fun r m1 => gh_F m1 ∧ Q r m1)) (v4 : Int) (m : gh_M) (hF : gh_F m) (h : f_Picker_ruleOf_53 v1 v2 v3 Q K53 v4 m) : gh_T E (gh_yPicker_ruleOf.cls, prog_7_method_4_code, 7, false, 0) (d + 33) 53 [(0, 2, 47), (1, 0, v1), (2, 0, v2), (3, 0, v3), (4, 0, v4)] [] m (fun r m1 => gh_F m1 ∧ Q r m1) := by
  have hK53 := hK
  unfold f_Picker_ruleOf_53 at h
  refine gh_iload gd_Picker_ruleOf_53 4 rfl ?_
  refine gh_aload_n gd_Picker_ruleOf_55 0 rfl (by decide) ?_
  refine gf_47_0 gd_Picker_ruleOf_56 gh_k531 hF ?_
  refine gh_iload_n gd_Picker_ruleOf_59 1 rfl ?_
  obtain ⟨q1937, h⟩ := h
  refine cv_Grammar_behindRules (d := d + 32) gd_Picker_ruleOf_60 gh_k1270 hF (Nat.le_of_ble_eq_true rfl) (gh_C.pe (e_Grammar_behindRules (d + 32) v1 hF q1937) ?_)
  obtain ⟨hA, hB⟩ := h
  refine gh_jge (tgt := 123) gd_Picker_ruleOf_63 (by decide) (fun c1938 => ?_) (fun c1938 => ?_)
  · have h := hA c1938
    refine gh_aload_n gd_Picker_ruleOf_66 0 rfl (by decide) ?_
    refine gf_47_2 gd_Picker_ruleOf_67 gh_k533 hF ?_
    refine gh_iload gd_Picker_ruleOf_70 4 rfl ?_
    refine gh_aload_n gd_Picker_ruleOf_72 0 rfl (by decide) ?_
    refine gf_47_9 gd_Picker_ruleOf_73 gh_k543 hF ?_
    refine gh_iload_n gd_Picker_ruleOf_76 2 rfl ?_
    obtain ⟨q1939, h⟩ := h
    obtain ⟨q1940, h⟩ := h
    refine la_51 gd_Picker_ruleOf_77 hF q1939 q1940 rfl ?_
    refine gh_aload_n gd_Picker_ruleOf_78 0 rfl (by decide) ?_
    refine gf_47_10 gd_Picker_ruleOf_79 gh_k544 hF ?_
    refine gh_iload_n gd_Picker_ruleOf_82 2 rfl ?_
    obtain ⟨q1941, h⟩ := h
    obtain ⟨q1942, h⟩ := h
    refine la_52 gd_Picker_ruleOf_83 hF q1941 q1942 rfl ?_
    refine gh_iload_n gd_Picker_ruleOf_84 3 rfl ?_
    refine gh_iconst gd_Picker_ruleOf_85 (gh_r0 rfl) ?_
    refine cvn_Forest_countByRule (d := d + 32) gd_Picker_ruleOf_86 (List.mem_cons_of_mem _ (List.mem_cons_of_mem _ (List.mem_cons_of_mem _ List.mem_cons_self))) hF (Nat.le_of_ble_eq_true rfl) (gh_C.mono (sr_Forest_countByRule d v4 (m 51 v2) (m 52 v2) v3 0 hF h) (fun r1943 m1944 hq => ?_))
    obtain ⟨hF, h⟩ := hq
    refine gh_lstore (L2 := [(5, 1, r1943), (0, 2, 47), (1, 0, v1), (2, 0, v2), (3, 0, v3), (4, 0, v4)]) gd_Picker_ruleOf_89 (by decide) rfl ?_
    refine gh_aload_n gd_Picker_ruleOf_91 1 rfl (by decide) ?_
    refine gf_47_13 gd_Picker_ruleOf_92 gh_k547 hF ?_
    refine gh_iload_n gd_Picker_ruleOf_95 3 rfl ?_
    obtain ⟨q1945, h⟩ := h
    obtain ⟨q1946, h⟩ := h
    refine la_55 gd_Picker_ruleOf_96 hF q1945 q1946 rfl ?_
    refine gh_lload gd_Picker_ruleOf_97 0 rfl ?_
    refine gh_lcmp gd_Picker_ruleOf_99 ?_
    obtain ⟨hA, hB⟩ := h
    refine gh_cge (tgt := 106) gd_Picker_ruleOf_100 (by decide) (fun c1947 => ?_) (fun c1947 => ?_)
    · have h := hA c1947
      refine gh_iload gd_Picker_ruleOf_103 5 rfl ?_
      exact gh_ret0 rfl gd_Picker_ruleOf_105 ⟨hF, h⟩
    · have h := hB c1947
      refine gh_aload_n gd_Picker_ruleOf_106 1 rfl (by decide) ?_
      refine gf_47_13 gd_Picker_ruleOf_107 gh_k547 hF ?_
      refine gh_iload_n gd_Picker_ruleOf_110 3 rfl ?_
      refine gh_dup2 gd_Picker_ruleOf_111 (by decide) (by decide) ?_
      obtain ⟨q1948, h⟩ := h
      obtain ⟨q1949, h⟩ := h
      refine la_55 gd_Picker_ruleOf_112 hF q1948 q1949 rfl ?_
      refine gh_lload gd_Picker_ruleOf_113 0 rfl ?_
      obtain ⟨q1950, h⟩ := h
      refine gh_lsub gd_Picker_ruleOf_115 q1950 ?_
      obtain ⟨q1951, h⟩ := h
      obtain ⟨q1952, h⟩ := h
      refine sa_55 gd_Picker_ruleOf_116 hF q1951 q1952 (fun hF => ?_)
      obtain ⟨q1953, h⟩ := h
      refine gh_iinc (L2 := [(4, 0, v4 + 1), (5, 1, r1943), (0, 2, 47), (1, 0, v1), (2, 0, v2), (3, 0, v3)]) gd_Picker_ruleOf_117 5 rfl q1953 (by decide) rfl ?_
      refine gh_goto (tgt := 53) gd_Picker_ruleOf_120 (by decide) ?_
      refine gh_pick (L2 := [(0, 2, 47), (1, 0, v1), (2, 0, v2), (3, 0, v3), (4, 0, v4 + 1)]) [2, 3, 4, 5, 0] rfl ?_
      exact hK53 (v4 + 1) (gh_u m1944 55 v2 ((m1944 55 v2) - r1943)) hF h
  · have h := hB c1938
    refine gh_iconst gd_Picker_ruleOf_123 (gh_r0 rfl) ?_
    exact gh_ret0 rfl gd_Picker_ruleOf_124 ⟨hF, h⟩
theorem s_Picker_ruleOf {E : gh_E} {m : gh_M} {Q : Int → gh_M → Prop} (d : Nat) (v1 : Int) (v2 : Int) (hF : gh_F m) (h : w_Picker_ruleOf v1 v2 m Q) : gh_C E gh_yPicker_ruleOf prog_7_method_4_code 7 (some .int) 0 (d + 33) [(2, 47), (0, v1), (0, v2)] m (fun r m1 => gh_F m1 ∧ Q r m1) := by
  refine gh_enter2 (L := [(0, 2, 47), (1, 0, v1), (2, 0, v2)]) (by decide +kernel) gh_rt0 (Nat.le_of_ble_eq_true rfl) rfl rfl ?_
  unfold w_Picker_ruleOf at h
  refine gh_aload_n gd_Picker_ruleOf_0 0 rfl (by decide) ?_
  refine gf_47_11 gd_Picker_ruleOf_1 gh_k545 hF ?_
  refine gh_iload_n gd_Picker_ruleOf_4 2 rfl ?_
  obtain ⟨q1929, h⟩ := h
  obtain ⟨q1930, h⟩ := h
  refine la_53 gd_Picker_ruleOf_5 hF q1929 q1930 rfl ?_
  refine gh_iconst gd_Picker_ruleOf_6 (gh_r0 rfl) ?_
  refine gh_iload_n gd_Picker_ruleOf_7 1 rfl ?_
  refine gh_ishl gd_Picker_ruleOf_8 ?_
  refine gh_ior gd_Picker_ruleOf_9 ?_
  refine gh_name (fun v3 hn => ?_)
  have h := h v3 hn
  refine gh_istore_n (L2 := [(3, 0, v3), (0, 2, 47), (1, 0, v1), (2, 0, v2)]) gd_Picker_ruleOf_10 (by decide) rfl ?_
  refine gh_aload_n gd_Picker_ruleOf_11 1 rfl (by decide) ?_
  refine gf_47_9 gd_Picker_ruleOf_12 gh_k543 hF ?_
  refine gh_iload_n gd_Picker_ruleOf_15 3 rfl ?_
  obtain ⟨q1931, h⟩ := h
  obtain ⟨q1932, h⟩ := h
  refine la_51 gd_Picker_ruleOf_16 hF q1931 q1932 rfl ?_
  refine gh_aload_n gd_Picker_ruleOf_17 1 rfl (by decide) ?_
  refine gf_47_10 gd_Picker_ruleOf_18 gh_k544 hF ?_
  refine gh_iload_n gd_Picker_ruleOf_21 3 rfl ?_
  obtain ⟨q1933, h⟩ := h
  obtain ⟨q1934, h⟩ := h
  refine la_52 gd_Picker_ruleOf_22 hF q1933 q1934 rfl ?_
  obtain ⟨J42, hJ42, h⟩ := h
  have hJ42 : ∀ (m : gh_M), gh_F m → J42 m → gh_T E (gh_yPicker_ruleOf.cls, prog_7_method_4_code, 7, false, 0) (d + 33) 42 [(0, 2, 47), (1, 0, v1), (2, 0, v2), (3, 0, v3)] [] m (fun r m1 => gh_F m1 ∧ Q r m1) := by
    intro m hF hj
    have h := hJ42 m hj
    refine gh_aload_n gd_Picker_ruleOf_42 0 rfl (by decide) ?_
    refine gf_47_0 gd_Picker_ruleOf_43 gh_k531 hF ?_
    refine gf_13_3 gd_Picker_ruleOf_46 gh_k270 hF ?_
    refine gh_iload_n gd_Picker_ruleOf_49 1 rfl ?_
    obtain ⟨q1935, h⟩ := h
    obtain ⟨q1936, h⟩ := h
    refine la_14 gd_Picker_ruleOf_50 hF q1935 q1936 rfl ?_
    refine gh_name (fun v4 hn => ?_)
    have h := h v4 hn
    refine gh_istore (L2 := [(4, 0, v4), (0, 2, 47), (1, 0, v1), (2, 0, v2), (3, 0, v3)]) gd_Picker_ruleOf_51 (by decide) rfl ?_
    refine gh_pick (L2 := [(0, 2, 47), (1, 0, v1), (2, 0, v2), (3, 0, v3), (4, 0, v4)]) [1, 2, 3, 4, 0] rfl ?_
    exact gh_M1_sound (T := fun v4 m => gh_T E (gh_yPicker_ruleOf.cls, prog_7_method_4_code, 7, false, 0) (d + 33) 53 [(0, 2, 47), (1, 0, v1), (2, 0, v2), (3, 0, v3), (4, 0, v4)] [] m (fun r m1 => gh_F m1 ∧ Q r m1)) (fun _ m => gh_F m) (fun K53 v4 m hK hF h => b_Picker_ruleOf_53 d hK v4 m hF h) v4 m hF h
  obtain ⟨hk, hA, hB⟩ := h
  have k1956 : (((m 51 v2) < (m 52 v2)) ∧ ((m 53 v2) = 0)) → gh_T E (gh_yPicker_ruleOf.cls, prog_7_method_4_code, 7, false, 0) (d + 33) 35 [(3, 0, v3), (0, 2, 47), (1, 0, v1), (2, 0, v2)] [] m (fun r m1 => gh_F m1 ∧ Q r m1) := by
    intro c
    have h := hA c
    refine gh_aload_n gd_Picker_ruleOf_35 1 rfl (by decide) ?_
    refine gf_47_2 gd_Picker_ruleOf_36 gh_k533 hF ?_
    refine cv_Forest_takeTurn (d := d + 32) gd_Picker_ruleOf_39 gh_k1266 hF (Nat.le_of_ble_eq_true rfl) (gh_C.mono (s_Forest_takeTurn (d + 32) hF h) (fun r1958 m1959 hq => ?_))
    obtain ⟨hF, h⟩ := hq
    refine gh_pick (L2 := [(0, 2, 47), (1, 0, v1), (2, 0, v2), (3, 0, v3)]) [1, 2, 3, 0] rfl ?_
    exact hJ42 m1959 hF h
  have k1957 : ¬ (((m 51 v2) < (m 52 v2)) ∧ ((m 53 v2) = 0)) → gh_T E (gh_yPicker_ruleOf.cls, prog_7_method_4_code, 7, false, 0) (d + 33) 42 [(3, 0, v3), (0, 2, 47), (1, 0, v1), (2, 0, v2)] [] m (fun r m1 => gh_F m1 ∧ Q r m1) := by
    intro c
    have h := hB c
    refine gh_pick (L2 := [(0, 2, 47), (1, 0, v1), (2, 0, v2), (3, 0, v3)]) [1, 2, 3, 0] rfl ?_
    exact hJ42 m hF h
  refine gh_jge (tgt := 42) gd_Picker_ruleOf_23 (by decide) (fun c1960 => ?_) (fun c1960 => ?_)
  · have hz : True := trivial
    have hk := hk c1960
    refine gh_aload_n gd_Picker_ruleOf_26 1 rfl (by decide) ?_
    refine gf_47_11 gd_Picker_ruleOf_27 gh_k545 hF ?_
    refine gh_iload_n gd_Picker_ruleOf_30 3 rfl ?_
    obtain ⟨q1954, hk⟩ := hk
    have q1955 := hk
    refine la_53 gd_Picker_ruleOf_31 hF q1954 q1955 rfl ?_
    refine gh_zne (tgt := 42) gd_Picker_ruleOf_32 (by decide) (fun c1961 => ?_) (fun c1961 => ?_)
    · have hz : True := trivial
      exact k1956 ⟨c1960, c1961⟩
    · have hz : True := trivial
      exact k1957 (fun z => c1961 z.2)
  · have hz : True := trivial
    exact k1957 (fun z => c1960 z.1)
def f_Picker_shareOut_67 (v1 : Int) (v3 : Int) (v4 : Int) (v5 : Int) (v6 : Int) (v9 : Int) (K46 : Int → Int → Int → gh_M → Prop) (K67 : Int → Int → Int → gh_M → Prop) (v7 : Int) (v10 : Int) (v11 : Int) (m : gh_M) : Prop := ∃ J201 : Int → gh_M → Prop, (∀ (v7' : Int) (m : gh_M), J201 v7' m → 0 ≤ v9 ∧ v9 < 4 ∧ ∀ v6' : Int, v6' = m 56 v9 → gh_i (v9 + 1) ∧ K46 v6' v7' (v9 + 1) m) ∧ ((((v11 ≤ v4) ∧ (v10 = 0)) → gh_i (v9 + 1) ∧ k_Forest_restAt (v9 + 1) v11 ∧ ∀ v12 : Int, v12 = x_Forest_restAt (v9 + 1) v11 m → ∃ J195 : Int → Int → gh_M → Prop, (∀ (v7' : Int) (v10' : Int) (m : gh_M), J195 v7' v10' m → gh_i (v11 + 1) ∧ K67 v7' v10' (v11 + 1) m) ∧ ((v12 ≤ 0 → J195 v7 v10 m) ∧ (¬ (v12 ≤ 0) → k_Grammar_partAt v1 v9 m ∧ wr_Forest_countOfPart (x_Grammar_partAt v1 v9 m) v6 v11 v3 v4 v5 0 m (fun r1985 m1986 => k_Forest_times r1985 v12 ∧ ∀ v16 : Int, v16 = x_Forest_times r1985 v12 → ∀ v10' : Int, v10' = (if (v7 < v16) then (1:Int) else 0) → 0 ≤ v9 ∧ v9 < 4 ∧ 0 ≤ v7 ∧ 0 < v12 ∧ 0 ≤ v9 ∧ v9 < 4 ∧ (((v10' = 0) → (gh_j (v7 - v16))) ∧ (¬ (v10' = 0) → (0 ≤ v7 ∧ 0 < v12))) ∧ ∀ v7' : Int, v7' = (if v10' = 0 then (v7 - v16) else (v7 % v12)) → J195 v7' v10' (gh_u (gh_u m1986 56 v9 v11) 57 v9 (v7 / v12)))))) ∧ (¬ ((v11 ≤ v4) ∧ (v10 = 0)) → J201 v7 m))
def f_Picker_shareOut_46 (v1 : Int) (v3 : Int) (v4 : Int) (v5 : Int) (Q : Int → gh_M → Prop) (K46 : Int → Int → Int → gh_M → Prop) (v6 : Int) (v7 : Int) (v9 : Int) (m : gh_M) : Prop := 0 ≤ v1 ∧ v1 < 20 ∧ ((v9 < (m 17 v1) → gh_M3 (fun K67 v7 v10 v11 m => f_Picker_shareOut_67 v1 v3 v4 v5 v6 v9 K46 K67 v7 v10 v11 m) v7 0 v6 m) ∧ (¬ (v9 < (m 17 v1)) → Q 0 m))
def w_Picker_shareOut (v1 : Int) (v2 : Int) (m : gh_M) (Q : Int → gh_M → Prop) : Prop := 0 ≤ v2 ∧ v2 < 289 ∧ ∀ v3 : Int, v3 = m 51 v2 → 0 ≤ v2 ∧ v2 < 289 ∧ ∀ v4 : Int, v4 = m 52 v2 → 0 ≤ v2 ∧ v2 < 289 ∧ 0 ≤ v2 ∧ v2 < 289 ∧ ∀ v5 : Int, v5 = gh_ior_f (m 53 v2) (gh_ishl_f 1 (m 50 v2)) → 0 ≤ v2 ∧ v2 < 289 ∧ ∀ v7 : Int, v7 = m 55 v2 → gh_M3 (fun K46 v6 v7 v9 m => f_Picker_shareOut_46 v1 v3 v4 v5 Q K46 v6 v7 v9 m) v3 v7 0 m
theorem b_Picker_shareOut_67 {E : gh_E} {v1 : Int} {v3 : Int} {v4 : Int} {v5 : Int} {v6 : Int} {v9 : Int} {K46 : Int → Int → Int → gh_M → Prop} {Q : Int → gh_M → Prop} {K67 : Int → Int → Int → gh_M → Prop} (d : Nat) (hK46 : ∀ (v6 : Int) (v7 : Int) (v9 : Int) (m : gh_M), gh_F m → K46 v6 v7 v9 m → gh_T E (gh_yPicker_shareOut.cls, prog_7_method_5_code, 18, false, 9) (d + 32) 46 [(0, 2, 47), (1, 0, v1), (3, 0, v3), (4, 0, v4), (5, 0, v5), (6, 0, v6), (7, 1, v7), (9, 0, v9)] [] m (fun r m1 => gh_F m1 ∧ Q r m1)) (hK : ∀ (v7 : Int) (v10 : Int) (v11 : Int) (m : gh_M), gh_F m → K67 v7 v10 v11 m → gh_T E (gh_yPicker_shareOut.cls, prog_7_method_5_code, 18, false, 9) (d + 32) 67 [(0, 2, 47), (1, 0, v1), (3, 0, v3), (4, 0, v4), (5, 0, v5), (6, 0, v6), (7, 1, v7), (9, 0, v9), (10, 0, v10), (11, 0, v11)] [] m (fun r m1 => gh_F m1 ∧ Q r m1)) (v7 : Int) (v10 : Int) (v11 : Int) (m : gh_M) (hF : gh_F m) (h : f_Picker_shareOut_67 v1 v3 v4 v5 v6 v9 K46 K67 v7 v10 v11 m) : gh_T E (gh_yPicker_shareOut.cls, prog_7_method_5_code, 18, false, 9) (d + 32) 67 [(0, 2, 47), (1, 0, v1), (3, 0, v3), (4, 0, v4), (5, 0, v5), (6, 0, v6), (7, 1, v7), (9, 0, v9), (10, 0, v10), (11, 0, v11)] [] m (fun r m1 => gh_F m1 ∧ Q r m1) := by
  have hK67 := hK
  unfold f_Picker_shareOut_67 at h
  refine gh_iload gd_Picker_shareOut_67 9 rfl ?_
  refine gh_iload gd_Picker_shareOut_69 3 rfl ?_
  obtain ⟨J201, hJ201, h⟩ := h
  have hJ201 : ∀ (v7' : Int) (m : gh_M), gh_F m → J201 v7' m → gh_T E (gh_yPicker_shareOut.cls, prog_7_method_5_code, 18, false, 9) (d + 32) 201 [(0, 2, 47), (1, 0, v1), (3, 0, v3), (4, 0, v4), (5, 0, v5), (7, 1, v7'), (9, 0, v9)] [] m (fun r m1 => gh_F m1 ∧ Q r m1) := by
    intro v7' m hF hj
    have h := hJ201 v7' m hj
    refine gh_aload_n gd_Picker_shareOut_201 0 rfl (by decide) ?_
    refine gf_47_15 gd_Picker_shareOut_202 gh_k549 hF ?_
    refine gh_iload gd_Picker_shareOut_205 6 rfl ?_
    obtain ⟨q1975, h⟩ := h
    obtain ⟨q1976, h⟩ := h
    refine la_56 gd_Picker_shareOut_207 hF q1975 q1976 rfl ?_
    refine gh_name (fun v6' hn => ?_)
    have h := h v6' hn
    refine gh_istore (L2 := [(6, 0, v6'), (0, 2, 47), (1, 0, v1), (3, 0, v3), (4, 0, v4), (5, 0, v5), (7, 1, v7'), (9, 0, v9)]) gd_Picker_shareOut_208 (by decide) rfl ?_
    obtain ⟨q1977, h⟩ := h
    refine gh_iinc (L2 := [(9, 0, v9 + 1), (6, 0, v6'), (0, 2, 47), (1, 0, v1), (3, 0, v3), (4, 0, v4), (5, 0, v5), (7, 1, v7')]) gd_Picker_shareOut_210 7 rfl q1977 (by decide) rfl ?_
    refine gh_goto (tgt := 46) gd_Picker_shareOut_213 (by decide) ?_
    refine gh_pick (L2 := [(0, 2, 47), (1, 0, v1), (3, 0, v3), (4, 0, v4), (5, 0, v5), (6, 0, v6'), (7, 1, v7'), (9, 0, v9 + 1)]) [2, 3, 4, 5, 6, 1, 7, 0] rfl ?_
    exact hK46 v6' v7' (v9 + 1) m hF h
  obtain ⟨hA, hB⟩ := h
  have k1978 : ((v11 ≤ v4) ∧ (v10 = 0)) → gh_T E (gh_yPicker_shareOut.cls, prog_7_method_5_code, 18, false, 9) (d + 32) 79 [(0, 2, 47), (1, 0, v1), (3, 0, v3), (4, 0, v4), (5, 0, v5), (6, 0, v6), (7, 1, v7), (9, 0, v9), (10, 0, v10), (11, 0, v11)] [] m (fun r m1 => gh_F m1 ∧ Q r m1) := by
    intro c
    have h := hA c
    refine gh_aload_n gd_Picker_shareOut_79 0 rfl (by decide) ?_
    refine gf_47_2 gd_Picker_shareOut_80 gh_k533 hF ?_
    refine gh_iload gd_Picker_shareOut_83 7 rfl ?_
    refine gh_iconst gd_Picker_shareOut_85 (gh_r0 rfl) ?_
    obtain ⟨q1980, h⟩ := h
    refine gh_iadd gd_Picker_shareOut_86 q1980 ?_
    refine gh_iload gd_Picker_shareOut_87 9 rfl ?_
    obtain ⟨q1981, h⟩ := h
    refine cv_Forest_restAt (d := d + 31) gd_Picker_shareOut_89 gh_k1277 hF (Nat.le_of_ble_eq_true rfl) (gh_C.pe (e_Forest_restAt (d + 31) (v9 + 1) v11 hF q1981) ?_)
    refine gh_name (fun v12 hn => ?_)
    have h := h v12 hn
    refine gh_lstore (L2 := [(12, 1, v12), (0, 2, 47), (1, 0, v1), (3, 0, v3), (4, 0, v4), (5, 0, v5), (6, 0, v6), (7, 1, v7), (9, 0, v9), (10, 0, v10), (11, 0, v11)]) gd_Picker_shareOut_92 (by decide) rfl ?_
    refine gh_lload gd_Picker_shareOut_94 0 rfl ?_
    refine gh_lconst (n := 0) gd_Picker_shareOut_96 (by decide) (gh_r1 rfl) ?_
    refine gh_lcmp gd_Picker_shareOut_97 ?_
    obtain ⟨J195, hJ195, h⟩ := h
    have hJ195 : ∀ (v7' : Int) (v10' : Int) (m : gh_M), gh_F m → J195 v7' v10' m → gh_T E (gh_yPicker_shareOut.cls, prog_7_method_5_code, 18, false, 9) (d + 32) 195 [(0, 2, 47), (1, 0, v1), (3, 0, v3), (4, 0, v4), (5, 0, v5), (6, 0, v6), (7, 1, v7'), (9, 0, v9), (10, 0, v10'), (11, 0, v11)] [] m (fun r m1 => gh_F m1 ∧ Q r m1) := by
      intro v7' v10' m hF hj
      have h := hJ195 v7' v10' m hj
      obtain ⟨q1982, h⟩ := h
      refine gh_iinc (L2 := [(11, 0, v11 + 1), (0, 2, 47), (1, 0, v1), (3, 0, v3), (4, 0, v4), (5, 0, v5), (6, 0, v6), (7, 1, v7'), (9, 0, v9), (10, 0, v10')]) gd_Picker_shareOut_195 9 rfl q1982 (by decide) rfl ?_
      refine gh_goto (tgt := 67) gd_Picker_shareOut_198 (by decide) ?_
      refine gh_pick (L2 := [(0, 2, 47), (1, 0, v1), (3, 0, v3), (4, 0, v4), (5, 0, v5), (6, 0, v6), (7, 1, v7'), (9, 0, v9), (10, 0, v10'), (11, 0, v11 + 1)]) [1, 2, 3, 4, 5, 6, 7, 8, 9, 0] rfl ?_
      exact hK67 v7' v10' (v11 + 1) m hF h
    obtain ⟨hA, hB⟩ := h
    refine gh_cle (tgt := 195) gd_Picker_shareOut_98 (by decide) (fun c1983 => ?_) (fun c1983 => ?_)
    · have h := hA c1983
      refine gh_pick (L2 := [(0, 2, 47), (1, 0, v1), (3, 0, v3), (4, 0, v4), (5, 0, v5), (6, 0, v6), (7, 1, v7), (9, 0, v9), (10, 0, v10), (11, 0, v11)]) [1, 2, 3, 4, 5, 6, 7, 8, 9, 10] rfl ?_
      exact hJ195 v7 v10 m hF h
    · have h := hB c1983
      refine gh_aload_n gd_Picker_shareOut_101 1 rfl (by decide) ?_
      refine gf_47_2 gd_Picker_shareOut_102 gh_k533 hF ?_
      refine gh_aload_n gd_Picker_shareOut_105 1 rfl (by decide) ?_
      refine gf_47_0 gd_Picker_shareOut_106 gh_k531 hF ?_
      refine gh_iload_n gd_Picker_shareOut_109 2 rfl ?_
      refine gh_iload gd_Picker_shareOut_110 8 rfl ?_
      obtain ⟨q1984, h⟩ := h
      refine cv_Grammar_partAt (d := d + 31) gd_Picker_shareOut_112 gh_k1281 hF (Nat.le_of_ble_eq_true rfl) (gh_C.pe (e_Grammar_partAt (d + 31) v1 v9 hF q1984) ?_)
      refine gh_iload gd_Picker_shareOut_115 6 rfl ?_
      refine gh_iload gd_Picker_shareOut_117 10 rfl ?_
      refine gh_iload_n gd_Picker_shareOut_119 3 rfl ?_
      refine gh_iload gd_Picker_shareOut_120 4 rfl ?_
      refine gh_iload gd_Picker_shareOut_122 5 rfl ?_
      refine gh_iconst gd_Picker_shareOut_124 (gh_r0 rfl) ?_
      refine cvn_Forest_countOfPart (d := d + 31) gd_Picker_shareOut_125 (List.mem_cons_of_mem _ (List.mem_cons_of_mem _ (List.mem_cons_of_mem _ (List.mem_cons_of_mem _ List.mem_cons_self)))) hF (Nat.le_of_ble_eq_true rfl) (gh_C.mono (sr_Forest_countOfPart d (x_Grammar_partAt v1 v9 m) v6 v11 v3 v4 v5 0 hF h) (fun r1985 m1986 hq => ?_))
      obtain ⟨hF, h⟩ := hq
      refine gh_lstore (L2 := [(14, 1, r1985), (12, 1, v12), (0, 2, 47), (1, 0, v1), (3, 0, v3), (4, 0, v4), (5, 0, v5), (6, 0, v6), (7, 1, v7), (9, 0, v9), (10, 0, v10), (11, 0, v11)]) gd_Picker_shareOut_128 (by decide) rfl ?_
      refine gh_lload gd_Picker_shareOut_130 0 rfl ?_
      refine gh_lload gd_Picker_shareOut_132 1 rfl ?_
      obtain ⟨q1987, h⟩ := h
      refine cv_Forest_times (d := d + 31) gd_Picker_shareOut_134 gh_k1283 (Nat.le_of_ble_eq_true rfl) (gh_C.pe (e_Forest_times (d + 30) r1985 v12 q1987) ?_)
      refine gh_name (fun v16 hn => ?_)
      have h := h v16 hn
      refine gh_lstore (L2 := [(16, 1, v16), (14, 1, r1985), (12, 1, v12), (0, 2, 47), (1, 0, v1), (3, 0, v3), (4, 0, v4), (5, 0, v5), (6, 0, v6), (7, 1, v7), (9, 0, v9), (10, 0, v10), (11, 0, v11)]) gd_Picker_shareOut_137 (by decide) rfl ?_
      refine gh_lload gd_Picker_shareOut_139 9 rfl ?_
      refine gh_lload gd_Picker_shareOut_141 0 rfl ?_
      refine gh_lcmp gd_Picker_shareOut_143 ?_
      have k1988 : ∀ x1989 : Int, x1989 = (if (v7 < v16) then (1:Int) else 0) → gh_T E (gh_yPicker_shareOut.cls, prog_7_method_5_code, 18, false, 9) (d + 32) 152 [(16, 1, v16), (14, 1, r1985), (12, 1, v12), (0, 2, 47), (1, 0, v1), (3, 0, v3), (4, 0, v4), (5, 0, v5), (6, 0, v6), (7, 1, v7), (9, 0, v9), (10, 0, v10), (11, 0, v11)] [(0, x1989)] m1986 (fun r m1 => gh_F m1 ∧ Q r m1) := by
        rintro _ rfl
        refine gh_name (fun v10' hn => ?_)
        have h := h v10' hn
        refine gh_istore (L2 := [(10, 0, v10'), (16, 1, v16), (14, 1, r1985), (12, 1, v12), (0, 2, 47), (1, 0, v1), (3, 0, v3), (4, 0, v4), (5, 0, v5), (6, 0, v6), (7, 1, v7), (9, 0, v9), (11, 0, v11)]) gd_Picker_shareOut_152 (by decide) rfl ?_
        refine gh_aload_n gd_Picker_shareOut_154 4 rfl (by decide) ?_
        refine gf_47_15 gd_Picker_shareOut_155 gh_k549 hF ?_
        refine gh_iload gd_Picker_shareOut_158 11 rfl ?_
        refine gh_iload gd_Picker_shareOut_160 12 rfl ?_
        obtain ⟨q1990, h⟩ := h
        obtain ⟨q1991, h⟩ := h
        refine sa_56 gd_Picker_shareOut_162 hF q1990 q1991 (fun hF => ?_)
        refine gh_aload_n gd_Picker_shareOut_163 4 rfl (by decide) ?_
        refine gf_47_16 gd_Picker_shareOut_164 gh_k550 hF ?_
        refine gh_iload gd_Picker_shareOut_167 11 rfl ?_
        refine gh_lload gd_Picker_shareOut_169 10 rfl ?_
        refine gh_lload gd_Picker_shareOut_171 3 rfl ?_
        obtain ⟨q1992, h⟩ := h
        obtain ⟨q1993, h⟩ := h
        refine gh_ldiv gd_Picker_shareOut_173 q1992 q1993 ?_
        obtain ⟨q1994, h⟩ := h
        obtain ⟨q1995, h⟩ := h
        refine sa_57 gd_Picker_shareOut_174 hF q1994 q1995 (fun hF => ?_)
        refine gh_iload gd_Picker_shareOut_175 0 rfl ?_
        obtain ⟨hk, h⟩ := h
        have k1999 : ∀ x2000 : Int, x2000 = (if v10' = 0 then (v7 - v16) else (v7 % v12)) → gh_T E (gh_yPicker_shareOut.cls, prog_7_method_5_code, 18, false, 9) (d + 32) 193 [(10, 0, v10'), (16, 1, v16), (14, 1, r1985), (12, 1, v12), (0, 2, 47), (1, 0, v1), (3, 0, v3), (4, 0, v4), (5, 0, v5), (6, 0, v6), (7, 1, v7), (9, 0, v9), (11, 0, v11)] [(1, x2000)] (gh_u (gh_u m1986 56 v9 v11) 57 v9 (v7 / v12)) (fun r m1 => gh_F m1 ∧ Q r m1) := by
          rintro _ rfl
          refine gh_name (fun v7' hn => ?_)
          have h := h v7' hn
          refine gh_lstore (L2 := [(7, 1, v7'), (10, 0, v10'), (16, 1, v16), (14, 1, r1985), (12, 1, v12), (0, 2, 47), (1, 0, v1), (3, 0, v3), (4, 0, v4), (5, 0, v5), (6, 0, v6), (9, 0, v9), (11, 0, v11)]) gd_Picker_shareOut_193 (by decide) rfl ?_
          refine gh_pick (L2 := [(0, 2, 47), (1, 0, v1), (3, 0, v3), (4, 0, v4), (5, 0, v5), (6, 0, v6), (7, 1, v7'), (9, 0, v9), (10, 0, v10'), (11, 0, v11)]) [5, 6, 7, 8, 9, 10, 0, 11, 1, 12] rfl ?_
          exact hJ195 v7' v10' (gh_u (gh_u m1986 56 v9 v11) 57 v9 (v7 / v12)) hF h
        refine gh_zeq (tgt := 188) gd_Picker_shareOut_177 (by decide) (fun c2001 => ?_) (fun c2001 => ?_)
        · have hz : True := trivial
          have hk := hk.1 c2001
          refine gh_lload gd_Picker_shareOut_188 10 rfl ?_
          refine gh_lload gd_Picker_shareOut_190 1 rfl ?_
          have q1996 := hk
          refine gh_lsub gd_Picker_shareOut_192 q1996 ?_
          exact k1999 _ (by rw [if_pos c2001])
        · have hz : True := trivial
          have hk := hk.2 c2001
          refine gh_lload gd_Picker_shareOut_180 10 rfl ?_
          refine gh_lload gd_Picker_shareOut_182 3 rfl ?_
          obtain ⟨q1997, hk⟩ := hk
          have q1998 := hk
          refine gh_lrem gd_Picker_shareOut_184 q1997 q1998 ?_
          refine gh_goto (tgt := 193) gd_Picker_shareOut_185 (by decide) ?_
          exact k1999 _ (by rw [if_neg c2001])
      refine gh_cge (tgt := 151) gd_Picker_shareOut_144 (by decide) (fun c2002 => ?_) (fun c2002 => ?_)
      · have hz : True := trivial
        refine gh_iconst gd_Picker_shareOut_147 (gh_r0 rfl) ?_
        refine gh_goto (tgt := 152) gd_Picker_shareOut_148 (by decide) ?_
        exact k1988 _ (if_pos (c := (v7 < v16)) c2002).symm
      · have hz : True := trivial
        refine gh_iconst gd_Picker_shareOut_151 (gh_r0 rfl) ?_
        exact k1988 _ (if_neg (c := (v7 < v16)) c2002).symm
  have k1979 : ¬ ((v11 ≤ v4) ∧ (v10 = 0)) → gh_T E (gh_yPicker_shareOut.cls, prog_7_method_5_code, 18, false, 9) (d + 32) 201 [(0, 2, 47), (1, 0, v1), (3, 0, v3), (4, 0, v4), (5, 0, v5), (6, 0, v6), (7, 1, v7), (9, 0, v9), (10, 0, v10), (11, 0, v11)] [] m (fun r m1 => gh_F m1 ∧ Q r m1) := by
    intro c
    have h := hB c
    refine gh_pick (L2 := [(0, 2, 47), (1, 0, v1), (3, 0, v3), (4, 0, v4), (5, 0, v5), (7, 1, v7), (9, 0, v9)]) [0, 1, 2, 3, 4, 6, 7] rfl ?_
    exact hJ201 v7 m hF h
  refine gh_jgt (tgt := 201) gd_Picker_shareOut_71 (by decide) (fun c2003 => ?_) (fun c2003 => ?_)
  · have hz : True := trivial
    refine gh_iload gd_Picker_shareOut_74 8 rfl ?_
    refine gh_zne (tgt := 201) gd_Picker_shareOut_76 (by decide) (fun c2004 => ?_) (fun c2004 => ?_)
    · have hz : True := trivial
      exact k1978 ⟨c2003, c2004⟩
    · have hz : True := trivial
      exact k1979 (fun z => c2004 z.2)
  · have hz : True := trivial
    exact k1979 (fun z => c2003 z.1)
theorem b_Picker_shareOut_46 {E : gh_E} {v1 : Int} {v3 : Int} {v4 : Int} {v5 : Int} {Q : Int → gh_M → Prop} {K46 : Int → Int → Int → gh_M → Prop} (d : Nat) (hK : ∀ (v6 : Int) (v7 : Int) (v9 : Int) (m : gh_M), gh_F m → K46 v6 v7 v9 m → gh_T E (gh_yPicker_shareOut.cls, prog_7_method_5_code, 18, false, 9) (d + 32) 46 [(0, 2, 47), (1, 0, v1), (3, 0, v3), (4, 0, v4), (5, 0, v5), (6, 0, v6), (7, 1, v7), (9, 0, v9)] [] m (fun r m1 => gh_F m1 ∧ Q r m1)) (v6 : Int) (v7 : Int) (v9 : Int) (m : gh_M) (hF : gh_F m) (h : f_Picker_shareOut_46 v1 v3 v4 v5 Q K46 v6 v7 v9 m) : gh_T E (gh_yPicker_shareOut.cls, prog_7_method_5_code, 18, false, 9) (d + 32) 46 [(0, 2, 47), (1, 0, v1), (3, 0, v3), (4, 0, v4), (5, 0, v5), (6, 0, v6), (7, 1, v7), (9, 0, v9)] [] m (fun r m1 => gh_F m1 ∧ Q r m1) := by
  have hK46 := hK
  unfold f_Picker_shareOut_46 at h
  refine gh_iload gd_Picker_shareOut_46 7 rfl ?_
  refine gh_aload_n gd_Picker_shareOut_48 0 rfl (by decide) ?_
  refine gf_47_0 gd_Picker_shareOut_49 gh_k531 hF ?_
  refine gf_13_6 gd_Picker_shareOut_52 gh_k287 hF ?_
  refine gh_iload_n gd_Picker_shareOut_55 1 rfl ?_
  obtain ⟨q1972, h⟩ := h
  obtain ⟨q1973, h⟩ := h
  refine la_17 gd_Picker_shareOut_56 hF q1972 q1973 rfl ?_
  obtain ⟨hA, hB⟩ := h
  refine gh_jge (tgt := 216) gd_Picker_shareOut_57 (by decide) (fun c1974 => ?_) (fun c1974 => ?_)
  · have h := hA c1974
    refine gh_iconst gd_Picker_shareOut_60 (gh_r0 rfl) ?_
    refine gh_istore (L2 := [(10, 0, 0), (0, 2, 47), (1, 0, v1), (3, 0, v3), (4, 0, v4), (5, 0, v5), (6, 0, v6), (7, 1, v7), (9, 0, v9)]) gd_Picker_shareOut_61 (by decide) rfl ?_
    refine gh_iload gd_Picker_shareOut_63 6 rfl ?_
    refine gh_istore (L2 := [(11, 0, v6), (10, 0, 0), (0, 2, 47), (1, 0, v1), (3, 0, v3), (4, 0, v4), (5, 0, v5), (6, 0, v6), (7, 1, v7), (9, 0, v9)]) gd_Picker_shareOut_65 (by decide) rfl ?_
    refine gh_pick (L2 := [(0, 2, 47), (1, 0, v1), (3, 0, v3), (4, 0, v4), (5, 0, v5), (6, 0, v6), (7, 1, v7), (9, 0, v9), (10, 0, 0), (11, 0, v6)]) [2, 3, 4, 5, 6, 7, 8, 9, 1, 0] rfl ?_
    exact gh_M3_sound (T := fun v7 v10 v11 m => gh_T E (gh_yPicker_shareOut.cls, prog_7_method_5_code, 18, false, 9) (d + 32) 67 [(0, 2, 47), (1, 0, v1), (3, 0, v3), (4, 0, v4), (5, 0, v5), (6, 0, v6), (7, 1, v7), (9, 0, v9), (10, 0, v10), (11, 0, v11)] [] m (fun r m1 => gh_F m1 ∧ Q r m1)) (fun _ _ _ m => gh_F m) (fun K67 v7 v10 v11 m hK hF h => b_Picker_shareOut_67 d hK46 hK v7 v10 v11 m hF h) v7 0 v6 m hF h
  · have h := hB c1974
    exact gh_ret9 rfl gd_Picker_shareOut_216 ⟨hF, h⟩
theorem s_Picker_shareOut {E : gh_E} {m : gh_M} {Q : Int → gh_M → Prop} (d : Nat) (v1 : Int) (v2 : Int) (hF : gh_F m) (h : w_Picker_shareOut v1 v2 m Q) : gh_C E gh_yPicker_shareOut prog_7_method_5_code 18 none 9 (d + 32) [(2, 47), (0, v1), (0, v2)] m (fun r m1 => gh_F m1 ∧ Q r m1) := by
  refine gh_enter2 (L := [(0, 2, 47), (1, 0, v1), (2, 0, v2)]) (by decide +kernel) gh_rt9 (Nat.le_of_ble_eq_true rfl) rfl rfl ?_
  unfold w_Picker_shareOut at h
  refine gh_aload_n gd_Picker_shareOut_0 0 rfl (by decide) ?_
  refine gf_47_9 gd_Picker_shareOut_1 gh_k543 hF ?_
  refine gh_iload_n gd_Picker_shareOut_4 2 rfl ?_
  obtain ⟨q1962, h⟩ := h
  obtain ⟨q1963, h⟩ := h
  refine la_51 gd_Picker_shareOut_5 hF q1962 q1963 rfl ?_
  refine gh_name (fun v3 hn => ?_)
  have h := h v3 hn
  refine gh_istore_n (L2 := [(3, 0, v3), (0, 2, 47), (1, 0, v1), (2, 0, v2)]) gd_Picker_shareOut_6 (by decide) rfl ?_
  refine gh_aload_n gd_Picker_shareOut_7 1 rfl (by decide) ?_
  refine gf_47_10 gd_Picker_shareOut_8 gh_k544 hF ?_
  refine gh_iload_n gd_Picker_shareOut_11 3 rfl ?_
  obtain ⟨q1964, h⟩ := h
  obtain ⟨q1965, h⟩ := h
  refine la_52 gd_Picker_shareOut_12 hF q1964 q1965 rfl ?_
  refine gh_name (fun v4 hn => ?_)
  have h := h v4 hn
  refine gh_istore (L2 := [(4, 0, v4), (3, 0, v3), (0, 2, 47), (1, 0, v1), (2, 0, v2)]) gd_Picker_shareOut_13 (by decide) rfl ?_
  refine gh_aload_n gd_Picker_shareOut_15 2 rfl (by decide) ?_
  refine gf_47_11 gd_Picker_shareOut_16 gh_k545 hF ?_
  refine gh_iload_n gd_Picker_shareOut_19 4 rfl ?_
  obtain ⟨q1966, h⟩ := h
  obtain ⟨q1967, h⟩ := h
  refine la_53 gd_Picker_shareOut_20 hF q1966 q1967 rfl ?_
  refine gh_iconst gd_Picker_shareOut_21 (gh_r0 rfl) ?_
  refine gh_aload_n gd_Picker_shareOut_22 2 rfl (by decide) ?_
  refine gf_47_8 gd_Picker_shareOut_23 gh_k542 hF ?_
  refine gh_iload_n gd_Picker_shareOut_26 4 rfl ?_
  obtain ⟨q1968, h⟩ := h
  obtain ⟨q1969, h⟩ := h
  refine la_50 gd_Picker_shareOut_27 hF q1968 q1969 rfl ?_
  refine gh_ishl gd_Picker_shareOut_28 ?_
  refine gh_ior gd_Picker_shareOut_29 ?_
  refine gh_name (fun v5 hn => ?_)
  have h := h v5 hn
  refine gh_istore (L2 := [(5, 0, v5), (4, 0, v4), (3, 0, v3), (0, 2, 47), (1, 0, v1), (2, 0, v2)]) gd_Picker_shareOut_30 (by decide) rfl ?_
  refine gh_iload_n gd_Picker_shareOut_32 2 rfl ?_
  refine gh_istore (L2 := [(6, 0, v3), (5, 0, v5), (4, 0, v4), (3, 0, v3), (0, 2, 47), (1, 0, v1), (2, 0, v2)]) gd_Picker_shareOut_33 (by decide) rfl ?_
  refine gh_aload_n gd_Picker_shareOut_35 4 rfl (by decide) ?_
  refine gf_47_13 gd_Picker_shareOut_36 gh_k547 hF ?_
  refine gh_iload_n gd_Picker_shareOut_39 6 rfl ?_
  obtain ⟨q1970, h⟩ := h
  obtain ⟨q1971, h⟩ := h
  refine la_55 gd_Picker_shareOut_40 hF q1970 q1971 rfl ?_
  refine gh_name (fun v7 hn => ?_)
  have h := h v7 hn
  refine gh_lstore (L2 := [(7, 1, v7), (6, 0, v3), (5, 0, v5), (4, 0, v4), (3, 0, v3), (0, 2, 47), (1, 0, v1), (2, 0, v2)]) gd_Picker_shareOut_41 (by decide) rfl ?_
  refine gh_iconst gd_Picker_shareOut_43 (gh_r0 rfl) ?_
  refine gh_istore (L2 := [(9, 0, 0), (7, 1, v7), (6, 0, v3), (5, 0, v5), (4, 0, v4), (3, 0, v3), (0, 2, 47), (1, 0, v1), (2, 0, v2)]) gd_Picker_shareOut_44 (by decide) rfl ?_
  refine gh_pick (L2 := [(0, 2, 47), (1, 0, v1), (3, 0, v3), (4, 0, v4), (5, 0, v5), (6, 0, v3), (7, 1, v7), (9, 0, 0)]) [6, 7, 5, 4, 3, 2, 1, 0] rfl ?_
  exact gh_M3_sound (T := fun v6 v7 v9 m => gh_T E (gh_yPicker_shareOut.cls, prog_7_method_5_code, 18, false, 9) (d + 32) 46 [(0, 2, 47), (1, 0, v1), (3, 0, v3), (4, 0, v4), (5, 0, v5), (6, 0, v6), (7, 1, v7), (9, 0, v9)] [] m (fun r m1 => gh_F m1 ∧ Q r m1)) (fun _ _ _ m => gh_F m) (fun K46 v6 v7 v9 m hK hF h => b_Picker_shareOut_46 d hK v6 v7 v9 m hF h) v3 v7 0 m hF h
def f_Picker_pushParts_55 (v1 : Int) (v3 : Int) (v4 : Int) (v5 : Int) (v6 : Int) (Q : Int → gh_M → Prop) (K55 : Int → gh_M → Prop) (v7 : Int) (m : gh_M) : Prop := ((v7 < 0 → Q 0 m) ∧ (¬ (v7 < 0) → ((¬ (v7 = 0) → (gh_i (v7 - 1) ∧ 0 ≤ v7 - 1 ∧ (v7 - 1) < 4))) ∧ ∀ v8 : Int, v8 = (if v7 = 0 then v3 else (m 56 (v7 - 1))) → (((v8 = v3) → (0 ≤ v7 ∧ v7 < 4))) ∧ ∀ v9 : Int, v9 = (if ((v8 = v3) ∧ ((m 56 v7) = v4)) then (1:Int) else 0) → k_Grammar_nameAt v1 v7 m ∧ ∀ v10 : Int, v10 = x_Grammar_nameAt v1 v7 m → (((v10 = (-1)) → (k_Text_letterAt v8 m ∧ gh_i ((-1) - (x_Text_letterAt v8 m))))) ∧ 0 ≤ v7 ∧ v7 < 4 ∧ 0 ≤ v7 ∧ v7 < 4 ∧ w_Picker_push (if v10 = (-1) then ((-1) - (x_Text_letterAt v8 m)) else v10) v8 (m 56 v7) (if v9 = 0 then 0 else v5) v6 (m 57 v7) m (fun _ m2041 => gh_i (v7 + (-1)) ∧ K55 (v7 + (-1)) m2041)))
def w_Picker_pushParts (v1 : Int) (v2 : Int) (m : gh_M) (Q : Int → gh_M → Prop) : Prop := 0 ≤ v2 ∧ v2 < 289 ∧ ∀ v3 : Int, v3 = m 51 v2 → 0 ≤ v2 ∧ v2 < 289 ∧ ∀ v4 : Int, v4 = m 52 v2 → 0 ≤ v2 ∧ v2 < 289 ∧ 0 ≤ v2 ∧ v2 < 289 ∧ ∀ v5 : Int, v5 = gh_ior_f (m 53 v2) (gh_ishl_f 1 (m 50 v2)) → 0 ≤ v2 ∧ v2 < 289 ∧ gh_i ((m 54 v2) + 1) ∧ ∀ v6 : Int, v6 = (m 54 v2) + 1 → 0 ≤ v1 ∧ v1 < 20 ∧ gh_i ((m 17 v1) - 1) ∧ ∀ v7 : Int, v7 = (m 17 v1) - 1 → gh_M1 (fun K55 v7 m => f_Picker_pushParts_55 v1 v3 v4 v5 v6 Q K55 v7 m) v7 m
theorem b_Picker_pushParts_55 {E : gh_E} {v1 : Int} {v3 : Int} {v4 : Int} {v5 : Int} {v6 : Int} {Q : Int → gh_M → Prop} {K55 : Int → gh_M → Prop} (d : Nat) (hK : ∀ (v7 : Int) (m : gh_M), gh_F m → K55 v7 m → gh_T E (gh_yPicker_pushParts.cls, prog_7_method_6_code, 11, false, 9) (d + 2) 55 [(0, 2, 47), (1, 0, v1), (3, 0, v3), (4, 0, v4), (5, 0, v5), (6, 0, v6), (7, 0, v7)] [] m (fun r m1 => gh_F m1 ∧ Q r m1)) (v7 : Int) (m : gh_M) (hF : gh_F m) (h : f_Picker_pushParts_55 v1 v3 v4 v5 v6 Q K55 v7 m) : gh_T E (gh_yPicker_pushParts.cls, prog_7_method_6_code, 11, false, 9) (d + 2) 55 [(0, 2, 47), (1, 0, v1), (3, 0, v3), (4, 0, v4), (5, 0, v5), (6, 0, v6), (7, 0, v7)] [] m (fun r m1 => gh_F m1 ∧ Q r m1) := by
  have hK55 := hK
  unfold f_Picker_pushParts_55 at h
  refine gh_iload gd_Picker_pushParts_55 6 rfl ?_
  obtain ⟨hA, hB⟩ := h
  refine gh_zlt (tgt := 178) gd_Picker_pushParts_57 (by decide) (fun c2019 => ?_) (fun c2019 => ?_)
  · have h := hA c2019
    exact gh_ret9 rfl gd_Picker_pushParts_178 ⟨hF, h⟩
  · have h := hB c2019
    refine gh_iload gd_Picker_pushParts_60 6 rfl ?_
    obtain ⟨hk, h⟩ := h
    have k2023 : ∀ x2024 : Int, x2024 = (if v7 = 0 then v3 else (m 56 (v7 - 1))) → gh_T E (gh_yPicker_pushParts.cls, prog_7_method_6_code, 11, false, 9) (d + 2) 78 [(0, 2, 47), (1, 0, v1), (3, 0, v3), (4, 0, v4), (5, 0, v5), (6, 0, v6), (7, 0, v7)] [(0, x2024)] m (fun r m1 => gh_F m1 ∧ Q r m1) := by
      rintro _ rfl
      refine gh_name (fun v8 hn => ?_)
      have h := h v8 hn
      refine gh_istore (L2 := [(8, 0, v8), (0, 2, 47), (1, 0, v1), (3, 0, v3), (4, 0, v4), (5, 0, v5), (6, 0, v6), (7, 0, v7)]) gd_Picker_pushParts_78 (by decide) rfl ?_
      refine gh_iload gd_Picker_pushParts_80 0 rfl ?_
      refine gh_iload_n gd_Picker_pushParts_82 3 rfl ?_
      obtain ⟨hk, h⟩ := h
      have k2027 : ∀ x2028 : Int, x2028 = (if ((v8 = v3) ∧ ((m 56 v7) = v4)) then (1:Int) else 0) → gh_T E (gh_yPicker_pushParts.cls, prog_7_method_6_code, 11, false, 9) (d + 2) 103 [(8, 0, v8), (0, 2, 47), (1, 0, v1), (3, 0, v3), (4, 0, v4), (5, 0, v5), (6, 0, v6), (7, 0, v7)] [(0, x2028)] m (fun r m1 => gh_F m1 ∧ Q r m1) := by
        rintro _ rfl
        refine gh_name (fun v9 hn => ?_)
        have h := h v9 hn
        refine gh_istore (L2 := [(9, 0, v9), (8, 0, v8), (0, 2, 47), (1, 0, v1), (3, 0, v3), (4, 0, v4), (5, 0, v5), (6, 0, v6), (7, 0, v7)]) gd_Picker_pushParts_103 (by decide) rfl ?_
        refine gh_aload_n gd_Picker_pushParts_105 2 rfl (by decide) ?_
        refine gf_47_0 gd_Picker_pushParts_106 gh_k531 hF ?_
        refine gh_iload_n gd_Picker_pushParts_109 3 rfl ?_
        refine gh_iload gd_Picker_pushParts_110 8 rfl ?_
        obtain ⟨q2029, h⟩ := h
        refine cv_Grammar_nameAt (d := d + 1) gd_Picker_pushParts_112 gh_k1288 hF (Nat.le_of_ble_eq_true rfl) (gh_C.pe (e_Grammar_nameAt d v1 v7 hF q2029) ?_)
        refine gh_name (fun v10 hn => ?_)
        have h := h v10 hn
        refine gh_istore (L2 := [(10, 0, v10), (9, 0, v9), (8, 0, v8), (0, 2, 47), (1, 0, v1), (3, 0, v3), (4, 0, v4), (5, 0, v5), (6, 0, v6), (7, 0, v7)]) gd_Picker_pushParts_115 (by decide) rfl ?_
        refine gh_aload_n gd_Picker_pushParts_117 3 rfl (by decide) ?_
        refine gh_iload gd_Picker_pushParts_118 0 rfl ?_
        refine gh_iconst gd_Picker_pushParts_120 (gh_r0 rfl) ?_
        obtain ⟨hk, h⟩ := h
        have k2032 : ∀ x2033 : Int, x2033 = (if v10 = (-1) then ((-1) - (x_Text_letterAt v8 m)) else v10) → gh_T E (gh_yPicker_pushParts.cls, prog_7_method_6_code, 11, false, 9) (d + 2) 140 [(10, 0, v10), (9, 0, v9), (8, 0, v8), (0, 2, 47), (1, 0, v1), (3, 0, v3), (4, 0, v4), (5, 0, v5), (6, 0, v6), (7, 0, v7)] [(0, x2033), (2, 47)] m (fun r m1 => gh_F m1 ∧ Q r m1) := by
          rintro _ rfl
          refine gh_iload gd_Picker_pushParts_140 2 rfl ?_
          refine gh_aload_n gd_Picker_pushParts_142 3 rfl (by decide) ?_
          refine gf_47_15 gd_Picker_pushParts_143 gh_k549 hF ?_
          refine gh_iload gd_Picker_pushParts_146 9 rfl ?_
          obtain ⟨q2034, h⟩ := h
          obtain ⟨q2035, h⟩ := h
          refine la_56 gd_Picker_pushParts_148 hF q2034 q2035 rfl ?_
          refine gh_iload gd_Picker_pushParts_149 1 rfl ?_
          have k2036 : ∀ x2037 : Int, x2037 = (if v9 = 0 then 0 else v5) → gh_T E (gh_yPicker_pushParts.cls, prog_7_method_6_code, 11, false, 9) (d + 2) 160 [(10, 0, v10), (9, 0, v9), (8, 0, v8), (0, 2, 47), (1, 0, v1), (3, 0, v3), (4, 0, v4), (5, 0, v5), (6, 0, v6), (7, 0, v7)] [(0, x2037), (0, m 56 v7), (0, v8), (0, (if v10 = (-1) then ((-1) - (x_Text_letterAt v8 m)) else v10)), (2, 47)] m (fun r m1 => gh_F m1 ∧ Q r m1) := by
            rintro _ rfl
            refine gh_iload gd_Picker_pushParts_160 8 rfl ?_
            refine gh_aload_n gd_Picker_pushParts_162 3 rfl (by decide) ?_
            refine gf_47_16 gd_Picker_pushParts_163 gh_k550 hF ?_
            refine gh_iload gd_Picker_pushParts_166 9 rfl ?_
            obtain ⟨q2038, h⟩ := h
            obtain ⟨q2039, h⟩ := h
            refine la_57 gd_Picker_pushParts_168 hF q2038 q2039 rfl ?_
            refine cv_Picker_push (d := d + 1) gd_Picker_pushParts_169 gh_k1258 hF (Nat.le_of_ble_eq_true rfl) (gh_C.mono (s_Picker_push (d + 1) (if v10 = (-1) then ((-1) - (x_Text_letterAt v8 m)) else v10) v8 (m 56 v7) (if v9 = 0 then 0 else v5) v6 (m 57 v7) hF h) (fun r2040 m2041 hq => ?_))
            obtain ⟨hF, h⟩ := hq
            obtain ⟨q2042, h⟩ := h
            refine gh_iinc (L2 := [(7, 0, v7 + (-1)), (10, 0, v10), (9, 0, v9), (8, 0, v8), (0, 2, 47), (1, 0, v1), (3, 0, v3), (4, 0, v4), (5, 0, v5), (6, 0, v6)]) gd_Picker_pushParts_172 9 rfl q2042 (by decide) rfl ?_
            refine gh_goto (tgt := 55) gd_Picker_pushParts_175 (by decide) ?_
            refine gh_pick (L2 := [(0, 2, 47), (1, 0, v1), (3, 0, v3), (4, 0, v4), (5, 0, v5), (6, 0, v6), (7, 0, v7 + (-1))]) [4, 5, 6, 7, 8, 9, 0] rfl ?_
            exact hK55 (v7 + (-1)) m2041 hF h
          refine gh_zeq (tgt := 159) gd_Picker_pushParts_151 (by decide) (fun c2043 => ?_) (fun c2043 => ?_)
          · have hz : True := trivial
            refine gh_iconst gd_Picker_pushParts_159 (gh_r0 rfl) ?_
            exact k2036 _ (by rw [if_pos c2043])
          · have hz : True := trivial
            refine gh_iload gd_Picker_pushParts_154 7 rfl ?_
            refine gh_goto (tgt := 160) gd_Picker_pushParts_156 (by decide) ?_
            exact k2036 _ (by rw [if_neg c2043])
        refine gh_jeq (tgt := 129) gd_Picker_pushParts_121 (by decide) (fun c2044 => ?_) (fun c2044 => ?_)
        · have hz : True := trivial
          have hk := hk c2044
          refine gh_iconst gd_Picker_pushParts_129 (gh_r0 rfl) ?_
          refine gh_aload_n gd_Picker_pushParts_130 3 rfl (by decide) ?_
          refine gf_47_1 gd_Picker_pushParts_131 gh_k532 hF ?_
          refine gh_iload gd_Picker_pushParts_134 2 rfl ?_
          obtain ⟨q2030, hk⟩ := hk
          refine cv_Text_letterAt (d := d + 1) gd_Picker_pushParts_136 gh_k1289 hF (Nat.le_of_ble_eq_true rfl) (gh_C.pe (e_Text_letterAt (d + 1) v8 hF q2030) ?_)
          have q2031 := hk
          refine gh_isub gd_Picker_pushParts_139 q2031 ?_
          exact k2032 _ (by rw [if_pos c2044])
        · have hz : True := trivial
          refine gh_iload gd_Picker_pushParts_124 0 rfl ?_
          refine gh_goto (tgt := 140) gd_Picker_pushParts_126 (by decide) ?_
          exact k2032 _ (by rw [if_neg c2044])
      refine gh_jne (tgt := 102) gd_Picker_pushParts_83 (by decide) (fun c2045 => ?_) (fun c2045 => ?_)
      · have hz : True := trivial
        have hk := hk c2045
        refine gh_aload_n gd_Picker_pushParts_86 1 rfl (by decide) ?_
        refine gf_47_15 gd_Picker_pushParts_87 gh_k549 hF ?_
        refine gh_iload gd_Picker_pushParts_90 7 rfl ?_
        obtain ⟨q2025, hk⟩ := hk
        have q2026 := hk
        refine la_56 gd_Picker_pushParts_92 hF q2025 q2026 rfl ?_
        refine gh_iload gd_Picker_pushParts_93 4 rfl ?_
        refine gh_jne (tgt := 102) gd_Picker_pushParts_95 (by decide) (fun c2046 => ?_) (fun c2046 => ?_)
        · have hz : True := trivial
          refine gh_iconst gd_Picker_pushParts_98 (gh_r0 rfl) ?_
          refine gh_goto (tgt := 103) gd_Picker_pushParts_99 (by decide) ?_
          exact k2027 _ (if_pos (c := ((v8 = v3) ∧ ((m 56 v7) = v4))) ⟨c2045, c2046⟩).symm
        · have hz : True := trivial
          refine gh_iconst gd_Picker_pushParts_102 (gh_r0 rfl) ?_
          exact k2027 _ (if_neg (c := ((v8 = v3) ∧ ((m 56 v7) = v4))) (fun z => c2046 z.2)).symm
      · have hz : True := trivial
        refine gh_iconst gd_Picker_pushParts_102 (gh_r0 rfl) ?_
        exact k2027 _ (if_neg (c := ((v8 = v3) ∧ ((m 56 v7) = v4))) (fun z => c2045 z.1)).symm
    refine gh_zne (tgt := 69) gd_Picker_pushParts_62 (by decide) (fun c2047 => ?_) (fun c2047 => ?_)
    · have hz : True := trivial
      refine gh_iload_n gd_Picker_pushParts_65 2 rfl ?_
      refine gh_goto (tgt := 78) gd_Picker_pushParts_66 (by decide) ?_
      exact k2023 _ (by rw [if_pos c2047])
    · have hz : True := trivial
      have hk := hk c2047
      refine gh_aload_n gd_Picker_pushParts_69 0 rfl (by decide) ?_
      refine gf_47_15 gd_Picker_pushParts_70 gh_k549 hF ?_
      refine gh_iload gd_Picker_pushParts_73 6 rfl ?_
      refine gh_iconst gd_Picker_pushParts_75 (gh_r0 rfl) ?_
      obtain ⟨q2020, hk⟩ := hk
      refine gh_isub gd_Picker_pushParts_76 q2020 ?_
      obtain ⟨q2021, hk⟩ := hk
      have q2022 := hk
      refine la_56 gd_Picker_pushParts_77 hF q2021 q2022 rfl ?_
      exact k2023 _ (by rw [if_neg c2047])
theorem s_Picker_pushParts {E : gh_E} {m : gh_M} {Q : Int → gh_M → Prop} (d : Nat) (v1 : Int) (v2 : Int) (hF : gh_F m) (h : w_Picker_pushParts v1 v2 m Q) : gh_C E gh_yPicker_pushParts prog_7_method_6_code 11 none 9 (d + 2) [(2, 47), (0, v1), (0, v2)] m (fun r m1 => gh_F m1 ∧ Q r m1) := by
  refine gh_enter2 (L := [(0, 2, 47), (1, 0, v1), (2, 0, v2)]) (by decide +kernel) gh_rt9 (Nat.le_of_ble_eq_true rfl) rfl rfl ?_
  unfold w_Picker_pushParts at h
  refine gh_aload_n gd_Picker_pushParts_0 0 rfl (by decide) ?_
  refine gf_47_9 gd_Picker_pushParts_1 gh_k543 hF ?_
  refine gh_iload_n gd_Picker_pushParts_4 2 rfl ?_
  obtain ⟨q2005, h⟩ := h
  obtain ⟨q2006, h⟩ := h
  refine la_51 gd_Picker_pushParts_5 hF q2005 q2006 rfl ?_
  refine gh_name (fun v3 hn => ?_)
  have h := h v3 hn
  refine gh_istore_n (L2 := [(3, 0, v3), (0, 2, 47), (1, 0, v1), (2, 0, v2)]) gd_Picker_pushParts_6 (by decide) rfl ?_
  refine gh_aload_n gd_Picker_pushParts_7 1 rfl (by decide) ?_
  refine gf_47_10 gd_Picker_pushParts_8 gh_k544 hF ?_
  refine gh_iload_n gd_Picker_pushParts_11 3 rfl ?_
  obtain ⟨q2007, h⟩ := h
  obtain ⟨q2008, h⟩ := h
  refine la_52 gd_Picker_pushParts_12 hF q2007 q2008 rfl ?_
  refine gh_name (fun v4 hn => ?_)
  have h := h v4 hn
  refine gh_istore (L2 := [(4, 0, v4), (3, 0, v3), (0, 2, 47), (1, 0, v1), (2, 0, v2)]) gd_Picker_pushParts_13 (by decide) rfl ?_
  refine gh_aload_n gd_Picker_pushParts_15 2 rfl (by decide) ?_
  refine gf_47_11 gd_Picker_pushParts_16 gh_k545 hF ?_
  refine gh_iload_n gd_Picker_pushParts_19 4 rfl ?_
  obtain ⟨q2009, h⟩ := h
  obtain ⟨q2010, h⟩ := h
  refine la_53 gd_Picker_pushParts_20 hF q2009 q2010 rfl ?_
  refine gh_iconst gd_Picker_pushParts_21 (gh_r0 rfl) ?_
  refine gh_aload_n gd_Picker_pushParts_22 2 rfl (by decide) ?_
  refine gf_47_8 gd_Picker_pushParts_23 gh_k542 hF ?_
  refine gh_iload_n gd_Picker_pushParts_26 4 rfl ?_
  obtain ⟨q2011, h⟩ := h
  obtain ⟨q2012, h⟩ := h
  refine la_50 gd_Picker_pushParts_27 hF q2011 q2012 rfl ?_
  refine gh_ishl gd_Picker_pushParts_28 ?_
  refine gh_ior gd_Picker_pushParts_29 ?_
  refine gh_name (fun v5 hn => ?_)
  have h := h v5 hn
  refine gh_istore (L2 := [(5, 0, v5), (4, 0, v4), (3, 0, v3), (0, 2, 47), (1, 0, v1), (2, 0, v2)]) gd_Picker_pushParts_30 (by decide) rfl ?_
  refine gh_aload_n gd_Picker_pushParts_32 3 rfl (by decide) ?_
  refine gf_47_12 gd_Picker_pushParts_33 gh_k546 hF ?_
  refine gh_iload_n gd_Picker_pushParts_36 5 rfl ?_
  obtain ⟨q2013, h⟩ := h
  obtain ⟨q2014, h⟩ := h
  refine la_54 gd_Picker_pushParts_37 hF q2013 q2014 rfl ?_
  refine gh_iconst gd_Picker_pushParts_38 (gh_r0 rfl) ?_
  obtain ⟨q2015, h⟩ := h
  refine gh_iadd gd_Picker_pushParts_39 q2015 ?_
  refine gh_name (fun v6 hn => ?_)
  have h := h v6 hn
  refine gh_istore (L2 := [(6, 0, v6), (5, 0, v5), (4, 0, v4), (3, 0, v3), (0, 2, 47), (1, 0, v1), (2, 0, v2)]) gd_Picker_pushParts_40 (by decide) rfl ?_
  refine gh_aload_n gd_Picker_pushParts_42 4 rfl (by decide) ?_
  refine gf_47_0 gd_Picker_pushParts_43 gh_k531 hF ?_
  refine gf_13_6 gd_Picker_pushParts_46 gh_k287 hF ?_
  refine gh_iload_n gd_Picker_pushParts_49 5 rfl ?_
  obtain ⟨q2016, h⟩ := h
  obtain ⟨q2017, h⟩ := h
  refine la_17 gd_Picker_pushParts_50 hF q2016 q2017 rfl ?_
  refine gh_iconst gd_Picker_pushParts_51 (gh_r0 rfl) ?_
  obtain ⟨q2018, h⟩ := h
  refine gh_isub gd_Picker_pushParts_52 q2018 ?_
  refine gh_name (fun v7 hn => ?_)
  have h := h v7 hn
  refine gh_istore (L2 := [(7, 0, v7), (6, 0, v6), (5, 0, v5), (4, 0, v4), (3, 0, v3), (0, 2, 47), (1, 0, v1), (2, 0, v2)]) gd_Picker_pushParts_53 (by decide) rfl ?_
  refine gh_pick (L2 := [(0, 2, 47), (1, 0, v1), (3, 0, v3), (4, 0, v4), (5, 0, v5), (6, 0, v6), (7, 0, v7)]) [5, 6, 4, 3, 2, 1, 0] rfl ?_
  exact gh_M1_sound (T := fun v7 m => gh_T E (gh_yPicker_pushParts.cls, prog_7_method_6_code, 11, false, 9) (d + 2) 55 [(0, 2, 47), (1, 0, v1), (3, 0, v3), (4, 0, v4), (5, 0, v5), (6, 0, v6), (7, 0, v7)] [] m (fun r m1 => gh_F m1 ∧ Q r m1)) (fun _ m => gh_F m) (fun K55 v7 m hK hF h => b_Picker_pushParts_55 d hK v7 m hF h) v7 m hF h
def f_Picker_choose_28 (Q : Int → gh_M → Prop) (K28 : Int → gh_M → Prop) (v3 : Int) (m : gh_M) : Prop := (((m 47 14) ≤ 0 → 0 ≤ v3 ∧ 0 + v3 ≤ 300 ∧ 0 + v3 ≤ 300 ∧ Q (v3) (gh_u (gh_u (gh_cpy m 49 0 48 0 v3) 47 4 v3) 47 5 ((gh_cpy m 49 0 48 0 v3) 47 7))) ∧ (¬ ((m 47 14) ≤ 0) → ((v3 = 300 → Q (-1004) m) ∧ (¬ (v3 = 300) → gh_i ((m 47 14) - 1) ∧ 0 ≤ ((m 47 14) - 1) ∧ (((m 47 14) - 1)) < 289 ∧ ∃ J161 : gh_M → Prop, (∀ (m : gh_M), J161 m → gh_i (v3 + 1) ∧ K28 (v3 + 1) m) ∧ (((m 50 (((m 47 14) - 1))) < 0 → 0 ≤ ((m 47 14) - 1) ∧ (((m 47 14) - 1)) < 289 ∧ 0 ≤ v3 ∧ v3 < 300 ∧ J161 (gh_u (gh_u m 47 14 ((m 47 14) - 1)) 49 v3 (m 50 (((m 47 14) - 1))))) ∧ (¬ ((m 50 (((m 47 14) - 1))) < 0) → 0 ≤ ((m 47 14) - 1) ∧ (((m 47 14) - 1)) < 289 ∧ w_Picker_ruleOf (m 50 (((m 47 14) - 1))) (((m 47 14) - 1)) (gh_u m 47 14 ((m 47 14) - 1)) (fun r2066 m2067 => ((r2066 = (-1) → Q (-1) m2067) ∧ (¬ (r2066 = (-1)) → 0 ≤ v3 ∧ v3 < 300 ∧ 0 ≤ m2067 47 14 ∧ (m2067 47 14) < 289 ∧ w_Picker_shareOut r2066 (m2067 47 14) (gh_u (gh_u m2067 49 v3 r2066) 47 7 (max (m2067 47 7) (m2067 54 (m2067 47 14)))) (fun _ m2074 => w_Picker_pushParts r2066 (m2074 47 14) m2074 (fun _ m2076 => J161 m2076)))))))))))
def w_Picker_choose (v1 : Int) (m : gh_M) (Q : Int → gh_M → Prop) : Prop := w_Picker_push 0 0 (m 26 3) 0 1 v1 (gh_u (gh_u m 47 7 0) 47 14 0) (fun _ m2049 => gh_M1 (fun K28 v3 m => f_Picker_choose_28 Q K28 v3 m) 0 m2049)
theorem b_Picker_choose_28 {E : gh_E} {Q : Int → gh_M → Prop} {K28 : Int → gh_M → Prop} (d : Nat) (hK : ∀ (v3 : Int) (m : gh_M), gh_F m → K28 v3 m → gh_T E (gh_yPicker_choose.cls, prog_7_method_2_code, 5, false, 0) (d + 34) 28 [(0, 2, 47), (3, 0, v3)] [] m (fun r m1 => gh_F m1 ∧ Q r m1)) (v3 : Int) (m : gh_M) (hF : gh_F m) (h : f_Picker_choose_28 Q K28 v3 m) : gh_T E (gh_yPicker_choose.cls, prog_7_method_2_code, 5, false, 0) (d + 34) 28 [(0, 2, 47), (3, 0, v3)] [] m (fun r m1 => gh_F m1 ∧ Q r m1) := by
  have hK28 := hK
  unfold f_Picker_choose_28 at h
  refine gh_aload_n gd_Picker_choose_28 0 rfl (by decide) ?_
  refine gf_47_14 gd_Picker_choose_29 gh_k548 hF rfl ?_
  obtain ⟨hA, hB⟩ := h
  refine gh_zle (tgt := 167) gd_Picker_choose_32 (by decide) (fun c2050 => ?_) (fun c2050 => ?_)
  · have h := hA c2050
    refine gh_aload_n gd_Picker_choose_167 0 rfl (by decide) ?_
    refine gf_47_6 gd_Picker_choose_168 gh_k540 hF ?_
    refine gh_iconst gd_Picker_choose_171 (gh_r0 rfl) ?_
    refine gh_aload_n gd_Picker_choose_172 0 rfl (by decide) ?_
    refine gf_47_3 gd_Picker_choose_173 gh_k534 hF ?_
    refine gh_iconst gd_Picker_choose_176 (gh_r0 rfl) ?_
    refine gh_iload_n gd_Picker_choose_177 1 rfl ?_
    obtain ⟨q2051, h⟩ := h
    obtain ⟨q2052, h⟩ := h
    obtain ⟨q2053, h⟩ := h
    refine gh_copyF gd_Picker_choose_178 gh_k1293 gh_k1064 gh_k1063 gh_k146 (ga_49 hF) (ga_48 hF) (by decide) (by decide) (by decide) q2051 q2052 q2053 (Nat.le_of_ble_eq_true rfl) hF gn_48 (fun hF => ?_)
    refine gh_aload_n gd_Picker_choose_181 0 rfl (by decide) ?_
    refine gh_iload_n gd_Picker_choose_182 1 rfl ?_
    refine pf_47_4 gd_Picker_choose_183 gh_k536 hF (fun hF => ?_)
    refine gh_aload_n gd_Picker_choose_186 0 rfl (by decide) ?_
    refine gh_aload_n gd_Picker_choose_187 0 rfl (by decide) ?_
    refine gf_47_7 gd_Picker_choose_188 gh_k541 hF (gh_u_i (by decide)) ?_
    refine pf_47_5 gd_Picker_choose_191 gh_k538 hF (fun hF => ?_)
    refine gh_aload_n gd_Picker_choose_194 0 rfl (by decide) ?_
    refine gf_47_4 gd_Picker_choose_195 gh_k536 hF ((gh_u_i (by decide)).trans (gh_u_s _ _ _ _)) ?_
    exact gh_ret0 rfl gd_Picker_choose_198 ⟨hF, h⟩
  · have h := hB c2050
    refine gh_iload_n gd_Picker_choose_35 1 rfl ?_
    refine gh_sipush gd_Picker_choose_36 (by decide) (gh_r0 rfl) ?_
    obtain ⟨hA, hB⟩ := h
    refine gh_jne (tgt := 46) gd_Picker_choose_39 (by decide) (fun c2054 => ?_) (fun c2054 => ?_)
    · have h := hA c2054
      refine gh_sipush gd_Picker_choose_42 (by decide) (gh_r0 rfl) ?_
      exact gh_ret0 rfl gd_Picker_choose_45 ⟨hF, h⟩
    · have h := hB c2054
      refine gh_aload_n gd_Picker_choose_46 0 rfl (by decide) ?_
      refine gh_dup gd_Picker_choose_47 (by decide) ?_
      refine gf_47_14 gd_Picker_choose_48 gh_k548 hF rfl ?_
      refine gh_iconst gd_Picker_choose_51 (gh_r0 rfl) ?_
      obtain ⟨q2055, h⟩ := h
      refine gh_isub gd_Picker_choose_52 q2055 ?_
      refine pf_47_14 gd_Picker_choose_53 gh_k548 hF (fun hF => ?_)
      refine gh_aload_n gd_Picker_choose_56 0 rfl (by decide) ?_
      refine gf_47_8 gd_Picker_choose_57 gh_k542 hF ?_
      refine gh_aload_n gd_Picker_choose_60 0 rfl (by decide) ?_
      refine gf_47_14 gd_Picker_choose_61 gh_k548 hF (gh_u_s _ _ _ _) ?_
      obtain ⟨q2056, h⟩ := h
      obtain ⟨q2057, h⟩ := h
      refine la_50 gd_Picker_choose_64 hF q2056 q2057 (gh_u_a (by decide)) ?_
      obtain ⟨J161, hJ161, h⟩ := h
      have hJ161 : ∀ (m : gh_M), gh_F m → J161 m → gh_T E (gh_yPicker_choose.cls, prog_7_method_2_code, 5, false, 0) (d + 34) 161 [(0, 2, 47), (3, 0, v3)] [] m (fun r m1 => gh_F m1 ∧ Q r m1) := by
        intro m hF hj
        have h := hJ161 m hj
        obtain ⟨q2058, h⟩ := h
        refine gh_iinc (L2 := [(3, 0, v3 + 1), (0, 2, 47)]) gd_Picker_choose_161 1 rfl q2058 (by decide) rfl ?_
        refine gh_goto (tgt := 28) gd_Picker_choose_164 (by decide) ?_
        refine gh_pick (L2 := [(0, 2, 47), (3, 0, v3 + 1)]) [1, 0] rfl ?_
        exact hK28 (v3 + 1) m hF h
      obtain ⟨hA, hB⟩ := h
      refine gh_zge (tgt := 86) gd_Picker_choose_65 (by decide) (fun c2059 => ?_) (fun c2059 => ?_)
      · have h := hA c2059
        refine gh_aload_n gd_Picker_choose_68 0 rfl (by decide) ?_
        refine gf_47_6 gd_Picker_choose_69 gh_k540 hF ?_
        refine gh_iload_n gd_Picker_choose_72 1 rfl ?_
        refine gh_aload_n gd_Picker_choose_73 0 rfl (by decide) ?_
        refine gf_47_8 gd_Picker_choose_74 gh_k542 hF ?_
        refine gh_aload_n gd_Picker_choose_77 0 rfl (by decide) ?_
        refine gf_47_14 gd_Picker_choose_78 gh_k548 hF (gh_u_s _ _ _ _) ?_
        obtain ⟨q2060, h⟩ := h
        obtain ⟨q2061, h⟩ := h
        refine la_50 gd_Picker_choose_81 hF q2060 q2061 (gh_u_a (by decide)) ?_
        obtain ⟨q2062, h⟩ := h
        obtain ⟨q2063, h⟩ := h
        refine sa_49 gd_Picker_choose_82 hF q2062 q2063 (fun hF => ?_)
        refine gh_goto (tgt := 161) gd_Picker_choose_83 (by decide) ?_
        exact hJ161 (gh_u (gh_u m 47 14 ((m 47 14) - 1)) 49 v3 (m 50 (((m 47 14) - 1)))) hF h
      · have h := hB c2059
        refine gh_aload_n gd_Picker_choose_86 0 rfl (by decide) ?_
        refine gh_aload_n gd_Picker_choose_87 0 rfl (by decide) ?_
        refine gf_47_8 gd_Picker_choose_88 gh_k542 hF ?_
        refine gh_aload_n gd_Picker_choose_91 0 rfl (by decide) ?_
        refine gf_47_14 gd_Picker_choose_92 gh_k548 hF (gh_u_s _ _ _ _) ?_
        obtain ⟨q2064, h⟩ := h
        obtain ⟨q2065, h⟩ := h
        refine la_50 gd_Picker_choose_95 hF q2064 q2065 (gh_u_a (by decide)) ?_
        refine gh_aload_n gd_Picker_choose_96 0 rfl (by decide) ?_
        refine gf_47_14 gd_Picker_choose_97 gh_k548 hF (gh_u_s _ _ _ _) ?_
        refine cv_Picker_ruleOf (d := d + 33) gd_Picker_choose_100 gh_k1262 hF (Nat.le_of_ble_eq_true rfl) (gh_C.mono (s_Picker_ruleOf d (m 50 (((m 47 14) - 1))) (((m 47 14) - 1)) hF h) (fun r2066 m2067 hq => ?_))
        obtain ⟨hF, h⟩ := hq
        refine gh_istore (L2 := [(4, 0, r2066), (0, 2, 47), (3, 0, v3)]) gd_Picker_choose_103 (by decide) rfl ?_
        refine gh_iload gd_Picker_choose_105 0 rfl ?_
        refine gh_iconst gd_Picker_choose_107 (gh_r0 rfl) ?_
        obtain ⟨hA, hB⟩ := h
        refine gh_jne (tgt := 113) gd_Picker_choose_108 (by decide) (fun c2068 => ?_) (fun c2068 => ?_)
        · have h := hA c2068
          refine gh_iconst gd_Picker_choose_111 (gh_r0 rfl) ?_
          exact gh_ret0 rfl gd_Picker_choose_112 ⟨hF, h⟩
        · have h := hB c2068
          refine gh_aload_n gd_Picker_choose_113 1 rfl (by decide) ?_
          refine gf_47_6 gd_Picker_choose_114 gh_k540 hF ?_
          refine gh_iload_n gd_Picker_choose_117 2 rfl ?_
          refine gh_iload gd_Picker_choose_118 0 rfl ?_
          obtain ⟨q2069, h⟩ := h
          obtain ⟨q2070, h⟩ := h
          refine sa_49 gd_Picker_choose_120 hF q2069 q2070 (fun hF => ?_)
          refine gh_aload_n gd_Picker_choose_121 1 rfl (by decide) ?_
          refine gh_aload_n gd_Picker_choose_122 1 rfl (by decide) ?_
          refine gf_47_7 gd_Picker_choose_123 gh_k541 hF (gh_u_a (by decide)) ?_
          refine gh_aload_n gd_Picker_choose_126 1 rfl (by decide) ?_
          refine gf_47_12 gd_Picker_choose_127 gh_k546 hF ?_
          refine gh_aload_n gd_Picker_choose_130 1 rfl (by decide) ?_
          refine gf_47_14 gd_Picker_choose_131 gh_k548 hF (gh_u_a (by decide)) ?_
          obtain ⟨q2071, h⟩ := h
          obtain ⟨q2072, h⟩ := h
          refine la_54 gd_Picker_choose_134 hF q2071 q2072 (gh_u_a (by decide)) ?_
          refine gh_pr_max gd_Picker_choose_135 gh_k1272 (Nat.le_of_ble_eq_true rfl) ?_
          refine pf_47_7 gd_Picker_choose_138 gh_k541 hF (fun hF => ?_)
          refine gh_aload_n gd_Picker_choose_141 1 rfl (by decide) ?_
          refine gh_iload gd_Picker_choose_142 0 rfl ?_
          refine gh_aload_n gd_Picker_choose_144 1 rfl (by decide) ?_
          refine gf_47_14 gd_Picker_choose_145 gh_k548 hF ((gh_u_i (by decide)).trans (gh_u_a (by decide))) ?_
          refine cv_Picker_shareOut (d := d + 33) gd_Picker_choose_148 gh_k1273 hF (Nat.le_of_ble_eq_true rfl) (gh_C.mono (s_Picker_shareOut (d + 1) r2066 (m2067 47 14) hF h) (fun r2073 m2074 hq => ?_))
          obtain ⟨hF, h⟩ := hq
          refine gh_aload_n gd_Picker_choose_151 1 rfl (by decide) ?_
          refine gh_iload gd_Picker_choose_152 0 rfl ?_
          refine gh_aload_n gd_Picker_choose_154 1 rfl (by decide) ?_
          refine gf_47_14 gd_Picker_choose_155 gh_k548 hF rfl ?_
          refine cv_Picker_pushParts (d := d + 33) gd_Picker_choose_158 gh_k1284 hF (Nat.le_of_ble_eq_true rfl) (gh_C.mono (s_Picker_pushParts (d + 31) r2066 (m2074 47 14) hF h) (fun r2075 m2076 hq => ?_))
          obtain ⟨hF, h⟩ := hq
          refine gh_pick (L2 := [(0, 2, 47), (3, 0, v3)]) [1, 2] rfl ?_
          exact hJ161 m2076 hF h
theorem s_Picker_choose {E : gh_E} {m : gh_M} {Q : Int → gh_M → Prop} (d : Nat) (v1 : Int) (hF : gh_F m) (h : w_Picker_choose v1 m Q) : gh_C E gh_yPicker_choose prog_7_method_2_code 5 (some .int) 0 (d + 34) [(2, 47), (1, v1)] m (fun r m1 => gh_F m1 ∧ Q r m1) := by
  refine gh_enter2 (L := [(0, 2, 47), (1, 1, v1)]) (by decide +kernel) gh_rt0 (Nat.le_of_ble_eq_true rfl) rfl rfl ?_
  unfold w_Picker_choose at h
  refine gh_aload_n gd_Picker_choose_0 0 rfl (by decide) ?_
  refine gh_iconst gd_Picker_choose_1 (gh_r0 rfl) ?_
  refine pf_47_7 gd_Picker_choose_2 gh_k541 hF (fun hF => ?_)
  refine gh_aload_n gd_Picker_choose_5 0 rfl (by decide) ?_
  refine gh_iconst gd_Picker_choose_6 (gh_r0 rfl) ?_
  refine pf_47_14 gd_Picker_choose_7 gh_k548 hF (fun hF => ?_)
  refine gh_aload_n gd_Picker_choose_10 0 rfl (by decide) ?_
  refine gh_iconst gd_Picker_choose_11 (gh_r0 rfl) ?_
  refine gh_iconst gd_Picker_choose_12 (gh_r0 rfl) ?_
  refine gh_aload_n gd_Picker_choose_13 0 rfl (by decide) ?_
  refine gf_47_1 gd_Picker_choose_14 gh_k532 hF ?_
  refine gf_26_3 gd_Picker_choose_17 gh_k379 hF ((gh_u_a (by decide)).trans (gh_u_a (by decide))) ?_
  refine gh_iconst gd_Picker_choose_20 (gh_r0 rfl) ?_
  refine gh_iconst gd_Picker_choose_21 (gh_r0 rfl) ?_
  refine gh_lload_n gd_Picker_choose_22 1 rfl ?_
  refine cv_Picker_push (d := d + 33) gd_Picker_choose_23 gh_k1258 hF (Nat.le_of_ble_eq_true rfl) (gh_C.mono (s_Picker_push (d + 33) 0 0 (m 26 3) 0 1 v1 hF h) (fun r2048 m2049 hq => ?_))
  obtain ⟨hF, h⟩ := hq
  refine gh_iconst gd_Picker_choose_26 (gh_r0 rfl) ?_
  refine gh_istore_n (L2 := [(3, 0, 0), (0, 2, 47), (1, 1, v1)]) gd_Picker_choose_27 (by decide) rfl ?_
  refine gh_pick (L2 := [(0, 2, 47), (3, 0, 0)]) [1, 0] rfl ?_
  exact gh_M1_sound (T := fun v3 m => gh_T E (gh_yPicker_choose.cls, prog_7_method_2_code, 5, false, 0) (d + 34) 28 [(0, 2, 47), (3, 0, v3)] [] m (fun r m1 => gh_F m1 ∧ Q r m1)) (fun _ m => gh_F m) (fun K28 v3 m hK hF h => b_Picker_choose_28 d hK v3 m hF h) 0 m2049 hF h
def w_House_pick (v1 : Int) (m : gh_M) (Q : Int → gh_M → Prop) : Prop := (((¬ (v1 < 0) ∧ (v1 < 1000000000000000000)) → (((m 2 10) = 0 → Q (-1003) m) ∧ (¬ ((m 2 10) = 0) → w_Chart_refresh m (fun _ m2081 => w_Forest_treesOf 0 0 (m2081 26 3) m2081 (fun r2082 m2083 => ((v1 < r2082 → w_Picker_choose v1 m2083 (fun r2085 m2086 => Q r2085 m2086)) ∧ (¬ (v1 < r2082) → Q (-1) m2083))))))) ∧ (¬ (¬ (v1 < 0) ∧ (v1 < 1000000000000000000)) → Q (-1002) m))
theorem s_House_pick {E : gh_E} {m : gh_M} {Q : Int → gh_M → Prop} (d : Nat) (v1 : Int) (hF : gh_F m) (h : w_House_pick v1 m Q) : gh_C E gh_yHouse_pick prog_1_method_27_code 3 (some .int) 0 (d + 35) [(2, 2), (1, v1)] m (fun r m1 => gh_F m1 ∧ Q r m1) := by
  refine gh_enter2 (L := [(0, 2, 2), (1, 1, v1)]) (by decide +kernel) gh_rt0 (Nat.le_of_ble_eq_true rfl) rfl rfl ?_
  unfold w_House_pick at h
  refine gh_lload_n gd_House_pick_0 1 rfl ?_
  refine gh_lconst (n := 0) gd_House_pick_1 (by decide) (gh_r1 rfl) ?_
  refine gh_lcmp gd_House_pick_2 ?_
  obtain ⟨hA, hB⟩ := h
  have k2077 : (¬ (v1 < 0) ∧ (v1 < 1000000000000000000)) → gh_T E (gh_yHouse_pick.cls, prog_1_method_27_code, 3, false, 0) (d + 35) 18 [(0, 2, 2), (1, 1, v1)] [] m (fun r m1 => gh_F m1 ∧ Q r m1) := by
    intro c
    have h := hA c
    refine gh_aload_n gd_House_pick_18 0 rfl (by decide) ?_
    refine gf_2_10 gd_House_pick_19 gh_k643 hF rfl ?_
    obtain ⟨hA, hB⟩ := h
    refine gh_zne (tgt := 29) gd_House_pick_22 (by decide) (fun c2079 => ?_) (fun c2079 => ?_)
    · have h := hA c2079
      refine gh_sipush gd_House_pick_25 (by decide) (gh_r0 rfl) ?_
      exact gh_ret0 rfl gd_House_pick_28 ⟨hF, h⟩
    · have h := hB c2079
      refine gh_aload_n gd_House_pick_29 0 rfl (by decide) ?_
      refine gf_2_5 gd_House_pick_30 gh_k638 hF ?_
      refine cv_Chart_refresh (d := d + 34) gd_House_pick_33 gh_k1077 hF (Nat.le_of_ble_eq_true rfl) (gh_C.mono (s_Chart_refresh (d + 29) hF h) (fun r2080 m2081 hq => ?_))
      obtain ⟨hF, h⟩ := hq
      refine gh_lload_n gd_House_pick_36 1 rfl ?_
      refine gh_aload_n gd_House_pick_37 0 rfl (by decide) ?_
      refine gf_2_7 gd_House_pick_38 gh_k640 hF ?_
      refine gh_iconst gd_House_pick_41 (gh_r0 rfl) ?_
      refine gh_iconst gd_House_pick_42 (gh_r0 rfl) ?_
      refine gh_aload_n gd_House_pick_43 0 rfl (by decide) ?_
      refine gf_2_4 gd_House_pick_44 gh_k637 hF ?_
      refine gf_26_3 gd_House_pick_47 gh_k381 hF rfl ?_
      refine cv_Forest_treesOf (d := d + 34) gd_House_pick_50 gh_k1197 hF (Nat.le_of_ble_eq_true rfl) (gh_C.mono (s_Forest_treesOf (d + 2) 0 0 (m2081 26 3) hF h) (fun r2082 m2083 hq => ?_))
      obtain ⟨hF, h⟩ := hq
      refine gh_lcmp gd_House_pick_53 ?_
      obtain ⟨hA, hB⟩ := h
      refine gh_cge (tgt := 68) gd_House_pick_54 (by decide) (fun c2084 => ?_) (fun c2084 => ?_)
      · have h := hA c2084
        refine gh_aload_n gd_House_pick_57 0 rfl (by decide) ?_
        refine gf_2_8 gd_House_pick_58 gh_k641 hF ?_
        refine gh_lload_n gd_House_pick_61 1 rfl ?_
        refine cv_Picker_choose (d := d + 34) gd_House_pick_62 gh_k1254 hF (Nat.le_of_ble_eq_true rfl) (gh_C.mono (s_Picker_choose d v1 hF h) (fun r2085 m2086 hq => ?_))
        obtain ⟨hF, h⟩ := hq
        refine gh_goto (tgt := 69) gd_House_pick_65 (by decide) ?_
        exact gh_ret0 rfl gd_House_pick_69 ⟨hF, h⟩
      · have h := hB c2084
        refine gh_iconst gd_House_pick_68 (gh_r0 rfl) ?_
        exact gh_ret0 rfl gd_House_pick_69 ⟨hF, h⟩
  have k2078 : ¬ (¬ (v1 < 0) ∧ (v1 < 1000000000000000000)) → gh_T E (gh_yHouse_pick.cls, prog_1_method_27_code, 3, false, 0) (d + 35) 14 [(0, 2, 2), (1, 1, v1)] [] m (fun r m1 => gh_F m1 ∧ Q r m1) := by
    intro c
    have h := hB c
    refine gh_sipush gd_House_pick_14 (by decide) (gh_r0 rfl) ?_
    exact gh_ret0 rfl gd_House_pick_17 ⟨hF, h⟩
  refine gh_clt (tgt := 14) gd_House_pick_3 (by decide) (fun c2087 => ?_) (fun c2087 => ?_)
  · have hz : True := trivial
    exact k2078 (fun z => z.1 c2087)
  · have hz : True := trivial
    refine gh_lload_n gd_House_pick_6 1 rfl ?_
    refine gh_ldc2 (n := 1000000000000000000) gd_House_pick_7 gh_k1248 (by decide) (gh_r1 rfl) ?_
    refine gh_lcmp gd_House_pick_10 ?_
    refine gh_clt (tgt := 18) gd_House_pick_11 (by decide) (fun c2088 => ?_) (fun c2088 => ?_)
    · have hz : True := trivial
      exact k2077 ⟨c2087, c2088⟩
    · have hz : True := trivial
      exact k2078 (fun z => c2088 z.2)
def f_Proper_digitOf_9 (v1 : Int) (Q : Int → gh_M → Prop) (m : gh_M) (K9 : Int → Prop) (v2 : Int) : Prop := ∃ J47 : Prop, (J47 → ∃ J79 : gh_M → Prop, (∀ (m : gh_M), J79 m → gh_i (8 + (m 58 7)) ∧ Q (8 + (m 58 7)) m) ∧ (((m 58 7) < 80 → 0 ≤ m 58 7 ∧ (m 58 7) < 80 ∧ gh_i ((m 58 7) + 1) ∧ J79 (gh_u (gh_u m 59 (m 58 7) v1) 58 7 ((m 58 7) + 1))) ∧ (¬ ((m 58 7) < 80) → J79 m))) ∧ ((((v2 < (m 58 7)) ∧ (v2 < 80)) → 0 ≤ v2 ∧ v2 < 80 ∧ (((m 59 v2) = v1 → gh_i (9 + v2) ∧ Q (9 + v2) m) ∧ (¬ ((m 59 v2) = v1) → gh_i (v2 + 1) ∧ K9 (v2 + 1)))) ∧ (¬ ((v2 < (m 58 7)) ∧ (v2 < 80)) → J47))
def w_Proper_digitOf (v1 : Int) (m : gh_M) (Q : Int → gh_M → Prop) : Prop := ((v1 < 0 → gh_i (-v1) ∧ Q (-v1) m) ∧ (¬ (v1 < 0) → gh_L1 (fun K9 v2 => f_Proper_digitOf_9 v1 Q m K9 v2) 0))
theorem b_Proper_digitOf_9 {E : gh_E} {v1 : Int} {Q : Int → gh_M → Prop} {K9 : Int → Prop} (d : Nat) {m : gh_M} (hK : ∀ (v2 : Int), gh_F m → K9 v2 → gh_T E (gh_yProper_digitOf.cls, prog_8_method_4_code, 3, false, 0) (d + 0) 9 [(0, 2, 58), (1, 0, v1), (2, 0, v2)] [] m (fun r m1 => gh_F m1 ∧ Q r m1)) (v2 : Int) (hF : gh_F m) (h : f_Proper_digitOf_9 v1 Q m K9 v2) : gh_T E (gh_yProper_digitOf.cls, prog_8_method_4_code, 3, false, 0) (d + 0) 9 [(0, 2, 58), (1, 0, v1), (2, 0, v2)] [] m (fun r m1 => gh_F m1 ∧ Q r m1) := by
  have hK9 := hK
  unfold f_Proper_digitOf_9 at h
  refine gh_iload_n gd_Proper_digitOf_9 2 rfl ?_
  refine gh_aload_n gd_Proper_digitOf_10 0 rfl (by decide) ?_
  refine gf_58_7 gd_Proper_digitOf_11 gh_k603 hF rfl ?_
  obtain ⟨J47, hJ47, h⟩ := h
  have hJ47 : gh_F m → J47 → gh_T E (gh_yProper_digitOf.cls, prog_8_method_4_code, 3, false, 0) (d + 0) 47 [(0, 2, 58), (1, 0, v1)] [] m (fun r m1 => gh_F m1 ∧ Q r m1) := by
    intro hF hj
    have h := hJ47 hj
    refine gh_aload_n gd_Proper_digitOf_47 0 rfl (by decide) ?_
    refine gf_58_7 gd_Proper_digitOf_48 gh_k603 hF rfl ?_
    refine gh_aload_n gd_Proper_digitOf_51 0 rfl (by decide) ?_
    refine gf_58_6 gd_Proper_digitOf_52 gh_k602 hF ?_
    refine ll_59 gd_Proper_digitOf_55 hF ?_
    obtain ⟨J79, hJ79, h⟩ := h
    have hJ79 : ∀ (m : gh_M), gh_F m → J79 m → gh_T E (gh_yProper_digitOf.cls, prog_8_method_4_code, 3, false, 0) (d + 0) 79 [(0, 2, 58)] [] m (fun r m1 => gh_F m1 ∧ Q r m1) := by
      intro m hF hj
      have h := hJ79 m hj
      refine gh_bipush gd_Proper_digitOf_79 (by decide) (gh_r0 rfl) ?_
      refine gh_aload_n gd_Proper_digitOf_81 0 rfl (by decide) ?_
      refine gf_58_7 gd_Proper_digitOf_82 gh_k603 hF rfl ?_
      obtain ⟨q2091, h⟩ := h
      refine gh_iadd gd_Proper_digitOf_85 q2091 ?_
      exact gh_ret0 rfl gd_Proper_digitOf_86 ⟨hF, h⟩
    obtain ⟨hA, hB⟩ := h
    refine gh_jge (tgt := 79) gd_Proper_digitOf_56 (by decide) (fun c2092 => ?_) (fun c2092 => ?_)
    · have h := hA c2092
      refine gh_aload_n gd_Proper_digitOf_59 0 rfl (by decide) ?_
      refine gf_58_6 gd_Proper_digitOf_60 gh_k602 hF ?_
      refine gh_aload_n gd_Proper_digitOf_63 0 rfl (by decide) ?_
      refine gf_58_7 gd_Proper_digitOf_64 gh_k603 hF rfl ?_
      refine gh_iload_n gd_Proper_digitOf_67 1 rfl ?_
      obtain ⟨q2093, h⟩ := h
      obtain ⟨q2094, h⟩ := h
      refine sa_59 gd_Proper_digitOf_68 hF q2093 q2094 (fun hF => ?_)
      refine gh_aload_n gd_Proper_digitOf_69 0 rfl (by decide) ?_
      refine gh_dup gd_Proper_digitOf_70 (by decide) ?_
      refine gf_58_7 gd_Proper_digitOf_71 gh_k603 hF (gh_u_a (by decide)) ?_
      refine gh_iconst gd_Proper_digitOf_74 (gh_r0 rfl) ?_
      obtain ⟨q2095, h⟩ := h
      refine gh_iadd gd_Proper_digitOf_75 q2095 ?_
      refine pf_58_7 gd_Proper_digitOf_76 gh_k603 hF (fun hF => ?_)
      refine gh_pick (L2 := [(0, 2, 58)]) [0] rfl ?_
      exact hJ79 (gh_u (gh_u m 59 (m 58 7) v1) 58 7 ((m 58 7) + 1)) hF h
    · have h := hB c2092
      refine gh_pick (L2 := [(0, 2, 58)]) [0] rfl ?_
      exact hJ79 m hF h
  obtain ⟨hA, hB⟩ := h
  have k2096 : ((v2 < (m 58 7)) ∧ (v2 < 80)) → gh_T E (gh_yProper_digitOf.cls, prog_8_method_4_code, 3, false, 0) (d + 0) 26 [(0, 2, 58), (1, 0, v1), (2, 0, v2)] [] m (fun r m1 => gh_F m1 ∧ Q r m1) := by
    intro c
    have h := hA c
    refine gh_aload_n gd_Proper_digitOf_26 0 rfl (by decide) ?_
    refine gf_58_6 gd_Proper_digitOf_27 gh_k602 hF ?_
    refine gh_iload_n gd_Proper_digitOf_30 2 rfl ?_
    obtain ⟨q2098, h⟩ := h
    obtain ⟨q2099, h⟩ := h
    refine la_59 gd_Proper_digitOf_31 hF q2098 q2099 rfl ?_
    refine gh_iload_n gd_Proper_digitOf_32 1 rfl ?_
    obtain ⟨hA, hB⟩ := h
    refine gh_jne (tgt := 41) gd_Proper_digitOf_33 (by decide) (fun c2100 => ?_) (fun c2100 => ?_)
    · have h := hA c2100
      refine gh_bipush gd_Proper_digitOf_36 (by decide) (gh_r0 rfl) ?_
      refine gh_iload_n gd_Proper_digitOf_38 2 rfl ?_
      obtain ⟨q2101, h⟩ := h
      refine gh_iadd gd_Proper_digitOf_39 q2101 ?_
      exact gh_ret0 rfl gd_Proper_digitOf_40 ⟨hF, h⟩
    · have h := hB c2100
      obtain ⟨q2102, h⟩ := h
      refine gh_iinc (L2 := [(2, 0, v2 + 1), (0, 2, 58), (1, 0, v1)]) gd_Proper_digitOf_41 2 rfl q2102 (by decide) rfl ?_
      refine gh_goto (tgt := 9) gd_Proper_digitOf_44 (by decide) ?_
      refine gh_pick (L2 := [(0, 2, 58), (1, 0, v1), (2, 0, v2 + 1)]) [1, 2, 0] rfl ?_
      exact hK9 (v2 + 1) hF h
  have k2097 : ¬ ((v2 < (m 58 7)) ∧ (v2 < 80)) → gh_T E (gh_yProper_digitOf.cls, prog_8_method_4_code, 3, false, 0) (d + 0) 47 [(0, 2, 58), (1, 0, v1), (2, 0, v2)] [] m (fun r m1 => gh_F m1 ∧ Q r m1) := by
    intro c
    have h := hB c
    refine gh_pick (L2 := [(0, 2, 58), (1, 0, v1)]) [0, 1] rfl ?_
    exact hJ47 hF h
  refine gh_jge (tgt := 47) gd_Proper_digitOf_14 (by decide) (fun c2103 => ?_) (fun c2103 => ?_)
  · have hz : True := trivial
    refine gh_iload_n gd_Proper_digitOf_17 2 rfl ?_
    refine gh_aload_n gd_Proper_digitOf_18 0 rfl (by decide) ?_
    refine gf_58_6 gd_Proper_digitOf_19 gh_k602 hF ?_
    refine ll_59 gd_Proper_digitOf_22 hF ?_
    refine gh_jge (tgt := 47) gd_Proper_digitOf_23 (by decide) (fun c2104 => ?_) (fun c2104 => ?_)
    · have hz : True := trivial
      exact k2096 ⟨c2103, c2104⟩
    · have hz : True := trivial
      exact k2097 (fun z => c2104 z.2)
  · have hz : True := trivial
    exact k2097 (fun z => c2103 z.1)
theorem s_Proper_digitOf {E : gh_E} {m : gh_M} {Q : Int → gh_M → Prop} (d : Nat) (v1 : Int) (hF : gh_F m) (h : w_Proper_digitOf v1 m Q) : gh_C E gh_yProper_digitOf prog_8_method_4_code 3 (some .int) 0 (d + 0) [(2, 58), (0, v1)] m (fun r m1 => gh_F m1 ∧ Q r m1) := by
  refine gh_enter2 (L := [(0, 2, 58), (1, 0, v1)]) (by decide +kernel) gh_rt0 (Nat.le_of_ble_eq_true rfl) rfl rfl ?_
  unfold w_Proper_digitOf at h
  refine gh_iload_n gd_Proper_digitOf_0 1 rfl ?_
  obtain ⟨hA, hB⟩ := h
  refine gh_zge (tgt := 7) gd_Proper_digitOf_1 (by decide) (fun c2089 => ?_) (fun c2089 => ?_)
  · have h := hA c2089
    refine gh_iload_n gd_Proper_digitOf_4 1 rfl ?_
    obtain ⟨q2090, h⟩ := h
    refine gh_ineg gd_Proper_digitOf_5 q2090 ?_
    exact gh_ret0 rfl gd_Proper_digitOf_6 ⟨hF, h⟩
  · have h := hB c2089
    refine gh_iconst gd_Proper_digitOf_7 (gh_r0 rfl) ?_
    refine gh_istore_n (L2 := [(2, 0, 0), (0, 2, 58), (1, 0, v1)]) gd_Proper_digitOf_8 (by decide) rfl ?_
    refine gh_pick (L2 := [(0, 2, 58), (1, 0, v1), (2, 0, 0)]) [1, 2, 0] rfl ?_
    exact gh_L1_sound (T := fun v2 => gh_T E (gh_yProper_digitOf.cls, prog_8_method_4_code, 3, false, 0) (d + 0) 9 [(0, 2, 58), (1, 0, v1), (2, 0, v2)] [] m (fun r m1 => gh_F m1 ∧ Q r m1)) (fun _ => gh_F m) (fun K9 v2 hK hF h => b_Proper_digitOf_9 d hK v2 hF h) 0 hF h
def f_Proper_addRow_2 (v1 : Int) (v2 : Int) (Q : Int → gh_M → Prop) (m : gh_M) (K2 : Int → Prop) (v3 : Int) : Prop := ((v3 < (m 58 10) → 0 ≤ v3 ∧ v3 < 320 ∧ (((m 60 v3) = v1 → 0 ≤ v3 ∧ v3 < 320 ∧ 0 ≤ v3 ∧ v3 < 320 ∧ Q 0 (gh_u m 61 v3 (gh_ior_f (m 61 v3) (gh_ishl_f 1 v2)))) ∧ (¬ ((m 60 v3) = v1) → gh_i (v3 + 1) ∧ K2 (v3 + 1)))) ∧ (¬ (v3 < (m 58 10)) → (((m 58 10) < 320 → 0 ≤ m 58 10 ∧ (m 58 10) < 320 ∧ 0 ≤ m 58 10 ∧ (m 58 10) < 320 ∧ gh_i ((m 58 10) + 1) ∧ Q 0 (gh_u (gh_u (gh_u m 60 (m 58 10) v1) 61 (m 58 10) (gh_ishl_f 1 v2)) 58 10 ((m 58 10) + 1))) ∧ (¬ ((m 58 10) < 320) → Q 0 m))))
def w_Proper_addRow (v1 : Int) (v2 : Int) (m : gh_M) (Q : Int → gh_M → Prop) : Prop := gh_L1 (fun K2 v3 => f_Proper_addRow_2 v1 v2 Q m K2 v3) 0
theorem b_Proper_addRow_2 {E : gh_E} {v1 : Int} {v2 : Int} {Q : Int → gh_M → Prop} {K2 : Int → Prop} (d : Nat) {m : gh_M} (hK : ∀ (v3 : Int), gh_F m → K2 v3 → gh_T E (gh_yProper_addRow.cls, prog_8_method_5_code, 4, false, 9) (d + 0) 2 [(0, 2, 58), (1, 0, v1), (2, 0, v2), (3, 0, v3)] [] m (fun r m1 => gh_F m1 ∧ Q r m1)) (v3 : Int) (hF : gh_F m) (h : f_Proper_addRow_2 v1 v2 Q m K2 v3) : gh_T E (gh_yProper_addRow.cls, prog_8_method_5_code, 4, false, 9) (d + 0) 2 [(0, 2, 58), (1, 0, v1), (2, 0, v2), (3, 0, v3)] [] m (fun r m1 => gh_F m1 ∧ Q r m1) := by
  have hK2 := hK
  unfold f_Proper_addRow_2 at h
  refine gh_iload_n gd_Proper_addRow_2 3 rfl ?_
  refine gh_aload_n gd_Proper_addRow_3 0 rfl (by decide) ?_
  refine gf_58_10 gd_Proper_addRow_4 gh_k606 hF rfl ?_
  obtain ⟨hA, hB⟩ := h
  refine gh_jge (tgt := 39) gd_Proper_addRow_7 (by decide) (fun c2105 => ?_) (fun c2105 => ?_)
  · have h := hA c2105
    refine gh_aload_n gd_Proper_addRow_10 0 rfl (by decide) ?_
    refine gf_58_8 gd_Proper_addRow_11 gh_k604 hF ?_
    refine gh_iload_n gd_Proper_addRow_14 3 rfl ?_
    obtain ⟨q2106, h⟩ := h
    obtain ⟨q2107, h⟩ := h
    refine la_60 gd_Proper_addRow_15 hF q2106 q2107 rfl ?_
    refine gh_iload_n gd_Proper_addRow_16 1 rfl ?_
    obtain ⟨hA, hB⟩ := h
    refine gh_jne (tgt := 33) gd_Proper_addRow_17 (by decide) (fun c2108 => ?_) (fun c2108 => ?_)
    · have h := hA c2108
      refine gh_aload_n gd_Proper_addRow_20 0 rfl (by decide) ?_
      refine gf_58_9 gd_Proper_addRow_21 gh_k605 hF ?_
      refine gh_iload_n gd_Proper_addRow_24 3 rfl ?_
      refine gh_dup2 gd_Proper_addRow_25 (by decide) (by decide) ?_
      obtain ⟨q2109, h⟩ := h
      obtain ⟨q2110, h⟩ := h
      refine la_61 gd_Proper_addRow_26 hF q2109 q2110 rfl ?_
      refine gh_iconst gd_Proper_addRow_27 (gh_r0 rfl) ?_
      refine gh_iload_n gd_Proper_addRow_28 2 rfl ?_
      refine gh_ishl gd_Proper_addRow_29 ?_
      refine gh_ior gd_Proper_addRow_30 ?_
      obtain ⟨q2111, h⟩ := h
      obtain ⟨q2112, h⟩ := h
      refine sa_61 gd_Proper_addRow_31 hF q2111 q2112 (fun hF => ?_)
      exact gh_ret9 rfl gd_Proper_addRow_32 ⟨hF, h⟩
    · have h := hB c2108
      obtain ⟨q2113, h⟩ := h
      refine gh_iinc (L2 := [(3, 0, v3 + 1), (0, 2, 58), (1, 0, v1), (2, 0, v2)]) gd_Proper_addRow_33 3 rfl q2113 (by decide) rfl ?_
      refine gh_goto (tgt := 2) gd_Proper_addRow_36 (by decide) ?_
      refine gh_pick (L2 := [(0, 2, 58), (1, 0, v1), (2, 0, v2), (3, 0, v3 + 1)]) [1, 2, 3, 0] rfl ?_
      exact hK2 (v3 + 1) hF h
  · have h := hB c2105
    refine gh_aload_n gd_Proper_addRow_39 0 rfl (by decide) ?_
    refine gf_58_10 gd_Proper_addRow_40 gh_k606 hF rfl ?_
    refine gh_sipush gd_Proper_addRow_43 (by decide) (gh_r0 rfl) ?_
    obtain ⟨hA, hB⟩ := h
    refine gh_jge (tgt := 81) gd_Proper_addRow_46 (by decide) (fun c2114 => ?_) (fun c2114 => ?_)
    · have h := hA c2114
      refine gh_aload_n gd_Proper_addRow_49 0 rfl (by decide) ?_
      refine gf_58_8 gd_Proper_addRow_50 gh_k604 hF ?_
      refine gh_aload_n gd_Proper_addRow_53 0 rfl (by decide) ?_
      refine gf_58_10 gd_Proper_addRow_54 gh_k606 hF rfl ?_
      refine gh_iload_n gd_Proper_addRow_57 1 rfl ?_
      obtain ⟨q2115, h⟩ := h
      obtain ⟨q2116, h⟩ := h
      refine sa_60 gd_Proper_addRow_58 hF q2115 q2116 (fun hF => ?_)
      refine gh_aload_n gd_Proper_addRow_59 0 rfl (by decide) ?_
      refine gf_58_9 gd_Proper_addRow_60 gh_k605 hF ?_
      refine gh_aload_n gd_Proper_addRow_63 0 rfl (by decide) ?_
      refine gf_58_10 gd_Proper_addRow_64 gh_k606 hF (gh_u_a (by decide)) ?_
      refine gh_iconst gd_Proper_addRow_67 (gh_r0 rfl) ?_
      refine gh_iload_n gd_Proper_addRow_68 2 rfl ?_
      refine gh_ishl gd_Proper_addRow_69 ?_
      obtain ⟨q2117, h⟩ := h
      obtain ⟨q2118, h⟩ := h
      refine sa_61 gd_Proper_addRow_70 hF q2117 q2118 (fun hF => ?_)
      refine gh_aload_n gd_Proper_addRow_71 0 rfl (by decide) ?_
      refine gh_dup gd_Proper_addRow_72 (by decide) ?_
      refine gf_58_10 gd_Proper_addRow_73 gh_k606 hF ((gh_u_a (by decide)).trans (gh_u_a (by decide))) ?_
      refine gh_iconst gd_Proper_addRow_76 (gh_r0 rfl) ?_
      obtain ⟨q2119, h⟩ := h
      refine gh_iadd gd_Proper_addRow_77 q2119 ?_
      refine pf_58_10 gd_Proper_addRow_78 gh_k606 hF (fun hF => ?_)
      exact gh_ret9 rfl gd_Proper_addRow_81 ⟨hF, h⟩
    · have h := hB c2114
      exact gh_ret9 rfl gd_Proper_addRow_81 ⟨hF, h⟩
theorem s_Proper_addRow {E : gh_E} {m : gh_M} {Q : Int → gh_M → Prop} (d : Nat) (v1 : Int) (v2 : Int) (hF : gh_F m) (h : w_Proper_addRow v1 v2 m Q) : gh_C E gh_yProper_addRow prog_8_method_5_code 4 none 9 (d + 0) [(2, 58), (0, v1), (0, v2)] m (fun r m1 => gh_F m1 ∧ Q r m1) := by
  refine gh_enter2 (L := [(0, 2, 58), (1, 0, v1), (2, 0, v2)]) (by decide +kernel) gh_rt9 (Nat.le_of_ble_eq_true rfl) rfl rfl ?_
  unfold w_Proper_addRow at h
  refine gh_iconst gd_Proper_addRow_0 (gh_r0 rfl) ?_
  refine gh_istore_n (L2 := [(3, 0, 0), (0, 2, 58), (1, 0, v1), (2, 0, v2)]) gd_Proper_addRow_1 (by decide) rfl ?_
  refine gh_pick (L2 := [(0, 2, 58), (1, 0, v1), (2, 0, v2), (3, 0, 0)]) [1, 2, 3, 0] rfl ?_
  exact gh_L1_sound (T := fun v3 => gh_T E (gh_yProper_addRow.cls, prog_8_method_5_code, 4, false, 9) (d + 0) 2 [(0, 2, 58), (1, 0, v1), (2, 0, v2), (3, 0, v3)] [] m (fun r m1 => gh_F m1 ∧ Q r m1)) (fun _ => gh_F m) (fun K2 v3 hK hF h => b_Proper_addRow_2 d hK v3 hF h) 0 hF h
def f_Proper_addRows_25 (v1 : Int) (v2 : Int) (K2 : Int → gh_M → Prop) (K25 : Int → Int → Int → gh_M → Prop) (v3 : Int) (v4 : Int) (v5 : Int) (m : gh_M) : Prop := 0 ≤ v1 ∧ v1 < 20 ∧ ((v5 < (m 17 v1) → ∃ J117 : Int → Int → gh_M → Prop, (∀ (v3' : Int) (v4' : Int) (m : gh_M), J117 v3' v4' m → gh_i (v5 + 1) ∧ K25 v3' v4' (v5 + 1) m) ∧ (((gh_iand_f (gh_ishr_f v2 v5) 1) = 0 → gh_i (v3 * 128) ∧ k_Grammar_partAt v1 v5 m ∧ w_Proper_digitOf (x_Grammar_partAt v1 v5 m) m (fun r2130 m2131 => gh_i ((v3 * 128) + r2130) ∧ ∀ v3' : Int, v3' = (v3 * 128) + r2130 → J117 v3' v4 m2131)) ∧ (¬ ((gh_iand_f (gh_ishr_f v2 v5) 1) = 0) → k_Grammar_nameAt v1 v5 m ∧ ∀ v6 : Int, v6 = x_Grammar_nameAt v1 v5 m → ∀ v4' : Int, v4' = (if (¬ (v4 = 0) ∧ (¬ (v6 = (-1)) ∧ (¬ ((gh_iand_f (gh_ishr_f (m 20 1) v6) 1) = 0)))) then (1:Int) else 0) → J117 v3 v4' m))) ∧ (¬ (v5 < (m 17 v1)) → ∃ J187 : gh_M → Prop, (∀ (m : gh_M), J187 m → gh_i (v2 + 1) ∧ K2 (v2 + 1) m) ∧ ∃ J164 : Prop, (J164 → ((((v4 = 0) ∨ (v3 ≤ 0)) → J187 m) ∧ (¬ ((v4 = 0) ∨ (v3 ≤ 0)) → 0 ≤ v1 ∧ v1 < 20 ∧ w_Proper_addRow v3 (m 16 v1) m (fun _ m2145 => J187 m2145)))) ∧ ((((v4 = 0) ∨ ((v3 < 1) ∨ (¬ (v3 ≤ 8)))) → J164) ∧ (¬ ((v4 = 0) ∨ ((v3 < 1) ∨ (¬ (v3 ≤ 8)))) → 0 ≤ v1 ∧ v1 < 20 ∧ 0 ≤ m 16 v1 ∧ (m 16 v1) < 8 ∧ gh_i (v3 - 1) ∧ 0 ≤ m 16 v1 ∧ (m 16 v1) < 8 ∧ J187 (gh_u m 62 (m 16 v1) (gh_ior_f (m 62 (m 16 v1)) (gh_ishl_f 1 (v3 - 1))))))))
def f_Proper_addRows_2 (v1 : Int) (Q : Int → gh_M → Prop) (K2 : Int → gh_M → Prop) (v2 : Int) (m : gh_M) : Prop := 0 ≤ v1 ∧ v1 < 20 ∧ ((v2 < (gh_ishl_f 1 (m 17 v1)) → gh_M3 (fun K25 v3 v4 v5 m => f_Proper_addRows_25 v1 v2 K2 K25 v3 v4 v5 m) 0 1 0 m) ∧ (¬ (v2 < (gh_ishl_f 1 (m 17 v1))) → Q 0 m))
def w_Proper_addRows (v1 : Int) (m : gh_M) (Q : Int → gh_M → Prop) : Prop := gh_M1 (fun K2 v2 m => f_Proper_addRows_2 v1 Q K2 v2 m) 0 m
theorem b_Proper_addRows_25 {E : gh_E} {v1 : Int} {v2 : Int} {K2 : Int → gh_M → Prop} {Q : Int → gh_M → Prop} {K25 : Int → Int → Int → gh_M → Prop} (d : Nat) (hK2 : ∀ (v2 : Int) (m : gh_M), gh_F m → K2 v2 m → gh_T E (gh_yProper_addRows.cls, prog_8_method_3_code, 7, false, 9) (d + 2) 2 [(0, 2, 58), (1, 0, v1), (2, 0, v2)] [] m (fun r m1 => gh_F m1 ∧ Q r m1)) (hK : ∀ (v3 : Int) (v4 : Int) (v5 : Int) (m : gh_M), gh_F m → K25 v3 v4 v5 m → gh_T E (gh_yProper_addRows.cls, prog_8_method_3_code, 7, false, 9) (d + 2) 25 [(0, 2, 58), (1, 0, v1), (2, 0, v2), (3, 0, v3), (4, 0, v4), (5, 0, v5)] [] m (fun r m1 => gh_F m1 ∧ Q r m1)) (v3 : Int) (v4 : Int) (v5 : Int) (m : gh_M) (hF : gh_F m) (h : f_Proper_addRows_25 v1 v2 K2 K25 v3 v4 v5 m) : gh_T E (gh_yProper_addRows.cls, prog_8_method_3_code, 7, false, 9) (d + 2) 25 [(0, 2, 58), (1, 0, v1), (2, 0, v2), (3, 0, v3), (4, 0, v4), (5, 0, v5)] [] m (fun r m1 => gh_F m1 ∧ Q r m1) := by
  have hK25 := hK
  unfold f_Proper_addRows_25 at h
  refine gh_iload gd_Proper_addRows_25 5 rfl ?_
  refine gh_aload_n gd_Proper_addRows_27 0 rfl (by decide) ?_
  refine gf_58_0 gd_Proper_addRows_28 gh_k592 hF ?_
  refine gf_13_6 gd_Proper_addRows_31 gh_k284 hF ?_
  refine gh_iload_n gd_Proper_addRows_34 1 rfl ?_
  obtain ⟨q2123, h⟩ := h
  obtain ⟨q2124, h⟩ := h
  refine la_17 gd_Proper_addRows_35 hF q2123 q2124 rfl ?_
  obtain ⟨hA, hB⟩ := h
  refine gh_jge (tgt := 123) gd_Proper_addRows_36 (by decide) (fun c2125 => ?_) (fun c2125 => ?_)
  · have h := hA c2125
    refine gh_iload_n gd_Proper_addRows_39 2 rfl ?_
    refine gh_iload gd_Proper_addRows_40 5 rfl ?_
    refine gh_ishr gd_Proper_addRows_42 ?_
    refine gh_iconst gd_Proper_addRows_43 (gh_r0 rfl) ?_
    refine gh_iand gd_Proper_addRows_44 ?_
    obtain ⟨J117, hJ117, h⟩ := h
    have hJ117 : ∀ (v3' : Int) (v4' : Int) (m : gh_M), gh_F m → J117 v3' v4' m → gh_T E (gh_yProper_addRows.cls, prog_8_method_3_code, 7, false, 9) (d + 2) 117 [(0, 2, 58), (1, 0, v1), (2, 0, v2), (3, 0, v3'), (4, 0, v4'), (5, 0, v5)] [] m (fun r m1 => gh_F m1 ∧ Q r m1) := by
      intro v3' v4' m hF hj
      have h := hJ117 v3' v4' m hj
      obtain ⟨q2126, h⟩ := h
      refine gh_iinc (L2 := [(5, 0, v5 + 1), (0, 2, 58), (1, 0, v1), (2, 0, v2), (3, 0, v3'), (4, 0, v4')]) gd_Proper_addRows_117 5 rfl q2126 (by decide) rfl ?_
      refine gh_goto (tgt := 25) gd_Proper_addRows_120 (by decide) ?_
      refine gh_pick (L2 := [(0, 2, 58), (1, 0, v1), (2, 0, v2), (3, 0, v3'), (4, 0, v4'), (5, 0, v5 + 1)]) [1, 2, 3, 4, 5, 0] rfl ?_
      exact hK25 v3' v4' (v5 + 1) m hF h
    obtain ⟨hA, hB⟩ := h
    refine gh_zne (tgt := 72) gd_Proper_addRows_45 (by decide) (fun c2127 => ?_) (fun c2127 => ?_)
    · have h := hA c2127
      refine gh_iload_n gd_Proper_addRows_48 3 rfl ?_
      refine gh_sipush gd_Proper_addRows_49 (by decide) (gh_r0 rfl) ?_
      obtain ⟨q2128, h⟩ := h
      refine gh_imul gd_Proper_addRows_52 q2128 ?_
      refine gh_aload_n gd_Proper_addRows_53 0 rfl (by decide) ?_
      refine gh_aload_n gd_Proper_addRows_54 0 rfl (by decide) ?_
      refine gf_58_0 gd_Proper_addRows_55 gh_k592 hF ?_
      refine gh_iload_n gd_Proper_addRows_58 1 rfl ?_
      refine gh_iload gd_Proper_addRows_59 5 rfl ?_
      obtain ⟨q2129, h⟩ := h
      refine cv_Grammar_partAt (d := d + 1) gd_Proper_addRows_61 gh_k1316 hF (Nat.le_of_ble_eq_true rfl) (gh_C.pe (e_Grammar_partAt (d + 1) v1 v5 hF q2129) ?_)
      refine cv_Proper_digitOf (d := d + 1) gd_Proper_addRows_64 gh_k1317 hF (Nat.le_of_ble_eq_true rfl) (gh_C.mono (s_Proper_digitOf (d + 1) (x_Grammar_partAt v1 v5 m) hF h) (fun r2130 m2131 hq => ?_))
      obtain ⟨hF, h⟩ := hq
      obtain ⟨q2132, h⟩ := h
      refine gh_iadd gd_Proper_addRows_67 q2132 ?_
      refine gh_name (fun v3' hn => ?_)
      have h := h v3' hn
      refine gh_istore_n (L2 := [(3, 0, v3'), (0, 2, 58), (1, 0, v1), (2, 0, v2), (4, 0, v4), (5, 0, v5)]) gd_Proper_addRows_68 (by decide) rfl ?_
      refine gh_goto (tgt := 117) gd_Proper_addRows_69 (by decide) ?_
      refine gh_pick (L2 := [(0, 2, 58), (1, 0, v1), (2, 0, v2), (3, 0, v3'), (4, 0, v4), (5, 0, v5)]) [1, 2, 3, 0, 4, 5] rfl ?_
      exact hJ117 v3' v4 m2131 hF h
    · have h := hB c2127
      refine gh_aload_n gd_Proper_addRows_72 0 rfl (by decide) ?_
      refine gf_58_0 gd_Proper_addRows_73 gh_k592 hF ?_
      refine gh_iload_n gd_Proper_addRows_76 1 rfl ?_
      refine gh_iload gd_Proper_addRows_77 5 rfl ?_
      obtain ⟨q2133, h⟩ := h
      refine cv_Grammar_nameAt (d := d + 1) gd_Proper_addRows_79 gh_k1321 hF (Nat.le_of_ble_eq_true rfl) (gh_C.pe (e_Grammar_nameAt d v1 v5 hF q2133) ?_)
      refine gh_name (fun v6 hn => ?_)
      have h := h v6 hn
      refine gh_istore (L2 := [(6, 0, v6), (0, 2, 58), (1, 0, v1), (2, 0, v2), (3, 0, v3), (4, 0, v4), (5, 0, v5)]) gd_Proper_addRows_82 (by decide) rfl ?_
      refine gh_iload gd_Proper_addRows_84 5 rfl ?_
      have k2134 : ∀ x2135 : Int, x2135 = (if (¬ (v4 = 0) ∧ (¬ (v6 = (-1)) ∧ (¬ ((gh_iand_f (gh_ishr_f (m 20 1) v6) 1) = 0)))) then (1:Int) else 0) → gh_T E (gh_yProper_addRows.cls, prog_8_method_3_code, 7, false, 9) (d + 2) 115 [(6, 0, v6), (0, 2, 58), (1, 0, v1), (2, 0, v2), (3, 0, v3), (4, 0, v4), (5, 0, v5)] [(0, x2135)] m (fun r m1 => gh_F m1 ∧ Q r m1) := by
        rintro _ rfl
        refine gh_name (fun v4' hn => ?_)
        have h := h v4' hn
        refine gh_istore (L2 := [(4, 0, v4'), (6, 0, v6), (0, 2, 58), (1, 0, v1), (2, 0, v2), (3, 0, v3), (5, 0, v5)]) gd_Proper_addRows_115 (by decide) rfl ?_
        refine gh_pick (L2 := [(0, 2, 58), (1, 0, v1), (2, 0, v2), (3, 0, v3), (4, 0, v4'), (5, 0, v5)]) [2, 3, 4, 5, 0, 6] rfl ?_
        exact hJ117 v3 v4' m hF h
      refine gh_zeq (tgt := 114) gd_Proper_addRows_86 (by decide) (fun c2136 => ?_) (fun c2136 => ?_)
      · have hz : True := trivial
        refine gh_iconst gd_Proper_addRows_114 (gh_r0 rfl) ?_
        exact k2134 _ (if_neg (c := (¬ (v4 = 0) ∧ (¬ (v6 = (-1)) ∧ (¬ ((gh_iand_f (gh_ishr_f (m 20 1) v6) 1) = 0))))) (fun z => z.1 c2136)).symm
      · have hz : True := trivial
        refine gh_iload gd_Proper_addRows_89 0 rfl ?_
        refine gh_iconst gd_Proper_addRows_91 (gh_r0 rfl) ?_
        refine gh_jeq (tgt := 114) gd_Proper_addRows_92 (by decide) (fun c2137 => ?_) (fun c2137 => ?_)
        · have hz : True := trivial
          refine gh_iconst gd_Proper_addRows_114 (gh_r0 rfl) ?_
          exact k2134 _ (if_neg (c := (¬ (v4 = 0) ∧ (¬ (v6 = (-1)) ∧ (¬ ((gh_iand_f (gh_ishr_f (m 20 1) v6) 1) = 0))))) (fun z => (fun z => z.1 c2137) z.2)).symm
        · have hz : True := trivial
          refine gh_aload_n gd_Proper_addRows_95 1 rfl (by decide) ?_
          refine gf_58_1 gd_Proper_addRows_96 gh_k593 hF ?_
          refine gf_20_1 gd_Proper_addRows_99 gh_k320 hF rfl ?_
          refine gh_iload gd_Proper_addRows_102 0 rfl ?_
          refine gh_ishr gd_Proper_addRows_104 ?_
          refine gh_iconst gd_Proper_addRows_105 (gh_r0 rfl) ?_
          refine gh_iand gd_Proper_addRows_106 ?_
          refine gh_zeq (tgt := 114) gd_Proper_addRows_107 (by decide) (fun c2138 => ?_) (fun c2138 => ?_)
          · have hz : True := trivial
            refine gh_iconst gd_Proper_addRows_114 (gh_r0 rfl) ?_
            exact k2134 _ (if_neg (c := (¬ (v4 = 0) ∧ (¬ (v6 = (-1)) ∧ (¬ ((gh_iand_f (gh_ishr_f (m 20 1) v6) 1) = 0))))) (fun z => (fun z => (not_not_intro c2138) z.2) z.2)).symm
          · have hz : True := trivial
            refine gh_iconst gd_Proper_addRows_110 (gh_r0 rfl) ?_
            refine gh_goto (tgt := 115) gd_Proper_addRows_111 (by decide) ?_
            exact k2134 _ (if_pos (c := (¬ (v4 = 0) ∧ (¬ (v6 = (-1)) ∧ (¬ ((gh_iand_f (gh_ishr_f (m 20 1) v6) 1) = 0))))) ⟨c2136, ⟨c2137, c2138⟩⟩).symm
  · have h := hB c2125
    refine gh_iload gd_Proper_addRows_123 4 rfl ?_
    obtain ⟨J187, hJ187, h⟩ := h
    have hJ187 : ∀ (m : gh_M), gh_F m → J187 m → gh_T E (gh_yProper_addRows.cls, prog_8_method_3_code, 7, false, 9) (d + 2) 187 [(0, 2, 58), (1, 0, v1), (2, 0, v2)] [] m (fun r m1 => gh_F m1 ∧ Q r m1) := by
      intro m hF hj
      have h := hJ187 m hj
      obtain ⟨q2139, h⟩ := h
      refine gh_iinc (L2 := [(2, 0, v2 + 1), (0, 2, 58), (1, 0, v1)]) gd_Proper_addRows_187 2 rfl q2139 (by decide) rfl ?_
      refine gh_goto (tgt := 2) gd_Proper_addRows_190 (by decide) ?_
      refine gh_pick (L2 := [(0, 2, 58), (1, 0, v1), (2, 0, v2 + 1)]) [1, 2, 0] rfl ?_
      exact hK2 (v2 + 1) m hF h
    obtain ⟨J164, hJ164, h⟩ := h
    have hJ164 : gh_F m → J164 → gh_T E (gh_yProper_addRows.cls, prog_8_method_3_code, 7, false, 9) (d + 2) 164 [(0, 2, 58), (1, 0, v1), (2, 0, v2), (3, 0, v3), (4, 0, v4)] [] m (fun r m1 => gh_F m1 ∧ Q r m1) := by
      intro hF hj
      have h := hJ164 hj
      refine gh_iload gd_Proper_addRows_164 4 rfl ?_
      obtain ⟨hA, hB⟩ := h
      have k2140 : ((v4 = 0) ∨ (v3 ≤ 0)) → gh_T E (gh_yProper_addRows.cls, prog_8_method_3_code, 7, false, 9) (d + 2) 187 [(0, 2, 58), (1, 0, v1), (2, 0, v2), (3, 0, v3), (4, 0, v4)] [] m (fun r m1 => gh_F m1 ∧ Q r m1) := by
        intro c
        have h := hA c
        refine gh_pick (L2 := [(0, 2, 58), (1, 0, v1), (2, 0, v2)]) [0, 1, 2] rfl ?_
        exact hJ187 m hF h
      have k2141 : ¬ ((v4 = 0) ∨ (v3 ≤ 0)) → gh_T E (gh_yProper_addRows.cls, prog_8_method_3_code, 7, false, 9) (d + 2) 173 [(0, 2, 58), (1, 0, v1), (2, 0, v2), (3, 0, v3), (4, 0, v4)] [] m (fun r m1 => gh_F m1 ∧ Q r m1) := by
        intro c
        have h := hB c
        refine gh_aload_n gd_Proper_addRows_173 0 rfl (by decide) ?_
        refine gh_iload_n gd_Proper_addRows_174 3 rfl ?_
        refine gh_aload_n gd_Proper_addRows_175 0 rfl (by decide) ?_
        refine gf_58_0 gd_Proper_addRows_176 gh_k592 hF ?_
        refine gf_13_5 gd_Proper_addRows_179 gh_k278 hF ?_
        refine gh_iload_n gd_Proper_addRows_182 1 rfl ?_
        obtain ⟨q2142, h⟩ := h
        obtain ⟨q2143, h⟩ := h
        refine la_16 gd_Proper_addRows_183 hF q2142 q2143 rfl ?_
        refine cv_Proper_addRow (d := d + 1) gd_Proper_addRows_184 gh_k1322 hF (Nat.le_of_ble_eq_true rfl) (gh_C.mono (s_Proper_addRow (d + 1) v3 (m 16 v1) hF h) (fun r2144 m2145 hq => ?_))
        obtain ⟨hF, h⟩ := hq
        refine gh_pick (L2 := [(0, 2, 58), (1, 0, v1), (2, 0, v2)]) [0, 1, 2] rfl ?_
        exact hJ187 m2145 hF h
      refine gh_zeq (tgt := 187) gd_Proper_addRows_166 (by decide) (fun c2146 => ?_) (fun c2146 => ?_)
      · have hz : True := trivial
        exact k2140 (Or.inl c2146)
      · have hz : True := trivial
        refine gh_iload_n gd_Proper_addRows_169 3 rfl ?_
        refine gh_zle (tgt := 187) gd_Proper_addRows_170 (by decide) (fun c2147 => ?_) (fun c2147 => ?_)
        · have hz : True := trivial
          exact k2140 (Or.inr c2147)
        · have hz : True := trivial
          exact k2141 (fun z => z.elim c2146 c2147)
    obtain ⟨hA, hB⟩ := h
    have k2148 : ((v4 = 0) ∨ ((v3 < 1) ∨ (¬ (v3 ≤ 8)))) → gh_T E (gh_yProper_addRows.cls, prog_8_method_3_code, 7, false, 9) (d + 2) 164 [(0, 2, 58), (1, 0, v1), (2, 0, v2), (3, 0, v3), (4, 0, v4), (5, 0, v5)] [] m (fun r m1 => gh_F m1 ∧ Q r m1) := by
      intro c
      have h := hA c
      refine gh_pick (L2 := [(0, 2, 58), (1, 0, v1), (2, 0, v2), (3, 0, v3), (4, 0, v4)]) [0, 1, 2, 3, 4] rfl ?_
      exact hJ164 hF h
    have k2149 : ¬ ((v4 = 0) ∨ ((v3 < 1) ∨ (¬ (v3 ≤ 8)))) → gh_T E (gh_yProper_addRows.cls, prog_8_method_3_code, 7, false, 9) (d + 2) 139 [(0, 2, 58), (1, 0, v1), (2, 0, v2), (3, 0, v3), (4, 0, v4), (5, 0, v5)] [] m (fun r m1 => gh_F m1 ∧ Q r m1) := by
      intro c
      have h := hB c
      refine gh_aload_n gd_Proper_addRows_139 0 rfl (by decide) ?_
      refine gf_58_11 gd_Proper_addRows_140 gh_k607 hF ?_
      refine gh_aload_n gd_Proper_addRows_143 0 rfl (by decide) ?_
      refine gf_58_0 gd_Proper_addRows_144 gh_k592 hF ?_
      refine gf_13_5 gd_Proper_addRows_147 gh_k278 hF ?_
      refine gh_iload_n gd_Proper_addRows_150 1 rfl ?_
      obtain ⟨q2150, h⟩ := h
      obtain ⟨q2151, h⟩ := h
      refine la_16 gd_Proper_addRows_151 hF q2150 q2151 rfl ?_
      refine gh_dup2 gd_Proper_addRows_152 (by decide) (by decide) ?_
      obtain ⟨q2152, h⟩ := h
      obtain ⟨q2153, h⟩ := h
      refine la_62 gd_Proper_addRows_153 hF q2152 q2153 rfl ?_
      refine gh_iconst gd_Proper_addRows_154 (gh_r0 rfl) ?_
      refine gh_iload_n gd_Proper_addRows_155 3 rfl ?_
      refine gh_iconst gd_Proper_addRows_156 (gh_r0 rfl) ?_
      obtain ⟨q2154, h⟩ := h
      refine gh_isub gd_Proper_addRows_157 q2154 ?_
      refine gh_ishl gd_Proper_addRows_158 ?_
      refine gh_ior gd_Proper_addRows_159 ?_
      obtain ⟨q2155, h⟩ := h
      obtain ⟨q2156, h⟩ := h
      refine sa_62 gd_Proper_addRows_160 hF q2155 q2156 (fun hF => ?_)
      refine gh_goto (tgt := 187) gd_Proper_addRows_161 (by decide) ?_
      refine gh_pick (L2 := [(0, 2, 58), (1, 0, v1), (2, 0, v2)]) [0, 1, 2] rfl ?_
      exact hJ187 (gh_u m 62 (m 16 v1) (gh_ior_f (m 62 (m 16 v1)) (gh_ishl_f 1 (v3 - 1)))) hF h
    refine gh_zeq (tgt := 164) gd_Proper_addRows_125 (by decide) (fun c2157 => ?_) (fun c2157 => ?_)
    · have hz : True := trivial
      exact k2148 (Or.inl c2157)
    · have hz : True := trivial
      refine gh_iload_n gd_Proper_addRows_128 3 rfl ?_
      refine gh_iconst gd_Proper_addRows_129 (gh_r0 rfl) ?_
      refine gh_jlt (tgt := 164) gd_Proper_addRows_130 (by decide) (fun c2158 => ?_) (fun c2158 => ?_)
      · have hz : True := trivial
        exact k2148 (Or.inr (Or.inl c2158))
      · have hz : True := trivial
        refine gh_iload_n gd_Proper_addRows_133 3 rfl ?_
        refine gh_bipush gd_Proper_addRows_134 (by decide) (gh_r0 rfl) ?_
        refine gh_jgt (tgt := 164) gd_Proper_addRows_136 (by decide) (fun c2159 => ?_) (fun c2159 => ?_)
        · have hz : True := trivial
          exact k2149 (fun z => z.elim c2157 (fun z => z.elim c2158 (not_not_intro c2159)))
        · have hz : True := trivial
          exact k2148 (Or.inr (Or.inr c2159))
theorem b_Proper_addRows_2 {E : gh_E} {v1 : Int} {Q : Int → gh_M → Prop} {K2 : Int → gh_M → Prop} (d : Nat) (hK : ∀ (v2 : Int) (m : gh_M), gh_F m → K2 v2 m → gh_T E (gh_yProper_addRows.cls, prog_8_method_3_code, 7, false, 9) (d + 2) 2 [(0, 2, 58), (1, 0, v1), (2, 0, v2)] [] m (fun r m1 => gh_F m1 ∧ Q r m1)) (v2 : Int) (m : gh_M) (hF : gh_F m) (h : f_Proper_addRows_2 v1 Q K2 v2 m) : gh_T E (gh_yProper_addRows.cls, prog_8_method_3_code, 7, false, 9) (d + 2) 2 [(0, 2, 58), (1, 0, v1), (2, 0, v2)] [] m (fun r m1 => gh_F m1 ∧ Q r m1) := by
  have hK2 := hK
  unfold f_Proper_addRows_2 at h
  refine gh_iload_n gd_Proper_addRows_2 2 rfl ?_
  refine gh_iconst gd_Proper_addRows_3 (gh_r0 rfl) ?_
  refine gh_aload_n gd_Proper_addRows_4 0 rfl (by decide) ?_
  refine gf_58_0 gd_Proper_addRows_5 gh_k592 hF ?_
  refine gf_13_6 gd_Proper_addRows_8 gh_k284 hF ?_
  refine gh_iload_n gd_Proper_addRows_11 1 rfl ?_
  obtain ⟨q2120, h⟩ := h
  obtain ⟨q2121, h⟩ := h
  refine la_17 gd_Proper_addRows_12 hF q2120 q2121 rfl ?_
  refine gh_ishl gd_Proper_addRows_13 ?_
  obtain ⟨hA, hB⟩ := h
  refine gh_jge (tgt := 193) gd_Proper_addRows_14 (by decide) (fun c2122 => ?_) (fun c2122 => ?_)
  · have h := hA c2122
    refine gh_iconst gd_Proper_addRows_17 (gh_r0 rfl) ?_
    refine gh_istore_n (L2 := [(3, 0, 0), (0, 2, 58), (1, 0, v1), (2, 0, v2)]) gd_Proper_addRows_18 (by decide) rfl ?_
    refine gh_iconst gd_Proper_addRows_19 (gh_r0 rfl) ?_
    refine gh_istore (L2 := [(4, 0, 1), (3, 0, 0), (0, 2, 58), (1, 0, v1), (2, 0, v2)]) gd_Proper_addRows_20 (by decide) rfl ?_
    refine gh_iconst gd_Proper_addRows_22 (gh_r0 rfl) ?_
    refine gh_istore (L2 := [(5, 0, 0), (4, 0, 1), (3, 0, 0), (0, 2, 58), (1, 0, v1), (2, 0, v2)]) gd_Proper_addRows_23 (by decide) rfl ?_
    refine gh_pick (L2 := [(0, 2, 58), (1, 0, v1), (2, 0, v2), (3, 0, 0), (4, 0, 1), (5, 0, 0)]) [3, 4, 5, 2, 1, 0] rfl ?_
    exact gh_M3_sound (T := fun v3 v4 v5 m => gh_T E (gh_yProper_addRows.cls, prog_8_method_3_code, 7, false, 9) (d + 2) 25 [(0, 2, 58), (1, 0, v1), (2, 0, v2), (3, 0, v3), (4, 0, v4), (5, 0, v5)] [] m (fun r m1 => gh_F m1 ∧ Q r m1)) (fun _ _ _ m => gh_F m) (fun K25 v3 v4 v5 m hK hF h => b_Proper_addRows_25 d hK2 hK v3 v4 v5 m hF h) 0 1 0 m hF h
  · have h := hB c2122
    exact gh_ret9 rfl gd_Proper_addRows_193 ⟨hF, h⟩
theorem s_Proper_addRows {E : gh_E} {m : gh_M} {Q : Int → gh_M → Prop} (d : Nat) (v1 : Int) (hF : gh_F m) (h : w_Proper_addRows v1 m Q) : gh_C E gh_yProper_addRows prog_8_method_3_code 7 none 9 (d + 2) [(2, 58), (0, v1)] m (fun r m1 => gh_F m1 ∧ Q r m1) := by
  refine gh_enter2 (L := [(0, 2, 58), (1, 0, v1)]) (by decide +kernel) gh_rt9 (Nat.le_of_ble_eq_true rfl) rfl rfl ?_
  unfold w_Proper_addRows at h
  refine gh_iconst gd_Proper_addRows_0 (gh_r0 rfl) ?_
  refine gh_istore_n (L2 := [(2, 0, 0), (0, 2, 58), (1, 0, v1)]) gd_Proper_addRows_1 (by decide) rfl ?_
  refine gh_pick (L2 := [(0, 2, 58), (1, 0, v1), (2, 0, 0)]) [1, 2, 0] rfl ?_
  exact gh_M1_sound (T := fun v2 m => gh_T E (gh_yProper_addRows.cls, prog_8_method_3_code, 7, false, 9) (d + 2) 2 [(0, 2, 58), (1, 0, v1), (2, 0, v2)] [] m (fun r m1 => gh_F m1 ∧ Q r m1)) (fun _ m => gh_F m) (fun K2 v2 m hK hF h => b_Proper_addRows_2 d hK v2 m hF h) 0 m hF h
def f_Facts_closeOver_62_9 (v1 : Int) (v2 : Int) (K2 : Int → gh_M → Prop) (K9 : Int → gh_M → Prop) (v3 : Int) (m : gh_M) : Prop := ((v3 < v1 → 0 ≤ v3 ∧ v3 < 8 ∧ ∃ J33 : gh_M → Prop, (∀ (m : gh_M), J33 m → gh_i (v3 + 1) ∧ K9 (v3 + 1) m) ∧ (((gh_iand_f (gh_ishr_f (m 62 v3) v2) 1) = 0 → J33 m) ∧ (¬ ((gh_iand_f (gh_ishr_f (m 62 v3) v2) 1) = 0) → 0 ≤ v3 ∧ v3 < 8 ∧ 0 ≤ v2 ∧ v2 < 8 ∧ 0 ≤ v3 ∧ v3 < 8 ∧ J33 (gh_u m 62 v3 (gh_ior_f (m 62 v3) (m 62 v2)))))) ∧ (¬ (v3 < v1) → gh_i (v2 + 1) ∧ K2 (v2 + 1) m))
def f_Facts_closeOver_62_2 (v1 : Int) (Q : Int → gh_M → Prop) (K2 : Int → gh_M → Prop) (v2 : Int) (m : gh_M) : Prop := ((v2 < v1 → gh_M1 (fun K9 v3 m => f_Facts_closeOver_62_9 v1 v2 K2 K9 v3 m) 0 m) ∧ (¬ (v2 < v1) → Q 0 m))
def w_Facts_closeOver_62 (v1 : Int) (m : gh_M) (Q : Int → gh_M → Prop) : Prop := gh_M1 (fun K2 v2 m => f_Facts_closeOver_62_2 v1 Q K2 v2 m) 0 m
theorem b_Facts_closeOver_62_9 {E : gh_E} {v1 : Int} {v2 : Int} {K2 : Int → gh_M → Prop} {Q : Int → gh_M → Prop} {K9 : Int → gh_M → Prop} (d : Nat) (hK2 : ∀ (v2 : Int) (m : gh_M), gh_F m → K2 v2 m → gh_T E (gh_yFacts_closeOver.cls, prog_4_method_12_code, 4, false, 9) (d + 0) 2 [(0, 2, 62), (1, 0, v1), (2, 0, v2)] [] m (fun r m1 => gh_F m1 ∧ Q r m1)) (hK : ∀ (v3 : Int) (m : gh_M), gh_F m → K9 v3 m → gh_T E (gh_yFacts_closeOver.cls, prog_4_method_12_code, 4, false, 9) (d + 0) 9 [(0, 2, 62), (1, 0, v1), (2, 0, v2), (3, 0, v3)] [] m (fun r m1 => gh_F m1 ∧ Q r m1)) (v3 : Int) (m : gh_M) (hF : gh_F m) (h : f_Facts_closeOver_62_9 v1 v2 K2 K9 v3 m) : gh_T E (gh_yFacts_closeOver.cls, prog_4_method_12_code, 4, false, 9) (d + 0) 9 [(0, 2, 62), (1, 0, v1), (2, 0, v2), (3, 0, v3)] [] m (fun r m1 => gh_F m1 ∧ Q r m1) := by
  have hK9 := hK
  unfold f_Facts_closeOver_62_9 at h
  refine gh_iload_n gd_Facts_closeOver_9 3 rfl ?_
  refine gh_iload_n gd_Facts_closeOver_10 1 rfl ?_
  obtain ⟨hA, hB⟩ := h
  refine gh_jge (tgt := 39) gd_Facts_closeOver_11 (by decide) (fun c2163 => ?_) (fun c2163 => ?_)
  · have h := hA c2163
    refine gh_aload_n gd_Facts_closeOver_14 0 rfl (by decide) ?_
    refine gh_iload_n gd_Facts_closeOver_15 3 rfl ?_
    obtain ⟨q2164, h⟩ := h
    obtain ⟨q2165, h⟩ := h
    refine la_62 gd_Facts_closeOver_16 hF q2164 q2165 rfl ?_
    refine gh_iload_n gd_Facts_closeOver_17 2 rfl ?_
    refine gh_ishr gd_Facts_closeOver_18 ?_
    refine gh_iconst gd_Facts_closeOver_19 (gh_r0 rfl) ?_
    refine gh_iand gd_Facts_closeOver_20 ?_
    obtain ⟨J33, hJ33, h⟩ := h
    have hJ33 : ∀ (m : gh_M), gh_F m → J33 m → gh_T E (gh_yFacts_closeOver.cls, prog_4_method_12_code, 4, false, 9) (d + 0) 33 [(0, 2, 62), (1, 0, v1), (2, 0, v2), (3, 0, v3)] [] m (fun r m1 => gh_F m1 ∧ Q r m1) := by
      intro m hF hj
      have h := hJ33 m hj
      obtain ⟨q2166, h⟩ := h
      refine gh_iinc (L2 := [(3, 0, v3 + 1), (0, 2, 62), (1, 0, v1), (2, 0, v2)]) gd_Facts_closeOver_33 3 rfl q2166 (by decide) rfl ?_
      refine gh_goto (tgt := 9) gd_Facts_closeOver_36 (by decide) ?_
      refine gh_pick (L2 := [(0, 2, 62), (1, 0, v1), (2, 0, v2), (3, 0, v3 + 1)]) [1, 2, 3, 0] rfl ?_
      exact hK9 (v3 + 1) m hF h
    obtain ⟨hA, hB⟩ := h
    refine gh_zeq (tgt := 33) gd_Facts_closeOver_21 (by decide) (fun c2167 => ?_) (fun c2167 => ?_)
    · have h := hA c2167
      exact hJ33 m hF h
    · have h := hB c2167
      refine gh_aload_n gd_Facts_closeOver_24 0 rfl (by decide) ?_
      refine gh_iload_n gd_Facts_closeOver_25 3 rfl ?_
      refine gh_dup2 gd_Facts_closeOver_26 (by decide) (by decide) ?_
      obtain ⟨q2168, h⟩ := h
      obtain ⟨q2169, h⟩ := h
      refine la_62 gd_Facts_closeOver_27 hF q2168 q2169 rfl ?_
      refine gh_aload_n gd_Facts_closeOver_28 0 rfl (by decide) ?_
      refine gh_iload_n gd_Facts_closeOver_29 2 rfl ?_
      obtain ⟨q2170, h⟩ := h
      obtain ⟨q2171, h⟩ := h
      refine la_62 gd_Facts_closeOver_30 hF q2170 q2171 rfl ?_
      refine gh_ior gd_Facts_closeOver_31 ?_
      obtain ⟨q2172, h⟩ := h
      obtain ⟨q2173, h⟩ := h
      refine sa_62 gd_Facts_closeOver_32 hF q2172 q2173 (fun hF => ?_)
      exact hJ33 (gh_u m 62 v3 (gh_ior_f (m 62 v3) (m 62 v2))) hF h
  · have h := hB c2163
    obtain ⟨q2174, h⟩ := h
    refine gh_iinc (L2 := [(2, 0, v2 + 1), (0, 2, 62), (1, 0, v1), (3, 0, v3)]) gd_Facts_closeOver_39 2 rfl q2174 (by decide) rfl ?_
    refine gh_goto (tgt := 2) gd_Facts_closeOver_42 (by decide) ?_
    refine gh_pick (L2 := [(0, 2, 62), (1, 0, v1), (2, 0, v2 + 1)]) [1, 2, 0] rfl ?_
    exact hK2 (v2 + 1) m hF h
theorem b_Facts_closeOver_62_2 {E : gh_E} {v1 : Int} {Q : Int → gh_M → Prop} {K2 : Int → gh_M → Prop} (d : Nat) (hK : ∀ (v2 : Int) (m : gh_M), gh_F m → K2 v2 m → gh_T E (gh_yFacts_closeOver.cls, prog_4_method_12_code, 4, false, 9) (d + 0) 2 [(0, 2, 62), (1, 0, v1), (2, 0, v2)] [] m (fun r m1 => gh_F m1 ∧ Q r m1)) (v2 : Int) (m : gh_M) (hF : gh_F m) (h : f_Facts_closeOver_62_2 v1 Q K2 v2 m) : gh_T E (gh_yFacts_closeOver.cls, prog_4_method_12_code, 4, false, 9) (d + 0) 2 [(0, 2, 62), (1, 0, v1), (2, 0, v2)] [] m (fun r m1 => gh_F m1 ∧ Q r m1) := by
  have hK2 := hK
  unfold f_Facts_closeOver_62_2 at h
  refine gh_iload_n gd_Facts_closeOver_2 2 rfl ?_
  refine gh_iload_n gd_Facts_closeOver_3 1 rfl ?_
  obtain ⟨hA, hB⟩ := h
  refine gh_jge (tgt := 45) gd_Facts_closeOver_4 (by decide) (fun c2162 => ?_) (fun c2162 => ?_)
  · have h := hA c2162
    refine gh_iconst gd_Facts_closeOver_7 (gh_r0 rfl) ?_
    refine gh_istore_n (L2 := [(3, 0, 0), (0, 2, 62), (1, 0, v1), (2, 0, v2)]) gd_Facts_closeOver_8 (by decide) rfl ?_
    refine gh_pick (L2 := [(0, 2, 62), (1, 0, v1), (2, 0, v2), (3, 0, 0)]) [1, 2, 3, 0] rfl ?_
    exact gh_M1_sound (T := fun v3 m => gh_T E (gh_yFacts_closeOver.cls, prog_4_method_12_code, 4, false, 9) (d + 0) 9 [(0, 2, 62), (1, 0, v1), (2, 0, v2), (3, 0, v3)] [] m (fun r m1 => gh_F m1 ∧ Q r m1)) (fun _ m => gh_F m) (fun K9 v3 m hK hF h => b_Facts_closeOver_62_9 d hK2 hK v3 m hF h) 0 m hF h
  · have h := hB c2162
    exact gh_ret9 rfl gd_Facts_closeOver_45 ⟨hF, h⟩
theorem s_Facts_closeOver_62 {E : gh_E} {m : gh_M} {Q : Int → gh_M → Prop} (d : Nat) (v1 : Int) (hF : gh_F m) (h : w_Facts_closeOver_62 v1 m Q) : gh_C E gh_yFacts_closeOver prog_4_method_12_code 4 none 9 (d + 0) [(2, 62), (0, v1)] m (fun r m1 => gh_F m1 ∧ Q r m1) := by
  refine gh_enter2 (L := [(0, 2, 62), (1, 0, v1)]) (by decide +kernel) gh_rt9 (Nat.le_of_ble_eq_true rfl) rfl rfl ?_
  unfold w_Facts_closeOver_62 at h
  refine gh_iconst gd_Facts_closeOver_0 (gh_r0 rfl) ?_
  refine gh_istore_n (L2 := [(2, 0, 0), (0, 2, 62), (1, 0, v1)]) gd_Facts_closeOver_1 (by decide) rfl ?_
  refine gh_pick (L2 := [(0, 2, 62), (1, 0, v1), (2, 0, 0)]) [1, 2, 0] rfl ?_
  exact gh_M1_sound (T := fun v2 m => gh_T E (gh_yFacts_closeOver.cls, prog_4_method_12_code, 4, false, 9) (d + 0) 2 [(0, 2, 62), (1, 0, v1), (2, 0, v2)] [] m (fun r m1 => gh_F m1 ∧ Q r m1)) (fun _ m => gh_F m) (fun K2 v2 m hK hF h => b_Facts_closeOver_62_2 d hK v2 m hF h) 0 m hF h
def f_Proper_shareRows_33 (v1 : Int) (v2 : Int) (K16 : Int → gh_M → Prop) (K33 : Int → gh_M → Prop) (v3 : Int) (m : gh_M) : Prop := ((v3 < (m 13 1) → 0 ≤ v3 ∧ v3 < 8 ∧ ∃ J67 : gh_M → Prop, (∀ (m : gh_M), J67 m → gh_i (v3 + 1) ∧ K33 (v3 + 1) m) ∧ (((gh_iand_f (m 62 v3) v2) = 0 → J67 m) ∧ (¬ ((gh_iand_f (m 62 v3) v2) = 0) → 0 ≤ v1 ∧ v1 < 320 ∧ 0 ≤ v1 ∧ v1 < 320 ∧ J67 (gh_u m 61 v1 (gh_ior_f (m 61 v1) (gh_ishl_f 1 v3)))))) ∧ (¬ (v3 < (m 13 1)) → gh_i (v1 + 1) ∧ K16 (v1 + 1) m))
def f_Proper_shareRows_16 (Q : Int → gh_M → Prop) (K16 : Int → gh_M → Prop) (v1 : Int) (m : gh_M) : Prop := ((v1 < (m 58 10) → 0 ≤ v1 ∧ v1 < 320 ∧ ∀ v2 : Int, v2 = m 61 v1 → gh_M1 (fun K33 v3 m => f_Proper_shareRows_33 v1 v2 K16 K33 v3 m) 0 m) ∧ (¬ (v1 < (m 58 10)) → Q 0 m))
def w_Proper_shareRows (m : gh_M) (Q : Int → gh_M → Prop) : Prop := w_Facts_closeOver_62 (m 13 1) m (fun _ m2161 => gh_M1 (fun K16 v1 m => f_Proper_shareRows_16 Q K16 v1 m) 0 m2161)
theorem b_Proper_shareRows_33 {E : gh_E} {v1 : Int} {v2 : Int} {K16 : Int → gh_M → Prop} {Q : Int → gh_M → Prop} {K33 : Int → gh_M → Prop} (d : Nat) (hK16 : ∀ (v1 : Int) (m : gh_M), gh_F m → K16 v1 m → gh_T E (gh_yProper_shareRows.cls, prog_8_method_6_code, 4, false, 9) (d + 1) 16 [(0, 2, 58), (1, 0, v1)] [] m (fun r m1 => gh_F m1 ∧ Q r m1)) (hK : ∀ (v3 : Int) (m : gh_M), gh_F m → K33 v3 m → gh_T E (gh_yProper_shareRows.cls, prog_8_method_6_code, 4, false, 9) (d + 1) 33 [(0, 2, 58), (1, 0, v1), (2, 0, v2), (3, 0, v3)] [] m (fun r m1 => gh_F m1 ∧ Q r m1)) (v3 : Int) (m : gh_M) (hF : gh_F m) (h : f_Proper_shareRows_33 v1 v2 K16 K33 v3 m) : gh_T E (gh_yProper_shareRows.cls, prog_8_method_6_code, 4, false, 9) (d + 1) 33 [(0, 2, 58), (1, 0, v1), (2, 0, v2), (3, 0, v3)] [] m (fun r m1 => gh_F m1 ∧ Q r m1) := by
  have hK33 := hK
  unfold f_Proper_shareRows_33 at h
  refine gh_iload_n gd_Proper_shareRows_33 3 rfl ?_
  refine gh_aload_n gd_Proper_shareRows_34 0 rfl (by decide) ?_
  refine gf_58_0 gd_Proper_shareRows_35 gh_k592 hF ?_
  refine gf_13_1 gd_Proper_shareRows_38 gh_k261 hF rfl ?_
  obtain ⟨hA, hB⟩ := h
  refine gh_jge (tgt := 73) gd_Proper_shareRows_41 (by decide) (fun c2178 => ?_) (fun c2178 => ?_)
  · have h := hA c2178
    refine gh_aload_n gd_Proper_shareRows_44 0 rfl (by decide) ?_
    refine gf_58_11 gd_Proper_shareRows_45 gh_k607 hF ?_
    refine gh_iload_n gd_Proper_shareRows_48 3 rfl ?_
    obtain ⟨q2179, h⟩ := h
    obtain ⟨q2180, h⟩ := h
    refine la_62 gd_Proper_shareRows_49 hF q2179 q2180 rfl ?_
    refine gh_iload_n gd_Proper_shareRows_50 2 rfl ?_
    refine gh_iand gd_Proper_shareRows_51 ?_
    obtain ⟨J67, hJ67, h⟩ := h
    have hJ67 : ∀ (m : gh_M), gh_F m → J67 m → gh_T E (gh_yProper_shareRows.cls, prog_8_method_6_code, 4, false, 9) (d + 1) 67 [(0, 2, 58), (1, 0, v1), (2, 0, v2), (3, 0, v3)] [] m (fun r m1 => gh_F m1 ∧ Q r m1) := by
      intro m hF hj
      have h := hJ67 m hj
      obtain ⟨q2181, h⟩ := h
      refine gh_iinc (L2 := [(3, 0, v3 + 1), (0, 2, 58), (1, 0, v1), (2, 0, v2)]) gd_Proper_shareRows_67 3 rfl q2181 (by decide) rfl ?_
      refine gh_goto (tgt := 33) gd_Proper_shareRows_70 (by decide) ?_
      refine gh_pick (L2 := [(0, 2, 58), (1, 0, v1), (2, 0, v2), (3, 0, v3 + 1)]) [1, 2, 3, 0] rfl ?_
      exact hK33 (v3 + 1) m hF h
    obtain ⟨hA, hB⟩ := h
    refine gh_zeq (tgt := 67) gd_Proper_shareRows_52 (by decide) (fun c2182 => ?_) (fun c2182 => ?_)
    · have h := hA c2182
      exact hJ67 m hF h
    · have h := hB c2182
      refine gh_aload_n gd_Proper_shareRows_55 0 rfl (by decide) ?_
      refine gf_58_9 gd_Proper_shareRows_56 gh_k605 hF ?_
      refine gh_iload_n gd_Proper_shareRows_59 1 rfl ?_
      refine gh_dup2 gd_Proper_shareRows_60 (by decide) (by decide) ?_
      obtain ⟨q2183, h⟩ := h
      obtain ⟨q2184, h⟩ := h
      refine la_61 gd_Proper_shareRows_61 hF q2183 q2184 rfl ?_
      refine gh_iconst gd_Proper_shareRows_62 (gh_r0 rfl) ?_
      refine gh_iload_n gd_Proper_shareRows_63 3 rfl ?_
      refine gh_ishl gd_Proper_shareRows_64 ?_
      refine gh_ior gd_Proper_shareRows_65 ?_
      obtain ⟨q2185, h⟩ := h
      obtain ⟨q2186, h⟩ := h
      refine sa_61 gd_Proper_shareRows_66 hF q2185 q2186 (fun hF => ?_)
      exact hJ67 (gh_u m 61 v1 (gh_ior_f (m 61 v1) (gh_ishl_f 1 v3))) hF h
  · have h := hB c2178
    obtain ⟨q2187, h⟩ := h
    refine gh_iinc (L2 := [(1, 0, v1 + 1), (0, 2, 58), (2, 0, v2), (3, 0, v3)]) gd_Proper_shareRows_73 1 rfl q2187 (by decide) rfl ?_
    refine gh_goto (tgt := 16) gd_Proper_shareRows_76 (by decide) ?_
    refine gh_pick (L2 := [(0, 2, 58), (1, 0, v1 + 1)]) [1, 0] rfl ?_
    exact hK16 (v1 + 1) m hF h
theorem b_Proper_shareRows_16 {E : gh_E} {Q : Int → gh_M → Prop} {K16 : Int → gh_M → Prop} (d : Nat) (hK : ∀ (v1 : Int) (m : gh_M), gh_F m → K16 v1 m → gh_T E (gh_yProper_shareRows.cls, prog_8_method_6_code, 4, false, 9) (d + 1) 16 [(0, 2, 58), (1, 0, v1)] [] m (fun r m1 => gh_F m1 ∧ Q r m1)) (v1 : Int) (m : gh_M) (hF : gh_F m) (h : f_Proper_shareRows_16 Q K16 v1 m) : gh_T E (gh_yProper_shareRows.cls, prog_8_method_6_code, 4, false, 9) (d + 1) 16 [(0, 2, 58), (1, 0, v1)] [] m (fun r m1 => gh_F m1 ∧ Q r m1) := by
  have hK16 := hK
  unfold f_Proper_shareRows_16 at h
  refine gh_iload_n gd_Proper_shareRows_16 1 rfl ?_
  refine gh_aload_n gd_Proper_shareRows_17 0 rfl (by decide) ?_
  refine gf_58_10 gd_Proper_shareRows_18 gh_k606 hF rfl ?_
  obtain ⟨hA, hB⟩ := h
  refine gh_jge (tgt := 79) gd_Proper_shareRows_21 (by decide) (fun c2175 => ?_) (fun c2175 => ?_)
  · have h := hA c2175
    refine gh_aload_n gd_Proper_shareRows_24 0 rfl (by decide) ?_
    refine gf_58_9 gd_Proper_shareRows_25 gh_k605 hF ?_
    refine gh_iload_n gd_Proper_shareRows_28 1 rfl ?_
    obtain ⟨q2176, h⟩ := h
    obtain ⟨q2177, h⟩ := h
    refine la_61 gd_Proper_shareRows_29 hF q2176 q2177 rfl ?_
    refine gh_name (fun v2 hn => ?_)
    have h := h v2 hn
    refine gh_istore_n (L2 := [(2, 0, v2), (0, 2, 58), (1, 0, v1)]) gd_Proper_shareRows_30 (by decide) rfl ?_
    refine gh_iconst gd_Proper_shareRows_31 (gh_r0 rfl) ?_
    refine gh_istore_n (L2 := [(3, 0, 0), (2, 0, v2), (0, 2, 58), (1, 0, v1)]) gd_Proper_shareRows_32 (by decide) rfl ?_
    refine gh_pick (L2 := [(0, 2, 58), (1, 0, v1), (2, 0, v2), (3, 0, 0)]) [2, 3, 1, 0] rfl ?_
    exact gh_M1_sound (T := fun v3 m => gh_T E (gh_yProper_shareRows.cls, prog_8_method_6_code, 4, false, 9) (d + 1) 33 [(0, 2, 58), (1, 0, v1), (2, 0, v2), (3, 0, v3)] [] m (fun r m1 => gh_F m1 ∧ Q r m1)) (fun _ m => gh_F m) (fun K33 v3 m hK hF h => b_Proper_shareRows_33 d hK16 hK v3 m hF h) 0 m hF h
  · have h := hB c2175
    exact gh_ret9 rfl gd_Proper_shareRows_79 ⟨hF, h⟩
theorem s_Proper_shareRows {E : gh_E} {m : gh_M} {Q : Int → gh_M → Prop} (d : Nat) (hF : gh_F m) (h : w_Proper_shareRows m Q) : gh_C E gh_yProper_shareRows prog_8_method_6_code 4 none 9 (d + 1) [(2, 58)] m (fun r m1 => gh_F m1 ∧ Q r m1) := by
  refine gh_enter2 (L := [(0, 2, 58)]) (by decide +kernel) gh_rt9 (Nat.le_of_ble_eq_true rfl) rfl rfl ?_
  unfold w_Proper_shareRows at h
  refine gh_aload_n gd_Proper_shareRows_0 0 rfl (by decide) ?_
  refine gf_58_11 gd_Proper_shareRows_1 gh_k607 hF ?_
  refine gh_aload_n gd_Proper_shareRows_4 0 rfl (by decide) ?_
  refine gf_58_0 gd_Proper_shareRows_5 gh_k592 hF ?_
  refine gf_13_1 gd_Proper_shareRows_8 gh_k261 hF rfl ?_
  refine cv_Facts_closeOver (d := d) gd_Proper_shareRows_11 gh_k1330 (Nat.le_of_ble_eq_true rfl) (gh_C.mono (s_Facts_closeOver_62 d (m 13 1) hF h) (fun r2160 m2161 hq => ?_))
  obtain ⟨hF, h⟩ := hq
  refine gh_iconst gd_Proper_shareRows_14 (gh_r0 rfl) ?_
  refine gh_istore_n (L2 := [(1, 0, 0), (0, 2, 58)]) gd_Proper_shareRows_15 (by decide) rfl ?_
  refine gh_pick (L2 := [(0, 2, 58), (1, 0, 0)]) [1, 0] rfl ?_
  exact gh_M1_sound (T := fun v1 m => gh_T E (gh_yProper_shareRows.cls, prog_8_method_6_code, 4, false, 9) (d + 1) 16 [(0, 2, 58), (1, 0, v1)] [] m (fun r m1 => gh_F m1 ∧ Q r m1)) (fun _ m => gh_F m) (fun K16 v1 m hK hF h => b_Proper_shareRows_16 d hK v1 m hF h) 0 m2161 hF h
def f_Proper_namesIn_4 (Q : Int → Prop) (m : gh_M) (K4 : Int → Int → Prop) (v1 : Int) (v2 : Int) : Prop := ((v2 ≤ 0 → Q v1) ∧ (¬ (v2 ≤ 0) → 0 ≤ v2 ∧ ∀ v3 : Int, v3 = v2 % 128 → ((¬ (v3 < 1) → (((v3 ≤ 8) → (gh_i (v3 - 1)))))) ∧ ∀ v1' : Int, v1' = gh_ior_f v1 (if v3 < 1 then 0 else (if v3 ≤ 8 then (gh_ishl_f 1 (v3 - 1)) else 0)) → 0 ≤ v2 ∧ ∀ v2' : Int, v2' = v2 / 128 → K4 v1' v2'))
def w_Proper_namesIn (v0 : Int) (m : gh_M) (Q : Int → Prop) : Prop := gh_L2 (fun K4 v1 v2 => f_Proper_namesIn_4 Q m K4 v1 v2) 0 v0
theorem b_Proper_namesIn_4 {E : gh_E} {Q : Int → Prop} {K4 : Int → Int → Prop} (d : Nat) {m : gh_M} (hK : ∀ (v1 : Int) (v2 : Int), gh_F m → K4 v1 v2 → gh_T E (gh_yProper_namesIn.cls, prog_8_method_8_code, 4, false, 0) (d + 0) 4 [(1, 0, v1), (2, 0, v2)] [] m (fun r m1 => m1 = m ∧ Q r)) (v1 : Int) (v2 : Int) (hF : gh_F m) (h : f_Proper_namesIn_4 Q m K4 v1 v2) : gh_T E (gh_yProper_namesIn.cls, prog_8_method_8_code, 4, false, 0) (d + 0) 4 [(1, 0, v1), (2, 0, v2)] [] m (fun r m1 => m1 = m ∧ Q r) := by
  have hK4 := hK
  unfold f_Proper_namesIn_4 at h
  refine gh_iload_n gd_Proper_namesIn_4 1 rfl ?_
  obtain ⟨hA, hB⟩ := h
  refine gh_zle (tgt := 46) gd_Proper_namesIn_5 (by decide) (fun c2188 => ?_) (fun c2188 => ?_)
  · have h := hA c2188
    refine gh_iload_n gd_Proper_namesIn_46 0 rfl ?_
    exact gh_ret0 rfl gd_Proper_namesIn_47 ⟨rfl, h⟩
  · have h := hB c2188
    refine gh_iload_n gd_Proper_namesIn_8 1 rfl ?_
    refine gh_sipush gd_Proper_namesIn_9 (by decide) (gh_r0 rfl) ?_
    obtain ⟨q2189, h⟩ := h
    refine gh_irem gd_Proper_namesIn_12 q2189 (by decide) ?_
    refine gh_name (fun v3 hn => ?_)
    have h := h v3 hn
    refine gh_istore_n (L2 := [(3, 0, v3), (1, 0, v1), (2, 0, v2)]) gd_Proper_namesIn_13 (by decide) rfl ?_
    refine gh_iload_n gd_Proper_namesIn_14 1 rfl ?_
    refine gh_iload_n gd_Proper_namesIn_15 0 rfl ?_
    refine gh_iconst gd_Proper_namesIn_16 (gh_r0 rfl) ?_
    obtain ⟨hk, h⟩ := h
    have k2191 : ∀ x2192 : Int, x2192 = (if v3 < 1 then 0 else (if v3 ≤ 8 then (gh_ishl_f 1 (v3 - 1)) else 0)) → gh_T E (gh_yProper_namesIn.cls, prog_8_method_8_code, 4, false, 0) (d + 0) 35 [(3, 0, v3), (1, 0, v1), (2, 0, v2)] [(0, x2192), (0, v1)] m (fun r m1 => m1 = m ∧ Q r) := by
      rintro _ rfl
      refine gh_ior gd_Proper_namesIn_35 ?_
      refine gh_name (fun v1' hn => ?_)
      have h := h v1' hn
      refine gh_istore_n (L2 := [(1, 0, v1'), (3, 0, v3), (2, 0, v2)]) gd_Proper_namesIn_36 (by decide) rfl ?_
      refine gh_iload_n gd_Proper_namesIn_37 2 rfl ?_
      refine gh_sipush gd_Proper_namesIn_38 (by decide) (gh_r0 rfl) ?_
      obtain ⟨q2193, h⟩ := h
      refine gh_idiv gd_Proper_namesIn_41 q2193 (by decide) ?_
      refine gh_name (fun v2' hn => ?_)
      have h := h v2' hn
      refine gh_istore_n (L2 := [(2, 0, v2'), (1, 0, v1'), (3, 0, v3)]) gd_Proper_namesIn_42 (by decide) rfl ?_
      refine gh_goto (tgt := 4) gd_Proper_namesIn_43 (by decide) ?_
      refine gh_pick (L2 := [(1, 0, v1'), (2, 0, v2')]) [1, 0] rfl ?_
      exact hK4 v1' v2' hF h
    refine gh_jlt (tgt := 34) gd_Proper_namesIn_17 (by decide) (fun c2194 => ?_) (fun c2194 => ?_)
    · have hz : True := trivial
      refine gh_iconst gd_Proper_namesIn_34 (gh_r0 rfl) ?_
      exact k2191 _ (by rw [if_pos c2194])
    · have hz : True := trivial
      have hk := hk c2194
      refine gh_iload_n gd_Proper_namesIn_20 0 rfl ?_
      refine gh_bipush gd_Proper_namesIn_21 (by decide) (gh_r0 rfl) ?_
      refine gh_jgt (tgt := 34) gd_Proper_namesIn_23 (by decide) (fun c2195 => ?_) (fun c2195 => ?_)
      · have hz : True := trivial
        have hk := hk c2195
        refine gh_iconst gd_Proper_namesIn_26 (gh_r0 rfl) ?_
        refine gh_iload_n gd_Proper_namesIn_27 0 rfl ?_
        refine gh_iconst gd_Proper_namesIn_28 (gh_r0 rfl) ?_
        have q2190 := hk
        refine gh_isub gd_Proper_namesIn_29 q2190 ?_
        refine gh_ishl gd_Proper_namesIn_30 ?_
        refine gh_goto (tgt := 35) gd_Proper_namesIn_31 (by decide) ?_
        exact k2191 _ (by rw [if_neg c2194, if_pos c2195])
      · have hz : True := trivial
        refine gh_iconst gd_Proper_namesIn_34 (gh_r0 rfl) ?_
        exact k2191 _ (by rw [if_neg c2194, if_neg c2195])
theorem s_Proper_namesIn {E : gh_E} {m : gh_M} {Q : Int → Prop} (d : Nat) (v0 : Int) (hF : gh_F m) (h : w_Proper_namesIn v0 m Q) : gh_C E gh_yProper_namesIn prog_8_method_8_code 4 (some .int) 0 (d + 0) [(0, v0)] m (fun r m1 => m1 = m ∧ Q r) := by
  refine gh_enter2 (L := [(0, 0, v0)]) (by decide +kernel) gh_rt0 (Nat.le_of_ble_eq_true rfl) rfl rfl ?_
  unfold w_Proper_namesIn at h
  refine gh_iconst gd_Proper_namesIn_0 (gh_r0 rfl) ?_
  refine gh_istore_n (L2 := [(1, 0, 0), (0, 0, v0)]) gd_Proper_namesIn_1 (by decide) rfl ?_
  refine gh_iload_n gd_Proper_namesIn_2 1 rfl ?_
  refine gh_istore_n (L2 := [(2, 0, v0), (1, 0, 0), (0, 0, v0)]) gd_Proper_namesIn_3 (by decide) rfl ?_
  refine gh_pick (L2 := [(1, 0, 0), (2, 0, v0)]) [1, 0] rfl ?_
  exact gh_L2_sound (T := fun v1 v2 => gh_T E (gh_yProper_namesIn.cls, prog_8_method_8_code, 4, false, 0) (d + 0) 4 [(1, 0, v1), (2, 0, v2)] [] m (fun r m1 => m1 = m ∧ Q r)) (fun _ _ => gh_F m) (fun K4 v1 v2 hK hF h => b_Proper_namesIn_4 d hK v1 v2 hF h) 0 v0 hF h
def f_Proper_lengthOf_4 (Q : Int → Prop) (m : gh_M) (K4 : Int → Int → Prop) (v1 : Int) (v2 : Int) : Prop := ((v2 ≤ 0 → Q v1) ∧ (¬ (v2 ≤ 0) → gh_i (v1 + 1) ∧ 0 ≤ v2 ∧ ∀ v2' : Int, v2' = v2 / 128 → K4 (v1 + 1) v2'))
def w_Proper_lengthOf (v0 : Int) (m : gh_M) (Q : Int → Prop) : Prop := gh_L2 (fun K4 v1 v2 => f_Proper_lengthOf_4 Q m K4 v1 v2) 0 v0
theorem b_Proper_lengthOf_4 {E : gh_E} {Q : Int → Prop} {K4 : Int → Int → Prop} (d : Nat) {m : gh_M} (hK : ∀ (v1 : Int) (v2 : Int), gh_F m → K4 v1 v2 → gh_T E (gh_yProper_lengthOf.cls, prog_8_method_9_code, 3, false, 0) (d + 0) 4 [(1, 0, v1), (2, 0, v2)] [] m (fun r m1 => m1 = m ∧ Q r)) (v1 : Int) (v2 : Int) (hF : gh_F m) (h : f_Proper_lengthOf_4 Q m K4 v1 v2) : gh_T E (gh_yProper_lengthOf.cls, prog_8_method_9_code, 3, false, 0) (d + 0) 4 [(1, 0, v1), (2, 0, v2)] [] m (fun r m1 => m1 = m ∧ Q r) := by
  have hK4 := hK
  unfold f_Proper_lengthOf_4 at h
  refine gh_iload_n gd_Proper_lengthOf_4 1 rfl ?_
  obtain ⟨hA, hB⟩ := h
  refine gh_zle (tgt := 20) gd_Proper_lengthOf_5 (by decide) (fun c2196 => ?_) (fun c2196 => ?_)
  · have h := hA c2196
    refine gh_iload_n gd_Proper_lengthOf_20 0 rfl ?_
    exact gh_ret0 rfl gd_Proper_lengthOf_21 ⟨rfl, h⟩
  · have h := hB c2196
    obtain ⟨q2197, h⟩ := h
    refine gh_iinc (L2 := [(1, 0, v1 + 1), (2, 0, v2)]) gd_Proper_lengthOf_8 0 rfl q2197 (by decide) rfl ?_
    refine gh_iload_n gd_Proper_lengthOf_11 1 rfl ?_
    refine gh_sipush gd_Proper_lengthOf_12 (by decide) (gh_r0 rfl) ?_
    obtain ⟨q2198, h⟩ := h
    refine gh_idiv gd_Proper_lengthOf_15 q2198 (by decide) ?_
    refine gh_name (fun v2' hn => ?_)
    have h := h v2' hn
    refine gh_istore_n (L2 := [(2, 0, v2'), (1, 0, v1 + 1)]) gd_Proper_lengthOf_16 (by decide) rfl ?_
    refine gh_goto (tgt := 4) gd_Proper_lengthOf_17 (by decide) ?_
    refine gh_pick (L2 := [(1, 0, v1 + 1), (2, 0, v2')]) [1, 0] rfl ?_
    exact hK4 (v1 + 1) v2' hF h
theorem s_Proper_lengthOf {E : gh_E} {m : gh_M} {Q : Int → Prop} (d : Nat) (v0 : Int) (hF : gh_F m) (h : w_Proper_lengthOf v0 m Q) : gh_C E gh_yProper_lengthOf prog_8_method_9_code 3 (some .int) 0 (d + 0) [(0, v0)] m (fun r m1 => m1 = m ∧ Q r) := by
  refine gh_enter2 (L := [(0, 0, v0)]) (by decide +kernel) gh_rt0 (Nat.le_of_ble_eq_true rfl) rfl rfl ?_
  unfold w_Proper_lengthOf at h
  refine gh_iconst gd_Proper_lengthOf_0 (gh_r0 rfl) ?_
  refine gh_istore_n (L2 := [(1, 0, 0), (0, 0, v0)]) gd_Proper_lengthOf_1 (by decide) rfl ?_
  refine gh_iload_n gd_Proper_lengthOf_2 1 rfl ?_
  refine gh_istore_n (L2 := [(2, 0, v0), (1, 0, 0), (0, 0, v0)]) gd_Proper_lengthOf_3 (by decide) rfl ?_
  refine gh_pick (L2 := [(1, 0, 0), (2, 0, v0)]) [1, 0] rfl ?_
  exact gh_L2_sound (T := fun v1 v2 => gh_T E (gh_yProper_lengthOf.cls, prog_8_method_9_code, 3, false, 0) (d + 0) 4 [(1, 0, v1), (2, 0, v2)] [] m (fun r m1 => m1 = m ∧ Q r)) (fun _ _ => gh_F m) (fun K4 v1 v2 hK hF h => b_Proper_lengthOf_4 d hK v1 v2 hF h) 0 v0 hF h
def f_Proper_countUseful_17 (v2 : Int) (K4 : Int → Int → Prop) (m : gh_M) (K17 : Int → Int → Prop) (v1 : Int) (v3 : Int) : Prop := ((v3 < (m 58 10) → 0 ≤ v3 ∧ v3 < 320 ∧ w_Proper_namesIn (m 60 v3) m (fun r2203 => ((((gh_iand_f r2203 (gh_ixor_f v1 (-1))) = 0) → (0 ≤ v3 ∧ v3 < 320))) ∧ ∀ v1' : Int, v1' = gh_ior_f v1 (if (gh_iand_f r2203 (gh_ixor_f v1 (-1))) = 0 then (m 61 v3) else 0) → gh_i (v3 + 1) ∧ K17 v1' (v3 + 1))) ∧ (¬ (v3 < (m 58 10)) → gh_i (v2 + 1) ∧ K4 v1 (v2 + 1)))
def f_Proper_countUseful_86 (v1 : Int) (v3 : Int) (K72 : Int → Int → Prop) (m : gh_M) (K86 : Int → Int → Prop) (v2 : Int) (v4 : Int) : Prop := ((v4 < (m 58 10) → 0 ≤ v4 ∧ v4 < 320 ∧ w_Proper_namesIn (m 60 v4) m (fun r2216 => ((((gh_iand_f r2216 (gh_ixor_f v1 (-1))) = 0) → (0 ≤ v4 ∧ v4 < 320))) ∧ ∀ v2'' : Int, v2'' = gh_ior_f v2 (if (gh_iand_f r2216 (gh_ixor_f v1 (-1))) = 0 then (if (gh_iand_f (m 61 v4) v2) = 0 then 0 else r2216) else 0) → gh_i (v4 + 1) ∧ K86 v2'' (v4 + 1))) ∧ (¬ (v4 < (m 58 10)) → gh_i (v3 + 1) ∧ K72 v2 (v3 + 1)))
def f_Proper_countUseful_166 (v1 : Int) (v2 : Int) (Q : Int → gh_M → Prop) (K166 : Int → gh_M → Prop) (v3 : Int) (m : gh_M) : Prop := ((v3 < (m 58 10) → 0 ≤ v3 ∧ v3 < 320 ∧ w_Proper_namesIn (m 60 v3) m (fun r2229 => ((((gh_iand_f r2229 (gh_ixor_f v1 (-1))) = 0) → (0 ≤ v3 ∧ v3 < 320))) ∧ ∀ v4 : Int, v4 = (if (gh_iand_f r2229 (gh_ixor_f v1 (-1))) = 0 then (gh_iand_f (m 61 v3) v2) else 0) → gh_i ((m 58 3) + (gh_pop v4)) ∧ 0 ≤ v3 ∧ v3 < 320 ∧ w_Proper_lengthOf (m 60 v3) (gh_u (gh_u m 58 3 ((m 58 3) + (gh_pop v4))) 58 4 (gh_ior_f (m 58 4) v4)) (fun r2238 => gh_i ((gh_pop v4) * r2238) ∧ gh_i ((m 58 5) + ((gh_pop v4) * r2238)) ∧ gh_i (v3 + 1) ∧ K166 (v3 + 1) (gh_u (gh_u (gh_u m 58 3 ((m 58 3) + (gh_pop v4))) 58 4 (gh_ior_f (m 58 4) v4)) 58 5 ((m 58 5) + ((gh_pop v4) * r2238)))))) ∧ (¬ (v3 < (m 58 10)) → Q 0 m))
def f_Proper_countUseful_72 (v1 : Int) (Q : Int → gh_M → Prop) (m : gh_M) (K72 : Int → Int → Prop) (v2 : Int) (v3 : Int) : Prop := ((v3 < (m 13 1) → gh_L2 (fun K86 v2 v4 => f_Proper_countUseful_86 v1 v3 K72 m K86 v2 v4) v2 0) ∧ (¬ (v3 < (m 13 1)) → gh_M1 (fun K166 v3 m => f_Proper_countUseful_166 v1 v2 Q K166 v3 m) 0 (gh_u (gh_u (gh_u m 58 3 0) 58 4 0) 58 5 0)))
def f_Proper_countUseful_4 (Q : Int → gh_M → Prop) (m : gh_M) (K4 : Int → Int → Prop) (v1 : Int) (v2 : Int) : Prop := ((v2 < (m 13 1) → gh_L2 (fun K17 v1 v3 => f_Proper_countUseful_17 v2 K4 m K17 v1 v3) v1 0) ∧ (¬ (v2 < (m 13 1)) → ∀ v2' : Int, v2' = gh_iand_f v1 1 → gh_L2 (fun K72 v2 v3 => f_Proper_countUseful_72 v1 Q m K72 v2 v3) v2' 0))
def w_Proper_countUseful (m : gh_M) (Q : Int → gh_M → Prop) : Prop := gh_L2 (fun K4 v1 v2 => f_Proper_countUseful_4 Q m K4 v1 v2) 0 0
theorem b_Proper_countUseful_17 {E : gh_E} {v2 : Int} {K4 : Int → Int → Prop} {Q : Int → gh_M → Prop} {K17 : Int → Int → Prop} (d : Nat) {m : gh_M} (hK4 : ∀ (v1 : Int) (v2 : Int), gh_F m → K4 v1 v2 → gh_T E (gh_yProper_countUseful.cls, prog_8_method_7_code, 6, false, 9) (d + 1) 4 [(0, 2, 58), (1, 0, v1), (2, 0, v2)] [] m (fun r m1 => gh_F m1 ∧ Q r m1)) (hK : ∀ (v1 : Int) (v3 : Int), gh_F m → K17 v1 v3 → gh_T E (gh_yProper_countUseful.cls, prog_8_method_7_code, 6, false, 9) (d + 1) 17 [(0, 2, 58), (1, 0, v1), (2, 0, v2), (3, 0, v3)] [] m (fun r m1 => gh_F m1 ∧ Q r m1)) (v1 : Int) (v3 : Int) (hF : gh_F m) (h : f_Proper_countUseful_17 v2 K4 m K17 v1 v3) : gh_T E (gh_yProper_countUseful.cls, prog_8_method_7_code, 6, false, 9) (d + 1) 17 [(0, 2, 58), (1, 0, v1), (2, 0, v2), (3, 0, v3)] [] m (fun r m1 => gh_F m1 ∧ Q r m1) := by
  have hK17 := hK
  unfold f_Proper_countUseful_17 at h
  refine gh_iload_n gd_Proper_countUseful_17 3 rfl ?_
  refine gh_aload_n gd_Proper_countUseful_18 0 rfl (by decide) ?_
  refine gf_58_10 gd_Proper_countUseful_19 gh_k606 hF rfl ?_
  obtain ⟨hA, hB⟩ := h
  refine gh_jge (tgt := 60) gd_Proper_countUseful_22 (by decide) (fun c2200 => ?_) (fun c2200 => ?_)
  · have h := hA c2200
    refine gh_iload_n gd_Proper_countUseful_25 1 rfl ?_
    refine gh_aload_n gd_Proper_countUseful_26 0 rfl (by decide) ?_
    refine gf_58_8 gd_Proper_countUseful_27 gh_k604 hF ?_
    refine gh_iload_n gd_Proper_countUseful_30 3 rfl ?_
    obtain ⟨q2201, h⟩ := h
    obtain ⟨q2202, h⟩ := h
    refine la_60 gd_Proper_countUseful_31 hF q2201 q2202 rfl ?_
    refine cv_Proper_namesIn (d := d) gd_Proper_countUseful_32 gh_k1335 (Nat.le_of_ble_eq_true rfl) (gh_C.pw (s_Proper_namesIn d (m 60 v3) hF h) (fun r2203 h => ?_))
    refine gh_iload_n gd_Proper_countUseful_35 1 rfl ?_
    refine gh_iconst gd_Proper_countUseful_36 (gh_r0 rfl) ?_
    refine gh_ixor gd_Proper_countUseful_37 ?_
    refine gh_iand gd_Proper_countUseful_38 ?_
    obtain ⟨hk, h⟩ := h
    have k2207 : ∀ x2208 : Int, x2208 = (if (gh_iand_f r2203 (gh_ixor_f v1 (-1))) = 0 then (m 61 v3) else 0) → gh_T E (gh_yProper_countUseful.cls, prog_8_method_7_code, 6, false, 9) (d + 1) 52 [(0, 2, 58), (1, 0, v1), (2, 0, v2), (3, 0, v3)] [(0, x2208), (0, v1)] m (fun r m1 => gh_F m1 ∧ Q r m1) := by
      rintro _ rfl
      refine gh_ior gd_Proper_countUseful_52 ?_
      refine gh_name (fun v1' hn => ?_)
      have h := h v1' hn
      refine gh_istore_n (L2 := [(1, 0, v1'), (0, 2, 58), (2, 0, v2), (3, 0, v3)]) gd_Proper_countUseful_53 (by decide) rfl ?_
      obtain ⟨q2209, h⟩ := h
      refine gh_iinc (L2 := [(3, 0, v3 + 1), (1, 0, v1'), (0, 2, 58), (2, 0, v2)]) gd_Proper_countUseful_54 3 rfl q2209 (by decide) rfl ?_
      refine gh_goto (tgt := 17) gd_Proper_countUseful_57 (by decide) ?_
      refine gh_pick (L2 := [(0, 2, 58), (1, 0, v1'), (2, 0, v2), (3, 0, v3 + 1)]) [2, 1, 3, 0] rfl ?_
      exact hK17 v1' (v3 + 1) hF h
    refine gh_zne (tgt := 51) gd_Proper_countUseful_39 (by decide) (fun c2210 => ?_) (fun c2210 => ?_)
    · have hz : True := trivial
      have hk := hk c2210
      refine gh_aload_n gd_Proper_countUseful_42 0 rfl (by decide) ?_
      refine gf_58_9 gd_Proper_countUseful_43 gh_k605 hF ?_
      refine gh_iload_n gd_Proper_countUseful_46 3 rfl ?_
      obtain ⟨q2205, hk⟩ := hk
      have q2206 := hk
      refine la_61 gd_Proper_countUseful_47 hF q2205 q2206 rfl ?_
      refine gh_goto (tgt := 52) gd_Proper_countUseful_48 (by decide) ?_
      exact k2207 _ (by rw [if_pos c2210])
    · have hz : True := trivial
      refine gh_iconst gd_Proper_countUseful_51 (gh_r0 rfl) ?_
      exact k2207 _ (by rw [if_neg c2210])
  · have h := hB c2200
    obtain ⟨q2211, h⟩ := h
    refine gh_iinc (L2 := [(2, 0, v2 + 1), (0, 2, 58), (1, 0, v1), (3, 0, v3)]) gd_Proper_countUseful_60 2 rfl q2211 (by decide) rfl ?_
    refine gh_goto (tgt := 4) gd_Proper_countUseful_63 (by decide) ?_
    refine gh_pick (L2 := [(0, 2, 58), (1, 0, v1), (2, 0, v2 + 1)]) [1, 2, 0] rfl ?_
    exact hK4 v1 (v2 + 1) hF h
theorem b_Proper_countUseful_86 {E : gh_E} {v1 : Int} {v3 : Int} {K72 : Int → Int → Prop} {Q : Int → gh_M → Prop} {K86 : Int → Int → Prop} (d : Nat) {m : gh_M} (hK72 : ∀ (v2 : Int) (v3 : Int), gh_F m → K72 v2 v3 → gh_T E (gh_yProper_countUseful.cls, prog_8_method_7_code, 6, false, 9) (d + 1) 72 [(0, 2, 58), (1, 0, v1), (2, 0, v2), (3, 0, v3)] [] m (fun r m1 => gh_F m1 ∧ Q r m1)) (hK : ∀ (v2 : Int) (v4 : Int), gh_F m → K86 v2 v4 → gh_T E (gh_yProper_countUseful.cls, prog_8_method_7_code, 6, false, 9) (d + 1) 86 [(0, 2, 58), (1, 0, v1), (2, 0, v2), (3, 0, v3), (4, 0, v4)] [] m (fun r m1 => gh_F m1 ∧ Q r m1)) (v2 : Int) (v4 : Int) (hF : gh_F m) (h : f_Proper_countUseful_86 v1 v3 K72 m K86 v2 v4) : gh_T E (gh_yProper_countUseful.cls, prog_8_method_7_code, 6, false, 9) (d + 1) 86 [(0, 2, 58), (1, 0, v1), (2, 0, v2), (3, 0, v3), (4, 0, v4)] [] m (fun r m1 => gh_F m1 ∧ Q r m1) := by
  have hK86 := hK
  unfold f_Proper_countUseful_86 at h
  refine gh_iload gd_Proper_countUseful_86 4 rfl ?_
  refine gh_aload_n gd_Proper_countUseful_88 0 rfl (by decide) ?_
  refine gf_58_10 gd_Proper_countUseful_89 gh_k606 hF rfl ?_
  obtain ⟨hA, hB⟩ := h
  refine gh_jge (tgt := 143) gd_Proper_countUseful_92 (by decide) (fun c2213 => ?_) (fun c2213 => ?_)
  · have h := hA c2213
    refine gh_aload_n gd_Proper_countUseful_95 0 rfl (by decide) ?_
    refine gf_58_8 gd_Proper_countUseful_96 gh_k604 hF ?_
    refine gh_iload gd_Proper_countUseful_99 4 rfl ?_
    obtain ⟨q2214, h⟩ := h
    obtain ⟨q2215, h⟩ := h
    refine la_60 gd_Proper_countUseful_101 hF q2214 q2215 rfl ?_
    refine cv_Proper_namesIn (d := d) gd_Proper_countUseful_102 gh_k1335 (Nat.le_of_ble_eq_true rfl) (gh_C.pw (s_Proper_namesIn d (m 60 v4) hF h) (fun r2216 h => ?_))
    refine gh_istore (L2 := [(5, 0, r2216), (0, 2, 58), (1, 0, v1), (2, 0, v2), (3, 0, v3), (4, 0, v4)]) gd_Proper_countUseful_105 (by decide) rfl ?_
    refine gh_iload_n gd_Proper_countUseful_107 3 rfl ?_
    refine gh_iload gd_Proper_countUseful_108 0 rfl ?_
    refine gh_iload_n gd_Proper_countUseful_110 2 rfl ?_
    refine gh_iconst gd_Proper_countUseful_111 (gh_r0 rfl) ?_
    refine gh_ixor gd_Proper_countUseful_112 ?_
    refine gh_iand gd_Proper_countUseful_113 ?_
    obtain ⟨hk, h⟩ := h
    have k2220 : ∀ x2221 : Int, x2221 = (if (gh_iand_f r2216 (gh_ixor_f v1 (-1))) = 0 then (if (gh_iand_f (m 61 v4) v2) = 0 then 0 else r2216) else 0) → gh_T E (gh_yProper_countUseful.cls, prog_8_method_7_code, 6, false, 9) (d + 1) 135 [(5, 0, r2216), (0, 2, 58), (1, 0, v1), (2, 0, v2), (3, 0, v3), (4, 0, v4)] [(0, x2221), (0, v2)] m (fun r m1 => gh_F m1 ∧ Q r m1) := by
      rintro _ rfl
      refine gh_ior gd_Proper_countUseful_135 ?_
      refine gh_name (fun v2'' hn => ?_)
      have h := h v2'' hn
      refine gh_istore_n (L2 := [(2, 0, v2''), (5, 0, r2216), (0, 2, 58), (1, 0, v1), (3, 0, v3), (4, 0, v4)]) gd_Proper_countUseful_136 (by decide) rfl ?_
      obtain ⟨q2222, h⟩ := h
      refine gh_iinc (L2 := [(4, 0, v4 + 1), (2, 0, v2''), (5, 0, r2216), (0, 2, 58), (1, 0, v1), (3, 0, v3)]) gd_Proper_countUseful_137 5 rfl q2222 (by decide) rfl ?_
      refine gh_goto (tgt := 86) gd_Proper_countUseful_140 (by decide) ?_
      refine gh_pick (L2 := [(0, 2, 58), (1, 0, v1), (2, 0, v2''), (3, 0, v3), (4, 0, v4 + 1)]) [3, 4, 1, 5, 0] rfl ?_
      exact hK86 v2'' (v4 + 1) hF h
    refine gh_zne (tgt := 134) gd_Proper_countUseful_114 (by decide) (fun c2223 => ?_) (fun c2223 => ?_)
    · have hz : True := trivial
      have hk := hk c2223
      refine gh_aload_n gd_Proper_countUseful_117 1 rfl (by decide) ?_
      refine gf_58_9 gd_Proper_countUseful_118 gh_k605 hF ?_
      refine gh_iload gd_Proper_countUseful_121 5 rfl ?_
      obtain ⟨q2218, hk⟩ := hk
      have q2219 := hk
      refine la_61 gd_Proper_countUseful_123 hF q2218 q2219 rfl ?_
      refine gh_iload_n gd_Proper_countUseful_124 3 rfl ?_
      refine gh_iand gd_Proper_countUseful_125 ?_
      refine gh_zeq (tgt := 134) gd_Proper_countUseful_126 (by decide) (fun c2224 => ?_) (fun c2224 => ?_)
      · have hz : True := trivial
        refine gh_iconst gd_Proper_countUseful_134 (gh_r0 rfl) ?_
        exact k2220 _ (by rw [if_pos c2223, if_pos c2224])
      · have hz : True := trivial
        refine gh_iload gd_Proper_countUseful_129 0 rfl ?_
        refine gh_goto (tgt := 135) gd_Proper_countUseful_131 (by decide) ?_
        exact k2220 _ (by rw [if_pos c2223, if_neg c2224])
    · have hz : True := trivial
      refine gh_iconst gd_Proper_countUseful_134 (gh_r0 rfl) ?_
      exact k2220 _ (by rw [if_neg c2223])
  · have h := hB c2213
    obtain ⟨q2225, h⟩ := h
    refine gh_iinc (L2 := [(3, 0, v3 + 1), (0, 2, 58), (1, 0, v1), (2, 0, v2), (4, 0, v4)]) gd_Proper_countUseful_143 3 rfl q2225 (by decide) rfl ?_
    refine gh_goto (tgt := 72) gd_Proper_countUseful_146 (by decide) ?_
    refine gh_pick (L2 := [(0, 2, 58), (1, 0, v1), (2, 0, v2), (3, 0, v3 + 1)]) [1, 2, 3, 0] rfl ?_
    exact hK72 v2 (v3 + 1) hF h
theorem b_Proper_countUseful_166 {E : gh_E} {v1 : Int} {v2 : Int} {Q : Int → gh_M → Prop} {K166 : Int → gh_M → Prop} (d : Nat) (hK : ∀ (v3 : Int) (m : gh_M), gh_F m → K166 v3 m → gh_T E (gh_yProper_countUseful.cls, prog_8_method_7_code, 6, false, 9) (d + 1) 166 [(0, 2, 58), (1, 0, v1), (2, 0, v2), (3, 0, v3)] [] m (fun r m1 => gh_F m1 ∧ Q r m1)) (v3 : Int) (m : gh_M) (hF : gh_F m) (h : f_Proper_countUseful_166 v1 v2 Q K166 v3 m) : gh_T E (gh_yProper_countUseful.cls, prog_8_method_7_code, 6, false, 9) (d + 1) 166 [(0, 2, 58), (1, 0, v1), (2, 0, v2), (3, 0, v3)] [] m (fun r m1 => gh_F m1 ∧ Q r m1) := by
  have hK166 := hK
  unfold f_Proper_countUseful_166 at h
  refine gh_iload_n gd_Proper_countUseful_166 3 rfl ?_
  refine gh_aload_n gd_Proper_countUseful_167 0 rfl (by decide) ?_
  refine gf_58_10 gd_Proper_countUseful_168 gh_k606 hF rfl ?_
  obtain ⟨hA, hB⟩ := h
  refine gh_jge (tgt := 259) gd_Proper_countUseful_171 (by decide) (fun c2226 => ?_) (fun c2226 => ?_)
  · have h := hA c2226
    refine gh_aload_n gd_Proper_countUseful_174 0 rfl (by decide) ?_
    refine gf_58_8 gd_Proper_countUseful_175 gh_k604 hF ?_
    refine gh_iload_n gd_Proper_countUseful_178 3 rfl ?_
    obtain ⟨q2227, h⟩ := h
    obtain ⟨q2228, h⟩ := h
    refine la_60 gd_Proper_countUseful_179 hF q2227 q2228 rfl ?_
    refine cv_Proper_namesIn (d := d) gd_Proper_countUseful_180 gh_k1335 (Nat.le_of_ble_eq_true rfl) (gh_C.pw (s_Proper_namesIn d (m 60 v3) hF h) (fun r2229 h => ?_))
    refine gh_iload_n gd_Proper_countUseful_183 1 rfl ?_
    refine gh_iconst gd_Proper_countUseful_184 (gh_r0 rfl) ?_
    refine gh_ixor gd_Proper_countUseful_185 ?_
    refine gh_iand gd_Proper_countUseful_186 ?_
    obtain ⟨hk, h⟩ := h
    have k2233 : ∀ x2234 : Int, x2234 = (if (gh_iand_f r2229 (gh_ixor_f v1 (-1))) = 0 then (gh_iand_f (m 61 v3) v2) else 0) → gh_T E (gh_yProper_countUseful.cls, prog_8_method_7_code, 6, false, 9) (d + 1) 202 [(0, 2, 58), (1, 0, v1), (2, 0, v2), (3, 0, v3)] [(0, x2234)] m (fun r m1 => gh_F m1 ∧ Q r m1) := by
      rintro _ rfl
      refine gh_name (fun v4 hn => ?_)
      have h := h v4 hn
      refine gh_istore (L2 := [(4, 0, v4), (0, 2, 58), (1, 0, v1), (2, 0, v2), (3, 0, v3)]) gd_Proper_countUseful_202 (by decide) rfl ?_
      refine gh_aload_n gd_Proper_countUseful_204 1 rfl (by decide) ?_
      refine gh_dup gd_Proper_countUseful_205 (by decide) ?_
      refine gf_58_3 gd_Proper_countUseful_206 gh_k596 hF rfl ?_
      refine gh_iload gd_Proper_countUseful_209 0 rfl ?_
      refine gh_pr_gh_pop gd_Proper_countUseful_211 gh_k1338 (Nat.le_of_ble_eq_true rfl) ?_
      obtain ⟨q2235, h⟩ := h
      refine gh_iadd gd_Proper_countUseful_214 q2235 ?_
      refine pf_58_3 gd_Proper_countUseful_215 gh_k596 hF (fun hF => ?_)
      refine gh_aload_n gd_Proper_countUseful_218 1 rfl (by decide) ?_
      refine gh_dup gd_Proper_countUseful_219 (by decide) ?_
      refine gf_58_4 gd_Proper_countUseful_220 gh_k598 hF (gh_u_i (by decide)) ?_
      refine gh_iload gd_Proper_countUseful_223 0 rfl ?_
      refine gh_ior gd_Proper_countUseful_225 ?_
      refine pf_58_4 gd_Proper_countUseful_226 gh_k598 hF (fun hF => ?_)
      refine gh_aload_n gd_Proper_countUseful_229 1 rfl (by decide) ?_
      refine gh_dup gd_Proper_countUseful_230 (by decide) ?_
      refine gf_58_5 gd_Proper_countUseful_231 gh_k600 hF ((gh_u_i (by decide)).trans (gh_u_i (by decide))) ?_
      refine gh_iload gd_Proper_countUseful_234 0 rfl ?_
      refine gh_pr_gh_pop gd_Proper_countUseful_236 gh_k1338 (Nat.le_of_ble_eq_true rfl) ?_
      refine gh_aload_n gd_Proper_countUseful_239 1 rfl (by decide) ?_
      refine gf_58_8 gd_Proper_countUseful_240 gh_k604 hF ?_
      refine gh_iload_n gd_Proper_countUseful_243 4 rfl ?_
      obtain ⟨q2236, h⟩ := h
      obtain ⟨q2237, h⟩ := h
      refine la_60 gd_Proper_countUseful_244 hF q2236 q2237 ((gh_u_a (by decide)).trans (gh_u_a (by decide))) ?_
      refine cv_Proper_lengthOf (d := d) gd_Proper_countUseful_245 gh_k1339 (Nat.le_of_ble_eq_true rfl) (gh_C.pw (s_Proper_lengthOf d (m 60 v3) hF h) (fun r2238 h => ?_))
      obtain ⟨q2240, h⟩ := h
      refine gh_imul gd_Proper_countUseful_248 q2240 ?_
      obtain ⟨q2241, h⟩ := h
      refine gh_iadd gd_Proper_countUseful_249 q2241 ?_
      refine pf_58_5 gd_Proper_countUseful_250 gh_k600 hF (fun hF => ?_)
      obtain ⟨q2242, h⟩ := h
      refine gh_iinc (L2 := [(3, 0, v3 + 1), (4, 0, v4), (0, 2, 58), (1, 0, v1), (2, 0, v2)]) gd_Proper_countUseful_253 4 rfl q2242 (by decide) rfl ?_
      refine gh_goto (tgt := 166) gd_Proper_countUseful_256 (by decide) ?_
      refine gh_pick (L2 := [(0, 2, 58), (1, 0, v1), (2, 0, v2), (3, 0, v3 + 1)]) [2, 3, 4, 0] rfl ?_
      exact hK166 (v3 + 1) (gh_u (gh_u (gh_u m 58 3 ((m 58 3) + (gh_pop v4))) 58 4 (gh_ior_f (m 58 4) v4)) 58 5 ((m 58 5) + ((gh_pop v4) * r2238))) hF h
    refine gh_zne (tgt := 201) gd_Proper_countUseful_187 (by decide) (fun c2243 => ?_) (fun c2243 => ?_)
    · have hz : True := trivial
      have hk := hk c2243
      refine gh_aload_n gd_Proper_countUseful_190 0 rfl (by decide) ?_
      refine gf_58_9 gd_Proper_countUseful_191 gh_k605 hF ?_
      refine gh_iload_n gd_Proper_countUseful_194 3 rfl ?_
      obtain ⟨q2231, hk⟩ := hk
      have q2232 := hk
      refine la_61 gd_Proper_countUseful_195 hF q2231 q2232 rfl ?_
      refine gh_iload_n gd_Proper_countUseful_196 2 rfl ?_
      refine gh_iand gd_Proper_countUseful_197 ?_
      refine gh_goto (tgt := 202) gd_Proper_countUseful_198 (by decide) ?_
      exact k2233 _ (by rw [if_pos c2243])
    · have hz : True := trivial
      refine gh_iconst gd_Proper_countUseful_201 (gh_r0 rfl) ?_
      exact k2233 _ (by rw [if_neg c2243])
  · have h := hB c2226
    exact gh_ret9 rfl gd_Proper_countUseful_259 ⟨hF, h⟩
theorem b_Proper_countUseful_72 {E : gh_E} {v1 : Int} {Q : Int → gh_M → Prop} {K72 : Int → Int → Prop} (d : Nat) {m : gh_M} (hK : ∀ (v2 : Int) (v3 : Int), gh_F m → K72 v2 v3 → gh_T E (gh_yProper_countUseful.cls, prog_8_method_7_code, 6, false, 9) (d + 1) 72 [(0, 2, 58), (1, 0, v1), (2, 0, v2), (3, 0, v3)] [] m (fun r m1 => gh_F m1 ∧ Q r m1)) (v2 : Int) (v3 : Int) (hF : gh_F m) (h : f_Proper_countUseful_72 v1 Q m K72 v2 v3) : gh_T E (gh_yProper_countUseful.cls, prog_8_method_7_code, 6, false, 9) (d + 1) 72 [(0, 2, 58), (1, 0, v1), (2, 0, v2), (3, 0, v3)] [] m (fun r m1 => gh_F m1 ∧ Q r m1) := by
  have hK72 := hK
  unfold f_Proper_countUseful_72 at h
  refine gh_iload_n gd_Proper_countUseful_72 3 rfl ?_
  refine gh_aload_n gd_Proper_countUseful_73 0 rfl (by decide) ?_
  refine gf_58_0 gd_Proper_countUseful_74 gh_k592 hF ?_
  refine gf_13_1 gd_Proper_countUseful_77 gh_k261 hF rfl ?_
  obtain ⟨hA, hB⟩ := h
  refine gh_jge (tgt := 149) gd_Proper_countUseful_80 (by decide) (fun c2212 => ?_) (fun c2212 => ?_)
  · have h := hA c2212
    refine gh_iconst gd_Proper_countUseful_83 (gh_r0 rfl) ?_
    refine gh_istore (L2 := [(4, 0, 0), (0, 2, 58), (1, 0, v1), (2, 0, v2), (3, 0, v3)]) gd_Proper_countUseful_84 (by decide) rfl ?_
    refine gh_pick (L2 := [(0, 2, 58), (1, 0, v1), (2, 0, v2), (3, 0, v3), (4, 0, 0)]) [1, 2, 3, 4, 0] rfl ?_
    exact gh_L2_sound (T := fun v2 v4 => gh_T E (gh_yProper_countUseful.cls, prog_8_method_7_code, 6, false, 9) (d + 1) 86 [(0, 2, 58), (1, 0, v1), (2, 0, v2), (3, 0, v3), (4, 0, v4)] [] m (fun r m1 => gh_F m1 ∧ Q r m1)) (fun _ _ => gh_F m) (fun K86 v2 v4 hK hF h => b_Proper_countUseful_86 d hK72 hK v2 v4 hF h) v2 0 hF h
  · have h := hB c2212
    refine gh_aload_n gd_Proper_countUseful_149 0 rfl (by decide) ?_
    refine gh_iconst gd_Proper_countUseful_150 (gh_r0 rfl) ?_
    refine pf_58_3 gd_Proper_countUseful_151 gh_k596 hF (fun hF => ?_)
    refine gh_aload_n gd_Proper_countUseful_154 0 rfl (by decide) ?_
    refine gh_iconst gd_Proper_countUseful_155 (gh_r0 rfl) ?_
    refine pf_58_4 gd_Proper_countUseful_156 gh_k598 hF (fun hF => ?_)
    refine gh_aload_n gd_Proper_countUseful_159 0 rfl (by decide) ?_
    refine gh_iconst gd_Proper_countUseful_160 (gh_r0 rfl) ?_
    refine pf_58_5 gd_Proper_countUseful_161 gh_k600 hF (fun hF => ?_)
    refine gh_iconst gd_Proper_countUseful_164 (gh_r0 rfl) ?_
    refine gh_istore_n (L2 := [(3, 0, 0), (0, 2, 58), (1, 0, v1), (2, 0, v2)]) gd_Proper_countUseful_165 (by decide) rfl ?_
    refine gh_pick (L2 := [(0, 2, 58), (1, 0, v1), (2, 0, v2), (3, 0, 0)]) [1, 2, 3, 0] rfl ?_
    exact gh_M1_sound (T := fun v3 m => gh_T E (gh_yProper_countUseful.cls, prog_8_method_7_code, 6, false, 9) (d + 1) 166 [(0, 2, 58), (1, 0, v1), (2, 0, v2), (3, 0, v3)] [] m (fun r m1 => gh_F m1 ∧ Q r m1)) (fun _ m => gh_F m) (fun K166 v3 m hK hF h => b_Proper_countUseful_166 d hK v3 m hF h) 0 (gh_u (gh_u (gh_u m 58 3 0) 58 4 0) 58 5 0) hF h
theorem b_Proper_countUseful_4 {E : gh_E} {Q : Int → gh_M → Prop} {K4 : Int → Int → Prop} (d : Nat) {m : gh_M} (hK : ∀ (v1 : Int) (v2 : Int), gh_F m → K4 v1 v2 → gh_T E (gh_yProper_countUseful.cls, prog_8_method_7_code, 6, false, 9) (d + 1) 4 [(0, 2, 58), (1, 0, v1), (2, 0, v2)] [] m (fun r m1 => gh_F m1 ∧ Q r m1)) (v1 : Int) (v2 : Int) (hF : gh_F m) (h : f_Proper_countUseful_4 Q m K4 v1 v2) : gh_T E (gh_yProper_countUseful.cls, prog_8_method_7_code, 6, false, 9) (d + 1) 4 [(0, 2, 58), (1, 0, v1), (2, 0, v2)] [] m (fun r m1 => gh_F m1 ∧ Q r m1) := by
  have hK4 := hK
  unfold f_Proper_countUseful_4 at h
  refine gh_iload_n gd_Proper_countUseful_4 2 rfl ?_
  refine gh_aload_n gd_Proper_countUseful_5 0 rfl (by decide) ?_
  refine gf_58_0 gd_Proper_countUseful_6 gh_k592 hF ?_
  refine gf_13_1 gd_Proper_countUseful_9 gh_k261 hF rfl ?_
  obtain ⟨hA, hB⟩ := h
  refine gh_jge (tgt := 66) gd_Proper_countUseful_12 (by decide) (fun c2199 => ?_) (fun c2199 => ?_)
  · have h := hA c2199
    refine gh_iconst gd_Proper_countUseful_15 (gh_r0 rfl) ?_
    refine gh_istore_n (L2 := [(3, 0, 0), (0, 2, 58), (1, 0, v1), (2, 0, v2)]) gd_Proper_countUseful_16 (by decide) rfl ?_
    refine gh_pick (L2 := [(0, 2, 58), (1, 0, v1), (2, 0, v2), (3, 0, 0)]) [1, 2, 3, 0] rfl ?_
    exact gh_L2_sound (T := fun v1 v3 => gh_T E (gh_yProper_countUseful.cls, prog_8_method_7_code, 6, false, 9) (d + 1) 17 [(0, 2, 58), (1, 0, v1), (2, 0, v2), (3, 0, v3)] [] m (fun r m1 => gh_F m1 ∧ Q r m1)) (fun _ _ => gh_F m) (fun K17 v1 v3 hK hF h => b_Proper_countUseful_17 d hK4 hK v1 v3 hF h) v1 0 hF h
  · have h := hB c2199
    refine gh_iload_n gd_Proper_countUseful_66 1 rfl ?_
    refine gh_iconst gd_Proper_countUseful_67 (gh_r0 rfl) ?_
    refine gh_iand gd_Proper_countUseful_68 ?_
    refine gh_name (fun v2' hn => ?_)
    have h := h v2' hn
    refine gh_istore_n (L2 := [(2, 0, v2'), (0, 2, 58), (1, 0, v1)]) gd_Proper_countUseful_69 (by decide) rfl ?_
    refine gh_iconst gd_Proper_countUseful_70 (gh_r0 rfl) ?_
    refine gh_istore_n (L2 := [(3, 0, 0), (2, 0, v2'), (0, 2, 58), (1, 0, v1)]) gd_Proper_countUseful_71 (by decide) rfl ?_
    refine gh_pick (L2 := [(0, 2, 58), (1, 0, v1), (2, 0, v2'), (3, 0, 0)]) [2, 3, 1, 0] rfl ?_
    exact gh_L2_sound (T := fun v2 v3 => gh_T E (gh_yProper_countUseful.cls, prog_8_method_7_code, 6, false, 9) (d + 1) 72 [(0, 2, 58), (1, 0, v1), (2, 0, v2), (3, 0, v3)] [] m (fun r m1 => gh_F m1 ∧ Q r m1)) (fun _ _ => gh_F m) (fun K72 v2 v3 hK hF h => b_Proper_countUseful_72 d hK v2 v3 hF h) v2' 0 hF h
theorem s_Proper_countUseful {E : gh_E} {m : gh_M} {Q : Int → gh_M → Prop} (d : Nat) (hF : gh_F m) (h : w_Proper_countUseful m Q) : gh_C E gh_yProper_countUseful prog_8_method_7_code 6 none 9 (d + 1) [(2, 58)] m (fun r m1 => gh_F m1 ∧ Q r m1) := by
  refine gh_enter2 (L := [(0, 2, 58)]) (by decide +kernel) gh_rt9 (Nat.le_of_ble_eq_true rfl) rfl rfl ?_
  unfold w_Proper_countUseful at h
  refine gh_iconst gd_Proper_countUseful_0 (gh_r0 rfl) ?_
  refine gh_istore_n (L2 := [(1, 0, 0), (0, 2, 58)]) gd_Proper_countUseful_1 (by decide) rfl ?_
  refine gh_iconst gd_Proper_countUseful_2 (gh_r0 rfl) ?_
  refine gh_istore_n (L2 := [(2, 0, 0), (1, 0, 0), (0, 2, 58)]) gd_Proper_countUseful_3 (by decide) rfl ?_
  refine gh_pick (L2 := [(0, 2, 58), (1, 0, 0), (2, 0, 0)]) [2, 1, 0] rfl ?_
  exact gh_L2_sound (T := fun v1 v2 => gh_T E (gh_yProper_countUseful.cls, prog_8_method_7_code, 6, false, 9) (d + 1) 4 [(0, 2, 58), (1, 0, v1), (2, 0, v2)] [] m (fun r m1 => gh_F m1 ∧ Q r m1)) (fun _ _ => gh_F m) (fun K4 v1 v2 hK hF h => b_Proper_countUseful_4 d hK v1 v2 hF h) 0 0 hF h
def f_Proper_find_33 (Q : Int → gh_M → Prop) (K33 : Int → gh_M → Prop) (v1 : Int) (m : gh_M) : Prop := ((v1 < (m 13 2) → ∃ J82 : gh_M → Prop, (∀ (m : gh_M), J82 m → gh_i (v1 + 1) ∧ K33 (v1 + 1) m) ∧ (((p_Facts_isUsefulRule v1 m) → (0 ≤ v1 ∧ v1 < 20))) ∧ (((¬ (p_Facts_isUsefulRule v1 m) ∨ ((gh_iand_f (gh_ishr_f (m 20 4) (m 16 v1)) 1) = 0)) → J82 m) ∧ (¬ (¬ (p_Facts_isUsefulRule v1 m) ∨ ((gh_iand_f (gh_ishr_f (m 20 4) (m 16 v1)) 1) = 0)) → w_Proper_addRows v1 m (fun _ m2252 => J82 m2252)))) ∧ (¬ (v1 < (m 13 2)) → w_Proper_shareRows m (fun _ m2256 => w_Proper_countUseful m2256 (fun _ m2258 => Q 0 m2258))))
def w_Proper_find (m : gh_M) (Q : Int → gh_M → Prop) : Prop := (((m 58 2) = 0 → gh_M1 (fun K33 v1 m => f_Proper_find_33 Q K33 v1 m) 0 (gh_fil (gh_u (gh_u (gh_u m 58 2 1) 58 7 0) 58 10 0) 62 8 0)) ∧ (¬ ((m 58 2) = 0) → Q 0 m))
theorem b_Proper_find_33 {E : gh_E} {Q : Int → gh_M → Prop} {K33 : Int → gh_M → Prop} (d : Nat) (hK : ∀ (v1 : Int) (m : gh_M), gh_F m → K33 v1 m → gh_T E (gh_yProper_find.cls, prog_8_method_2_code, 2, false, 9) (d + 3) 33 [(0, 2, 58), (1, 0, v1)] [] m (fun r m1 => gh_F m1 ∧ Q r m1)) (v1 : Int) (m : gh_M) (hF : gh_F m) (h : f_Proper_find_33 Q K33 v1 m) : gh_T E (gh_yProper_find.cls, prog_8_method_2_code, 2, false, 9) (d + 3) 33 [(0, 2, 58), (1, 0, v1)] [] m (fun r m1 => gh_F m1 ∧ Q r m1) := by
  have hK33 := hK
  unfold f_Proper_find_33 at h
  refine gh_iload_n gd_Proper_find_33 1 rfl ?_
  refine gh_aload_n gd_Proper_find_34 0 rfl (by decide) ?_
  refine gf_58_0 gd_Proper_find_35 gh_k592 hF ?_
  refine gf_13_2 gd_Proper_find_38 gh_k264 hF rfl ?_
  obtain ⟨hA, hB⟩ := h
  refine gh_jge (tgt := 88) gd_Proper_find_41 (by decide) (fun c2245 => ?_) (fun c2245 => ?_)
  · have h := hA c2245
    refine gh_aload_n gd_Proper_find_44 0 rfl (by decide) ?_
    refine gf_58_1 gd_Proper_find_45 gh_k593 hF ?_
    refine gh_iload_n gd_Proper_find_48 1 rfl ?_
    refine cv_Facts_isUsefulRule (d := d + 2) gd_Proper_find_49 gh_k1311 hF (Nat.le_of_ble_eq_true rfl) (gh_C.pe (e_Facts_isUsefulRule (d + 2) v1 hF) ?_)
    obtain ⟨J82, hJ82, h⟩ := h
    have hJ82 : ∀ (m : gh_M), gh_F m → J82 m → gh_T E (gh_yProper_find.cls, prog_8_method_2_code, 2, false, 9) (d + 3) 82 [(0, 2, 58), (1, 0, v1)] [] m (fun r m1 => gh_F m1 ∧ Q r m1) := by
      intro m hF hj
      have h := hJ82 m hj
      obtain ⟨q2246, h⟩ := h
      refine gh_iinc (L2 := [(1, 0, v1 + 1), (0, 2, 58)]) gd_Proper_find_82 1 rfl q2246 (by decide) rfl ?_
      refine gh_goto (tgt := 33) gd_Proper_find_85 (by decide) ?_
      refine gh_pick (L2 := [(0, 2, 58), (1, 0, v1 + 1)]) [1, 0] rfl ?_
      exact hK33 (v1 + 1) m hF h
    obtain ⟨hk, hA, hB⟩ := h
    have k2249 : (¬ (p_Facts_isUsefulRule v1 m) ∨ ((gh_iand_f (gh_ishr_f (m 20 4) (m 16 v1)) 1) = 0)) → gh_T E (gh_yProper_find.cls, prog_8_method_2_code, 2, false, 9) (d + 3) 82 [(0, 2, 58), (1, 0, v1)] [] m (fun r m1 => gh_F m1 ∧ Q r m1) := by
      intro c
      have h := hA c
      exact hJ82 m hF h
    have k2250 : ¬ (¬ (p_Facts_isUsefulRule v1 m) ∨ ((gh_iand_f (gh_ishr_f (m 20 4) (m 16 v1)) 1) = 0)) → gh_T E (gh_yProper_find.cls, prog_8_method_2_code, 2, false, 9) (d + 3) 77 [(0, 2, 58), (1, 0, v1)] [] m (fun r m1 => gh_F m1 ∧ Q r m1) := by
      intro c
      have h := hB c
      refine gh_aload_n gd_Proper_find_77 0 rfl (by decide) ?_
      refine gh_iload_n gd_Proper_find_78 1 rfl ?_
      refine cv_Proper_addRows (d := d + 2) gd_Proper_find_79 gh_k1312 hF (Nat.le_of_ble_eq_true rfl) (gh_C.mono (s_Proper_addRows d v1 hF h) (fun r2251 m2252 hq => ?_))
      obtain ⟨hF, h⟩ := hq
      exact hJ82 m2252 hF h
    refine gh_beq (tgt := 82) gd_Proper_find_52 (by decide) (fun c2253 => ?_) (fun c2253 => ?_)
    · have hz : True := trivial
      have hk := hk c2253
      refine gh_aload_n gd_Proper_find_55 0 rfl (by decide) ?_
      refine gf_58_1 gd_Proper_find_56 gh_k593 hF ?_
      refine gf_20_4 gd_Proper_find_59 gh_k330 hF rfl ?_
      refine gh_aload_n gd_Proper_find_62 0 rfl (by decide) ?_
      refine gf_58_0 gd_Proper_find_63 gh_k592 hF ?_
      refine gf_13_5 gd_Proper_find_66 gh_k278 hF ?_
      refine gh_iload_n gd_Proper_find_69 1 rfl ?_
      obtain ⟨q2247, hk⟩ := hk
      have q2248 := hk
      refine la_16 gd_Proper_find_70 hF q2247 q2248 rfl ?_
      refine gh_ishr gd_Proper_find_71 ?_
      refine gh_iconst gd_Proper_find_72 (gh_r0 rfl) ?_
      refine gh_iand gd_Proper_find_73 ?_
      refine gh_zeq (tgt := 82) gd_Proper_find_74 (by decide) (fun c2254 => ?_) (fun c2254 => ?_)
      · have hz : True := trivial
        exact k2249 (Or.inr c2254)
      · have hz : True := trivial
        exact k2250 (fun z => z.elim (fun w => w c2253) c2254)
    · have hz : True := trivial
      exact k2249 (Or.inl c2253)
  · have h := hB c2245
    refine gh_aload_n gd_Proper_find_88 0 rfl (by decide) ?_
    refine cv_Proper_shareRows (d := d + 2) gd_Proper_find_89 gh_k1326 hF (Nat.le_of_ble_eq_true rfl) (gh_C.mono (s_Proper_shareRows (d + 1) hF h) (fun r2255 m2256 hq => ?_))
    obtain ⟨hF, h⟩ := hq
    refine gh_aload_n gd_Proper_find_92 0 rfl (by decide) ?_
    refine cv_Proper_countUseful (d := d + 2) gd_Proper_find_93 gh_k1331 hF (Nat.le_of_ble_eq_true rfl) (gh_C.mono (s_Proper_countUseful (d + 1) hF h) (fun r2257 m2258 hq => ?_))
    obtain ⟨hF, h⟩ := hq
    exact gh_ret9 rfl gd_Proper_find_96 ⟨hF, h⟩
theorem s_Proper_find {E : gh_E} {m : gh_M} {Q : Int → gh_M → Prop} (d : Nat) (hF : gh_F m) (h : w_Proper_find m Q) : gh_C E gh_yProper_find prog_8_method_2_code 2 none 9 (d + 3) [(2, 58)] m (fun r m1 => gh_F m1 ∧ Q r m1) := by
  refine gh_enter2 (L := [(0, 2, 58)]) (by decide +kernel) gh_rt9 (Nat.le_of_ble_eq_true rfl) rfl rfl ?_
  unfold w_Proper_find at h
  refine gh_aload_n gd_Proper_find_0 0 rfl (by decide) ?_
  refine gf_58_2 gd_Proper_find_1 gh_k594 hF rfl ?_
  obtain ⟨hA, hB⟩ := h
  refine gh_zeq (tgt := 8) gd_Proper_find_4 (by decide) (fun c2244 => ?_) (fun c2244 => ?_)
  · have h := hA c2244
    refine gh_aload_n gd_Proper_find_8 0 rfl (by decide) ?_
    refine gh_iconst gd_Proper_find_9 (gh_r0 rfl) ?_
    refine pf_58_2 gd_Proper_find_10 gh_k594 hF (by decide) (fun hF => ?_)
    refine gh_aload_n gd_Proper_find_13 0 rfl (by decide) ?_
    refine gh_iconst gd_Proper_find_14 (gh_r0 rfl) ?_
    refine pf_58_7 gd_Proper_find_15 gh_k603 hF (fun hF => ?_)
    refine gh_aload_n gd_Proper_find_18 0 rfl (by decide) ?_
    refine gh_iconst gd_Proper_find_19 (gh_r0 rfl) ?_
    refine pf_58_10 gd_Proper_find_20 gh_k606 hF (fun hF => ?_)
    refine gh_aload_n gd_Proper_find_23 0 rfl (by decide) ?_
    refine gf_58_11 gd_Proper_find_24 gh_k607 hF ?_
    refine gh_iconst gd_Proper_find_27 (gh_r0 rfl) ?_
    refine gh_fillF (d := d + 2) gd_Proper_find_28 gh_k1310 (ga_62 hF) (Nat.le_of_ble_eq_true rfl) hF gn_62 (by decide) (fun hF => ?_)
    refine gh_iconst gd_Proper_find_31 (gh_r0 rfl) ?_
    refine gh_istore_n (L2 := [(1, 0, 0), (0, 2, 58)]) gd_Proper_find_32 (by decide) rfl ?_
    refine gh_pick (L2 := [(0, 2, 58), (1, 0, 0)]) [1, 0] rfl ?_
    exact gh_M1_sound (T := fun v1 m => gh_T E (gh_yProper_find.cls, prog_8_method_2_code, 2, false, 9) (d + 3) 33 [(0, 2, 58), (1, 0, v1)] [] m (fun r m1 => gh_F m1 ∧ Q r m1)) (fun _ m => gh_F m) (fun K33 v1 m hK hF h => b_Proper_find_33 d hK v1 m hF h) 0 (gh_fil (gh_u (gh_u (gh_u m 58 2 1) 58 7 0) 58 10 0) 62 8 0) hF h
  · have h := hB c2244
    exact gh_ret9 rfl gd_Proper_find_7 ⟨hF, h⟩
def w_House_proper (v1 : Int) (m : gh_M) (Q : Int → gh_M → Prop) : Prop := (((¬ (v1 < 0) ∧ (v1 ≤ 2)) → (((m 2 10) = 0 → Q (-1003) m) ∧ (¬ ((m 2 10) = 0) → w_Proper_find m (fun _ m2263 => ((v1 = 0 → Q (m2263 58 3) m2263) ∧ ((v1 = 1 → Q (gh_pop (m2263 58 4)) m2263) ∧ (¬ (v1 = 0) → ¬ (v1 = 1) → Q (m2263 58 5) m2263))))))) ∧ (¬ (¬ (v1 < 0) ∧ (v1 ≤ 2)) → Q (-1002) m))
theorem s_House_proper {E : gh_E} {m : gh_M} {Q : Int → gh_M → Prop} (d : Nat) (v1 : Int) (hF : gh_F m) (h : w_House_proper v1 m Q) : gh_C E gh_yHouse_proper prog_1_method_30_code 2 (some .int) 0 (d + 4) [(2, 2), (0, v1)] m (fun r m1 => gh_F m1 ∧ Q r m1) := by
  refine gh_enter2 (L := [(0, 2, 2), (1, 0, v1)]) (by decide +kernel) gh_rt0 (Nat.le_of_ble_eq_true rfl) rfl rfl ?_
  unfold w_House_proper at h
  refine gh_iload_n gd_House_proper_0 1 rfl ?_
  obtain ⟨hA, hB⟩ := h
  have k2259 : (¬ (v1 < 0) ∧ (v1 ≤ 2)) → gh_T E (gh_yHouse_proper.cls, prog_1_method_30_code, 2, false, 0) (d + 4) 13 [(0, 2, 2), (1, 0, v1)] [] m (fun r m1 => gh_F m1 ∧ Q r m1) := by
    intro c
    have h := hA c
    refine gh_aload_n gd_House_proper_13 0 rfl (by decide) ?_
    refine gf_2_10 gd_House_proper_14 gh_k643 hF rfl ?_
    obtain ⟨hA, hB⟩ := h
    refine gh_zne (tgt := 24) gd_House_proper_17 (by decide) (fun c2261 => ?_) (fun c2261 => ?_)
    · have h := hA c2261
      refine gh_sipush gd_House_proper_20 (by decide) (gh_r0 rfl) ?_
      exact gh_ret0 rfl gd_House_proper_23 ⟨hF, h⟩
    · have h := hB c2261
      refine gh_aload_n gd_House_proper_24 0 rfl (by decide) ?_
      refine gf_2_9 gd_House_proper_25 gh_k642 hF ?_
      refine cv_Proper_find (d := d + 3) gd_House_proper_28 gh_k1306 hF (Nat.le_of_ble_eq_true rfl) (gh_C.mono (s_Proper_find d hF h) (fun r2262 m2263 hq => ?_))
      obtain ⟨hF, h⟩ := hq
      refine gh_iload_n gd_House_proper_31 1 rfl ?_
      obtain ⟨hA, h⟩ := h
      by_cases c2264 : v1 = 0
      · have h := hA c2264
        refine gh_lookup (tgt := 60) gd_House_proper_32 (by decide) (by rw [c2264]; decide) ?_
        refine gh_aload_n gd_House_proper_60 0 rfl (by decide) ?_
        refine gf_2_9 gd_House_proper_61 gh_k642 hF ?_
        refine gf_58_3 gd_House_proper_64 gh_k597 hF rfl ?_
        exact gh_ret0 rfl gd_House_proper_67 ⟨hF, h⟩
      obtain ⟨hA, h⟩ := h
      by_cases c2265 : v1 = 1
      · have h := hA c2265
        refine gh_lookup (tgt := 68) gd_House_proper_32 (by decide) (by rw [c2265]; decide) ?_
        refine gh_aload_n gd_House_proper_68 0 rfl (by decide) ?_
        refine gf_2_9 gd_House_proper_69 gh_k642 hF ?_
        refine gf_58_4 gd_House_proper_72 gh_k599 hF rfl ?_
        refine gh_pr_gh_pop gd_House_proper_75 gh_k1342 (Nat.le_of_ble_eq_true rfl) ?_
        exact gh_ret0 rfl gd_House_proper_78 ⟨hF, h⟩
      have n2266 : ¬ (v1 = 0) := c2264
      have n2267 : ¬ (v1 = 1) := c2265
      refine gh_lookup (tgt := 79) gd_House_proper_32 (by decide) (by simp [Op.lookupswitch.offset]; rw [if_neg (Ne.symm n2266), if_neg (Ne.symm n2267)]; rfl) ?_
      have h := h c2264 c2265
      refine gh_aload_n gd_House_proper_79 0 rfl (by decide) ?_
      refine gf_2_9 gd_House_proper_80 gh_k642 hF ?_
      refine gf_58_5 gd_House_proper_83 gh_k601 hF rfl ?_
      exact gh_ret0 rfl gd_House_proper_86 ⟨hF, h⟩
  have k2260 : ¬ (¬ (v1 < 0) ∧ (v1 ≤ 2)) → gh_T E (gh_yHouse_proper.cls, prog_1_method_30_code, 2, false, 0) (d + 4) 9 [(0, 2, 2), (1, 0, v1)] [] m (fun r m1 => gh_F m1 ∧ Q r m1) := by
    intro c
    have h := hB c
    refine gh_sipush gd_House_proper_9 (by decide) (gh_r0 rfl) ?_
    exact gh_ret0 rfl gd_House_proper_12 ⟨hF, h⟩
  refine gh_zlt (tgt := 9) gd_House_proper_1 (by decide) (fun c2268 => ?_) (fun c2268 => ?_)
  · have hz : True := trivial
    exact k2260 (fun z => z.1 c2268)
  · have hz : True := trivial
    refine gh_iload_n gd_House_proper_4 1 rfl ?_
    refine gh_iconst gd_House_proper_5 (gh_r0 rfl) ?_
    refine gh_jle (tgt := 13) gd_House_proper_6 (by decide) (fun c2269 => ?_) (fun c2269 => ?_)
    · have hz : True := trivial
      exact k2259 ⟨c2268, c2269⟩
    · have hz : True := trivial
      exact k2260 (fun z => c2269 z.2)
def w_House_properly (v1 : Int) (m : gh_M) (Q : Int → gh_M → Prop) : Prop := (((m 2 10) = 0 → Q (-1003) m) ∧ (¬ ((m 2 10) = 0) → ((p_House_isPlace v1 m → w_Chart_refresh m (fun _ m2273 => ((¬ (v1 ≤ 0) → (k_Chart_covers 0 0 v1))) ∧ Q (if (¬ (v1 ≤ 0) ∧ (p_Chart_covers 0 0 v1 m2273)) then (1:Int) else 0) m2273)) ∧ (¬ (p_House_isPlace v1 m) → Q (-1001) m))))
theorem s_House_properly {E : gh_E} {m : gh_M} {Q : Int → gh_M → Prop} (d : Nat) (v1 : Int) (hF : gh_F m) (h : w_House_properly v1 m Q) : gh_C E gh_yHouse_properly prog_1_method_31_code 2 (some .int) 0 (d + 6) [(2, 2), (0, v1)] m (fun r m1 => gh_F m1 ∧ Q r m1) := by
  refine gh_enter2 (L := [(0, 2, 2), (1, 0, v1)]) (by decide +kernel) gh_rt0 (Nat.le_of_ble_eq_true rfl) rfl rfl ?_
  unfold w_House_properly at h
  refine gh_aload_n gd_House_properly_0 0 rfl (by decide) ?_
  refine gf_2_10 gd_House_properly_1 gh_k643 hF rfl ?_
  obtain ⟨hA, hB⟩ := h
  refine gh_zne (tgt := 11) gd_House_properly_4 (by decide) (fun c2270 => ?_) (fun c2270 => ?_)
  · have h := hA c2270
    refine gh_sipush gd_House_properly_7 (by decide) (gh_r0 rfl) ?_
    exact gh_ret0 rfl gd_House_properly_10 ⟨hF, h⟩
  · have h := hB c2270
    refine gh_aload_n gd_House_properly_11 0 rfl (by decide) ?_
    refine gh_iload_n gd_House_properly_12 1 rfl ?_
    refine cv_House_isPlace (d := d + 5) gd_House_properly_13 gh_k1073 hF (Nat.le_of_ble_eq_true rfl) (gh_C.pe (e_House_isPlace (d + 5) v1 hF) ?_)
    obtain ⟨hA, hB⟩ := h
    refine gh_bne (tgt := 23) gd_House_properly_16 (by decide) (fun c2271 => ?_) (fun c2271 => ?_)
    · have h := hA c2271
      refine gh_aload_n gd_House_properly_23 0 rfl (by decide) ?_
      refine gf_2_5 gd_House_properly_24 gh_k638 hF ?_
      refine cv_Chart_refresh (d := d + 5) gd_House_properly_27 gh_k1077 hF (Nat.le_of_ble_eq_true rfl) (gh_C.mono (s_Chart_refresh d hF h) (fun r2272 m2273 hq => ?_))
      obtain ⟨hF, h⟩ := hq
      refine gh_iload_n gd_House_properly_30 1 rfl ?_
      obtain ⟨hk, h⟩ := h
      have k2275 : ∀ x2276 : Int, x2276 = (if (¬ (v1 ≤ 0) ∧ (p_Chart_covers 0 0 v1 m2273)) then (1:Int) else 0) → gh_T E (gh_yHouse_properly.cls, prog_1_method_31_code, 2, false, 0) (d + 6) 52 [(0, 2, 2), (1, 0, v1)] [(0, x2276)] m2273 (fun r m1 => gh_F m1 ∧ Q r m1) := by
        rintro _ rfl
        exact gh_ret0 rfl gd_House_properly_52 ⟨hF, h⟩
      refine gh_zle (tgt := 51) gd_House_properly_31 (by decide) (fun c2277 => ?_) (fun c2277 => ?_)
      · have hz : True := trivial
        refine gh_iconst gd_House_properly_51 (gh_r0 rfl) ?_
        exact k2275 _ (if_neg (c := (¬ (v1 ≤ 0) ∧ (p_Chart_covers 0 0 v1 m2273))) (fun z => z.1 c2277)).symm
      · have hz : True := trivial
        have hk := hk c2277
        refine gh_aload_n gd_House_properly_34 0 rfl (by decide) ?_
        refine gf_2_5 gd_House_properly_35 gh_k638 hF ?_
        refine gh_iconst gd_House_properly_38 (gh_r0 rfl) ?_
        refine gh_iconst gd_House_properly_39 (gh_r0 rfl) ?_
        refine gh_iload_n gd_House_properly_40 1 rfl ?_
        have q2274 := hk
        refine cv_Chart_covers (d := d + 5) gd_House_properly_41 gh_k1117 hF (Nat.le_of_ble_eq_true rfl) (gh_C.pe (e_Chart_covers (d + 5) 0 0 v1 hF q2274) ?_)
        refine gh_beq (tgt := 51) gd_House_properly_44 (by decide) (fun c2278 => ?_) (fun c2278 => ?_)
        · have hz : True := trivial
          refine gh_iconst gd_House_properly_47 (gh_r0 rfl) ?_
          refine gh_goto (tgt := 52) gd_House_properly_48 (by decide) ?_
          exact k2275 _ (if_pos (c := (¬ (v1 ≤ 0) ∧ (p_Chart_covers 0 0 v1 m2273))) ⟨c2277, c2278⟩).symm
        · have hz : True := trivial
          refine gh_iconst gd_House_properly_51 (gh_r0 rfl) ?_
          exact k2275 _ (if_neg (c := (¬ (v1 ≤ 0) ∧ (p_Chart_covers 0 0 v1 m2273))) (fun z => c2278 z.2)).symm
    · have h := hB c2271
      refine gh_sipush gd_House_properly_19 (by decide) (gh_r0 rfl) ?_
      exact gh_ret0 rfl gd_House_properly_22 ⟨hF, h⟩
def f_House_digest_87 (v3 : Int) (K73 : Int → Int → Prop) (m : gh_M) (K87 : Int → Int → Prop) (v1 : Int) (v4 : Int) : Prop := ((v4 ≤ 7 → w_House_name v3 v4 m (fun r2286 => ∀ v1' : Int, v1' = x_House_mix v1 r2286 → gh_i (v4 + 1) ∧ K87 v1' (v4 + 1))) ∧ (¬ (v4 ≤ 7) → 0 ≤ v3 ∧ v3 < 8 ∧ 0 ≤ v3 ∧ v3 < 8 ∧ ∀ v1' : Int, v1' = x_House_mix (x_House_mix v1 (m 22 v3)) (m 23 v3) → gh_i (v3 + 1) ∧ K73 v1' (v3 + 1)))
def f_House_digest_283 (Q : Int → gh_M → Prop) (K283 : Int → Int → gh_M → Prop) (v1 : Int) (v3 : Int) (m : gh_M) : Prop := ((v3 ≤ 2 → w_House_proper v3 m (fun r2313 m2314 => ∀ v1' : Int, v1' = x_House_mix v1 r2313 → gh_i (v3 + 1) ∧ K283 v1' (v3 + 1) m2314)) ∧ (¬ (v3 ≤ 2) → Q v1 m))
def f_House_digest_249 (Q : Int → gh_M → Prop) (m : gh_M) (K249 : Int → Int → Prop) (v1 : Int) (v3 : Int) : Prop := ((v3 < (m 47 4) → 0 ≤ v3 ∧ v3 < 300 ∧ ∀ v1' : Int, v1' = x_House_mix v1 (m 48 v3) → gh_i (v3 + 1) ∧ K249 v1' (v3 + 1)) ∧ (¬ (v3 < (m 47 4)) → gh_M2 (fun K283 v1 v3 m => f_House_digest_283 Q K283 v1 v3 m) v1 0 m))
def f_House_digest_190 (Q : Int → gh_M → Prop) (K190 : Int → Int → gh_M → Prop) (v1 : Int) (v3 : Int) (m : gh_M) : Prop := ((v3 ≤ (m 26 3) → 0 ≤ v3 ∧ v3 < 9 ∧ 0 ≤ v3 ∧ v3 < 9 ∧ w_Wants_behind v3 m (fun r2305 m2306 => ∀ v1' : Int, v1' = x_House_mix (x_House_mix (x_House_mix v1 (m 35 v3)) (m 34 v3)) r2305 → gh_i (v3 + 1) ∧ K190 v1' (v3 + 1) m2306)) ∧ (¬ (v3 ≤ (m 26 3)) → gh_L2 (fun K249 v1 v3 => f_House_digest_249 Q m K249 v1 v3) v1 0))
def f_House_digest_149 (Q : Int → gh_M → Prop) (m : gh_M) (K149 : Int → Int → Prop) (v1 : Int) (v3 : Int) : Prop := ((v3 < (m 26 3) → 0 ≤ v3 ∧ v3 < 8 ∧ ∀ v1' : Int, v1' = x_House_mix v1 (m 27 v3) → gh_i (v3 + 1) ∧ K149 v1' (v3 + 1)) ∧ (¬ (v3 < (m 26 3)) → w_Chart_refresh m (fun _ m2299 => gh_M2 (fun K190 v1 v3 m => f_House_digest_190 Q K190 v1 v3 m) v1 0 m2299)))
def f_House_digest_73 (Q : Int → gh_M → Prop) (m : gh_M) (K73 : Int → Int → Prop) (v1 : Int) (v3 : Int) : Prop := ((v3 < (m 13 1) → gh_L2 (fun K87 v1 v4 => f_House_digest_87 v3 K73 m K87 v1 v4) v1 0) ∧ (¬ (v3 < (m 13 1)) → gh_L2 (fun K149 v1 v3 => f_House_digest_149 Q m K149 v1 v3) v1 0))
def f_House_digest_48 (Q : Int → gh_M → Prop) (m : gh_M) (K48 : Int → Int → Prop) (v1 : Int) (v3 : Int) : Prop := ((v3 ≤ 6 → w_House_sum v3 m (fun r2281 => ∀ v1' : Int, v1' = x_House_mix v1 r2281 → gh_i (v3 + 1) ∧ K48 v1' (v3 + 1))) ∧ (¬ (v3 ≤ 6) → gh_L2 (fun K73 v1 v3 => f_House_digest_73 Q m K73 v1 v3) v1 0))
def w_House_digest (m : gh_M) (Q : Int → gh_M → Prop) : Prop := ∀ v1 : Int, v1 = x_House_mix (x_House_mix (x_House_mix 17 (m 3 1)) (m 5 1)) (m 5 2) → (((m 2 10) = 0 → Q v1 m) ∧ (¬ ((m 2 10) = 0) → gh_L2 (fun K48 v1 v3 => f_House_digest_48 Q m K48 v1 v3) v1 0))
theorem b_House_digest_87 {E : gh_E} {v3 : Int} {K73 : Int → Int → Prop} {Q : Int → gh_M → Prop} {K87 : Int → Int → Prop} (d : Nat) {m : gh_M} (hK73 : ∀ (v1 : Int) (v3 : Int), gh_F m → K73 v1 v3 → gh_T E (gh_yHouse_digest.cls, prog_1_method_32_code, 5, false, 1) (d + 6) 73 [(0, 2, 2), (1, 1, v1), (3, 0, v3)] [] m (fun r m1 => gh_F m1 ∧ Q r m1)) (hK : ∀ (v1 : Int) (v4 : Int), gh_F m → K87 v1 v4 → gh_T E (gh_yHouse_digest.cls, prog_1_method_32_code, 5, false, 1) (d + 6) 87 [(0, 2, 2), (1, 1, v1), (3, 0, v3), (4, 0, v4)] [] m (fun r m1 => gh_F m1 ∧ Q r m1)) (v1 : Int) (v4 : Int) (hF : gh_F m) (h : f_House_digest_87 v3 K73 m K87 v1 v4) : gh_T E (gh_yHouse_digest.cls, prog_1_method_32_code, 5, false, 1) (d + 6) 87 [(0, 2, 2), (1, 1, v1), (3, 0, v3), (4, 0, v4)] [] m (fun r m1 => gh_F m1 ∧ Q r m1) := by
  have hK87 := hK
  unfold f_House_digest_87 at h
  refine gh_iload gd_House_digest_87 3 rfl ?_
  refine gh_bipush gd_House_digest_89 (by decide) (gh_r0 rfl) ?_
  obtain ⟨hA, hB⟩ := h
  refine gh_jgt (tgt := 113) gd_House_digest_91 (by decide) (fun c2285 => ?_) (fun c2285 => ?_)
  · have h := hA c2285
    refine gh_lload_n gd_House_digest_94 1 rfl ?_
    refine gh_aload_n gd_House_digest_95 0 rfl (by decide) ?_
    refine gh_iload_n gd_House_digest_96 2 rfl ?_
    refine gh_iload gd_House_digest_97 3 rfl ?_
    refine cv_House_name (d := d + 5) gd_House_digest_99 gh_k1357 hF (Nat.le_of_ble_eq_true rfl) (gh_C.pw (s_House_name (d + 4) v3 v4 hF h) (fun r2286 h => ?_))
    refine gh_i2l gd_House_digest_102 ?_
    refine cv_House_mix (d := d + 5) gd_House_digest_103 gh_k1352 (Nat.le_of_ble_eq_true rfl) (gh_C.pe (e_House_mix (d + 5) v1 r2286) ?_)
    refine gh_name (fun v1' hn => ?_)
    have h := h v1' hn
    refine gh_lstore_n (L2 := [(1, 1, v1'), (0, 2, 2), (3, 0, v3), (4, 0, v4)]) gd_House_digest_106 (by decide) rfl ?_
    obtain ⟨q2288, h⟩ := h
    refine gh_iinc (L2 := [(4, 0, v4 + 1), (1, 1, v1'), (0, 2, 2), (3, 0, v3)]) gd_House_digest_107 3 rfl q2288 (by decide) rfl ?_
    refine gh_goto (tgt := 87) gd_House_digest_110 (by decide) ?_
    refine gh_pick (L2 := [(0, 2, 2), (1, 1, v1'), (3, 0, v3), (4, 0, v4 + 1)]) [2, 1, 3, 0] rfl ?_
    exact hK87 v1' (v4 + 1) hF h
  · have h := hB c2285
    refine gh_lload_n gd_House_digest_113 1 rfl ?_
    refine gh_aload_n gd_House_digest_114 0 rfl (by decide) ?_
    refine gf_2_3 gd_House_digest_115 gh_k636 hF ?_
    refine gf_20_7 gd_House_digest_118 gh_k338 hF ?_
    refine gh_iload_n gd_House_digest_121 2 rfl ?_
    obtain ⟨q2289, h⟩ := h
    obtain ⟨q2290, h⟩ := h
    refine la_22 gd_House_digest_122 hF q2289 q2290 rfl ?_
    refine gh_i2l gd_House_digest_123 ?_
    refine cv_House_mix (d := d + 5) gd_House_digest_124 gh_k1352 (Nat.le_of_ble_eq_true rfl) (gh_C.pe (e_House_mix (d + 5) v1 (m 22 v3)) ?_)
    refine gh_aload_n gd_House_digest_127 0 rfl (by decide) ?_
    refine gf_2_3 gd_House_digest_128 gh_k636 hF ?_
    refine gf_20_8 gd_House_digest_131 gh_k340 hF ?_
    refine gh_iload_n gd_House_digest_134 2 rfl ?_
    obtain ⟨q2291, h⟩ := h
    obtain ⟨q2292, h⟩ := h
    refine la_23 gd_House_digest_135 hF q2291 q2292 rfl ?_
    refine gh_i2l gd_House_digest_136 ?_
    refine cv_House_mix (d := d + 5) gd_House_digest_137 gh_k1352 (Nat.le_of_ble_eq_true rfl) (gh_C.pe (e_House_mix (d + 5) (x_House_mix v1 (m 22 v3)) (m 23 v3)) ?_)
    refine gh_name (fun v1' hn => ?_)
    have h := h v1' hn
    refine gh_lstore_n (L2 := [(1, 1, v1'), (0, 2, 2), (3, 0, v3), (4, 0, v4)]) gd_House_digest_140 (by decide) rfl ?_
    obtain ⟨q2293, h⟩ := h
    refine gh_iinc (L2 := [(3, 0, v3 + 1), (1, 1, v1'), (0, 2, 2), (4, 0, v4)]) gd_House_digest_141 2 rfl q2293 (by decide) rfl ?_
    refine gh_goto (tgt := 73) gd_House_digest_144 (by decide) ?_
    refine gh_pick (L2 := [(0, 2, 2), (1, 1, v1'), (3, 0, v3 + 1)]) [2, 1, 0] rfl ?_
    exact hK73 v1' (v3 + 1) hF h
theorem b_House_digest_283 {E : gh_E} {Q : Int → gh_M → Prop} {K283 : Int → Int → gh_M → Prop} (d : Nat) (hK : ∀ (v1 : Int) (v3 : Int) (m : gh_M), gh_F m → K283 v1 v3 m → gh_T E (gh_yHouse_digest.cls, prog_1_method_32_code, 5, false, 1) (d + 6) 283 [(0, 2, 2), (1, 1, v1), (3, 0, v3)] [] m (fun r m1 => gh_F m1 ∧ Q r m1)) (v1 : Int) (v3 : Int) (m : gh_M) (hF : gh_F m) (h : f_House_digest_283 Q K283 v1 v3 m) : gh_T E (gh_yHouse_digest.cls, prog_1_method_32_code, 5, false, 1) (d + 6) 283 [(0, 2, 2), (1, 1, v1), (3, 0, v3)] [] m (fun r m1 => gh_F m1 ∧ Q r m1) := by
  have hK283 := hK
  unfold f_House_digest_283 at h
  refine gh_iload_n gd_House_digest_283 2 rfl ?_
  refine gh_iconst gd_House_digest_284 (gh_r0 rfl) ?_
  obtain ⟨hA, hB⟩ := h
  refine gh_jgt (tgt := 305) gd_House_digest_285 (by decide) (fun c2312 => ?_) (fun c2312 => ?_)
  · have h := hA c2312
    refine gh_lload_n gd_House_digest_288 1 rfl ?_
    refine gh_aload_n gd_House_digest_289 0 rfl (by decide) ?_
    refine gh_iload_n gd_House_digest_290 2 rfl ?_
    refine cv_House_proper (d := d + 5) gd_House_digest_291 gh_k1358 hF (Nat.le_of_ble_eq_true rfl) (gh_C.mono (s_House_proper (d + 1) v3 hF h) (fun r2313 m2314 hq => ?_))
    obtain ⟨hF, h⟩ := hq
    refine gh_i2l gd_House_digest_294 ?_
    refine cv_House_mix (d := d + 5) gd_House_digest_295 gh_k1352 (Nat.le_of_ble_eq_true rfl) (gh_C.pe (e_House_mix (d + 5) v1 r2313) ?_)
    refine gh_name (fun v1' hn => ?_)
    have h := h v1' hn
    refine gh_lstore_n (L2 := [(1, 1, v1'), (0, 2, 2), (3, 0, v3)]) gd_House_digest_298 (by decide) rfl ?_
    obtain ⟨q2315, h⟩ := h
    refine gh_iinc (L2 := [(3, 0, v3 + 1), (1, 1, v1'), (0, 2, 2)]) gd_House_digest_299 2 rfl q2315 (by decide) rfl ?_
    refine gh_goto (tgt := 283) gd_House_digest_302 (by decide) ?_
    refine gh_pick (L2 := [(0, 2, 2), (1, 1, v1'), (3, 0, v3 + 1)]) [2, 1, 0] rfl ?_
    exact hK283 v1' (v3 + 1) m2314 hF h
  · have h := hB c2312
    refine gh_lload_n gd_House_digest_305 1 rfl ?_
    exact gh_ret1 rfl gd_House_digest_306 ⟨hF, h⟩
theorem b_House_digest_249 {E : gh_E} {Q : Int → gh_M → Prop} {K249 : Int → Int → Prop} (d : Nat) {m : gh_M} (hK : ∀ (v1 : Int) (v3 : Int), gh_F m → K249 v1 v3 → gh_T E (gh_yHouse_digest.cls, prog_1_method_32_code, 5, false, 1) (d + 6) 249 [(0, 2, 2), (1, 1, v1), (3, 0, v3)] [] m (fun r m1 => gh_F m1 ∧ Q r m1)) (v1 : Int) (v3 : Int) (hF : gh_F m) (h : f_House_digest_249 Q m K249 v1 v3) : gh_T E (gh_yHouse_digest.cls, prog_1_method_32_code, 5, false, 1) (d + 6) 249 [(0, 2, 2), (1, 1, v1), (3, 0, v3)] [] m (fun r m1 => gh_F m1 ∧ Q r m1) := by
  have hK249 := hK
  unfold f_House_digest_249 at h
  refine gh_iload_n gd_House_digest_249 2 rfl ?_
  refine gh_aload_n gd_House_digest_250 0 rfl (by decide) ?_
  refine gf_2_8 gd_House_digest_251 gh_k641 hF ?_
  refine gf_47_4 gd_House_digest_254 gh_k537 hF rfl ?_
  obtain ⟨hA, hB⟩ := h
  refine gh_jge (tgt := 281) gd_House_digest_257 (by decide) (fun c2308 => ?_) (fun c2308 => ?_)
  · have h := hA c2308
    refine gh_lload_n gd_House_digest_260 1 rfl ?_
    refine gh_aload_n gd_House_digest_261 0 rfl (by decide) ?_
    refine gf_2_8 gd_House_digest_262 gh_k641 hF ?_
    refine gf_47_3 gd_House_digest_265 gh_k535 hF ?_
    refine gh_iload_n gd_House_digest_268 2 rfl ?_
    obtain ⟨q2309, h⟩ := h
    obtain ⟨q2310, h⟩ := h
    refine la_48 gd_House_digest_269 hF q2309 q2310 rfl ?_
    refine gh_i2l gd_House_digest_270 ?_
    refine cv_House_mix (d := d + 5) gd_House_digest_271 gh_k1352 (Nat.le_of_ble_eq_true rfl) (gh_C.pe (e_House_mix (d + 5) v1 (m 48 v3)) ?_)
    refine gh_name (fun v1' hn => ?_)
    have h := h v1' hn
    refine gh_lstore_n (L2 := [(1, 1, v1'), (0, 2, 2), (3, 0, v3)]) gd_House_digest_274 (by decide) rfl ?_
    obtain ⟨q2311, h⟩ := h
    refine gh_iinc (L2 := [(3, 0, v3 + 1), (1, 1, v1'), (0, 2, 2)]) gd_House_digest_275 2 rfl q2311 (by decide) rfl ?_
    refine gh_goto (tgt := 249) gd_House_digest_278 (by decide) ?_
    refine gh_pick (L2 := [(0, 2, 2), (1, 1, v1'), (3, 0, v3 + 1)]) [2, 1, 0] rfl ?_
    exact hK249 v1' (v3 + 1) hF h
  · have h := hB c2308
    refine gh_iconst gd_House_digest_281 (gh_r0 rfl) ?_
    refine gh_istore_n (L2 := [(3, 0, 0), (0, 2, 2), (1, 1, v1)]) gd_House_digest_282 (by decide) rfl ?_
    refine gh_pick (L2 := [(0, 2, 2), (1, 1, v1), (3, 0, 0)]) [1, 2, 0] rfl ?_
    exact gh_M2_sound (T := fun v1 v3 m => gh_T E (gh_yHouse_digest.cls, prog_1_method_32_code, 5, false, 1) (d + 6) 283 [(0, 2, 2), (1, 1, v1), (3, 0, v3)] [] m (fun r m1 => gh_F m1 ∧ Q r m1)) (fun _ _ m => gh_F m) (fun K283 v1 v3 m hK hF h => b_House_digest_283 d hK v1 v3 m hF h) v1 0 m hF h
theorem b_House_digest_190 {E : gh_E} {Q : Int → gh_M → Prop} {K190 : Int → Int → gh_M → Prop} (d : Nat) (hK : ∀ (v1 : Int) (v3 : Int) (m : gh_M), gh_F m → K190 v1 v3 m → gh_T E (gh_yHouse_digest.cls, prog_1_method_32_code, 5, false, 1) (d + 6) 190 [(0, 2, 2), (1, 1, v1), (3, 0, v3)] [] m (fun r m1 => gh_F m1 ∧ Q r m1)) (v1 : Int) (v3 : Int) (m : gh_M) (hF : gh_F m) (h : f_House_digest_190 Q K190 v1 v3 m) : gh_T E (gh_yHouse_digest.cls, prog_1_method_32_code, 5, false, 1) (d + 6) 190 [(0, 2, 2), (1, 1, v1), (3, 0, v3)] [] m (fun r m1 => gh_F m1 ∧ Q r m1) := by
  have hK190 := hK
  unfold f_House_digest_190 at h
  refine gh_iload_n gd_House_digest_190 2 rfl ?_
  refine gh_aload_n gd_House_digest_191 0 rfl (by decide) ?_
  refine gf_2_4 gd_House_digest_192 gh_k637 hF ?_
  refine gf_26_3 gd_House_digest_195 gh_k381 hF rfl ?_
  obtain ⟨hA, hB⟩ := h
  refine gh_jgt (tgt := 247) gd_House_digest_198 (by decide) (fun c2300 => ?_) (fun c2300 => ?_)
  · have h := hA c2300
    refine gh_lload_n gd_House_digest_201 1 rfl ?_
    refine gh_aload_n gd_House_digest_202 0 rfl (by decide) ?_
    refine gf_2_5 gd_House_digest_203 gh_k638 hF ?_
    refine gf_30_8 gd_House_digest_206 gh_k424 hF ?_
    refine gh_iload_n gd_House_digest_209 2 rfl ?_
    obtain ⟨q2301, h⟩ := h
    obtain ⟨q2302, h⟩ := h
    refine la_35 gd_House_digest_210 hF q2301 q2302 rfl ?_
    refine gh_i2l gd_House_digest_211 ?_
    refine cv_House_mix (d := d + 5) gd_House_digest_212 gh_k1352 (Nat.le_of_ble_eq_true rfl) (gh_C.pe (e_House_mix (d + 5) v1 (m 35 v3)) ?_)
    refine gh_aload_n gd_House_digest_215 0 rfl (by decide) ?_
    refine gf_2_5 gd_House_digest_216 gh_k638 hF ?_
    refine gf_30_7 gd_House_digest_219 gh_k422 hF ?_
    refine gh_iload_n gd_House_digest_222 2 rfl ?_
    obtain ⟨q2303, h⟩ := h
    obtain ⟨q2304, h⟩ := h
    refine la_34 gd_House_digest_223 hF q2303 q2304 rfl ?_
    refine gh_i2l gd_House_digest_224 ?_
    refine cv_House_mix (d := d + 5) gd_House_digest_225 gh_k1352 (Nat.le_of_ble_eq_true rfl) (gh_C.pe (e_House_mix (d + 5) (x_House_mix v1 (m 35 v3)) (m 34 v3)) ?_)
    refine gh_aload_n gd_House_digest_228 0 rfl (by decide) ?_
    refine gf_2_6 gd_House_digest_229 gh_k639 hF ?_
    refine gh_iload_n gd_House_digest_232 2 rfl ?_
    refine cv_Wants_behind (d := d + 5) gd_House_digest_233 gh_k1145 hF (Nat.le_of_ble_eq_true rfl) (gh_C.mono (s_Wants_behind d v3 hF h) (fun r2305 m2306 hq => ?_))
    obtain ⟨hF, h⟩ := hq
    refine gh_i2l gd_House_digest_236 ?_
    refine cv_House_mix (d := d + 5) gd_House_digest_237 gh_k1352 (Nat.le_of_ble_eq_true rfl) (gh_C.pe (e_House_mix (d + 5) (x_House_mix (x_House_mix v1 (m 35 v3)) (m 34 v3)) r2305) ?_)
    refine gh_name (fun v1' hn => ?_)
    have h := h v1' hn
    refine gh_lstore_n (L2 := [(1, 1, v1'), (0, 2, 2), (3, 0, v3)]) gd_House_digest_240 (by decide) rfl ?_
    obtain ⟨q2307, h⟩ := h
    refine gh_iinc (L2 := [(3, 0, v3 + 1), (1, 1, v1'), (0, 2, 2)]) gd_House_digest_241 2 rfl q2307 (by decide) rfl ?_
    refine gh_goto (tgt := 190) gd_House_digest_244 (by decide) ?_
    refine gh_pick (L2 := [(0, 2, 2), (1, 1, v1'), (3, 0, v3 + 1)]) [2, 1, 0] rfl ?_
    exact hK190 v1' (v3 + 1) m2306 hF h
  · have h := hB c2300
    refine gh_iconst gd_House_digest_247 (gh_r0 rfl) ?_
    refine gh_istore_n (L2 := [(3, 0, 0), (0, 2, 2), (1, 1, v1)]) gd_House_digest_248 (by decide) rfl ?_
    refine gh_pick (L2 := [(0, 2, 2), (1, 1, v1), (3, 0, 0)]) [1, 2, 0] rfl ?_
    exact gh_L2_sound (T := fun v1 v3 => gh_T E (gh_yHouse_digest.cls, prog_1_method_32_code, 5, false, 1) (d + 6) 249 [(0, 2, 2), (1, 1, v1), (3, 0, v3)] [] m (fun r m1 => gh_F m1 ∧ Q r m1)) (fun _ _ => gh_F m) (fun K249 v1 v3 hK hF h => b_House_digest_249 d hK v1 v3 hF h) v1 0 hF h
theorem b_House_digest_149 {E : gh_E} {Q : Int → gh_M → Prop} {K149 : Int → Int → Prop} (d : Nat) {m : gh_M} (hK : ∀ (v1 : Int) (v3 : Int), gh_F m → K149 v1 v3 → gh_T E (gh_yHouse_digest.cls, prog_1_method_32_code, 5, false, 1) (d + 6) 149 [(0, 2, 2), (1, 1, v1), (3, 0, v3)] [] m (fun r m1 => gh_F m1 ∧ Q r m1)) (v1 : Int) (v3 : Int) (hF : gh_F m) (h : f_House_digest_149 Q m K149 v1 v3) : gh_T E (gh_yHouse_digest.cls, prog_1_method_32_code, 5, false, 1) (d + 6) 149 [(0, 2, 2), (1, 1, v1), (3, 0, v3)] [] m (fun r m1 => gh_F m1 ∧ Q r m1) := by
  have hK149 := hK
  unfold f_House_digest_149 at h
  refine gh_iload_n gd_House_digest_149 2 rfl ?_
  refine gh_aload_n gd_House_digest_150 0 rfl (by decide) ?_
  refine gf_2_4 gd_House_digest_151 gh_k637 hF ?_
  refine gf_26_3 gd_House_digest_154 gh_k381 hF rfl ?_
  obtain ⟨hA, hB⟩ := h
  refine gh_jge (tgt := 181) gd_House_digest_157 (by decide) (fun c2294 => ?_) (fun c2294 => ?_)
  · have h := hA c2294
    refine gh_lload_n gd_House_digest_160 1 rfl ?_
    refine gh_aload_n gd_House_digest_161 0 rfl (by decide) ?_
    refine gf_2_4 gd_House_digest_162 gh_k637 hF ?_
    refine gf_26_2 gd_House_digest_165 gh_k377 hF ?_
    refine gh_iload_n gd_House_digest_168 2 rfl ?_
    obtain ⟨q2295, h⟩ := h
    obtain ⟨q2296, h⟩ := h
    refine la_27 gd_House_digest_169 hF q2295 q2296 rfl ?_
    refine gh_i2l gd_House_digest_170 ?_
    refine cv_House_mix (d := d + 5) gd_House_digest_171 gh_k1352 (Nat.le_of_ble_eq_true rfl) (gh_C.pe (e_House_mix (d + 5) v1 (m 27 v3)) ?_)
    refine gh_name (fun v1' hn => ?_)
    have h := h v1' hn
    refine gh_lstore_n (L2 := [(1, 1, v1'), (0, 2, 2), (3, 0, v3)]) gd_House_digest_174 (by decide) rfl ?_
    obtain ⟨q2297, h⟩ := h
    refine gh_iinc (L2 := [(3, 0, v3 + 1), (1, 1, v1'), (0, 2, 2)]) gd_House_digest_175 2 rfl q2297 (by decide) rfl ?_
    refine gh_goto (tgt := 149) gd_House_digest_178 (by decide) ?_
    refine gh_pick (L2 := [(0, 2, 2), (1, 1, v1'), (3, 0, v3 + 1)]) [2, 1, 0] rfl ?_
    exact hK149 v1' (v3 + 1) hF h
  · have h := hB c2294
    refine gh_aload_n gd_House_digest_181 0 rfl (by decide) ?_
    refine gf_2_5 gd_House_digest_182 gh_k638 hF ?_
    refine cv_Chart_refresh (d := d + 5) gd_House_digest_185 gh_k1077 hF (Nat.le_of_ble_eq_true rfl) (gh_C.mono (s_Chart_refresh d hF h) (fun r2298 m2299 hq => ?_))
    obtain ⟨hF, h⟩ := hq
    refine gh_iconst gd_House_digest_188 (gh_r0 rfl) ?_
    refine gh_istore_n (L2 := [(3, 0, 0), (0, 2, 2), (1, 1, v1)]) gd_House_digest_189 (by decide) rfl ?_
    refine gh_pick (L2 := [(0, 2, 2), (1, 1, v1), (3, 0, 0)]) [1, 2, 0] rfl ?_
    exact gh_M2_sound (T := fun v1 v3 m => gh_T E (gh_yHouse_digest.cls, prog_1_method_32_code, 5, false, 1) (d + 6) 190 [(0, 2, 2), (1, 1, v1), (3, 0, v3)] [] m (fun r m1 => gh_F m1 ∧ Q r m1)) (fun _ _ m => gh_F m) (fun K190 v1 v3 m hK hF h => b_House_digest_190 d hK v1 v3 m hF h) v1 0 m2299 hF h
theorem b_House_digest_73 {E : gh_E} {Q : Int → gh_M → Prop} {K73 : Int → Int → Prop} (d : Nat) {m : gh_M} (hK : ∀ (v1 : Int) (v3 : Int), gh_F m → K73 v1 v3 → gh_T E (gh_yHouse_digest.cls, prog_1_method_32_code, 5, false, 1) (d + 6) 73 [(0, 2, 2), (1, 1, v1), (3, 0, v3)] [] m (fun r m1 => gh_F m1 ∧ Q r m1)) (v1 : Int) (v3 : Int) (hF : gh_F m) (h : f_House_digest_73 Q m K73 v1 v3) : gh_T E (gh_yHouse_digest.cls, prog_1_method_32_code, 5, false, 1) (d + 6) 73 [(0, 2, 2), (1, 1, v1), (3, 0, v3)] [] m (fun r m1 => gh_F m1 ∧ Q r m1) := by
  have hK73 := hK
  unfold f_House_digest_73 at h
  refine gh_iload_n gd_House_digest_73 2 rfl ?_
  refine gh_aload_n gd_House_digest_74 0 rfl (by decide) ?_
  refine gf_2_2 gd_House_digest_75 gh_k635 hF ?_
  refine gf_13_1 gd_House_digest_78 gh_k262 hF rfl ?_
  obtain ⟨hA, hB⟩ := h
  refine gh_jge (tgt := 147) gd_House_digest_81 (by decide) (fun c2284 => ?_) (fun c2284 => ?_)
  · have h := hA c2284
    refine gh_iconst gd_House_digest_84 (gh_r0 rfl) ?_
    refine gh_istore (L2 := [(4, 0, 0), (0, 2, 2), (1, 1, v1), (3, 0, v3)]) gd_House_digest_85 (by decide) rfl ?_
    refine gh_pick (L2 := [(0, 2, 2), (1, 1, v1), (3, 0, v3), (4, 0, 0)]) [1, 2, 3, 0] rfl ?_
    exact gh_L2_sound (T := fun v1 v4 => gh_T E (gh_yHouse_digest.cls, prog_1_method_32_code, 5, false, 1) (d + 6) 87 [(0, 2, 2), (1, 1, v1), (3, 0, v3), (4, 0, v4)] [] m (fun r m1 => gh_F m1 ∧ Q r m1)) (fun _ _ => gh_F m) (fun K87 v1 v4 hK hF h => b_House_digest_87 d hK73 hK v1 v4 hF h) v1 0 hF h
  · have h := hB c2284
    refine gh_iconst gd_House_digest_147 (gh_r0 rfl) ?_
    refine gh_istore_n (L2 := [(3, 0, 0), (0, 2, 2), (1, 1, v1)]) gd_House_digest_148 (by decide) rfl ?_
    refine gh_pick (L2 := [(0, 2, 2), (1, 1, v1), (3, 0, 0)]) [1, 2, 0] rfl ?_
    exact gh_L2_sound (T := fun v1 v3 => gh_T E (gh_yHouse_digest.cls, prog_1_method_32_code, 5, false, 1) (d + 6) 149 [(0, 2, 2), (1, 1, v1), (3, 0, v3)] [] m (fun r m1 => gh_F m1 ∧ Q r m1)) (fun _ _ => gh_F m) (fun K149 v1 v3 hK hF h => b_House_digest_149 d hK v1 v3 hF h) v1 0 hF h
theorem b_House_digest_48 {E : gh_E} {Q : Int → gh_M → Prop} {K48 : Int → Int → Prop} (d : Nat) {m : gh_M} (hK : ∀ (v1 : Int) (v3 : Int), gh_F m → K48 v1 v3 → gh_T E (gh_yHouse_digest.cls, prog_1_method_32_code, 5, false, 1) (d + 6) 48 [(0, 2, 2), (1, 1, v1), (3, 0, v3)] [] m (fun r m1 => gh_F m1 ∧ Q r m1)) (v1 : Int) (v3 : Int) (hF : gh_F m) (h : f_House_digest_48 Q m K48 v1 v3) : gh_T E (gh_yHouse_digest.cls, prog_1_method_32_code, 5, false, 1) (d + 6) 48 [(0, 2, 2), (1, 1, v1), (3, 0, v3)] [] m (fun r m1 => gh_F m1 ∧ Q r m1) := by
  have hK48 := hK
  unfold f_House_digest_48 at h
  refine gh_iload_n gd_House_digest_48 2 rfl ?_
  refine gh_bipush gd_House_digest_49 (by decide) (gh_r0 rfl) ?_
  obtain ⟨hA, hB⟩ := h
  refine gh_jgt (tgt := 71) gd_House_digest_51 (by decide) (fun c2280 => ?_) (fun c2280 => ?_)
  · have h := hA c2280
    refine gh_lload_n gd_House_digest_54 1 rfl ?_
    refine gh_aload_n gd_House_digest_55 0 rfl (by decide) ?_
    refine gh_iload_n gd_House_digest_56 2 rfl ?_
    refine cv_House_sum (d := d + 5) gd_House_digest_57 gh_k1356 hF (Nat.le_of_ble_eq_true rfl) (gh_C.pw (s_House_sum (d + 3) v3 hF h) (fun r2281 h => ?_))
    refine gh_i2l gd_House_digest_60 ?_
    refine cv_House_mix (d := d + 5) gd_House_digest_61 gh_k1352 (Nat.le_of_ble_eq_true rfl) (gh_C.pe (e_House_mix (d + 5) v1 r2281) ?_)
    refine gh_name (fun v1' hn => ?_)
    have h := h v1' hn
    refine gh_lstore_n (L2 := [(1, 1, v1'), (0, 2, 2), (3, 0, v3)]) gd_House_digest_64 (by decide) rfl ?_
    obtain ⟨q2283, h⟩ := h
    refine gh_iinc (L2 := [(3, 0, v3 + 1), (1, 1, v1'), (0, 2, 2)]) gd_House_digest_65 2 rfl q2283 (by decide) rfl ?_
    refine gh_goto (tgt := 48) gd_House_digest_68 (by decide) ?_
    refine gh_pick (L2 := [(0, 2, 2), (1, 1, v1'), (3, 0, v3 + 1)]) [2, 1, 0] rfl ?_
    exact hK48 v1' (v3 + 1) hF h
  · have h := hB c2280
    refine gh_iconst gd_House_digest_71 (gh_r0 rfl) ?_
    refine gh_istore_n (L2 := [(3, 0, 0), (0, 2, 2), (1, 1, v1)]) gd_House_digest_72 (by decide) rfl ?_
    refine gh_pick (L2 := [(0, 2, 2), (1, 1, v1), (3, 0, 0)]) [1, 2, 0] rfl ?_
    exact gh_L2_sound (T := fun v1 v3 => gh_T E (gh_yHouse_digest.cls, prog_1_method_32_code, 5, false, 1) (d + 6) 73 [(0, 2, 2), (1, 1, v1), (3, 0, v3)] [] m (fun r m1 => gh_F m1 ∧ Q r m1)) (fun _ _ => gh_F m) (fun K73 v1 v3 hK hF h => b_House_digest_73 d hK v1 v3 hF h) v1 0 hF h
theorem s_House_digest {E : gh_E} {m : gh_M} {Q : Int → gh_M → Prop} (d : Nat) (hF : gh_F m) (h : w_House_digest m Q) : gh_C E gh_yHouse_digest prog_1_method_32_code 5 (some .long) 1 (d + 6) [(2, 2)] m (fun r m1 => gh_F m1 ∧ Q r m1) := by
  refine gh_enter2 (L := [(0, 2, 2)]) (by decide +kernel) gh_rt1 (Nat.le_of_ble_eq_true rfl) rfl rfl ?_
  unfold w_House_digest at h
  refine gh_ldc2 (n := 17) gd_House_digest_0 gh_k1351 (by decide) (gh_r1 rfl) ?_
  refine gh_aload_n gd_House_digest_3 0 rfl (by decide) ?_
  refine gf_2_0 gd_House_digest_4 gh_k633 hF ?_
  refine gf_3_1 gd_House_digest_7 gh_k162 hF rfl ?_
  refine gh_i2l gd_House_digest_10 ?_
  refine cv_House_mix (d := d + 5) gd_House_digest_11 gh_k1352 (Nat.le_of_ble_eq_true rfl) (gh_C.pe (e_House_mix (d + 5) 17 (m 3 1)) ?_)
  refine gh_aload_n gd_House_digest_14 0 rfl (by decide) ?_
  refine gf_2_1 gd_House_digest_15 gh_k634 hF ?_
  refine gf_5_1 gd_House_digest_18 gh_k220 hF rfl ?_
  refine gh_i2l gd_House_digest_21 ?_
  refine cv_House_mix (d := d + 5) gd_House_digest_22 gh_k1352 (Nat.le_of_ble_eq_true rfl) (gh_C.pe (e_House_mix (d + 5) (x_House_mix 17 (m 3 1)) (m 5 1)) ?_)
  refine gh_aload_n gd_House_digest_25 0 rfl (by decide) ?_
  refine gf_2_1 gd_House_digest_26 gh_k634 hF ?_
  refine gf_5_2 gd_House_digest_29 gh_k222 hF rfl ?_
  refine gh_i2l gd_House_digest_32 ?_
  refine cv_House_mix (d := d + 5) gd_House_digest_33 gh_k1352 (Nat.le_of_ble_eq_true rfl) (gh_C.pe (e_House_mix (d + 5) (x_House_mix (x_House_mix 17 (m 3 1)) (m 5 1)) (m 5 2)) ?_)
  refine gh_name (fun v1 hn => ?_)
  have h := h v1 hn
  refine gh_lstore_n (L2 := [(1, 1, v1), (0, 2, 2)]) gd_House_digest_36 (by decide) rfl ?_
  refine gh_aload_n gd_House_digest_37 1 rfl (by decide) ?_
  refine gf_2_10 gd_House_digest_38 gh_k643 hF rfl ?_
  obtain ⟨hA, hB⟩ := h
  refine gh_zne (tgt := 46) gd_House_digest_41 (by decide) (fun c2279 => ?_) (fun c2279 => ?_)
  · have h := hA c2279
    refine gh_lload_n gd_House_digest_44 0 rfl ?_
    exact gh_ret1 rfl gd_House_digest_45 ⟨hF, h⟩
  · have h := hB c2279
    refine gh_iconst gd_House_digest_46 (gh_r0 rfl) ?_
    refine gh_istore_n (L2 := [(3, 0, 0), (1, 1, v1), (0, 2, 2)]) gd_House_digest_47 (by decide) rfl ?_
    refine gh_pick (L2 := [(0, 2, 2), (1, 1, v1), (3, 0, 0)]) [2, 1, 0] rfl ?_
    exact gh_L2_sound (T := fun v1 v3 => gh_T E (gh_yHouse_digest.cls, prog_1_method_32_code, 5, false, 1) (d + 6) 48 [(0, 2, 2), (1, 1, v1), (3, 0, v3)] [] m (fun r m1 => gh_F m1 ∧ Q r m1)) (fun _ _ => gh_F m) (fun K48 v1 v3 hK hF h => b_House_digest_48 d hK v1 v3 hF h) v1 0 hF h
