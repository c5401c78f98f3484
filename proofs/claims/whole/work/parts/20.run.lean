def w_Forest_keep (v1 : Int) (v2 : Int) (v3 : Int) (v4 : Int) (v5 : Int) (m : gh_M) (Q : Int → gh_M → Prop) : Prop := ((v4 = 0 → (gh_i (v1 * 9) ∧ gh_i ((v1 * 9) + v2) ∧ gh_i (((v1 * 9) + v2) * 9) ∧ gh_i ((((v1 * 9) + v2) * 9) + v3)) ∧ 0 ≤ ((((v1 * 9) + v2) * 9) + v3) ∧ (((((v1 * 9) + v2) * 9) + v3)) < 648 ∧ Q 0 (gh_u m 42 (((((v1 * 9) + v2) * 9) + v3)) v5)) ∧ (¬ (v4 = 0) → gh_isA m (m 41 7) 3 ∧ ∃ J45 : gh_M → Prop, (∀ (m : gh_M), J45 m → (((v2 = v3) → (gh_i (0 + v1) ∧ gh_i ((0 + v1) * 256) ∧ gh_i (((0 + v1) * 256) + v4))) ∧ (¬ (v2 = v3) → (gh_i (8 + v1) ∧ gh_i ((8 + v1) * 256) ∧ gh_i (((8 + v1) * 256) + v4)))) ∧ ∀ v7 : Int, v7 = (if v2 = v3 then (((0 + v1) * 256) + v4) else (((8 + v1) * 256) + v4)) → gh_isA m (m 41 7) 3 ∧ 0 ≤ v7 ∧ v7 < m 0 (2 * (m 41 7) + 1) ∧ gh_isA (gh_u m (m 41 7) v7 v5) ((gh_u m (m 41 7) v7 v5) 41 8) 1 ∧ 0 ≤ v7 ∧ v7 < (gh_u m (m 41 7) v7 v5) 0 (2 * ((gh_u m (m 41 7) v7 v5) 41 8) + 1) ∧ Q 0 (gh_u (gh_u m (m 41 7) v7 v5) ((gh_u m (m 41 7) v7 v5) 41 8) v7 (if v2 = v3 then ((gh_u m (m 41 7) v7 v5) 41 10) else ((gh_u m (m 41 7) v7 v5) 41 9)))) ∧ (((m 0 (2 * (m 41 7) + 1)) = 0 → J45 (gh_u (gh_al (gh_u (gh_al m 3 4096) 41 7 (m 0 1)) 1 4096) 41 8 ((gh_u (gh_al m 3 4096) 41 7 (m 0 1)) 0 1))) ∧ (¬ ((m 0 (2 * (m 41 7) + 1)) = 0) → J45 m))))
theorem s_Forest_keep {E : gh_E} {m : gh_M} {Q : Int → gh_M → Prop} (d : Nat) (v1 : Int) (v2 : Int) (v3 : Int) (v4 : Int) (v5 : Int) (hF : gh_F m) (h : w_Forest_keep v1 v2 v3 v4 v5 m Q) : gh_C E gh_yForest_keep prog_5_method_9_code 8 none 9 (d + 1) [(2, 41), (0, v1), (0, v2), (0, v3), (0, v4), (1, v5)] m (fun r m1 => gh_F m1 ∧ Q r m1) := by
  refine gh_enter2 (L := [(0, 2, 41), (1, 0, v1), (2, 0, v2), (3, 0, v3), (4, 0, v4), (5, 1, v5)]) (by decide +kernel) gh_rt9 (Nat.le_of_ble_eq_true rfl) rfl rfl ?_
  unfold w_Forest_keep at h
  refine gh_iload gd_Forest_keep_0 4 rfl ?_
  obtain ⟨hA, hB⟩ := h
  refine gh_zne (tgt := 19) gd_Forest_keep_2 (by decide) (fun c1829 => ?_) (fun c1829 => ?_)
  · have h := hA c1829
    refine gh_aload_n gd_Forest_keep_5 0 rfl (by decide) ?_
    refine gf_41_4 gd_Forest_keep_6 gh_k491 hF ?_
    refine gh_iload_n gd_Forest_keep_9 1 rfl ?_
    refine gh_iload_n gd_Forest_keep_10 2 rfl ?_
    refine gh_iload_n gd_Forest_keep_11 3 rfl ?_
    obtain ⟨q1830, h⟩ := h
    refine cv_Forest_plainAt (d := d) gd_Forest_keep_12 gh_k1205 (Nat.le_of_ble_eq_true rfl) (gh_C.pe (e_Forest_plainAt d v1 v2 v3 q1830) ?_)
    refine gh_lload gd_Forest_keep_15 5 rfl ?_
    obtain ⟨q1831, h⟩ := h
    obtain ⟨q1832, h⟩ := h
    refine sa_42 gd_Forest_keep_17 hF q1831 q1832 (fun hF => ?_)
    exact gh_ret9 rfl gd_Forest_keep_18 ⟨hF, h⟩
  · have h := hB c1829
    refine gh_aload_n gd_Forest_keep_19 0 rfl (by decide) ?_
    refine gf_41_7 gd_Forest_keep_20 gh_k494 hF rfl ?_
    obtain ⟨q1833, h⟩ := h
    refine gh_alen gd_Forest_keep_23 q1833 (by decide) ?_
    obtain ⟨J45, hJ45, h⟩ := h
    have hJ45 : ∀ (m : gh_M), gh_F m → J45 m → gh_T E (gh_yForest_keep.cls, prog_5_method_9_code, 8, false, 9) (d + 1) 45 [(0, 2, 41), (1, 0, v1), (2, 0, v2), (3, 0, v3), (4, 0, v4), (5, 1, v5)] [] m (fun r m1 => gh_F m1 ∧ Q r m1) := by
      intro m hF hj
      have h := hJ45 m hj
      refine gh_iload_n gd_Forest_keep_45 1 rfl ?_
      refine gh_iload_n gd_Forest_keep_46 2 rfl ?_
      refine gh_iload_n gd_Forest_keep_47 3 rfl ?_
      refine gh_iload gd_Forest_keep_48 4 rfl ?_
      obtain ⟨q1834, h⟩ := h
      refine cv_Forest_underAt (d := d) gd_Forest_keep_50 gh_k1218 (Nat.le_of_ble_eq_true rfl) (gh_C.pe (e_Forest_underAt d v1 v2 v3 v4 q1834) ?_)
      refine gh_name (fun v7 hn => ?_)
      have h := h v7 hn
      refine gh_istore (L2 := [(7, 0, v7), (0, 2, 41), (1, 0, v1), (2, 0, v2), (3, 0, v3), (4, 0, v4), (5, 1, v5)]) gd_Forest_keep_53 (by decide) rfl ?_
      refine gh_aload_n gd_Forest_keep_55 1 rfl (by decide) ?_
      refine gf_41_7 gd_Forest_keep_56 gh_k494 hF rfl ?_
      refine gh_iload gd_Forest_keep_59 0 rfl ?_
      refine gh_lload gd_Forest_keep_61 6 rfl ?_
      obtain ⟨q1835, h⟩ := h
      obtain ⟨q1836, h⟩ := h
      obtain ⟨q1837, h⟩ := h
      refine gh_lastF gd_Forest_keep_63 hF q1835 q1836 q1837 (fun hF => ?_)
      refine gh_aload_n gd_Forest_keep_64 1 rfl (by decide) ?_
      refine gf_41_8 gd_Forest_keep_65 gh_k495 hF rfl ?_
      refine gh_iload gd_Forest_keep_68 0 rfl ?_
      refine gh_iload_n gd_Forest_keep_70 3 rfl ?_
      refine gh_iload_n gd_Forest_keep_71 4 rfl ?_
      have k1838 : ∀ x1839 : Int, x1839 = (if v2 = v3 then ((gh_u m (m 41 7) v7 v5) 41 10) else ((gh_u m (m 41 7) v7 v5) 41 9)) → gh_T E (gh_yForest_keep.cls, prog_5_method_9_code, 8, false, 9) (d + 1) 86 [(7, 0, v7), (0, 2, 41), (1, 0, v1), (2, 0, v2), (3, 0, v3), (4, 0, v4), (5, 1, v5)] [(0, x1839), (0, v7), (2, (gh_u m (m 41 7) v7 v5) 41 8)] (gh_u m (m 41 7) v7 v5) (fun r m1 => gh_F m1 ∧ Q r m1) := by
        rintro _ rfl
        obtain ⟨q1840, h⟩ := h
        obtain ⟨q1841, h⟩ := h
        obtain ⟨q1842, h⟩ := h
        refine gh_iastF gd_Forest_keep_86 hF q1840 q1841 q1842 (fun hF => ?_)
        exact gh_ret9 rfl gd_Forest_keep_87 ⟨hF, h⟩
      refine gh_jne (tgt := 82) gd_Forest_keep_72 (by decide) (fun c1843 => ?_) (fun c1843 => ?_)
      · have hz : True := trivial
        refine gh_aload_n gd_Forest_keep_75 1 rfl (by decide) ?_
        refine gf_41_10 gd_Forest_keep_76 gh_k497 hF rfl ?_
        refine gh_goto (tgt := 86) gd_Forest_keep_79 (by decide) ?_
        exact k1838 _ (by rw [if_pos c1843])
      · have hz : True := trivial
        refine gh_aload_n gd_Forest_keep_82 1 rfl (by decide) ?_
        refine gf_41_9 gd_Forest_keep_83 gh_k496 hF rfl ?_
        exact k1838 _ (by rw [if_neg c1843])
    obtain ⟨hA, hB⟩ := h
    refine gh_zne (tgt := 45) gd_Forest_keep_24 (by decide) (fun c1844 => ?_) (fun c1844 => ?_)
    · have h := hA c1844
      refine gh_aload_n gd_Forest_keep_27 0 rfl (by decide) ?_
      refine gh_sipush gd_Forest_keep_28 (by decide) (gh_r0 rfl) ?_
      refine gh_newarrF (κ := 3) gd_Forest_keep_31 (by decide) gh_k524 (by decide) (by decide) hF (fun hF => ?_)
      refine pf_41_7 gd_Forest_keep_33 gh_k494 hF (fun hF => ?_)
      refine gh_aload_n gd_Forest_keep_36 0 rfl (by decide) ?_
      refine gh_sipush gd_Forest_keep_37 (by decide) (gh_r0 rfl) ?_
      refine gh_newarrF (κ := 1) gd_Forest_keep_40 (by decide) gh_k180 (by decide) (by decide) hF (fun hF => ?_)
      refine pf_41_8 gd_Forest_keep_42 gh_k495 hF (fun hF => ?_)
      exact hJ45 (gh_u (gh_al (gh_u (gh_al m 3 4096) 41 7 (m 0 1)) 1 4096) 41 8 ((gh_u (gh_al m 3 4096) 41 7 (m 0 1)) 0 1)) hF h
    · have h := hB c1844
      exact hJ45 m hF h
def f_Forest_countOf_80 (REC : Int → Int → Int → Int → Int → gh_M → (Int → gh_M → Prop) → Prop) (v1 : Int) (v2 : Int) (v3 : Int) (v5 : Int) (v6 : Int) (Q : Int → gh_M → Prop) (K80 : Int → Int → gh_M → Prop) (v7 : Int) (v9 : Int) (m : gh_M) : Prop := k_Grammar_behindRules v1 m ∧ ((v9 < (x_Grammar_behindRules v1 m) → w_Forest_countByRule REC v9 v2 v3 (gh_ior_f v6 (gh_ishl_f 1 v1)) v5 m (fun r1857 m1858 => k_Forest_plus v7 r1857 ∧ ∀ v7' : Int, v7' = x_Forest_plus v7 r1857 → gh_i (v9 + 1) ∧ K80 v7' (v9 + 1) m1858)) ∧ (¬ (v9 < (x_Grammar_behindRules v1 m)) → w_Forest_keep v1 v2 v3 v6 v7 m (fun _ m1862 => Q v7 m1862)))
def w_Forest_countOf (REC : Int → Int → Int → Int → Int → gh_M → (Int → gh_M → Prop) → Prop) (v1 : Int) (v2 : Int) (v3 : Int) (v4 : Int) (v5 : Int) (m : gh_M) (Q : Int → gh_M → Prop) : Prop := ((((gh_iand_f (gh_ishr_f v4 v1) 1) = 0) → (((v5 < 8) → (k_Chart_covers v1 v2 v3))))) ∧ (((((gh_iand_f (gh_ishr_f v4 v1) 1) = 0) ∧ ((v5 < 8) ∧ (p_Chart_covers v1 v2 v3 m))) → 0 ≤ v1 ∧ v1 < 8 ∧ ∀ v6 : Int, v6 = gh_iand_f v4 (m 24 v1) → w_Forest_recall v1 v2 v3 v6 m (fun r1850 => ((r1850 < 0 → 0 ≤ v1 ∧ v1 < 8 ∧ ∀ v9 : Int, v9 = m 14 v1 → gh_M2 (fun K80 v7 v9 m => f_Forest_countOf_80 REC v1 v2 v3 v5 v6 Q K80 v7 v9 m) 0 v9 m) ∧ (¬ (r1850 < 0) → Q r1850 m)))) ∧ (¬ (((gh_iand_f (gh_ishr_f v4 v1) 1) = 0) ∧ ((v5 < 8) ∧ (p_Chart_covers v1 v2 v3 m))) → Q 0 m))
theorem b_Forest_countOf_80 {E : gh_E} {v1 : Int} {v2 : Int} {v3 : Int} {v5 : Int} {v6 : Int} {Q : Int → gh_M → Prop} {K80 : Int → Int → gh_M → Prop} (d : Nat) (REC : Int → Int → Int → Int → Int → gh_M → (Int → gh_M → Prop) → Prop) (hrec : ∀ (a b c d0 e0 : Int) (m : gh_M) (Q : Int → gh_M → Prop), gh_F m → REC a b c d0 e0 m Q → gh_C E gh_yForest_countOf prog_5_method_7_code 10 (some .long) 1 (d + 0) [(2, 41), (0, a), (0, b), (0, c), (0, d0), (0, e0)] m (fun r m1 => gh_F m1 ∧ Q r m1)) (hK : ∀ (v7 : Int) (v9 : Int) (m : gh_M), gh_F m → K80 v7 v9 m → gh_T E (gh_yForest_countOf.cls, prog_5_method_7_code, 10, false, 1) (d + 3) 80 [(0, 2, 41), (1, 0, v1), (2, 0, v2), (3, 0, v3), (5, 0, v5), (6, 0, v6), (7, 1, v7), (9, 0, v9)] [] m (fun r m1 => gh_F m1 ∧ Q r m1)) (v7 : Int) (v9 : Int) (m : gh_M) (hF : gh_F m) (h : f_Forest_countOf_80 REC v1 v2 v3 v5 v6 Q K80 v7 v9 m) : gh_T E (gh_yForest_countOf.cls, prog_5_method_7_code, 10, false, 1) (d + 3) 80 [(0, 2, 41), (1, 0, v1), (2, 0, v2), (3, 0, v3), (5, 0, v5), (6, 0, v6), (7, 1, v7), (9, 0, v9)] [] m (fun r m1 => gh_F m1 ∧ Q r m1) := by
  have hK80 := hK
  unfold f_Forest_countOf_80 at h
  refine gh_iload gd_Forest_countOf_80 7 rfl ?_
  refine gh_aload_n gd_Forest_countOf_82 0 rfl (by decide) ?_
  refine gf_41_0 gd_Forest_countOf_83 gh_k487 hF ?_
  refine gh_iload_n gd_Forest_countOf_86 1 rfl ?_
  obtain ⟨q1855, h⟩ := h
  refine cv_Grammar_behindRules (d := d + 2) gd_Forest_countOf_87 gh_k1221 hF (Nat.le_of_ble_eq_true rfl) (gh_C.pe (e_Grammar_behindRules (d + 2) v1 hF q1855) ?_)
  obtain ⟨hA, hB⟩ := h
  refine gh_jge (tgt := 122) gd_Forest_countOf_90 (by decide) (fun c1856 => ?_) (fun c1856 => ?_)
  · have h := hA c1856
    refine gh_lload gd_Forest_countOf_93 6 rfl ?_
    refine gh_aload_n gd_Forest_countOf_95 0 rfl (by decide) ?_
    refine gh_iload gd_Forest_countOf_96 7 rfl ?_
    refine gh_iload_n gd_Forest_countOf_98 2 rfl ?_
    refine gh_iload_n gd_Forest_countOf_99 3 rfl ?_
    refine gh_iload gd_Forest_countOf_100 5 rfl ?_
    refine gh_iconst gd_Forest_countOf_102 (gh_r0 rfl) ?_
    refine gh_iload_n gd_Forest_countOf_103 1 rfl ?_
    refine gh_ishl gd_Forest_countOf_104 ?_
    refine gh_ior gd_Forest_countOf_105 ?_
    refine gh_iload gd_Forest_countOf_106 4 rfl ?_
    refine cv_Forest_countByRule (d := d + 2) gd_Forest_countOf_108 gh_k1222 hF (Nat.le_of_ble_eq_true rfl) (gh_C.mono (s_Forest_countByRule d REC hrec v9 v2 v3 (gh_ior_f v6 (gh_ishl_f 1 v1)) v5 hF h) (fun r1857 m1858 hq => ?_))
    obtain ⟨hF, h⟩ := hq
    obtain ⟨q1859, h⟩ := h
    refine cv_Forest_plus (d := d + 2) gd_Forest_countOf_111 gh_k1241 (Nat.le_of_ble_eq_true rfl) (gh_C.pe (e_Forest_plus (d + 1) v7 r1857 q1859) ?_)
    refine gh_name (fun v7' hn => ?_)
    have h := h v7' hn
    refine gh_lstore (L2 := [(7, 1, v7'), (0, 2, 41), (1, 0, v1), (2, 0, v2), (3, 0, v3), (5, 0, v5), (6, 0, v6), (9, 0, v9)]) gd_Forest_countOf_114 (by decide) rfl ?_
    obtain ⟨q1860, h⟩ := h
    refine gh_iinc (L2 := [(9, 0, v9 + 1), (7, 1, v7'), (0, 2, 41), (1, 0, v1), (2, 0, v2), (3, 0, v3), (5, 0, v5), (6, 0, v6)]) gd_Forest_countOf_116 7 rfl q1860 (by decide) rfl ?_
    refine gh_goto (tgt := 80) gd_Forest_countOf_119 (by decide) ?_
    refine gh_pick (L2 := [(0, 2, 41), (1, 0, v1), (2, 0, v2), (3, 0, v3), (5, 0, v5), (6, 0, v6), (7, 1, v7'), (9, 0, v9 + 1)]) [2, 3, 4, 5, 6, 7, 1, 0] rfl ?_
    exact hK80 v7' (v9 + 1) m1858 hF h
  · have h := hB c1856
    refine gh_aload_n gd_Forest_countOf_122 0 rfl (by decide) ?_
    refine gh_iload_n gd_Forest_countOf_123 1 rfl ?_
    refine gh_iload_n gd_Forest_countOf_124 2 rfl ?_
    refine gh_iload_n gd_Forest_countOf_125 3 rfl ?_
    refine gh_iload gd_Forest_countOf_126 5 rfl ?_
    refine gh_lload gd_Forest_countOf_128 6 rfl ?_
    refine cv_Forest_keep (d := d + 2) gd_Forest_countOf_130 gh_k1244 hF (Nat.le_of_ble_eq_true rfl) (gh_C.mono (s_Forest_keep (d + 1) v1 v2 v3 v6 v7 hF h) (fun r1861 m1862 hq => ?_))
    obtain ⟨hF, h⟩ := hq
    refine gh_lload gd_Forest_countOf_133 6 rfl ?_
    exact gh_ret1 rfl gd_Forest_countOf_135 ⟨hF, h⟩
theorem s_Forest_countOf {E : gh_E} {m : gh_M} {Q : Int → gh_M → Prop} (d : Nat) (REC : Int → Int → Int → Int → Int → gh_M → (Int → gh_M → Prop) → Prop) (hrec : ∀ (a b c d0 e0 : Int) (m : gh_M) (Q : Int → gh_M → Prop), gh_F m → REC a b c d0 e0 m Q → gh_C E gh_yForest_countOf prog_5_method_7_code 10 (some .long) 1 (d + 0) [(2, 41), (0, a), (0, b), (0, c), (0, d0), (0, e0)] m (fun r m1 => gh_F m1 ∧ Q r m1)) (v1 : Int) (v2 : Int) (v3 : Int) (v4 : Int) (v5 : Int) (hF : gh_F m) (h : w_Forest_countOf REC v1 v2 v3 v4 v5 m Q) : gh_C E gh_yForest_countOf prog_5_method_7_code 10 (some .long) 1 (d + 3) [(2, 41), (0, v1), (0, v2), (0, v3), (0, v4), (0, v5)] m (fun r m1 => gh_F m1 ∧ Q r m1) := by
  refine gh_enter2 (L := [(0, 2, 41), (1, 0, v1), (2, 0, v2), (3, 0, v3), (4, 0, v4), (5, 0, v5)]) (by decide +kernel) gh_rt1 (Nat.le_of_ble_eq_true rfl) rfl rfl ?_
  unfold w_Forest_countOf at h
  refine gh_iload gd_Forest_countOf_0 4 rfl ?_
  refine gh_iload_n gd_Forest_countOf_2 1 rfl ?_
  refine gh_ishr gd_Forest_countOf_3 ?_
  refine gh_iconst gd_Forest_countOf_4 (gh_r0 rfl) ?_
  refine gh_iand gd_Forest_countOf_5 ?_
  obtain ⟨hk, hA, hB⟩ := h
  have k1846 : (((gh_iand_f (gh_ishr_f v4 v1) 1) = 0) ∧ ((v5 < 8) ∧ (p_Chart_covers v1 v2 v3 m))) → gh_T E (gh_yForest_countOf.cls, prog_5_method_7_code, 10, false, 1) (d + 3) 31 [(0, 2, 41), (1, 0, v1), (2, 0, v2), (3, 0, v3), (4, 0, v4), (5, 0, v5)] [] m (fun r m1 => gh_F m1 ∧ Q r m1) := by
    intro c
    have h := hA c
    refine gh_iload gd_Forest_countOf_31 4 rfl ?_
    refine gh_aload_n gd_Forest_countOf_33 0 rfl (by decide) ?_
    refine gf_41_1 gd_Forest_countOf_34 gh_k488 hF ?_
    refine gf_20_9 gd_Forest_countOf_37 gh_k342 hF ?_
    refine gh_iload_n gd_Forest_countOf_40 1 rfl ?_
    obtain ⟨q1848, h⟩ := h
    obtain ⟨q1849, h⟩ := h
    refine la_24 gd_Forest_countOf_41 hF q1848 q1849 rfl ?_
    refine gh_iand gd_Forest_countOf_42 ?_
    refine gh_name (fun v6 hn => ?_)
    have h := h v6 hn
    refine gh_istore (L2 := [(6, 0, v6), (0, 2, 41), (1, 0, v1), (2, 0, v2), (3, 0, v3), (4, 0, v4), (5, 0, v5)]) gd_Forest_countOf_43 (by decide) rfl ?_
    refine gh_aload_n gd_Forest_countOf_45 1 rfl (by decide) ?_
    refine gh_iload_n gd_Forest_countOf_46 2 rfl ?_
    refine gh_iload_n gd_Forest_countOf_47 3 rfl ?_
    refine gh_iload_n gd_Forest_countOf_48 4 rfl ?_
    refine gh_iload gd_Forest_countOf_49 0 rfl ?_
    refine cv_Forest_recall (d := d + 2) gd_Forest_countOf_51 gh_k1214 hF (Nat.le_of_ble_eq_true rfl) (gh_C.pw (s_Forest_recall (d + 1) v1 v2 v3 v6 hF h) (fun r1850 h => ?_))
    refine gh_lstore (L2 := [(7, 1, r1850), (6, 0, v6), (0, 2, 41), (1, 0, v1), (2, 0, v2), (3, 0, v3), (4, 0, v4), (5, 0, v5)]) gd_Forest_countOf_54 (by decide) rfl ?_
    refine gh_lload gd_Forest_countOf_56 0 rfl ?_
    refine gh_lconst (n := 0) gd_Forest_countOf_58 (by decide) (gh_r1 rfl) ?_
    refine gh_lcmp gd_Forest_countOf_59 ?_
    obtain ⟨hA, hB⟩ := h
    refine gh_clt (tgt := 66) gd_Forest_countOf_60 (by decide) (fun c1852 => ?_) (fun c1852 => ?_)
    · have h := hA c1852
      refine gh_lconst (n := 0) gd_Forest_countOf_66 (by decide) (gh_r1 rfl) ?_
      refine gh_lstore (L2 := [(7, 1, 0), (6, 0, v6), (0, 2, 41), (1, 0, v1), (2, 0, v2), (3, 0, v3), (4, 0, v4), (5, 0, v5)]) gd_Forest_countOf_67 (by decide) rfl ?_
      refine gh_aload_n gd_Forest_countOf_69 2 rfl (by decide) ?_
      refine gf_41_0 gd_Forest_countOf_70 gh_k487 hF ?_
      refine gf_13_3 gd_Forest_countOf_73 gh_k272 hF ?_
      refine gh_iload_n gd_Forest_countOf_76 3 rfl ?_
      obtain ⟨q1853, h⟩ := h
      obtain ⟨q1854, h⟩ := h
      refine la_14 gd_Forest_countOf_77 hF q1853 q1854 rfl ?_
      refine gh_name (fun v9 hn => ?_)
      have h := h v9 hn
      refine gh_istore (L2 := [(9, 0, v9), (7, 1, 0), (6, 0, v6), (0, 2, 41), (1, 0, v1), (2, 0, v2), (3, 0, v3), (4, 0, v4), (5, 0, v5)]) gd_Forest_countOf_78 (by decide) rfl ?_
      refine gh_pick (L2 := [(0, 2, 41), (1, 0, v1), (2, 0, v2), (3, 0, v3), (5, 0, v5), (6, 0, v6), (7, 1, 0), (9, 0, v9)]) [3, 4, 5, 6, 8, 2, 1, 0] rfl ?_
      exact gh_M2_sound (T := fun v7 v9 m => gh_T E (gh_yForest_countOf.cls, prog_5_method_7_code, 10, false, 1) (d + 3) 80 [(0, 2, 41), (1, 0, v1), (2, 0, v2), (3, 0, v3), (5, 0, v5), (6, 0, v6), (7, 1, v7), (9, 0, v9)] [] m (fun r m1 => gh_F m1 ∧ Q r m1)) (fun _ _ m => gh_F m) (fun K80 v7 v9 m hK hF h => b_Forest_countOf_80 d REC hrec hK v7 v9 m hF h) 0 v9 m hF h
    · have h := hB c1852
      refine gh_lload gd_Forest_countOf_63 0 rfl ?_
      exact gh_ret1 rfl gd_Forest_countOf_65 ⟨hF, h⟩
  have k1847 : ¬ (((gh_iand_f (gh_ishr_f v4 v1) 1) = 0) ∧ ((v5 < 8) ∧ (p_Chart_covers v1 v2 v3 m))) → gh_T E (gh_yForest_countOf.cls, prog_5_method_7_code, 10, false, 1) (d + 3) 29 [(0, 2, 41), (1, 0, v1), (2, 0, v2), (3, 0, v3), (4, 0, v4), (5, 0, v5)] [] m (fun r m1 => gh_F m1 ∧ Q r m1) := by
    intro c
    have h := hB c
    refine gh_lconst (n := 0) gd_Forest_countOf_29 (by decide) (gh_r1 rfl) ?_
    exact gh_ret1 rfl gd_Forest_countOf_30 ⟨hF, h⟩
  refine gh_zne (tgt := 29) gd_Forest_countOf_6 (by decide) (fun c1863 => ?_) (fun c1863 => ?_)
  · have hz : True := trivial
    have hk := hk c1863
    refine gh_iload gd_Forest_countOf_9 5 rfl ?_
    refine gh_bipush gd_Forest_countOf_11 (by decide) (gh_r0 rfl) ?_
    refine gh_jge (tgt := 29) gd_Forest_countOf_13 (by decide) (fun c1864 => ?_) (fun c1864 => ?_)
    · have hz : True := trivial
      have hk := hk c1864
      refine gh_aload_n gd_Forest_countOf_16 0 rfl (by decide) ?_
      refine gf_41_3 gd_Forest_countOf_17 gh_k490 hF ?_
      refine gh_iload_n gd_Forest_countOf_20 1 rfl ?_
      refine gh_iload_n gd_Forest_countOf_21 2 rfl ?_
      refine gh_iload_n gd_Forest_countOf_22 3 rfl ?_
      have q1845 := hk
      refine cv_Chart_covers (d := d + 2) gd_Forest_countOf_23 gh_k1213 hF (Nat.le_of_ble_eq_true rfl) (gh_C.pe (e_Chart_covers (d + 2) v1 v2 v3 hF q1845) ?_)
      refine gh_bne (tgt := 31) gd_Forest_countOf_26 (by decide) (fun c1865 => ?_) (fun c1865 => ?_)
      · have hz : True := trivial
        exact k1846 ⟨c1863, ⟨c1864, c1865⟩⟩
      · have hz : True := trivial
        exact k1847 (fun z => (fun z => c1865 z.2) z.2)
    · have hz : True := trivial
      exact k1847 (fun z => (fun z => c1864 z.1) z.2)
  · have hz : True := trivial
    exact k1847 (fun z => c1863 z.1)
/-- counting trees, so many names above one another at most -/
def gh_rec : Nat → (Int → Int → Int → Int → Int → gh_M → (Int → gh_M → Prop) → Prop)
  | 0 => fun _ _ _ _ _ _ _ => False
  | n + 1 => fun a b c d e m Q => w_Forest_countOf (gh_rec n) a b c d e m Q
def wr_Forest_countOf (a b c d e : Int) (m : gh_M) (Q : Int → gh_M → Prop) : Prop := gh_rec 10 a b c d e m Q
def wr_Forest_countByRule (a b c d e : Int) (m : gh_M) (Q : Int → gh_M → Prop) : Prop := w_Forest_countByRule (gh_rec 10) a b c d e m Q
def wr_Forest_countOfPart (a b c d e f g : Int) (m : gh_M) (Q : Int → gh_M → Prop) : Prop := w_Forest_countOfPart (gh_rec 10) a b c d e f g m Q
theorem gh_rec_s {E : gh_E} (d : Nat) : ∀ (n : Nat) (a b c d0 e0 : Int) (m : gh_M) (Q : Int → gh_M → Prop), gh_F m → gh_rec n a b c d0 e0 m Q → gh_C E gh_yForest_countOf prog_5_method_7_code 10 (some .long) 1 (d + 3 * n) [(2, 41), (0, a), (0, b), (0, c), (0, d0), (0, e0)] m (fun r m1 => gh_F m1 ∧ Q r m1) := by
  intro n
  induction n with
  | zero => intro a b c d0 e0 m Q hF h; exact absurd h (fun z => z)
  | succ n ih =>
    intro a b c d0 e0 m Q hF h
    exact s_Forest_countOf (d + 3 * n) (gh_rec n) ih a b c d0 e0 hF h
theorem sr_Forest_countOf {E : gh_E} {m : gh_M} {Q : Int → gh_M → Prop} (d : Nat) (v1 : Int) (v2 : Int) (v3 : Int) (v4 : Int) (v5 : Int) (hF : gh_F m) (h : wr_Forest_countOf v1 v2 v3 v4 v5 m Q) : gh_C E gh_yForest_countOf prog_5_method_7_code 10 (some .long) 1 (d + 30) [(2, 41), (0, v1), (0, v2), (0, v3), (0, v4), (0, v5)] m (fun r m1 => gh_F m1 ∧ Q r m1) := gh_rec_s d 10 v1 v2 v3 v4 v5 m Q hF h
theorem sr_Forest_countByRule {E : gh_E} {m : gh_M} {Q : Int → gh_M → Prop} (d : Nat) (v1 : Int) (v2 : Int) (v3 : Int) (v4 : Int) (v5 : Int) (hF : gh_F m) (h : wr_Forest_countByRule v1 v2 v3 v4 v5 m Q) : gh_C E gh_yForest_countByRule prog_5_method_11_code 19 (some .long) 1 (d + 32) [(2, 41), (0, v1), (0, v2), (0, v3), (0, v4), (0, v5)] m (fun r m1 => gh_F m1 ∧ Q r m1) := s_Forest_countByRule (d + 30) (gh_rec 10) (gh_rec_s d 10) v1 v2 v3 v4 v5 hF h
theorem sr_Forest_countOfPart {E : gh_E} {m : gh_M} {Q : Int → gh_M → Prop} (d : Nat) (v1 : Int) (v2 : Int) (v3 : Int) (v4 : Int) (v5 : Int) (v6 : Int) (v7 : Int) (hF : gh_F m) (h : wr_Forest_countOfPart v1 v2 v3 v4 v5 v6 v7 m Q) : gh_C E gh_yForest_countOfPart prog_5_method_13_code 9 (some .long) 1 (d + 31) [(2, 41), (0, v1), (0, v2), (0, v3), (0, v4), (0, v5), (0, v6), (0, v7)] m (fun r m1 => gh_F m1 ∧ Q r m1) := s_Forest_countOfPart (d + 30) (gh_rec 10) (gh_rec_s d 10) v1 v2 v3 v4 v5 v6 v7 hF h
def f_Forest_countOver_80 (v1 : Int) (v2 : Int) (Q : Int → gh_M → Prop) (K80 : Int → gh_M → Prop) (v3 : Int) (m : gh_M) : Prop := ((v3 < (m 13 1) → (gh_i (v3 * 9) ∧ gh_i ((v3 * 9) + v1) ∧ gh_i (((v3 * 9) + v1) * 9) ∧ gh_i ((((v3 * 9) + v1) * 9) + v2)) ∧ wr_Forest_countOf v3 v1 v2 0 0 m (fun r1881 m1882 => 0 ≤ ((((v3 * 9) + v1) * 9) + v2) ∧ (((((v3 * 9) + v1) * 9) + v2)) < 648 ∧ gh_i (v3 + 1) ∧ K80 (v3 + 1) (gh_u m1882 42 (((((v3 * 9) + v1) * 9) + v2)) r1881))) ∧ (¬ (v3 < (m 13 1)) → Q 0 m))
def f_Forest_countOver_24 (v1 : Int) (v2 : Int) (Q : Int → gh_M → Prop) (K24 : Int → gh_M → Prop) (v3 : Int) (m : gh_M) : Prop := ((v3 < (m 13 1) → (gh_i (v3 * 9) ∧ gh_i ((v3 * 9) + v1) ∧ gh_i (((v3 * 9) + v1) * 9) ∧ gh_i ((((v3 * 9) + v1) * 9) + v2)) ∧ (((v1 = v2) → ((¬ (v2 ≤ 0) → ((gh_i (v3 * 9) ∧ gh_i ((v3 * 9) + 0) ∧ gh_i (((v3 * 9) + 0) * 9) ∧ gh_i ((((v3 * 9) + 0) * 9) + 0)) ∧ 0 ≤ ((((v3 * 9) + 0) * 9) + 0) ∧ (((((v3 * 9) + 0) * 9) + 0)) < 648))))) ∧ 0 ≤ ((((v3 * 9) + v1) * 9) + v2) ∧ (((((v3 * 9) + v1) * 9) + v2)) < 648 ∧ gh_i (v3 + 1) ∧ K24 (v3 + 1) (gh_u m 42 (((((v3 * 9) + v1) * 9) + v2)) (if v1 = v2 then (if v2 ≤ 0 then (-1) else (m 42 (((((v3 * 9) + 0) * 9) + 0)))) else (-1)))) ∧ (¬ (v3 < (m 13 1)) → gh_M1 (fun K80 v3 m => f_Forest_countOver_80 v1 v2 Q K80 v3 m) 0 m))
def w_Forest_countOver (v1 : Int) (v2 : Int) (m : gh_M) (Q : Int → gh_M → Prop) : Prop := gh_i ((m 41 9) + 1) ∧ ∃ J22 : gh_M → Prop, (∀ (m : gh_M), J22 m → gh_M1 (fun K24 v3 m => f_Forest_countOver_24 v1 v2 Q K24 v3 m) 0 m) ∧ ((v2 = 0 → J22 (gh_u (gh_u m 41 9 ((m 41 9) + 1)) 41 10 (((m 41 9) + 1)))) ∧ (¬ (v2 = 0) → J22 (gh_u m 41 9 ((m 41 9) + 1))))
theorem b_Forest_countOver_80 {E : gh_E} {v1 : Int} {v2 : Int} {Q : Int → gh_M → Prop} {K80 : Int → gh_M → Prop} (d : Nat) (hK : ∀ (v3 : Int) (m : gh_M), gh_F m → K80 v3 m → gh_T E (gh_yForest_countOver.cls, prog_5_method_4_code, 4, false, 9) (d + 31) 80 [(0, 2, 41), (1, 0, v1), (2, 0, v2), (3, 0, v3)] [] m (fun r m1 => gh_F m1 ∧ Q r m1)) (v3 : Int) (m : gh_M) (hF : gh_F m) (h : f_Forest_countOver_80 v1 v2 Q K80 v3 m) : gh_T E (gh_yForest_countOver.cls, prog_5_method_4_code, 4, false, 9) (d + 31) 80 [(0, 2, 41), (1, 0, v1), (2, 0, v2), (3, 0, v3)] [] m (fun r m1 => gh_F m1 ∧ Q r m1) := by
  have hK80 := hK
  unfold f_Forest_countOver_80 at h
  refine gh_iload_n gd_Forest_countOver_80 3 rfl ?_
  refine gh_aload_n gd_Forest_countOver_81 0 rfl (by decide) ?_
  refine gf_41_0 gd_Forest_countOver_82 gh_k487 hF ?_
  refine gf_13_1 gd_Forest_countOver_85 gh_k260 hF rfl ?_
  obtain ⟨hA, hB⟩ := h
  refine gh_jge (tgt := 117) gd_Forest_countOver_88 (by decide) (fun c1879 => ?_) (fun c1879 => ?_)
  · have h := hA c1879
    refine gh_aload_n gd_Forest_countOver_91 0 rfl (by decide) ?_
    refine gf_41_4 gd_Forest_countOver_92 gh_k491 hF ?_
    refine gh_iload_n gd_Forest_countOver_95 3 rfl ?_
    refine gh_iload_n gd_Forest_countOver_96 1 rfl ?_
    refine gh_iload_n gd_Forest_countOver_97 2 rfl ?_
    obtain ⟨q1880, h⟩ := h
    refine cv_Forest_plainAt (d := d + 30) gd_Forest_countOver_98 gh_k1205 (Nat.le_of_ble_eq_true rfl) (gh_C.pe (e_Forest_plainAt (d + 30) v3 v1 v2 q1880) ?_)
    refine gh_aload_n gd_Forest_countOver_101 0 rfl (by decide) ?_
    refine gh_iload_n gd_Forest_countOver_102 3 rfl ?_
    refine gh_iload_n gd_Forest_countOver_103 1 rfl ?_
    refine gh_iload_n gd_Forest_countOver_104 2 rfl ?_
    refine gh_iconst gd_Forest_countOver_105 (gh_r0 rfl) ?_
    refine gh_iconst gd_Forest_countOver_106 (gh_r0 rfl) ?_
    refine cv_Forest_countOf (d := d + 30) gd_Forest_countOver_107 gh_k1209 hF (Nat.le_of_ble_eq_true rfl) (gh_C.mono (sr_Forest_countOf d v3 v1 v2 0 0 hF h) (fun r1881 m1882 hq => ?_))
    obtain ⟨hF, h⟩ := hq
    obtain ⟨q1883, h⟩ := h
    obtain ⟨q1884, h⟩ := h
    refine sa_42 gd_Forest_countOver_110 hF q1883 q1884 (fun hF => ?_)
    obtain ⟨q1885, h⟩ := h
    refine gh_iinc (L2 := [(3, 0, v3 + 1), (0, 2, 41), (1, 0, v1), (2, 0, v2)]) gd_Forest_countOver_111 3 rfl q1885 (by decide) rfl ?_
    refine gh_goto (tgt := 80) gd_Forest_countOver_114 (by decide) ?_
    refine gh_pick (L2 := [(0, 2, 41), (1, 0, v1), (2, 0, v2), (3, 0, v3 + 1)]) [1, 2, 3, 0] rfl ?_
    exact hK80 (v3 + 1) (gh_u m1882 42 (((((v3 * 9) + v1) * 9) + v2)) r1881) hF h
  · have h := hB c1879
    exact gh_ret9 rfl gd_Forest_countOver_117 ⟨hF, h⟩
theorem b_Forest_countOver_24 {E : gh_E} {v1 : Int} {v2 : Int} {Q : Int → gh_M → Prop} {K24 : Int → gh_M → Prop} (d : Nat) (hK : ∀ (v3 : Int) (m : gh_M), gh_F m → K24 v3 m → gh_T E (gh_yForest_countOver.cls, prog_5_method_4_code, 4, false, 9) (d + 31) 24 [(0, 2, 41), (1, 0, v1), (2, 0, v2), (3, 0, v3)] [] m (fun r m1 => gh_F m1 ∧ Q r m1)) (v3 : Int) (m : gh_M) (hF : gh_F m) (h : f_Forest_countOver_24 v1 v2 Q K24 v3 m) : gh_T E (gh_yForest_countOver.cls, prog_5_method_4_code, 4, false, 9) (d + 31) 24 [(0, 2, 41), (1, 0, v1), (2, 0, v2), (3, 0, v3)] [] m (fun r m1 => gh_F m1 ∧ Q r m1) := by
  have hK24 := hK
  unfold f_Forest_countOver_24 at h
  refine gh_iload_n gd_Forest_countOver_24 3 rfl ?_
  refine gh_aload_n gd_Forest_countOver_25 0 rfl (by decide) ?_
  refine gf_41_0 gd_Forest_countOver_26 gh_k487 hF ?_
  refine gf_13_1 gd_Forest_countOver_29 gh_k260 hF rfl ?_
  obtain ⟨hA, hB⟩ := h
  refine gh_jge (tgt := 78) gd_Forest_countOver_32 (by decide) (fun c1867 => ?_) (fun c1867 => ?_)
  · have h := hA c1867
    refine gh_aload_n gd_Forest_countOver_35 0 rfl (by decide) ?_
    refine gf_41_4 gd_Forest_countOver_36 gh_k491 hF ?_
    refine gh_iload_n gd_Forest_countOver_39 3 rfl ?_
    refine gh_iload_n gd_Forest_countOver_40 1 rfl ?_
    refine gh_iload_n gd_Forest_countOver_41 2 rfl ?_
    obtain ⟨q1868, h⟩ := h
    refine cv_Forest_plainAt (d := d + 30) gd_Forest_countOver_42 gh_k1205 (Nat.le_of_ble_eq_true rfl) (gh_C.pe (e_Forest_plainAt (d + 30) v3 v1 v2 q1868) ?_)
    refine gh_iload_n gd_Forest_countOver_45 1 rfl ?_
    refine gh_iload_n gd_Forest_countOver_46 2 rfl ?_
    obtain ⟨hk, h⟩ := h
    have k1872 : ∀ x1873 : Int, x1873 = (if v1 = v2 then (if v2 ≤ 0 then (-1) else (m 42 (((((v3 * 9) + 0) * 9) + 0)))) else (-1)) → gh_T E (gh_yForest_countOver.cls, prog_5_method_4_code, 4, false, 9) (d + 31) 71 [(0, 2, 41), (1, 0, v1), (2, 0, v2), (3, 0, v3)] [(1, x1873), (0, ((((v3 * 9) + v1) * 9) + v2)), (2, 42)] m (fun r m1 => gh_F m1 ∧ Q r m1) := by
      rintro _ rfl
      obtain ⟨q1874, h⟩ := h
      obtain ⟨q1875, h⟩ := h
      refine sa_42 gd_Forest_countOver_71 hF q1874 q1875 (fun hF => ?_)
      obtain ⟨q1876, h⟩ := h
      refine gh_iinc (L2 := [(3, 0, v3 + 1), (0, 2, 41), (1, 0, v1), (2, 0, v2)]) gd_Forest_countOver_72 3 rfl q1876 (by decide) rfl ?_
      refine gh_goto (tgt := 24) gd_Forest_countOver_75 (by decide) ?_
      refine gh_pick (L2 := [(0, 2, 41), (1, 0, v1), (2, 0, v2), (3, 0, v3 + 1)]) [1, 2, 3, 0] rfl ?_
      exact hK24 (v3 + 1) (gh_u m 42 (((((v3 * 9) + v1) * 9) + v2)) (if v1 = v2 then (if v2 ≤ 0 then (-1) else (m 42 (((((v3 * 9) + 0) * 9) + 0)))) else (-1))) hF h
    refine gh_jne (tgt := 68) gd_Forest_countOver_47 (by decide) (fun c1877 => ?_) (fun c1877 => ?_)
    · have hz : True := trivial
      have hk := hk c1877
      refine gh_iload_n gd_Forest_countOver_50 2 rfl ?_
      refine gh_zle (tgt := 68) gd_Forest_countOver_51 (by decide) (fun c1878 => ?_) (fun c1878 => ?_)
      · have hz : True := trivial
        refine gh_ldc2 (n := (-1)) gd_Forest_countOver_68 gh_k1208 (by decide) (gh_r1 rfl) ?_
        exact k1872 _ (by rw [if_pos c1877, if_pos c1878])
      · have hz : True := trivial
        have hk := hk c1878
        refine gh_aload_n gd_Forest_countOver_54 0 rfl (by decide) ?_
        refine gf_41_4 gd_Forest_countOver_55 gh_k491 hF ?_
        refine gh_iload_n gd_Forest_countOver_58 3 rfl ?_
        refine gh_iconst gd_Forest_countOver_59 (gh_r0 rfl) ?_
        refine gh_iconst gd_Forest_countOver_60 (gh_r0 rfl) ?_
        obtain ⟨q1869, hk⟩ := hk
        refine cv_Forest_plainAt (d := d + 30) gd_Forest_countOver_61 gh_k1205 (Nat.le_of_ble_eq_true rfl) (gh_C.pe (e_Forest_plainAt (d + 30) v3 0 0 q1869) ?_)
        obtain ⟨q1870, hk⟩ := hk
        have q1871 := hk
        refine la_42 gd_Forest_countOver_64 hF q1870 q1871 rfl ?_
        refine gh_goto (tgt := 71) gd_Forest_countOver_65 (by decide) ?_
        exact k1872 _ (by rw [if_pos c1877, if_neg c1878])
    · have hz : True := trivial
      refine gh_ldc2 (n := (-1)) gd_Forest_countOver_68 gh_k1208 (by decide) (gh_r1 rfl) ?_
      exact k1872 _ (by rw [if_neg c1877])
  · have h := hB c1867
    refine gh_iconst gd_Forest_countOver_78 (gh_r0 rfl) ?_
    refine gh_istore_n (L2 := [(3, 0, 0), (0, 2, 41), (1, 0, v1), (2, 0, v2)]) gd_Forest_countOver_79 (by decide) rfl ?_
    refine gh_pick (L2 := [(0, 2, 41), (1, 0, v1), (2, 0, v2), (3, 0, 0)]) [1, 2, 3, 0] rfl ?_
    exact gh_M1_sound (T := fun v3 m => gh_T E (gh_yForest_countOver.cls, prog_5_method_4_code, 4, false, 9) (d + 31) 80 [(0, 2, 41), (1, 0, v1), (2, 0, v2), (3, 0, v3)] [] m (fun r m1 => gh_F m1 ∧ Q r m1)) (fun _ m => gh_F m) (fun K80 v3 m hK hF h => b_Forest_countOver_80 d hK v3 m hF h) 0 m hF h
theorem s_Forest_countOver {E : gh_E} {m : gh_M} {Q : Int → gh_M → Prop} (d : Nat) (v1 : Int) (v2 : Int) (hF : gh_F m) (h : w_Forest_countOver v1 v2 m Q) : gh_C E gh_yForest_countOver prog_5_method_4_code 4 none 9 (d + 31) [(2, 41), (0, v1), (0, v2)] m (fun r m1 => gh_F m1 ∧ Q r m1) := by
  refine gh_enter2 (L := [(0, 2, 41), (1, 0, v1), (2, 0, v2)]) (by decide +kernel) gh_rt9 (Nat.le_of_ble_eq_true rfl) rfl rfl ?_
  unfold w_Forest_countOver at h
  refine gh_aload_n gd_Forest_countOver_0 0 rfl (by decide) ?_
  refine gh_dup gd_Forest_countOver_1 (by decide) ?_
  refine gf_41_9 gd_Forest_countOver_2 gh_k496 hF rfl ?_
  refine gh_iconst gd_Forest_countOver_5 (gh_r0 rfl) ?_
  obtain ⟨q1866, h⟩ := h
  refine gh_iadd gd_Forest_countOver_6 q1866 ?_
  refine pf_41_9 gd_Forest_countOver_7 gh_k496 hF (fun hF => ?_)
  refine gh_iload_n gd_Forest_countOver_10 2 rfl ?_
  obtain ⟨J22, hJ22, h⟩ := h
  have hJ22 : ∀ (m : gh_M), gh_F m → J22 m → gh_T E (gh_yForest_countOver.cls, prog_5_method_4_code, 4, false, 9) (d + 31) 22 [(0, 2, 41), (1, 0, v1), (2, 0, v2)] [] m (fun r m1 => gh_F m1 ∧ Q r m1) := by
    intro m hF hj
    have h := hJ22 m hj
    refine gh_iconst gd_Forest_countOver_22 (gh_r0 rfl) ?_
    refine gh_istore_n (L2 := [(3, 0, 0), (0, 2, 41), (1, 0, v1), (2, 0, v2)]) gd_Forest_countOver_23 (by decide) rfl ?_
    refine gh_pick (L2 := [(0, 2, 41), (1, 0, v1), (2, 0, v2), (3, 0, 0)]) [1, 2, 3, 0] rfl ?_
    exact gh_M1_sound (T := fun v3 m => gh_T E (gh_yForest_countOver.cls, prog_5_method_4_code, 4, false, 9) (d + 31) 24 [(0, 2, 41), (1, 0, v1), (2, 0, v2), (3, 0, v3)] [] m (fun r m1 => gh_F m1 ∧ Q r m1)) (fun _ m => gh_F m) (fun K24 v3 m hK hF h => b_Forest_countOver_24 d hK v3 m hF h) 0 m hF h
  obtain ⟨hA, hB⟩ := h
  refine gh_zne (tgt := 22) gd_Forest_countOver_11 (by decide) (fun c1886 => ?_) (fun c1886 => ?_)
  · have h := hA c1886
    refine gh_aload_n gd_Forest_countOver_14 0 rfl (by decide) ?_
    refine gh_aload_n gd_Forest_countOver_15 0 rfl (by decide) ?_
    refine gf_41_9 gd_Forest_countOver_16 gh_k496 hF (gh_u_s _ _ _ _) ?_
    refine pf_41_10 gd_Forest_countOver_19 gh_k497 hF (fun hF => ?_)
    exact hJ22 (gh_u (gh_u m 41 9 ((m 41 9) + 1)) 41 10 (((m 41 9) + 1))) hF h
  · have h := hB c1886
    exact hJ22 (gh_u m 41 9 ((m 41 9) + 1)) hF h
def f_Forest_treesOf_18 (v1 : Int) (v2 : Int) (v3 : Int) (v4 : Int) (K8 : Int → gh_M → Prop) (K18 : Int → gh_M → Prop) (v5 : Int) (m : gh_M) : Prop := ((v5 < 0 → gh_i (v4 + 1) ∧ K8 (v4 + 1) (gh_u m 41 11 v4)) ∧ (¬ (v5 < 0) → w_Forest_countOver v5 v4 m (fun _ m1892 => gh_i (v5 + (-1)) ∧ K18 (v5 + (-1)) m1892)))
def f_Forest_treesOf_8 (v1 : Int) (v2 : Int) (v3 : Int) (Q : Int → gh_M → Prop) (K8 : Int → gh_M → Prop) (v4 : Int) (m : gh_M) : Prop := ((v4 ≤ v3 → gh_M1 (fun K18 v5 m => f_Forest_treesOf_18 v1 v2 v3 v4 K8 K18 v5 m) v4 m) ∧ (¬ (v4 ≤ v3) → (gh_i (v1 * 9) ∧ gh_i ((v1 * 9) + v2) ∧ gh_i (((v1 * 9) + v2) * 9) ∧ gh_i ((((v1 * 9) + v2) * 9) + v3)) ∧ 0 ≤ ((((v1 * 9) + v2) * 9) + v3) ∧ (((((v1 * 9) + v2) * 9) + v3)) < 648 ∧ Q (m 42 (((((v1 * 9) + v2) * 9) + v3))) m))
def w_Forest_treesOf (v1 : Int) (v2 : Int) (v3 : Int) (m : gh_M) (Q : Int → gh_M → Prop) : Prop := gh_i ((m 41 11) + 1) ∧ ∀ v4 : Int, v4 = (m 41 11) + 1 → gh_M1 (fun K8 v4 m => f_Forest_treesOf_8 v1 v2 v3 Q K8 v4 m) v4 m
theorem b_Forest_treesOf_18 {E : gh_E} {v1 : Int} {v2 : Int} {v3 : Int} {v4 : Int} {K8 : Int → gh_M → Prop} {Q : Int → gh_M → Prop} {K18 : Int → gh_M → Prop} (d : Nat) (hK8 : ∀ (v4 : Int) (m : gh_M), gh_F m → K8 v4 m → gh_T E (gh_yForest_treesOf.cls, prog_5_method_3_code, 6, false, 1) (d + 32) 8 [(0, 2, 41), (1, 0, v1), (2, 0, v2), (3, 0, v3), (4, 0, v4)] [] m (fun r m1 => gh_F m1 ∧ Q r m1)) (hK : ∀ (v5 : Int) (m : gh_M), gh_F m → K18 v5 m → gh_T E (gh_yForest_treesOf.cls, prog_5_method_3_code, 6, false, 1) (d + 32) 18 [(0, 2, 41), (1, 0, v1), (2, 0, v2), (3, 0, v3), (4, 0, v4), (5, 0, v5)] [] m (fun r m1 => gh_F m1 ∧ Q r m1)) (v5 : Int) (m : gh_M) (hF : gh_F m) (h : f_Forest_treesOf_18 v1 v2 v3 v4 K8 K18 v5 m) : gh_T E (gh_yForest_treesOf.cls, prog_5_method_3_code, 6, false, 1) (d + 32) 18 [(0, 2, 41), (1, 0, v1), (2, 0, v2), (3, 0, v3), (4, 0, v4), (5, 0, v5)] [] m (fun r m1 => gh_F m1 ∧ Q r m1) := by
  have hK18 := hK
  unfold f_Forest_treesOf_18 at h
  refine gh_iload gd_Forest_treesOf_18 5 rfl ?_
  obtain ⟨hA, hB⟩ := h
  refine gh_zlt (tgt := 37) gd_Forest_treesOf_20 (by decide) (fun c1889 => ?_) (fun c1889 => ?_)
  · have h := hA c1889
    refine gh_aload_n gd_Forest_treesOf_37 0 rfl (by decide) ?_
    refine gh_iload gd_Forest_treesOf_38 4 rfl ?_
    refine pf_41_11 gd_Forest_treesOf_40 gh_k498 hF (fun hF => ?_)
    obtain ⟨q1890, h⟩ := h
    refine gh_iinc (L2 := [(4, 0, v4 + 1), (0, 2, 41), (1, 0, v1), (2, 0, v2), (3, 0, v3), (5, 0, v5)]) gd_Forest_treesOf_43 4 rfl q1890 (by decide) rfl ?_
    refine gh_goto (tgt := 8) gd_Forest_treesOf_46 (by decide) ?_
    refine gh_pick (L2 := [(0, 2, 41), (1, 0, v1), (2, 0, v2), (3, 0, v3), (4, 0, v4 + 1)]) [1, 2, 3, 4, 0] rfl ?_
    exact hK8 (v4 + 1) (gh_u m 41 11 v4) hF h
  · have h := hB c1889
    refine gh_aload_n gd_Forest_treesOf_23 0 rfl (by decide) ?_
    refine gh_iload gd_Forest_treesOf_24 5 rfl ?_
    refine gh_iload gd_Forest_treesOf_26 4 rfl ?_
    refine cv_Forest_countOver (d := d + 31) gd_Forest_treesOf_28 gh_k1201 hF (Nat.le_of_ble_eq_true rfl) (gh_C.mono (s_Forest_countOver d v5 v4 hF h) (fun r1891 m1892 hq => ?_))
    obtain ⟨hF, h⟩ := hq
    obtain ⟨q1893, h⟩ := h
    refine gh_iinc (L2 := [(5, 0, v5 + (-1)), (0, 2, 41), (1, 0, v1), (2, 0, v2), (3, 0, v3), (4, 0, v4)]) gd_Forest_treesOf_31 5 rfl q1893 (by decide) rfl ?_
    refine gh_goto (tgt := 18) gd_Forest_treesOf_34 (by decide) ?_
    refine gh_pick (L2 := [(0, 2, 41), (1, 0, v1), (2, 0, v2), (3, 0, v3), (4, 0, v4), (5, 0, v5 + (-1))]) [1, 2, 3, 4, 5, 0] rfl ?_
    exact hK18 (v5 + (-1)) m1892 hF h
theorem b_Forest_treesOf_8 {E : gh_E} {v1 : Int} {v2 : Int} {v3 : Int} {Q : Int → gh_M → Prop} {K8 : Int → gh_M → Prop} (d : Nat) (hK : ∀ (v4 : Int) (m : gh_M), gh_F m → K8 v4 m → gh_T E (gh_yForest_treesOf.cls, prog_5_method_3_code, 6, false, 1) (d + 32) 8 [(0, 2, 41), (1, 0, v1), (2, 0, v2), (3, 0, v3), (4, 0, v4)] [] m (fun r m1 => gh_F m1 ∧ Q r m1)) (v4 : Int) (m : gh_M) (hF : gh_F m) (h : f_Forest_treesOf_8 v1 v2 v3 Q K8 v4 m) : gh_T E (gh_yForest_treesOf.cls, prog_5_method_3_code, 6, false, 1) (d + 32) 8 [(0, 2, 41), (1, 0, v1), (2, 0, v2), (3, 0, v3), (4, 0, v4)] [] m (fun r m1 => gh_F m1 ∧ Q r m1) := by
  have hK8 := hK
  unfold f_Forest_treesOf_8 at h
  refine gh_iload gd_Forest_treesOf_8 4 rfl ?_
  refine gh_iload_n gd_Forest_treesOf_10 3 rfl ?_
  obtain ⟨hA, hB⟩ := h
  refine gh_jgt (tgt := 49) gd_Forest_treesOf_11 (by decide) (fun c1888 => ?_) (fun c1888 => ?_)
  · have h := hA c1888
    refine gh_iload gd_Forest_treesOf_14 4 rfl ?_
    refine gh_istore (L2 := [(5, 0, v4), (0, 2, 41), (1, 0, v1), (2, 0, v2), (3, 0, v3), (4, 0, v4)]) gd_Forest_treesOf_16 (by decide) rfl ?_
    refine gh_pick (L2 := [(0, 2, 41), (1, 0, v1), (2, 0, v2), (3, 0, v3), (4, 0, v4), (5, 0, v4)]) [1, 2, 3, 4, 5, 0] rfl ?_
    exact gh_M1_sound (T := fun v5 m => gh_T E (gh_yForest_treesOf.cls, prog_5_method_3_code, 6, false, 1) (d + 32) 18 [(0, 2, 41), (1, 0, v1), (2, 0, v2), (3, 0, v3), (4, 0, v4), (5, 0, v5)] [] m (fun r m1 => gh_F m1 ∧ Q r m1)) (fun _ m => gh_F m) (fun K18 v5 m hK hF h => b_Forest_treesOf_18 d hK8 hK v5 m hF h) v4 m hF h
  · have h := hB c1888
    refine gh_aload_n gd_Forest_treesOf_49 0 rfl (by decide) ?_
    refine gf_41_4 gd_Forest_treesOf_50 gh_k491 hF ?_
    refine gh_iload_n gd_Forest_treesOf_53 1 rfl ?_
    refine gh_iload_n gd_Forest_treesOf_54 2 rfl ?_
    refine gh_iload_n gd_Forest_treesOf_55 3 rfl ?_
    obtain ⟨q1894, h⟩ := h
    refine cv_Forest_plainAt (d := d + 31) gd_Forest_treesOf_56 gh_k1205 (Nat.le_of_ble_eq_true rfl) (gh_C.pe (e_Forest_plainAt (d + 31) v1 v2 v3 q1894) ?_)
    obtain ⟨q1895, h⟩ := h
    obtain ⟨q1896, h⟩ := h
    refine la_42 gd_Forest_treesOf_59 hF q1895 q1896 rfl ?_
    exact gh_ret1 rfl gd_Forest_treesOf_60 ⟨hF, h⟩
theorem s_Forest_treesOf {E : gh_E} {m : gh_M} {Q : Int → gh_M → Prop} (d : Nat) (v1 : Int) (v2 : Int) (v3 : Int) (hF : gh_F m) (h : w_Forest_treesOf v1 v2 v3 m Q) : gh_C E gh_yForest_treesOf prog_5_method_3_code 6 (some .long) 1 (d + 32) [(2, 41), (0, v1), (0, v2), (0, v3)] m (fun r m1 => gh_F m1 ∧ Q r m1) := by
  refine gh_enter2 (L := [(0, 2, 41), (1, 0, v1), (2, 0, v2), (3, 0, v3)]) (by decide +kernel) gh_rt1 (Nat.le_of_ble_eq_true rfl) rfl rfl ?_
  unfold w_Forest_treesOf at h
  refine gh_aload_n gd_Forest_treesOf_0 0 rfl (by decide) ?_
  refine gf_41_11 gd_Forest_treesOf_1 gh_k498 hF rfl ?_
  refine gh_iconst gd_Forest_treesOf_4 (gh_r0 rfl) ?_
  obtain ⟨q1887, h⟩ := h
  refine gh_iadd gd_Forest_treesOf_5 q1887 ?_
  refine gh_name (fun v4 hn => ?_)
  have h := h v4 hn
  refine gh_istore (L2 := [(4, 0, v4), (0, 2, 41), (1, 0, v1), (2, 0, v2), (3, 0, v3)]) gd_Forest_treesOf_6 (by decide) rfl ?_
  refine gh_pick (L2 := [(0, 2, 41), (1, 0, v1), (2, 0, v2), (3, 0, v3), (4, 0, v4)]) [1, 2, 3, 4, 0] rfl ?_
  exact gh_M1_sound (T := fun v4 m => gh_T E (gh_yForest_treesOf.cls, prog_5_method_3_code, 6, false, 1) (d + 32) 8 [(0, 2, 41), (1, 0, v1), (2, 0, v2), (3, 0, v3), (4, 0, v4)] [] m (fun r m1 => gh_F m1 ∧ Q r m1)) (fun _ m => gh_F m) (fun K8 v4 m hK hF h => b_Forest_treesOf_8 d hK v4 m hF h) v4 m hF h
def w_House_trees (v1 : Int) (v2 : Int) (v3 : Int) (m : gh_M) (Q : Int → gh_M → Prop) : Prop := ∃ J35 : Prop, (J35 → ((v2 ≤ v3 → (((m 2 10) = 0 → Q (-1003) m) ∧ (¬ ((m 2 10) = 0) → w_Chart_refresh m (fun _ m1900 => w_Forest_treesOf v1 v2 v3 m1900 (fun r1901 m1902 => Q (if r1901 < 1000000000000000000 then r1901 else (-2)) m1902))))) ∧ (¬ (v2 ≤ v3) → Q (-1002) m))) ∧ (((((m 2 10) = 0) ∨ ((p_House_isName v1 m) ∧ ((p_House_isPlace v2 m) ∧ (p_House_isPlace v3 m)))) → J35) ∧ (¬ (((m 2 10) = 0) ∨ ((p_House_isName v1 m) ∧ ((p_House_isPlace v2 m) ∧ (p_House_isPlace v3 m)))) → Q (-1001) m))
theorem s_House_trees {E : gh_E} {m : gh_M} {Q : Int → gh_M → Prop} (d : Nat) (v1 : Int) (v2 : Int) (v3 : Int) (hF : gh_F m) (h : w_House_trees v1 v2 v3 m Q) : gh_C E gh_yHouse_trees prog_1_method_26_code 6 (some .long) 1 (d + 33) [(2, 2), (0, v1), (0, v2), (0, v3)] m (fun r m1 => gh_F m1 ∧ Q r m1) := by
  refine gh_enter2 (L := [(0, 2, 2), (1, 0, v1), (2, 0, v2), (3, 0, v3)]) (by decide +kernel) gh_rt1 (Nat.le_of_ble_eq_true rfl) rfl rfl ?_
  unfold w_House_trees at h
  refine gh_aload_n gd_House_trees_0 0 rfl (by decide) ?_
  refine gf_2_10 gd_House_trees_1 gh_k643 hF rfl ?_
  obtain ⟨J35, hJ35, h⟩ := h
  have hJ35 : gh_F m → J35 → gh_T E (gh_yHouse_trees.cls, prog_1_method_26_code, 6, false, 1) (d + 33) 35 [(0, 2, 2), (1, 0, v1), (2, 0, v2), (3, 0, v3)] [] m (fun r m1 => gh_F m1 ∧ Q r m1) := by
    intro hF hj
    have h := hJ35 hj
    refine gh_iload_n gd_House_trees_35 2 rfl ?_
    refine gh_iload_n gd_House_trees_36 3 rfl ?_
    obtain ⟨hA, hB⟩ := h
    refine gh_jle (tgt := 44) gd_House_trees_37 (by decide) (fun c1897 => ?_) (fun c1897 => ?_)
    · have h := hA c1897
      refine gh_aload_n gd_House_trees_44 0 rfl (by decide) ?_
      refine gf_2_10 gd_House_trees_45 gh_k643 hF rfl ?_
      obtain ⟨hA, hB⟩ := h
      refine gh_zne (tgt := 55) gd_House_trees_48 (by decide) (fun c1898 => ?_) (fun c1898 => ?_)
      · have h := hA c1898
        refine gh_ldc2 (n := (-1003)) gd_House_trees_51 gh_k1196 (by decide) (gh_r1 rfl) ?_
        exact gh_ret1 rfl gd_House_trees_54 ⟨hF, h⟩
      · have h := hB c1898
        refine gh_aload_n gd_House_trees_55 0 rfl (by decide) ?_
        refine gf_2_5 gd_House_trees_56 gh_k638 hF ?_
        refine cv_Chart_refresh (d := d + 32) gd_House_trees_59 gh_k1077 hF (Nat.le_of_ble_eq_true rfl) (gh_C.mono (s_Chart_refresh (d + 27) hF h) (fun r1899 m1900 hq => ?_))
        obtain ⟨hF, h⟩ := hq
        refine gh_aload_n gd_House_trees_62 0 rfl (by decide) ?_
        refine gf_2_7 gd_House_trees_63 gh_k640 hF ?_
        refine gh_iload_n gd_House_trees_66 1 rfl ?_
        refine gh_iload_n gd_House_trees_67 2 rfl ?_
        refine gh_iload_n gd_House_trees_68 3 rfl ?_
        refine cv_Forest_treesOf (d := d + 32) gd_House_trees_69 gh_k1197 hF (Nat.le_of_ble_eq_true rfl) (gh_C.mono (s_Forest_treesOf d v1 v2 v3 hF h) (fun r1901 m1902 hq => ?_))
        obtain ⟨hF, h⟩ := hq
        refine gh_lstore (L2 := [(4, 1, r1901), (0, 2, 2), (1, 0, v1), (2, 0, v2), (3, 0, v3)]) gd_House_trees_72 (by decide) rfl ?_
        refine gh_lload gd_House_trees_74 0 rfl ?_
        refine gh_ldc2 (n := 1000000000000000000) gd_House_trees_76 gh_k1248 (by decide) (gh_r1 rfl) ?_
        refine gh_lcmp gd_House_trees_79 ?_
        have k1903 : ∀ x1904 : Int, x1904 = (if r1901 < 1000000000000000000 then r1901 else (-2)) → gh_T E (gh_yHouse_trees.cls, prog_1_method_26_code, 6, false, 1) (d + 33) 91 [(4, 1, r1901), (0, 2, 2), (1, 0, v1), (2, 0, v2), (3, 0, v3)] [(1, x1904)] m1902 (fun r m1 => gh_F m1 ∧ Q r m1) := by
          rintro _ rfl
          exact gh_ret1 rfl gd_House_trees_91 ⟨hF, h⟩
        refine gh_cge (tgt := 88) gd_House_trees_80 (by decide) (fun c1905 => ?_) (fun c1905 => ?_)
        · have hz : True := trivial
          refine gh_lload gd_House_trees_83 0 rfl ?_
          refine gh_goto (tgt := 91) gd_House_trees_85 (by decide) ?_
          exact k1903 _ (by rw [if_pos c1905])
        · have hz : True := trivial
          refine gh_ldc2 (n := (-2)) gd_House_trees_88 gh_k1249 (by decide) (gh_r1 rfl) ?_
          exact k1903 _ (by rw [if_neg c1905])
    · have h := hB c1897
      refine gh_ldc2 (n := (-1002)) gd_House_trees_40 gh_k1195 (by decide) (gh_r1 rfl) ?_
      exact gh_ret1 rfl gd_House_trees_43 ⟨hF, h⟩
  obtain ⟨hA, hB⟩ := h
  have k1906 : (((m 2 10) = 0) ∨ ((p_House_isName v1 m) ∧ ((p_House_isPlace v2 m) ∧ (p_House_isPlace v3 m)))) → gh_T E (gh_yHouse_trees.cls, prog_1_method_26_code, 6, false, 1) (d + 33) 35 [(0, 2, 2), (1, 0, v1), (2, 0, v2), (3, 0, v3)] [] m (fun r m1 => gh_F m1 ∧ Q r m1) := by
    intro c
    have h := hA c
    exact hJ35 hF h
  have k1907 : ¬ (((m 2 10) = 0) ∨ ((p_House_isName v1 m) ∧ ((p_House_isPlace v2 m) ∧ (p_House_isPlace v3 m)))) → gh_T E (gh_yHouse_trees.cls, prog_1_method_26_code, 6, false, 1) (d + 33) 31 [(0, 2, 2), (1, 0, v1), (2, 0, v2), (3, 0, v3)] [] m (fun r m1 => gh_F m1 ∧ Q r m1) := by
    intro c
    have h := hB c
    refine gh_ldc2 (n := (-1001)) gd_House_trees_31 gh_k1194 (by decide) (gh_r1 rfl) ?_
    exact gh_ret1 rfl gd_House_trees_34 ⟨hF, h⟩
  refine gh_zeq (tgt := 35) gd_House_trees_4 (by decide) (fun c1908 => ?_) (fun c1908 => ?_)
  · have hz : True := trivial
    exact k1906 (Or.inl c1908)
  · have hz : True := trivial
    refine gh_aload_n gd_House_trees_7 0 rfl (by decide) ?_
    refine gh_iload_n gd_House_trees_8 1 rfl ?_
    refine cv_House_isName (d := d + 32) gd_House_trees_9 gh_k983 hF (Nat.le_of_ble_eq_true rfl) (gh_C.pe (e_House_isName (d + 32) v1 hF) ?_)
    refine gh_beq (tgt := 31) gd_House_trees_12 (by decide) (fun c1909 => ?_) (fun c1909 => ?_)
    · have hz : True := trivial
      refine gh_aload_n gd_House_trees_15 0 rfl (by decide) ?_
      refine gh_iload_n gd_House_trees_16 2 rfl ?_
      refine cv_House_isPlace (d := d + 32) gd_House_trees_17 gh_k1073 hF (Nat.le_of_ble_eq_true rfl) (gh_C.pe (e_House_isPlace (d + 32) v2 hF) ?_)
      refine gh_beq (tgt := 31) gd_House_trees_20 (by decide) (fun c1910 => ?_) (fun c1910 => ?_)
      · have hz : True := trivial
        refine gh_aload_n gd_House_trees_23 0 rfl (by decide) ?_
        refine gh_iload_n gd_House_trees_24 3 rfl ?_
        refine cv_House_isPlace (d := d + 32) gd_House_trees_25 gh_k1073 hF (Nat.le_of_ble_eq_true rfl) (gh_C.pe (e_House_isPlace (d + 32) v3 hF) ?_)
        refine gh_bne (tgt := 35) gd_House_trees_28 (by decide) (fun c1911 => ?_) (fun c1911 => ?_)
        · have hz : True := trivial
          exact k1906 (Or.inr ⟨c1909, ⟨c1910, c1911⟩⟩)
        · have hz : True := trivial
          exact k1907 (fun z => z.elim c1908 (fun z => (fun z => c1911 z.2) z.2))
      · have hz : True := trivial
        exact k1907 (fun z => z.elim c1908 (fun z => (fun z => c1910 z.1) z.2))
    · have hz : True := trivial
      exact k1907 (fun z => z.elim c1908 (fun z => c1909 z.1))
def w_Picker_push (v1 : Int) (v2 : Int) (v3 : Int) (v4 : Int) (v5 : Int) (v6 : Int) (m : gh_M) (Q : Int → gh_M → Prop) : Prop := (((m 47 14) < 289 → 0 ≤ m 47 14 ∧ (m 47 14) < 289 ∧ 0 ≤ m 47 14 ∧ (m 47 14) < 289 ∧ 0 ≤ m 47 14 ∧ (m 47 14) < 289 ∧ 0 ≤ m 47 14 ∧ (m 47 14) < 289 ∧ 0 ≤ m 47 14 ∧ (m 47 14) < 289 ∧ 0 ≤ m 47 14 ∧ (m 47 14) < 289 ∧ gh_i ((m 47 14) + 1) ∧ Q 0 (gh_u (gh_u (gh_u (gh_u (gh_u (gh_u (gh_u m 50 (m 47 14) v1) 51 (m 47 14) v2) 52 (m 47 14) v3) 53 (m 47 14) v4) 54 (m 47 14) v5) 55 (m 47 14) v6) 47 14 ((m 47 14) + 1))) ∧ (¬ ((m 47 14) < 289) → Q 0 m))
theorem s_Picker_push {E : gh_E} {m : gh_M} {Q : Int → gh_M → Prop} (d : Nat) (v1 : Int) (v2 : Int) (v3 : Int) (v4 : Int) (v5 : Int) (v6 : Int) (hF : gh_F m) (h : w_Picker_push v1 v2 v3 v4 v5 v6 m Q) : gh_C E gh_yPicker_push prog_7_method_3_code 8 none 9 (d + 0) [(2, 47), (0, v1), (0, v2), (0, v3), (0, v4), (0, v5), (1, v6)] m (fun r m1 => gh_F m1 ∧ Q r m1) := by
  refine gh_enter2 (L := [(0, 2, 47), (1, 0, v1), (2, 0, v2), (3, 0, v3), (4, 0, v4), (5, 0, v5), (6, 1, v6)]) (by decide +kernel) gh_rt9 (Nat.le_of_ble_eq_true rfl) rfl rfl ?_
  unfold w_Picker_push at h
  refine gh_aload_n gd_Picker_push_0 0 rfl (by decide) ?_
  refine gf_47_14 gd_Picker_push_1 gh_k548 hF rfl ?_
  refine gh_sipush gd_Picker_push_4 (by decide) (gh_r0 rfl) ?_
  obtain ⟨hA, hB⟩ := h
  refine gh_jge (tgt := 83) gd_Picker_push_7 (by decide) (fun c1912 => ?_) (fun c1912 => ?_)
  · have h := hA c1912
    refine gh_aload_n gd_Picker_push_10 0 rfl (by decide) ?_
    refine gf_47_8 gd_Picker_push_11 gh_k542 hF ?_
    refine gh_aload_n gd_Picker_push_14 0 rfl (by decide) ?_
    refine gf_47_14 gd_Picker_push_15 gh_k548 hF rfl ?_
    refine gh_iload_n gd_Picker_push_18 1 rfl ?_
    obtain ⟨q1913, h⟩ := h
    obtain ⟨q1914, h⟩ := h
    refine sa_50 gd_Picker_push_19 hF q1913 q1914 (fun hF => ?_)
    refine gh_aload_n gd_Picker_push_20 0 rfl (by decide) ?_
    refine gf_47_9 gd_Picker_push_21 gh_k543 hF ?_
    refine gh_aload_n gd_Picker_push_24 0 rfl (by decide) ?_
    refine gf_47_14 gd_Picker_push_25 gh_k548 hF (gh_u_a (by decide)) ?_
    refine gh_iload_n gd_Picker_push_28 2 rfl ?_
    obtain ⟨q1915, h⟩ := h
    obtain ⟨q1916, h⟩ := h
    refine sa_51 gd_Picker_push_29 hF q1915 q1916 (fun hF => ?_)
    refine gh_aload_n gd_Picker_push_30 0 rfl (by decide) ?_
    refine gf_47_10 gd_Picker_push_31 gh_k544 hF ?_
    refine gh_aload_n gd_Picker_push_34 0 rfl (by decide) ?_
    refine gf_47_14 gd_Picker_push_35 gh_k548 hF ((gh_u_a (by decide)).trans (gh_u_a (by decide))) ?_
    refine gh_iload_n gd_Picker_push_38 3 rfl ?_
    obtain ⟨q1917, h⟩ := h
    obtain ⟨q1918, h⟩ := h
    refine sa_52 gd_Picker_push_39 hF q1917 q1918 (fun hF => ?_)
    refine gh_aload_n gd_Picker_push_40 0 rfl (by decide) ?_
    refine gf_47_11 gd_Picker_push_41 gh_k545 hF ?_
    refine gh_aload_n gd_Picker_push_44 0 rfl (by decide) ?_
    refine gf_47_14 gd_Picker_push_45 gh_k548 hF ((gh_u_a (by decide)).trans ((gh_u_a (by decide)).trans (gh_u_a (by decide)))) ?_
    refine gh_iload gd_Picker_push_48 4 rfl ?_
    obtain ⟨q1919, h⟩ := h
    obtain ⟨q1920, h⟩ := h
    refine sa_53 gd_Picker_push_50 hF q1919 q1920 (fun hF => ?_)
    refine gh_aload_n gd_Picker_push_51 0 rfl (by decide) ?_
    refine gf_47_12 gd_Picker_push_52 gh_k546 hF ?_
    refine gh_aload_n gd_Picker_push_55 0 rfl (by decide) ?_
    refine gf_47_14 gd_Picker_push_56 gh_k548 hF ((gh_u_a (by decide)).trans ((gh_u_a (by decide)).trans ((gh_u_a (by decide)).trans (gh_u_a (by decide))))) ?_
    refine gh_iload gd_Picker_push_59 5 rfl ?_
    obtain ⟨q1921, h⟩ := h
    obtain ⟨q1922, h⟩ := h
    refine sa_54 gd_Picker_push_61 hF q1921 q1922 (fun hF => ?_)
    refine gh_aload_n gd_Picker_push_62 0 rfl (by decide) ?_
    refine gf_47_13 gd_Picker_push_63 gh_k547 hF ?_
    refine gh_aload_n gd_Picker_push_66 0 rfl (by decide) ?_
    refine gf_47_14 gd_Picker_push_67 gh_k548 hF ((gh_u_a (by decide)).trans ((gh_u_a (by decide)).trans ((gh_u_a (by decide)).trans ((gh_u_a (by decide)).trans (gh_u_a (by decide)))))) ?_
    refine gh_lload gd_Picker_push_70 6 rfl ?_
    obtain ⟨q1923, h⟩ := h
    obtain ⟨q1924, h⟩ := h
    refine sa_55 gd_Picker_push_72 hF q1923 q1924 (fun hF => ?_)
    refine gh_aload_n gd_Picker_push_73 0 rfl (by decide) ?_
    refine gh_dup gd_Picker_push_74 (by decide) ?_
    refine gf_47_14 gd_Picker_push_75 gh_k548 hF ((gh_u_a (by decide)).trans ((gh_u_a (by decide)).trans ((gh_u_a (by decide)).trans ((gh_u_a (by decide)).trans ((gh_u_a (by decide)).trans (gh_u_a (by decide))))))) ?_
    refine gh_iconst gd_Picker_push_78 (gh_r0 rfl) ?_
    obtain ⟨q1925, h⟩ := h
    refine gh_iadd gd_Picker_push_79 q1925 ?_
    refine pf_47_14 gd_Picker_push_80 gh_k548 hF (fun hF => ?_)
    exact gh_ret9 rfl gd_Picker_push_83 ⟨hF, h⟩
  · have h := hB c1912
    exact gh_ret9 rfl gd_Picker_push_83 ⟨hF, h⟩
def w_Forest_takeTurn (m : gh_M) (Q : Int → gh_M → Prop) : Prop := gh_i ((m 41 9) + 1) ∧ Q 0 (gh_u m 41 9 ((m 41 9) + 1))
theorem s_Forest_takeTurn {E : gh_E} {m : gh_M} {Q : Int → gh_M → Prop} (d : Nat) (hF : gh_F m) (h : w_Forest_takeTurn m Q) : gh_C E gh_yForest_takeTurn prog_5_method_5_code 1 none 9 (d + 0) [(2, 41)] m (fun r m1 => gh_F m1 ∧ Q r m1) := by
  refine gh_enter2 (L := [(0, 2, 41)]) (by decide +kernel) gh_rt9 (Nat.le_of_ble_eq_true rfl) rfl rfl ?_
  unfold w_Forest_takeTurn at h
  refine gh_aload_n gd_Forest_takeTurn_0 0 rfl (by decide) ?_
  refine gh_dup gd_Forest_takeTurn_1 (by decide) ?_
  refine gf_41_9 gd_Forest_takeTurn_2 gh_k496 hF rfl ?_
  refine gh_iconst gd_Forest_takeTurn_5 (gh_r0 rfl) ?_
  obtain ⟨q1926, h⟩ := h
  refine gh_iadd gd_Forest_takeTurn_6 q1926 ?_
  refine pf_41_9 gd_Forest_takeTurn_7 gh_k496 hF (fun hF => ?_)
  exact gh_ret9 rfl gd_Forest_takeTurn_10 ⟨hF, h⟩
def f_Picker_ruleOf_53 (v1 : Int) (v2 : Int) (v3 : Int) (Q : Int → gh_M → Prop) (K53 : Int → gh_M → Prop) (v4 : Int) (m : gh_M) : Prop := k_Grammar_behindRules v1 m ∧ ((v4 < (x_Grammar_behindRules v1 m) → 0 ≤ v2 ∧ v2 < 289 ∧ 0 ≤ v2 ∧ v2 < 289 ∧ wr_Forest_countByRule v4 (m 51 v2) (m 52 v2) v3 0 m (fun r1941 m1942 => 0 ≤ v2 ∧ v2 < 289 ∧ (((m1942 55 v2) < r1941 → Q v4 m1942) ∧ (¬ ((m1942 55 v2) < r1941) → 0 ≤ v2 ∧ v2 < 289 ∧ gh_j ((m1942 55 v2) - r1941) ∧ 0 ≤ v2 ∧ v2 < 289 ∧ gh_i (v4 + 1) ∧ K53 (v4 + 1) (gh_u m1942 55 v2 ((m1942 55 v2) - r1941)))))) ∧ (¬ (v4 < (x_Grammar_behindRules v1 m)) → Q (-1) m))
def w_Picker_ruleOf (v1 : Int) (v2 : Int) (m : gh_M) (Q : Int → gh_M → Prop) : Prop := 0 ≤ v2 ∧ v2 < 289 ∧ ∀ v3 : Int, v3 = gh_ior_f (m 53 v2) (gh_ishl_f 1 v1) → 0 ≤ v2 ∧ v2 < 289 ∧ 0 ≤ v2 ∧ v2 < 289 ∧ ∃ J42 : gh_M → Prop, (∀ (m : gh_M), J42 m → 0 ≤ v1 ∧ v1 < 8 ∧ ∀ v4 : Int, v4 = m 14 v1 → gh_M1 (fun K53 v4 m => f_Picker_ruleOf_53 v1 v2 v3 Q K53 v4 m) v4 m) ∧ ((((m 51 v2) < (m 52 v2)) → (0 ≤ v2 ∧ v2 < 289))) ∧ (((((m 51 v2) < (m 52 v2)) ∧ ((m 53 v2) = 0)) → w_Forest_takeTurn m (fun _ m1957 => J42 m1957)) ∧ (¬ (((m 51 v2) < (m 52 v2)) ∧ ((m 53 v2) = 0)) → J42 m))
theorem b_Picker_ruleOf_53 {E : gh_E} {v1 : Int} {v2 : Int} {v3 : Int} {Q : Int → gh_M → Prop} {K53 : Int → gh_M → Prop} (d : Nat) (hK : ∀ (v4 : Int) (m : gh_M), gh_F m → K53 v4 m → gh_T E (gh_yPicker_ruleOf.cls, prog_7_method_4_code, 7, false, 0) (d + 33) 53 [(0, 2, 47), (1, 0, v1), (2, 0, v2), (3, 0, v3), (4, 0, v4)] [] m (fun r m1 => gh_F m1 ∧ Q r m1)) (v4 : Int) (m : gh_M) (hF : gh_F m) (h : f_Picker_ruleOf_53 v1 v2 v3 Q K53 v4 m) : gh_T E (gh_yPicker_ruleOf.cls, prog_7_method_4_code, 7, false, 0) (d + 33) 53 [(0, 2, 47), (1, 0, v1), (2, 0, v2), (3, 0, v3), (4, 0, v4)] [] m (fun r m1 => gh_F m1 ∧ Q r m1) := by
  have hK53 := hK
  unfold f_Picker_ruleOf_53 at h
  refine gh_iload gd_Picker_ruleOf_53 4 rfl ?_
  refine gh_aload_n gd_Picker_ruleOf_55 0 rfl (by decide) ?_
  refine gf_47_0 gd_Picker_ruleOf_56 gh_k531 hF ?_
  refine gh_iload_n gd_Picker_ruleOf_59 1 rfl ?_
  obtain ⟨q1935, h⟩ := h
  refine cv_Grammar_behindRules (d := d + 32) gd_Picker_ruleOf_60 gh_k1270 hF (Nat.le_of_ble_eq_true rfl) (gh_C.pe (e_Grammar_behindRules (d + 32) v1 hF q1935) ?_)
  obtain ⟨hA, hB⟩ := h
  refine gh_jge (tgt := 123) gd_Picker_ruleOf_63 (by decide) (fun c1936 => ?_) (fun c1936 => ?_)
  · have h := hA c1936
    refine gh_aload_n gd_Picker_ruleOf_66 0 rfl (by decide) ?_
    refine gf_47_2 gd_Picker_ruleOf_67 gh_k533 hF ?_
    refine gh_iload gd_Picker_ruleOf_70 4 rfl ?_
    refine gh_aload_n gd_Picker_ruleOf_72 0 rfl (by decide) ?_
    refine gf_47_9 gd_Picker_ruleOf_73 gh_k543 hF ?_
    refine gh_iload_n gd_Picker_ruleOf_76 2 rfl ?_
    obtain ⟨q1937, h⟩ := h
    obtain ⟨q1938, h⟩ := h
    refine la_51 gd_Picker_ruleOf_77 hF q1937 q1938 rfl ?_
    refine gh_aload_n gd_Picker_ruleOf_78 0 rfl (by decide) ?_
    refine gf_47_10 gd_Picker_ruleOf_79 gh_k544 hF ?_
    refine gh_iload_n gd_Picker_ruleOf_82 2 rfl ?_
    obtain ⟨q1939, h⟩ := h
    obtain ⟨q1940, h⟩ := h
    refine la_52 gd_Picker_ruleOf_83 hF q1939 q1940 rfl ?_
    refine gh_iload_n gd_Picker_ruleOf_84 3 rfl ?_
    refine gh_iconst gd_Picker_ruleOf_85 (gh_r0 rfl) ?_
    refine cvn_Forest_countByRule (d := d + 32) gd_Picker_ruleOf_86 (List.mem_cons_of_mem _ (List.mem_cons_of_mem _ (List.mem_cons_of_mem _ List.mem_cons_self))) hF (Nat.le_of_ble_eq_true rfl) (gh_C.mono (sr_Forest_countByRule d v4 (m 51 v2) (m 52 v2) v3 0 hF h) (fun r1941 m1942 hq => ?_))
    obtain ⟨hF, h⟩ := hq
    refine gh_lstore (L2 := [(5, 1, r1941), (0, 2, 47), (1, 0, v1), (2, 0, v2), (3, 0, v3), (4, 0, v4)]) gd_Picker_ruleOf_89 (by decide) rfl ?_
    refine gh_aload_n gd_Picker_ruleOf_91 1 rfl (by decide) ?_
    refine gf_47_13 gd_Picker_ruleOf_92 gh_k547 hF ?_
    refine gh_iload_n gd_Picker_ruleOf_95 3 rfl ?_
    obtain ⟨q1943, h⟩ := h
    obtain ⟨q1944, h⟩ := h
    refine la_55 gd_Picker_ruleOf_96 hF q1943 q1944 rfl ?_
    refine gh_lload gd_Picker_ruleOf_97 0 rfl ?_
    refine gh_lcmp gd_Picker_ruleOf_99 ?_
    obtain ⟨hA, hB⟩ := h
    refine gh_cge (tgt := 106) gd_Picker_ruleOf_100 (by decide) (fun c1945 => ?_) (fun c1945 => ?_)
    · have h := hA c1945
      refine gh_iload gd_Picker_ruleOf_103 5 rfl ?_
      exact gh_ret0 rfl gd_Picker_ruleOf_105 ⟨hF, h⟩
    · have h := hB c1945
      refine gh_aload_n gd_Picker_ruleOf_106 1 rfl (by decide) ?_
      refine gf_47_13 gd_Picker_ruleOf_107 gh_k547 hF ?_
      refine gh_iload_n gd_Picker_ruleOf_110 3 rfl ?_
      refine gh_dup2 gd_Picker_ruleOf_111 (by decide) (by decide) ?_
      obtain ⟨q1946, h⟩ := h
      obtain ⟨q1947, h⟩ := h
      refine la_55 gd_Picker_ruleOf_112 hF q1946 q1947 rfl ?_
      refine gh_lload gd_Picker_ruleOf_113 0 rfl ?_
      obtain ⟨q1948, h⟩ := h
      refine gh_lsub gd_Picker_ruleOf_115 q1948 ?_
      obtain ⟨q1949, h⟩ := h
      obtain ⟨q1950, h⟩ := h
      refine sa_55 gd_Picker_ruleOf_116 hF q1949 q1950 (fun hF => ?_)
      obtain ⟨q1951, h⟩ := h
      refine gh_iinc (L2 := [(4, 0, v4 + 1), (5, 1, r1941), (0, 2, 47), (1, 0, v1), (2, 0, v2), (3, 0, v3)]) gd_Picker_ruleOf_117 5 rfl q1951 (by decide) rfl ?_
      refine gh_goto (tgt := 53) gd_Picker_ruleOf_120 (by decide) ?_
      refine gh_pick (L2 := [(0, 2, 47), (1, 0, v1), (2, 0, v2), (3, 0, v3), (4, 0, v4 + 1)]) [2, 3, 4, 5, 0] rfl ?_
      exact hK53 (v4 + 1) (gh_u m1942 55 v2 ((m1942 55 v2) - r1941)) hF h
  · have h := hB c1936
    refine gh_iconst gd_Picker_ruleOf_123 (gh_r0 rfl) ?_
    exact gh_ret0 rfl gd_Picker_ruleOf_124 ⟨hF, h⟩
theorem s_Picker_ruleOf {E : gh_E} {m : gh_M} {Q : Int → gh_M → Prop} (d : Nat) (v1 : Int) (v2 : Int) (hF : gh_F m) (h : w_Picker_ruleOf v1 v2 m Q) : gh_C E gh_yPicker_ruleOf prog_7_method_4_code 7 (some .int) 0 (d + 33) [(2, 47), (0, v1), (0, v2)] m (fun r m1 => gh_F m1 ∧ Q r m1) := by
  refine gh_enter2 (L := [(0, 2, 47), (1, 0, v1), (2, 0, v2)]) (by decide +kernel) gh_rt0 (Nat.le_of_ble_eq_true rfl) rfl rfl ?_
  unfold w_Picker_ruleOf at h
  refine gh_aload_n gd_Picker_ruleOf_0 0 rfl (by decide) ?_
  refine gf_47_11 gd_Picker_ruleOf_1 gh_k545 hF ?_
  refine gh_iload_n gd_Picker_ruleOf_4 2 rfl ?_
  obtain ⟨q1927, h⟩ := h
  obtain ⟨q1928, h⟩ := h
  refine la_53 gd_Picker_ruleOf_5 hF q1927 q1928 rfl ?_
  refine gh_iconst gd_Picker_ruleOf_6 (gh_r0 rfl) ?_
  refine gh_iload_n gd_Picker_ruleOf_7 1 rfl ?_
  refine gh_ishl gd_Picker_ruleOf_8 ?_
  refine gh_ior gd_Picker_ruleOf_9 ?_
  refine gh_name (fun v3 hn => ?_)
  have h := h v3 hn
  refine gh_istore_n (L2 := [(3, 0, v3), (0, 2, 47), (1, 0, v1), (2, 0, v2)]) gd_Picker_ruleOf_10 (by decide) rfl ?_
  refine gh_aload_n gd_Picker_ruleOf_11 1 rfl (by decide) ?_
  refine gf_47_9 gd_Picker_ruleOf_12 gh_k543 hF ?_
  refine gh_iload_n gd_Picker_ruleOf_15 3 rfl ?_
  obtain ⟨q1929, h⟩ := h
  obtain ⟨q1930, h⟩ := h
  refine la_51 gd_Picker_ruleOf_16 hF q1929 q1930 rfl ?_
  refine gh_aload_n gd_Picker_ruleOf_17 1 rfl (by decide) ?_
  refine gf_47_10 gd_Picker_ruleOf_18 gh_k544 hF ?_
  refine gh_iload_n gd_Picker_ruleOf_21 3 rfl ?_
  obtain ⟨q1931, h⟩ := h
  obtain ⟨q1932, h⟩ := h
  refine la_52 gd_Picker_ruleOf_22 hF q1931 q1932 rfl ?_
  obtain ⟨J42, hJ42, h⟩ := h
  have hJ42 : ∀ (m : gh_M), gh_F m → J42 m → gh_T E (gh_yPicker_ruleOf.cls, prog_7_method_4_code, 7, false, 0) (d + 33) 42 [(0, 2, 47), (1, 0, v1), (2, 0, v2), (3, 0, v3)] [] m (fun r m1 => gh_F m1 ∧ Q r m1) := by
    intro m hF hj
    have h := hJ42 m hj
    refine gh_aload_n gd_Picker_ruleOf_42 0 rfl (by decide) ?_
    refine gf_47_0 gd_Picker_ruleOf_43 gh_k531 hF ?_
    refine gf_13_3 gd_Picker_ruleOf_46 gh_k270 hF ?_
    refine gh_iload_n gd_Picker_ruleOf_49 1 rfl ?_
    obtain ⟨q1933, h⟩ := h
    obtain ⟨q1934, h⟩ := h
    refine la_14 gd_Picker_ruleOf_50 hF q1933 q1934 rfl ?_
    refine gh_name (fun v4 hn => ?_)
    have h := h v4 hn
    refine gh_istore (L2 := [(4, 0, v4), (0, 2, 47), (1, 0, v1), (2, 0, v2), (3, 0, v3)]) gd_Picker_ruleOf_51 (by decide) rfl ?_
    refine gh_pick (L2 := [(0, 2, 47), (1, 0, v1), (2, 0, v2), (3, 0, v3), (4, 0, v4)]) [1, 2, 3, 4, 0] rfl ?_
    exact gh_M1_sound (T := fun v4 m => gh_T E (gh_yPicker_ruleOf.cls, prog_7_method_4_code, 7, false, 0) (d + 33) 53 [(0, 2, 47), (1, 0, v1), (2, 0, v2), (3, 0, v3), (4, 0, v4)] [] m (fun r m1 => gh_F m1 ∧ Q r m1)) (fun _ m => gh_F m) (fun K53 v4 m hK hF h => b_Picker_ruleOf_53 d hK v4 m hF h) v4 m hF h
  obtain ⟨hk, hA, hB⟩ := h
  have k1954 : (((m 51 v2) < (m 52 v2)) ∧ ((m 53 v2) = 0)) → gh_T E (gh_yPicker_ruleOf.cls, prog_7_method_4_code, 7, false, 0) (d + 33) 35 [(3, 0, v3), (0, 2, 47), (1, 0, v1), (2, 0, v2)] [] m (fun r m1 => gh_F m1 ∧ Q r m1) := by
    intro c
    have h := hA c
    refine gh_aload_n gd_Picker_ruleOf_35 1 rfl (by decide) ?_
    refine gf_47_2 gd_Picker_ruleOf_36 gh_k533 hF ?_
    refine cv_Forest_takeTurn (d := d + 32) gd_Picker_ruleOf_39 gh_k1266 hF (Nat.le_of_ble_eq_true rfl) (gh_C.mono (s_Forest_takeTurn (d + 32) hF h) (fun r1956 m1957 hq => ?_))
    obtain ⟨hF, h⟩ := hq
    refine gh_pick (L2 := [(0, 2, 47), (1, 0, v1), (2, 0, v2), (3, 0, v3)]) [1, 2, 3, 0] rfl ?_
    exact hJ42 m1957 hF h
  have k1955 : ¬ (((m 51 v2) < (m 52 v2)) ∧ ((m 53 v2) = 0)) → gh_T E (gh_yPicker_ruleOf.cls, prog_7_method_4_code, 7, false, 0) (d + 33) 42 [(3, 0, v3), (0, 2, 47), (1, 0, v1), (2, 0, v2)] [] m (fun r m1 => gh_F m1 ∧ Q r m1) := by
    intro c
    have h := hB c
    refine gh_pick (L2 := [(0, 2, 47), (1, 0, v1), (2, 0, v2), (3, 0, v3)]) [1, 2, 3, 0] rfl ?_
    exact hJ42 m hF h
  refine gh_jge (tgt := 42) gd_Picker_ruleOf_23 (by decide) (fun c1958 => ?_) (fun c1958 => ?_)
  · have hz : True := trivial
    have hk := hk c1958
    refine gh_aload_n gd_Picker_ruleOf_26 1 rfl (by decide) ?_
    refine gf_47_11 gd_Picker_ruleOf_27 gh_k545 hF ?_
    refine gh_iload_n gd_Picker_ruleOf_30 3 rfl ?_
    obtain ⟨q1952, hk⟩ := hk
    have q1953 := hk
    refine la_53 gd_Picker_ruleOf_31 hF q1952 q1953 rfl ?_
    refine gh_zne (tgt := 42) gd_Picker_ruleOf_32 (by decide) (fun c1959 => ?_) (fun c1959 => ?_)
    · have hz : True := trivial
      exact k1954 ⟨c1958, c1959⟩
    · have hz : True := trivial
      exact k1955 (fun z => c1959 z.2)
  · have hz : True := trivial
    exact k1955 (fun z => c1958 z.1)
def f_Picker_shareOut_67 (v1 : Int) (v3 : Int) (v4 : Int) (v5 : Int) (v6 : Int) (v9 : Int) (K46 : Int → Int → Int → gh_M → Prop) (K67 : Int → Int → Int → gh_M → Prop) (v7 : Int) (v10 : Int) (v11 : Int) (m : gh_M) : Prop := ∃ J201 : Int → gh_M → Prop, (∀ (v7' : Int) (m : gh_M), J201 v7' m → 0 ≤ v9 ∧ v9 < 4 ∧ ∀ v6' : Int, v6' = m 56 v9 → gh_i (v9 + 1) ∧ K46 v6' v7' (v9 + 1) m) ∧ ((((v11 ≤ v4) ∧ (v10 = 0)) → gh_i (v9 + 1) ∧ k_Forest_restAt (v9 + 1) v11 ∧ ∀ v12 : Int, v12 = x_Forest_restAt (v9 + 1) v11 m → ∃ J195 : Int → Int → gh_M → Prop, (∀ (v7' : Int) (v10' : Int) (m : gh_M), J195 v7' v10' m → gh_i (v11 + 1) ∧ K67 v7' v10' (v11 + 1) m) ∧ ((v12 ≤ 0 → J195 v7 v10 m) ∧ (¬ (v12 ≤ 0) → k_Grammar_partAt v1 v9 m ∧ wr_Forest_countOfPart (x_Grammar_partAt v1 v9 m) v6 v11 v3 v4 v5 0 m (fun r1983 m1984 => k_Forest_times r1983 v12 ∧ ∀ v16 : Int, v16 = x_Forest_times r1983 v12 → ∀ v10' : Int, v10' = (if (v7 < v16) then (1:Int) else 0) → 0 ≤ v9 ∧ v9 < 4 ∧ 0 ≤ v7 ∧ 0 < v12 ∧ 0 ≤ v9 ∧ v9 < 4 ∧ (((v10' = 0) → (gh_j (v7 - v16))) ∧ (¬ (v10' = 0) → (0 ≤ v7 ∧ 0 < v12))) ∧ ∀ v7' : Int, v7' = (if v10' = 0 then (v7 - v16) else (v7 % v12)) → J195 v7' v10' (gh_u (gh_u m1984 56 v9 v11) 57 v9 (v7 / v12)))))) ∧ (¬ ((v11 ≤ v4) ∧ (v10 = 0)) → J201 v7 m))
def f_Picker_shareOut_46 (v1 : Int) (v3 : Int) (v4 : Int) (v5 : Int) (Q : Int → gh_M → Prop) (K46 : Int → Int → Int → gh_M → Prop) (v6 : Int) (v7 : Int) (v9 : Int) (m : gh_M) : Prop := 0 ≤ v1 ∧ v1 < 20 ∧ ((v9 < (m 17 v1) → gh_M3 (fun K67 v7 v10 v11 m => f_Picker_shareOut_67 v1 v3 v4 v5 v6 v9 K46 K67 v7 v10 v11 m) v7 0 v6 m) ∧ (¬ (v9 < (m 17 v1)) → Q 0 m))
def w_Picker_shareOut (v1 : Int) (v2 : Int) (m : gh_M) (Q : Int → gh_M → Prop) : Prop := 0 ≤ v2 ∧ v2 < 289 ∧ ∀ v3 : Int, v3 = m 51 v2 → 0 ≤ v2 ∧ v2 < 289 ∧ ∀ v4 : Int, v4 = m 52 v2 → 0 ≤ v2 ∧ v2 < 289 ∧ 0 ≤ v2 ∧ v2 < 289 ∧ ∀ v5 : Int, v5 = gh_ior_f (m 53 v2) (gh_ishl_f 1 (m 50 v2)) → 0 ≤ v2 ∧ v2 < 289 ∧ ∀ v7 : Int, v7 = m 55 v2 → gh_M3 (fun K46 v6 v7 v9 m => f_Picker_shareOut_46 v1 v3 v4 v5 Q K46 v6 v7 v9 m) v3 v7 0 m
theorem b_Picker_shareOut_67 {E : gh_E} {v1 : Int} {v3 : Int} {v4 : Int} {v5 : Int} {v6 : Int} {v9 : Int} {K46 : Int → Int → Int → gh_M → Prop} {Q : Int → gh_M → Prop} {K67 : Int → Int → Int → gh_M → Prop} (d : Nat) (hK46 : ∀ (v6 : Int) (v7 : Int) (v9 : Int) (m : gh_M), gh_F m → K46 v6 v7 v9 m → gh_T E (gh_yPicker_shareOut.cls, prog_7_method_5_code, 18, false, 9) (d + 32) 46 [(0, 2, 47), (1, 0, v1), (3, 0, v3), (4, 0, v4), (5, 0, v5), (6, 0, v6), (7, 1, v7), (9, 0, v9)] [] m (fun r m1 => gh_F m1 ∧ Q r m1)) (hK : ∀ (v7 : Int) (v10 : Int) (v11 : Int) (m : gh_M), gh_F m → K67 v7 v10 v11 m → gh_T E (gh_yPicker_shareOut.cls, prog_7_method_5_code, 18, false, 9) (d + 32) 67 [(0, 2, 47), (1, 0, v1), (3, 0, v3), (4, 0, v4), (5, 0, v5), (6, 0, v6), (7, 1, v7), (9, 0, v9), (10, 0, v10), (11, 0, v11)] [] m (fun r m1 => gh_F m1 ∧ Q r m1)) (v7 : Int) (v10 : Int) (v11 : Int) (m : gh_M) (hF : gh_F m) (h : f_Picker_shareOut_67 v1 v3 v4 v5 v6 v9 K46 K67 v7 v10 v11 m) : gh_T E (gh_yPicker_shareOut.cls, prog_7_method_5_code, 18, false, 9) (d + 32) 67 [(0, 2, 47), (1, 0, v1), (3, 0, v3), (4, 0, v4), (5, 0, v5), (6, 0, v6), (7, 1, v7), (9, 0, v9), (10, 0, v10), (11, 0, v11)] [] m (fun r m1 => gh_F m1 ∧ Q r m1) := by
  have hK67 := hK
  unfold f_Picker_shareOut_67 at h
  refine gh_iload gd_Picker_shareOut_67 9 rfl ?_
  refine gh_iload gd_Picker_shareOut_69 3 rfl ?_
  obtain ⟨J201, hJ201, h⟩ := h
  have hJ201 : ∀ (v7' : Int) (m : gh_M), gh_F m → J201 v7' m → gh_T E (gh_yPicker_shareOut.cls, prog_7_method_5_code, 18, false, 9) (d + 32) 201 [(0, 2, 47), (1, 0, v1), (3, 0, v3), (4, 0, v4), (5, 0, v5), (7, 1, v7'), (9, 0, v9)] [] m (fun r m1 => gh_F m1 ∧ Q r m1) := by
    intro v7' m hF hj
    have h := hJ201 v7' m hj
    refine gh_aload_n gd_Picker_shareOut_201 0 rfl (by decide) ?_
    refine gf_47_15 gd_Picker_shareOut_202 gh_k549 hF ?_
    refine gh_iload gd_Picker_shareOut_205 6 rfl ?_
    obtain ⟨q1973, h⟩ := h
    obtain ⟨q1974, h⟩ := h
    refine la_56 gd_Picker_shareOut_207 hF q1973 q1974 rfl ?_
    refine gh_name (fun v6' hn => ?_)
    have h := h v6' hn
    refine gh_istore (L2 := [(6, 0, v6'), (0, 2, 47), (1, 0, v1), (3, 0, v3), (4, 0, v4), (5, 0, v5), (7, 1, v7'), (9, 0, v9)]) gd_Picker_shareOut_208 (by decide) rfl ?_
    obtain ⟨q1975, h⟩ := h
    refine gh_iinc (L2 := [(9, 0, v9 + 1), (6, 0, v6'), (0, 2, 47), (1, 0, v1), (3, 0, v3), (4, 0, v4), (5, 0, v5), (7, 1, v7')]) gd_Picker_shareOut_210 7 rfl q1975 (by decide) rfl ?_
    refine gh_goto (tgt := 46) gd_Picker_shareOut_213 (by decide) ?_
    refine gh_pick (L2 := [(0, 2, 47), (1, 0, v1), (3, 0, v3), (4, 0, v4), (5, 0, v5), (6, 0, v6'), (7, 1, v7'), (9, 0, v9 + 1)]) [2, 3, 4, 5, 6, 1, 7, 0] rfl ?_
    exact hK46 v6' v7' (v9 + 1) m hF h
  obtain ⟨hA, hB⟩ := h
  have k1976 : ((v11 ≤ v4) ∧ (v10 = 0)) → gh_T E (gh_yPicker_shareOut.cls, prog_7_method_5_code, 18, false, 9) (d + 32) 79 [(0, 2, 47), (1, 0, v1), (3, 0, v3), (4, 0, v4), (5, 0, v5), (6, 0, v6), (7, 1, v7), (9, 0, v9), (10, 0, v10), (11, 0, v11)] [] m (fun r m1 => gh_F m1 ∧ Q r m1) := by
    intro c
    have h := hA c
    refine gh_aload_n gd_Picker_shareOut_79 0 rfl (by decide) ?_
    refine gf_47_2 gd_Picker_shareOut_80 gh_k533 hF ?_
    refine gh_iload gd_Picker_shareOut_83 7 rfl ?_
    refine gh_iconst gd_Picker_shareOut_85 (gh_r0 rfl) ?_
    obtain ⟨q1978, h⟩ := h
    refine gh_iadd gd_Picker_shareOut_86 q1978 ?_
    refine gh_iload gd_Picker_shareOut_87 9 rfl ?_
    obtain ⟨q1979, h⟩ := h
    refine cv_Forest_restAt (d := d + 31) gd_Picker_shareOut_89 gh_k1277 hF (Nat.le_of_ble_eq_true rfl) (gh_C.pe (e_Forest_restAt (d + 31) (v9 + 1) v11 hF q1979) ?_)
    refine gh_name (fun v12 hn => ?_)
    have h := h v12 hn
    refine gh_lstore (L2 := [(12, 1, v12), (0, 2, 47), (1, 0, v1), (3, 0, v3), (4, 0, v4), (5, 0, v5), (6, 0, v6), (7, 1, v7), (9, 0, v9), (10, 0, v10), (11, 0, v11)]) gd_Picker_shareOut_92 (by decide) rfl ?_
    refine gh_lload gd_Picker_shareOut_94 0 rfl ?_
    refine gh_lconst (n := 0) gd_Picker_shareOut_96 (by decide) (gh_r1 rfl) ?_
    refine gh_lcmp gd_Picker_shareOut_97 ?_
    obtain ⟨J195, hJ195, h⟩ := h
    have hJ195 : ∀ (v7' : Int) (v10' : Int) (m : gh_M), gh_F m → J195 v7' v10' m → gh_T E (gh_yPicker_shareOut.cls, prog_7_method_5_code, 18, false, 9) (d + 32) 195 [(0, 2, 47), (1, 0, v1), (3, 0, v3), (4, 0, v4), (5, 0, v5), (6, 0, v6), (7, 1, v7'), (9, 0, v9), (10, 0, v10'), (11, 0, v11)] [] m (fun r m1 => gh_F m1 ∧ Q r m1) := by
      intro v7' v10' m hF hj
      have h := hJ195 v7' v10' m hj
      obtain ⟨q1980, h⟩ := h
      refine gh_iinc (L2 := [(11, 0, v11 + 1), (0, 2, 47), (1, 0, v1), (3, 0, v3), (4, 0, v4), (5, 0, v5), (6, 0, v6), (7, 1, v7'), (9, 0, v9), (10, 0, v10')]) gd_Picker_shareOut_195 9 rfl q1980 (by decide) rfl ?_
      refine gh_goto (tgt := 67) gd_Picker_shareOut_198 (by decide) ?_
      refine gh_pick (L2 := [(0, 2, 47), (1, 0, v1), (3, 0, v3), (4, 0, v4), (5, 0, v5), (6, 0, v6), (7, 1, v7'), (9, 0, v9), (10, 0, v10'), (11, 0, v11 + 1)]) [1, 2, 3, 4, 5, 6, 7, 8, 9, 0] rfl ?_
      exact hK67 v7' v10' (v11 + 1) m hF h
    obtain ⟨hA, hB⟩ := h
    refine gh_cle (tgt := 195) gd_Picker_shareOut_98 (by decide) (fun c1981 => ?_) (fun c1981 => ?_)
    · have h := hA c1981
      refine gh_pick (L2 := [(0, 2, 47), (1, 0, v1), (3, 0, v3), (4, 0, v4), (5, 0, v5), (6, 0, v6), (7, 1, v7), (9, 0, v9), (10, 0, v10), (11, 0, v11)]) [1, 2, 3, 4, 5, 6, 7, 8, 9, 10] rfl ?_
      exact hJ195 v7 v10 m hF h
    · have h := hB c1981
      refine gh_aload_n gd_Picker_shareOut_101 1 rfl (by decide) ?_
      refine gf_47_2 gd_Picker_shareOut_102 gh_k533 hF ?_
      refine gh_aload_n gd_Picker_shareOut_105 1 rfl (by decide) ?_
      refine gf_47_0 gd_Picker_shareOut_106 gh_k531 hF ?_
      refine gh_iload_n gd_Picker_shareOut_109 2 rfl ?_
      refine gh_iload gd_Picker_shareOut_110 8 rfl ?_
      obtain ⟨q1982, h⟩ := h
      refine cv_Grammar_partAt (d := d + 31) gd_Picker_shareOut_112 gh_k1281 hF (Nat.le_of_ble_eq_true rfl) (gh_C.pe (e_Grammar_partAt (d + 31) v1 v9 hF q1982) ?_)
      refine gh_iload gd_Picker_shareOut_115 6 rfl ?_
      refine gh_iload gd_Picker_shareOut_117 10 rfl ?_
      refine gh_iload_n gd_Picker_shareOut_119 3 rfl ?_
      refine gh_iload gd_Picker_shareOut_120 4 rfl ?_
      refine gh_iload gd_Picker_shareOut_122 5 rfl ?_
      refine gh_iconst gd_Picker_shareOut_124 (gh_r0 rfl) ?_
      refine cvn_Forest_countOfPart (d := d + 31) gd_Picker_shareOut_125 (List.mem_cons_of_mem _ (List.mem_cons_of_mem _ (List.mem_cons_of_mem _ (List.mem_cons_of_mem _ List.mem_cons_self)))) hF (Nat.le_of_ble_eq_true rfl) (gh_C.mono (sr_Forest_countOfPart d (x_Grammar_partAt v1 v9 m) v6 v11 v3 v4 v5 0 hF h) (fun r1983 m1984 hq => ?_))
      obtain ⟨hF, h⟩ := hq
      refine gh_lstore (L2 := [(14, 1, r1983), (12, 1, v12), (0, 2, 47), (1, 0, v1), (3, 0, v3), (4, 0, v4), (5, 0, v5), (6, 0, v6), (7, 1, v7), (9, 0, v9), (10, 0, v10), (11, 0, v11)]) gd_Picker_shareOut_128 (by decide) rfl ?_
      refine gh_lload gd_Picker_shareOut_130 0 rfl ?_
      refine gh_lload gd_Picker_shareOut_132 1 rfl ?_
      obtain ⟨q1985, h⟩ := h
      refine cv_Forest_times (d := d + 31) gd_Picker_shareOut_134 gh_k1283 (Nat.le_of_ble_eq_true rfl) (gh_C.pe (e_Forest_times (d + 30) r1983 v12 q1985) ?_)
      refine gh_name (fun v16 hn => ?_)
      have h := h v16 hn
      refine gh_lstore (L2 := [(16, 1, v16), (14, 1, r1983), (12, 1, v12), (0, 2, 47), (1, 0, v1), (3, 0, v3), (4, 0, v4), (5, 0, v5), (6, 0, v6), (7, 1, v7), (9, 0, v9), (10, 0, v10), (11, 0, v11)]) gd_Picker_shareOut_137 (by decide) rfl ?_
      refine gh_lload gd_Picker_shareOut_139 9 rfl ?_
      refine gh_lload gd_Picker_shareOut_141 0 rfl ?_
      refine gh_lcmp gd_Picker_shareOut_143 ?_
      have k1986 : ∀ x1987 : Int, x1987 = (if (v7 < v16) then (1:Int) else 0) → gh_T E (gh_yPicker_shareOut.cls, prog_7_method_5_code, 18, false, 9) (d + 32) 152 [(16, 1, v16), (14, 1, r1983), (12, 1, v12), (0, 2, 47), (1, 0, v1), (3, 0, v3), (4, 0, v4), (5, 0, v5), (6, 0, v6), (7, 1, v7), (9, 0, v9), (10, 0, v10), (11, 0, v11)] [(0, x1987)] m1984 (fun r m1 => gh_F m1 ∧ Q r m1) := by
        rintro _ rfl
        refine gh_name (fun v10' hn => ?_)
        have h := h v10' hn
        refine gh_istore (L2 := [(10, 0, v10'), (16, 1, v16), (14, 1, r1983), (12, 1, v12), (0, 2, 47), (1, 0, v1), (3, 0, v3), (4, 0, v4), (5, 0, v5), (6, 0, v6), (7, 1, v7), (9, 0, v9), (11, 0, v11)]) gd_Picker_shareOut_152 (by decide) rfl ?_
        refine gh_aload_n gd_Picker_shareOut_154 4 rfl (by decide) ?_
        refine gf_47_15 gd_Picker_shareOut_155 gh_k549 hF ?_
        refine gh_iload gd_Picker_shareOut_158 11 rfl ?_
        refine gh_iload gd_Picker_shareOut_160 12 rfl ?_
        obtain ⟨q1988, h⟩ := h
        obtain ⟨q1989, h⟩ := h
        refine sa_56 gd_Picker_shareOut_162 hF q1988 q1989 (fun hF => ?_)
        refine gh_aload_n gd_Picker_shareOut_163 4 rfl (by decide) ?_
        refine gf_47_16 gd_Picker_shareOut_164 gh_k550 hF ?_
        refine gh_iload gd_Picker_shareOut_167 11 rfl ?_
        refine gh_lload gd_Picker_shareOut_169 10 rfl ?_
        refine gh_lload gd_Picker_shareOut_171 3 rfl ?_
        obtain ⟨q1990, h⟩ := h
        obtain ⟨q1991, h⟩ := h
        refine gh_ldiv gd_Picker_shareOut_173 q1990 q1991 ?_
        obtain ⟨q1992, h⟩ := h
        obtain ⟨q1993, h⟩ := h
        refine sa_57 gd_Picker_shareOut_174 hF q1992 q1993 (fun hF => ?_)
        refine gh_iload gd_Picker_shareOut_175 0 rfl ?_
        obtain ⟨hk, h⟩ := h
        have k1997 : ∀ x1998 : Int, x1998 = (if v10' = 0 then (v7 - v16) else (v7 % v12)) → gh_T E (gh_yPicker_shareOut.cls, prog_7_method_5_code, 18, false, 9) (d + 32) 193 [(10, 0, v10'), (16, 1, v16), (14, 1, r1983), (12, 1, v12), (0, 2, 47), (1, 0, v1), (3, 0, v3), (4, 0, v4), (5, 0, v5), (6, 0, v6), (7, 1, v7), (9, 0, v9), (11, 0, v11)] [(1, x1998)] (gh_u (gh_u m1984 56 v9 v11) 57 v9 (v7 / v12)) (fun r m1 => gh_F m1 ∧ Q r m1) := by
          rintro _ rfl
          refine gh_name (fun v7' hn => ?_)
          have h := h v7' hn
          refine gh_lstore (L2 := [(7, 1, v7'), (10, 0, v10'), (16, 1, v16), (14, 1, r1983), (12, 1, v12), (0, 2, 47), (1, 0, v1), (3, 0, v3), (4, 0, v4), (5, 0, v5), (6, 0, v6), (9, 0, v9), (11, 0, v11)]) gd_Picker_shareOut_193 (by decide) rfl ?_
          refine gh_pick (L2 := [(0, 2, 47), (1, 0, v1), (3, 0, v3), (4, 0, v4), (5, 0, v5), (6, 0, v6), (7, 1, v7'), (9, 0, v9), (10, 0, v10'), (11, 0, v11)]) [5, 6, 7, 8, 9, 10, 0, 11, 1, 12] rfl ?_
          exact hJ195 v7' v10' (gh_u (gh_u m1984 56 v9 v11) 57 v9 (v7 / v12)) hF h
        refine gh_zeq (tgt := 188) gd_Picker_shareOut_177 (by decide) (fun c1999 => ?_) (fun c1999 => ?_)
        · have hz : True := trivial
          have hk := hk.1 c1999
          refine gh_lload gd_Picker_shareOut_188 10 rfl ?_
          refine gh_lload gd_Picker_shareOut_190 1 rfl ?_
          have q1994 := hk
          refine gh_lsub gd_Picker_shareOut_192 q1994 ?_
          exact k1997 _ (by rw [if_pos c1999])
        · have hz : True := trivial
          have hk := hk.2 c1999
          refine gh_lload gd_Picker_shareOut_180 10 rfl ?_
          refine gh_lload gd_Picker_shareOut_182 3 rfl ?_
          obtain ⟨q1995, hk⟩ := hk
          have q1996 := hk
          refine gh_lrem gd_Picker_shareOut_184 q1995 q1996 ?_
          refine gh_goto (tgt := 193) gd_Picker_shareOut_185 (by decide) ?_
          exact k1997 _ (by rw [if_neg c1999])
      refine gh_cge (tgt := 151) gd_Picker_shareOut_144 (by decide) (fun c2000 => ?_) (fun c2000 => ?_)
      · have hz : True := trivial
        refine gh_iconst gd_Picker_shareOut_147 (gh_r0 rfl) ?_
        refine gh_goto (tgt := 152) gd_Picker_shareOut_148 (by decide) ?_
        exact k1986 _ (if_pos (c := (v7 < v16)) c2000).symm
      · have hz : True := trivial
        refine gh_iconst gd_Picker_shareOut_151 (gh_r0 rfl) ?_
        exact k1986 _ (if_neg (c := (v7 < v16)) c2000).symm
  have k1977 : ¬ ((v11 ≤ v4) ∧ (v10 = 0)) → gh_T E (gh_yPicker_shareOut.cls, prog_7_method_5_code, 18, false, 9) (d + 32) 201 [(0, 2, 47), (1, 0, v1), (3, 0, v3), (4, 0, v4), (5, 0, v5), (6, 0, v6), (7, 1, v7), (9, 0, v9), (10, 0, v10), (11, 0, v11)] [] m (fun r m1 => gh_F m1 ∧ Q r m1) := by
    intro c
    have h := hB c
    refine gh_pick (L2 := [(0, 2, 47), (1, 0, v1), (3, 0, v3), (4, 0, v4), (5, 0, v5), (7, 1, v7), (9, 0, v9)]) [0, 1, 2, 3, 4, 6, 7] rfl ?_
    exact hJ201 v7 m hF h
  refine gh_jgt (tgt := 201) gd_Picker_shareOut_71 (by decide) (fun c2001 => ?_) (fun c2001 => ?_)
  · have hz : True := trivial
    refine gh_iload gd_Picker_shareOut_74 8 rfl ?_
    refine gh_zne (tgt := 201) gd_Picker_shareOut_76 (by decide) (fun c2002 => ?_) (fun c2002 => ?_)
    · have hz : True := trivial
      exact k1976 ⟨c2001, c2002⟩
    · have hz : True := trivial
      exact k1977 (fun z => c2002 z.2)
  · have hz : True := trivial
    exact k1977 (fun z => c2001 z.1)
theorem b_Picker_shareOut_46 {E : gh_E} {v1 : Int} {v3 : Int} {v4 : Int} {v5 : Int} {Q : Int → gh_M → Prop} {K46 : Int → Int → Int → gh_M → Prop} (d : Nat) (hK : ∀ (v6 : Int) (v7 : Int) (v9 : Int) (m : gh_M), gh_F m → K46 v6 v7 v9 m → gh_T E (gh_yPicker_shareOut.cls, prog_7_method_5_code, 18, false, 9) (d + 32) 46 [(0, 2, 47), (1, 0, v1), (3, 0, v3), (4, 0, v4), (5, 0, v5), (6, 0, v6), (7, 1, v7), (9, 0, v9)] [] m (fun r m1 => gh_F m1 ∧ Q r m1)) (v6 : Int) (v7 : Int) (v9 : Int) (m : gh_M) (hF : gh_F m) (h : f_Picker_shareOut_46 v1 v3 v4 v5 Q K46 v6 v7 v9 m) : gh_T E (gh_yPicker_shareOut.cls, prog_7_method_5_code, 18, false, 9) (d + 32) 46 [(0, 2, 47), (1, 0, v1), (3, 0, v3), (4, 0, v4), (5, 0, v5), (6, 0, v6), (7, 1, v7), (9, 0, v9)] [] m (fun r m1 => gh_F m1 ∧ Q r m1) := by
  have hK46 := hK
  unfold f_Picker_shareOut_46 at h
  refine gh_iload gd_Picker_shareOut_46 7 rfl ?_
  refine gh_aload_n gd_Picker_shareOut_48 0 rfl (by decide) ?_
  refine gf_47_0 gd_Picker_shareOut_49 gh_k531 hF ?_
  refine gf_13_6 gd_Picker_shareOut_52 gh_k287 hF ?_
  refine gh_iload_n gd_Picker_shareOut_55 1 rfl ?_
  obtain ⟨q1970, h⟩ := h
  obtain ⟨q1971, h⟩ := h
  refine la_17 gd_Picker_shareOut_56 hF q1970 q1971 rfl ?_
  obtain ⟨hA, hB⟩ := h
  refine gh_jge (tgt := 216) gd_Picker_shareOut_57 (by decide) (fun c1972 => ?_) (fun c1972 => ?_)
  · have h := hA c1972
    refine gh_iconst gd_Picker_shareOut_60 (gh_r0 rfl) ?_
    refine gh_istore (L2 := [(10, 0, 0), (0, 2, 47), (1, 0, v1), (3, 0, v3), (4, 0, v4), (5, 0, v5), (6, 0, v6), (7, 1, v7), (9, 0, v9)]) gd_Picker_shareOut_61 (by decide) rfl ?_
    refine gh_iload gd_Picker_shareOut_63 6 rfl ?_
    refine gh_istore (L2 := [(11, 0, v6), (10, 0, 0), (0, 2, 47), (1, 0, v1), (3, 0, v3), (4, 0, v4), (5, 0, v5), (6, 0, v6), (7, 1, v7), (9, 0, v9)]) gd_Picker_shareOut_65 (by decide) rfl ?_
    refine gh_pick (L2 := [(0, 2, 47), (1, 0, v1), (3, 0, v3), (4, 0, v4), (5, 0, v5), (6, 0, v6), (7, 1, v7), (9, 0, v9), (10, 0, 0), (11, 0, v6)]) [2, 3, 4, 5, 6, 7, 8, 9, 1, 0] rfl ?_
    exact gh_M3_sound (T := fun v7 v10 v11 m => gh_T E (gh_yPicker_shareOut.cls, prog_7_method_5_code, 18, false, 9) (d + 32) 67 [(0, 2, 47), (1, 0, v1), (3, 0, v3), (4, 0, v4), (5, 0, v5), (6, 0, v6), (7, 1, v7), (9, 0, v9), (10, 0, v10), (11, 0, v11)] [] m (fun r m1 => gh_F m1 ∧ Q r m1)) (fun _ _ _ m => gh_F m) (fun K67 v7 v10 v11 m hK hF h => b_Picker_shareOut_67 d hK46 hK v7 v10 v11 m hF h) v7 0 v6 m hF h
  · have h := hB c1972
    exact gh_ret9 rfl gd_Picker_shareOut_216 ⟨hF, h⟩
theorem s_Picker_shareOut {E : gh_E} {m : gh_M} {Q : Int → gh_M → Prop} (d : Nat) (v1 : Int) (v2 : Int) (hF : gh_F m) (h : w_Picker_shareOut v1 v2 m Q) : gh_C E gh_yPicker_shareOut prog_7_method_5_code 18 none 9 (d + 32) [(2, 47), (0, v1), (0, v2)] m (fun r m1 => gh_F m1 ∧ Q r m1) := by
  refine gh_enter2 (L := [(0, 2, 47), (1, 0, v1), (2, 0, v2)]) (by decide +kernel) gh_rt9 (Nat.le_of_ble_eq_true rfl) rfl rfl ?_
  unfold w_Picker_shareOut at h
  refine gh_aload_n gd_Picker_shareOut_0 0 rfl (by decide) ?_
  refine gf_47_9 gd_Picker_shareOut_1 gh_k543 hF ?_
  refine gh_iload_n gd_Picker_shareOut_4 2 rfl ?_
  obtain ⟨q1960, h⟩ := h
  obtain ⟨q1961, h⟩ := h
  refine la_51 gd_Picker_shareOut_5 hF q1960 q1961 rfl ?_
  refine gh_name (fun v3 hn => ?_)
  have h := h v3 hn
  refine gh_istore_n (L2 := [(3, 0, v3), (0, 2, 47), (1, 0, v1), (2, 0, v2)]) gd_Picker_shareOut_6 (by decide) rfl ?_
  refine gh_aload_n gd_Picker_shareOut_7 1 rfl (by decide) ?_
  refine gf_47_10 gd_Picker_shareOut_8 gh_k544 hF ?_
  refine gh_iload_n gd_Picker_shareOut_11 3 rfl ?_
  obtain ⟨q1962, h⟩ := h
  obtain ⟨q1963, h⟩ := h
  refine la_52 gd_Picker_shareOut_12 hF q1962 q1963 rfl ?_
  refine gh_name (fun v4 hn => ?_)
  have h := h v4 hn
  refine gh_istore (L2 := [(4, 0, v4), (3, 0, v3), (0, 2, 47), (1, 0, v1), (2, 0, v2)]) gd_Picker_shareOut_13 (by decide) rfl ?_
  refine gh_aload_n gd_Picker_shareOut_15 2 rfl (by decide) ?_
  refine gf_47_11 gd_Picker_shareOut_16 gh_k545 hF ?_
  refine gh_iload_n gd_Picker_shareOut_19 4 rfl ?_
  obtain ⟨q1964, h⟩ := h
  obtain ⟨q1965, h⟩ := h
  refine la_53 gd_Picker_shareOut_20 hF q1964 q1965 rfl ?_
  refine gh_iconst gd_Picker_shareOut_21 (gh_r0 rfl) ?_
  refine gh_aload_n gd_Picker_shareOut_22 2 rfl (by decide) ?_
  refine gf_47_8 gd_Picker_shareOut_23 gh_k542 hF ?_
  refine gh_iload_n gd_Picker_shareOut_26 4 rfl ?_
  obtain ⟨q1966, h⟩ := h
  obtain ⟨q1967, h⟩ := h
  refine la_50 gd_Picker_shareOut_27 hF q1966 q1967 rfl ?_
  refine gh_ishl gd_Picker_shareOut_28 ?_
  refine gh_ior gd_Picker_shareOut_29 ?_
  refine gh_name (fun v5 hn => ?_)
  have h := h v5 hn
  refine gh_istore (L2 := [(5, 0, v5), (4, 0, v4), (3, 0, v3), (0, 2, 47), (1, 0, v1), (2, 0, v2)]) gd_Picker_shareOut_30 (by decide) rfl ?_
  refine gh_iload_n gd_Picker_shareOut_32 2 rfl ?_
  refine gh_istore (L2 := [(6, 0, v3), (5, 0, v5), (4, 0, v4), (3, 0, v3), (0, 2, 47), (1, 0, v1), (2, 0, v2)]) gd_Picker_shareOut_33 (by decide) rfl ?_
  refine gh_aload_n gd_Picker_shareOut_35 4 rfl (by decide) ?_
  refine gf_47_13 gd_Picker_shareOut_36 gh_k547 hF ?_
  refine gh_iload_n gd_Picker_shareOut_39 6 rfl ?_
  obtain ⟨q1968, h⟩ := h
  obtain ⟨q1969, h⟩ := h
  refine la_55 gd_Picker_shareOut_40 hF q1968 q1969 rfl ?_
  refine gh_name (fun v7 hn => ?_)
  have h := h v7 hn
  refine gh_lstore (L2 := [(7, 1, v7), (6, 0, v3), (5, 0, v5), (4, 0, v4), (3, 0, v3), (0, 2, 47), (1, 0, v1), (2, 0, v2)]) gd_Picker_shareOut_41 (by decide) rfl ?_
  refine gh_iconst gd_Picker_shareOut_43 (gh_r0 rfl) ?_
  refine gh_istore (L2 := [(9, 0, 0), (7, 1, v7), (6, 0, v3), (5, 0, v5), (4, 0, v4), (3, 0, v3), (0, 2, 47), (1, 0, v1), (2, 0, v2)]) gd_Picker_shareOut_44 (by decide) rfl ?_
  refine gh_pick (L2 := [(0, 2, 47), (1, 0, v1), (3, 0, v3), (4, 0, v4), (5, 0, v5), (6, 0, v3), (7, 1, v7), (9, 0, 0)]) [6, 7, 5, 4, 3, 2, 1, 0] rfl ?_
  exact gh_M3_sound (T := fun v6 v7 v9 m => gh_T E (gh_yPicker_shareOut.cls, prog_7_method_5_code, 18, false, 9) (d + 32) 46 [(0, 2, 47), (1, 0, v1), (3, 0, v3), (4, 0, v4), (5, 0, v5), (6, 0, v6), (7, 1, v7), (9, 0, v9)] [] m (fun r m1 => gh_F m1 ∧ Q r m1)) (fun _ _ _ m => gh_F m) (fun K46 v6 v7 v9 m hK hF h => b_Picker_shareOut_46 d hK v6 v7 v9 m hF h) v3 v7 0 m hF h
def f_Picker_pushParts_55 (v1 : Int) (v3 : Int) (v4 : Int) (v5 : Int) (v6 : Int) (Q : Int → gh_M → Prop) (K55 : Int → gh_M → Prop) (v7 : Int) (m : gh_M) : Prop := ((v7 < 0 → Q 0 m) ∧ (¬ (v7 < 0) → ((¬ (v7 = 0) → (gh_i (v7 - 1) ∧ 0 ≤ v7 - 1 ∧ (v7 - 1) < 4))) ∧ ∀ v8 : Int, v8 = (if v7 = 0 then v3 else (m 56 (v7 - 1))) → (((v8 = v3) → (0 ≤ v7 ∧ v7 < 4))) ∧ ∀ v9 : Int, v9 = (if ((v8 = v3) ∧ ((m 56 v7) = v4)) then (1:Int) else 0) → k_Grammar_nameAt v1 v7 m ∧ ∀ v10 : Int, v10 = x_Grammar_nameAt v1 v7 m → (((v10 = (-1)) → (k_Text_letterAt v8 m ∧ gh_i ((-1) - (x_Text_letterAt v8 m))))) ∧ 0 ≤ v7 ∧ v7 < 4 ∧ 0 ≤ v7 ∧ v7 < 4 ∧ w_Picker_push (if v10 = (-1) then ((-1) - (x_Text_letterAt v8 m)) else v10) v8 (m 56 v7) (if v9 = 0 then 0 else v5) v6 (m 57 v7) m (fun _ m2039 => gh_i (v7 + (-1)) ∧ K55 (v7 + (-1)) m2039)))
def w_Picker_pushParts (v1 : Int) (v2 : Int) (m : gh_M) (Q : Int → gh_M → Prop) : Prop := 0 ≤ v2 ∧ v2 < 289 ∧ ∀ v3 : Int, v3 = m 51 v2 → 0 ≤ v2 ∧ v2 < 289 ∧ ∀ v4 : Int, v4 = m 52 v2 → 0 ≤ v2 ∧ v2 < 289 ∧ 0 ≤ v2 ∧ v2 < 289 ∧ ∀ v5 : Int, v5 = gh_ior_f (m 53 v2) (gh_ishl_f 1 (m 50 v2)) → 0 ≤ v2 ∧ v2 < 289 ∧ gh_i ((m 54 v2) + 1) ∧ ∀ v6 : Int, v6 = (m 54 v2) + 1 → 0 ≤ v1 ∧ v1 < 20 ∧ gh_i ((m 17 v1) - 1) ∧ ∀ v7 : Int, v7 = (m 17 v1) - 1 → gh_M1 (fun K55 v7 m => f_Picker_pushParts_55 v1 v3 v4 v5 v6 Q K55 v7 m) v7 m
theorem b_Picker_pushParts_55 {E : gh_E} {v1 : Int} {v3 : Int} {v4 : Int} {v5 : Int} {v6 : Int} {Q : Int → gh_M → Prop} {K55 : Int → gh_M → Prop} (d : Nat) (hK : ∀ (v7 : Int) (m : gh_M), gh_F m → K55 v7 m → gh_T E (gh_yPicker_pushParts.cls, prog_7_method_6_code, 11, false, 9) (d + 2) 55 [(0, 2, 47), (1, 0, v1), (3, 0, v3), (4, 0, v4), (5, 0, v5), (6, 0, v6), (7, 0, v7)] [] m (fun r m1 => gh_F m1 ∧ Q r m1)) (v7 : Int) (m : gh_M) (hF : gh_F m) (h : f_Picker_pushParts_55 v1 v3 v4 v5 v6 Q K55 v7 m) : gh_T E (gh_yPicker_pushParts.cls, prog_7_method_6_code, 11, false, 9) (d + 2) 55 [(0, 2, 47), (1, 0, v1), (3, 0, v3), (4, 0, v4), (5, 0, v5), (6, 0, v6), (7, 0, v7)] [] m (fun r m1 => gh_F m1 ∧ Q r m1) := by
  have hK55 := hK
  unfold f_Picker_pushParts_55 at h
  refine gh_iload gd_Picker_pushParts_55 6 rfl ?_
  obtain ⟨hA, hB⟩ := h
  refine gh_zlt (tgt := 178) gd_Picker_pushParts_57 (by decide) (fun c2017 => ?_) (fun c2017 => ?_)
  · have h := hA c2017
    exact gh_ret9 rfl gd_Picker_pushParts_178 ⟨hF, h⟩
  · have h := hB c2017
    refine gh_iload gd_Picker_pushParts_60 6 rfl ?_
    obtain ⟨hk, h⟩ := h
    have k2021 : ∀ x2022 : Int, x2022 = (if v7 = 0 then v3 else (m 56 (v7 - 1))) → gh_T E (gh_yPicker_pushParts.cls, prog_7_method_6_code, 11, false, 9) (d + 2) 78 [(0, 2, 47), (1, 0, v1), (3, 0, v3), (4, 0, v4), (5, 0, v5), (6, 0, v6), (7, 0, v7)] [(0, x2022)] m (fun r m1 => gh_F m1 ∧ Q r m1) := by
      rintro _ rfl
      refine gh_name (fun v8 hn => ?_)
      have h := h v8 hn
      refine gh_istore (L2 := [(8, 0, v8), (0, 2, 47), (1, 0, v1), (3, 0, v3), (4, 0, v4), (5, 0, v5), (6, 0, v6), (7, 0, v7)]) gd_Picker_pushParts_78 (by decide) rfl ?_
      refine gh_iload gd_Picker_pushParts_80 0 rfl ?_
      refine gh_iload_n gd_Picker_pushParts_82 3 rfl ?_
      obtain ⟨hk, h⟩ := h
      have k2025 : ∀ x2026 : Int, x2026 = (if ((v8 = v3) ∧ ((m 56 v7) = v4)) then (1:Int) else 0) → gh_T E (gh_yPicker_pushParts.cls, prog_7_method_6_code, 11, false, 9) (d + 2) 103 [(8, 0, v8), (0, 2, 47), (1, 0, v1), (3, 0, v3), (4, 0, v4), (5, 0, v5), (6, 0, v6), (7, 0, v7)] [(0, x2026)] m (fun r m1 => gh_F m1 ∧ Q r m1) := by
        rintro _ rfl
        refine gh_name (fun v9 hn => ?_)
        have h := h v9 hn
        refine gh_istore (L2 := [(9, 0, v9), (8, 0, v8), (0, 2, 47), (1, 0, v1), (3, 0, v3), (4, 0, v4), (5, 0, v5), (6, 0, v6), (7, 0, v7)]) gd_Picker_pushParts_103 (by decide) rfl ?_
        refine gh_aload_n gd_Picker_pushParts_105 2 rfl (by decide) ?_
        refine gf_47_0 gd_Picker_pushParts_106 gh_k531 hF ?_
        refine gh_iload_n gd_Picker_pushParts_109 3 rfl ?_
        refine gh_iload gd_Picker_pushParts_110 8 rfl ?_
        obtain ⟨q2027, h⟩ := h
        refine cv_Grammar_nameAt (d := d + 1) gd_Picker_pushParts_112 gh_k1288 hF (Nat.le_of_ble_eq_true rfl) (gh_C.pe (e_Grammar_nameAt d v1 v7 hF q2027) ?_)
        refine gh_name (fun v10 hn => ?_)
        have h := h v10 hn
        refine gh_istore (L2 := [(10, 0, v10), (9, 0, v9), (8, 0, v8), (0, 2, 47), (1, 0, v1), (3, 0, v3), (4, 0, v4), (5, 0, v5), (6, 0, v6), (7, 0, v7)]) gd_Picker_pushParts_115 (by decide) rfl ?_
        refine gh_aload_n gd_Picker_pushParts_117 3 rfl (by decide) ?_
        refine gh_iload gd_Picker_pushParts_118 0 rfl ?_
        refine gh_iconst gd_Picker_pushParts_120 (gh_r0 rfl) ?_
        obtain ⟨hk, h⟩ := h
        have k2030 : ∀ x2031 : Int, x2031 = (if v10 = (-1) then ((-1) - (x_Text_letterAt v8 m)) else v10) → gh_T E (gh_yPicker_pushParts.cls, prog_7_method_6_code, 11, false, 9) (d + 2) 140 [(10, 0, v10), (9, 0, v9), (8, 0, v8), (0, 2, 47), (1, 0, v1), (3, 0, v3), (4, 0, v4), (5, 0, v5), (6, 0, v6), (7, 0, v7)] [(0, x2031), (2, 47)] m (fun r m1 => gh_F m1 ∧ Q r m1) := by
          rintro _ rfl
          refine gh_iload gd_Picker_pushParts_140 2 rfl ?_
          refine gh_aload_n gd_Picker_pushParts_142 3 rfl (by decide) ?_
          refine gf_47_15 gd_Picker_pushParts_143 gh_k549 hF ?_
          refine gh_iload gd_Picker_pushParts_146 9 rfl ?_
          obtain ⟨q2032, h⟩ := h
          obtain ⟨q2033, h⟩ := h
          refine la_56 gd_Picker_pushParts_148 hF q2032 q2033 rfl ?_
          refine gh_iload gd_Picker_pushParts_149 1 rfl ?_
          have k2034 : ∀ x2035 : Int, x2035 = (if v9 = 0 then 0 else v5) → gh_T E (gh_yPicker_pushParts.cls, prog_7_method_6_code, 11, false, 9) (d + 2) 160 [(10, 0, v10), (9, 0, v9), (8, 0, v8), (0, 2, 47), (1, 0, v1), (3, 0, v3), (4, 0, v4), (5, 0, v5), (6, 0, v6), (7, 0, v7)] [(0, x2035), (0, m 56 v7), (0, v8), (0, (if v10 = (-1) then ((-1) - (x_Text_letterAt v8 m)) else v10)), (2, 47)] m (fun r m1 => gh_F m1 ∧ Q r m1) := by
            rintro _ rfl
            refine gh_iload gd_Picker_pushParts_160 8 rfl ?_
            refine gh_aload_n gd_Picker_pushParts_162 3 rfl (by decide) ?_
            refine gf_47_16 gd_Picker_pushParts_163 gh_k550 hF ?_
            refine gh_iload gd_Picker_pushParts_166 9 rfl ?_
            obtain ⟨q2036, h⟩ := h
            obtain ⟨q2037, h⟩ := h
            refine la_57 gd_Picker_pushParts_168 hF q2036 q2037 rfl ?_
            refine cv_Picker_push (d := d + 1) gd_Picker_pushParts_169 gh_k1258 hF (Nat.le_of_ble_eq_true rfl) (gh_C.mono (s_Picker_push (d + 1) (if v10 = (-1) then ((-1) - (x_Text_letterAt v8 m)) else v10) v8 (m 56 v7) (if v9 = 0 then 0 else v5) v6 (m 57 v7) hF h) (fun r2038 m2039 hq => ?_))
            obtain ⟨hF, h⟩ := hq
            obtain ⟨q2040, h⟩ := h
            refine gh_iinc (L2 := [(7, 0, v7 + (-1)), (10, 0, v10), (9, 0, v9), (8, 0, v8), (0, 2, 47), (1, 0, v1), (3, 0, v3), (4, 0, v4), (5, 0, v5), (6, 0, v6)]) gd_Picker_pushParts_172 9 rfl q2040 (by decide) rfl ?_
            refine gh_goto (tgt := 55) gd_Picker_pushParts_175 (by decide) ?_
            refine gh_pick (L2 := [(0, 2, 47), (1, 0, v1), (3, 0, v3), (4, 0, v4), (5, 0, v5), (6, 0, v6), (7, 0, v7 + (-1))]) [4, 5, 6, 7, 8, 9, 0] rfl ?_
            exact hK55 (v7 + (-1)) m2039 hF h
          refine gh_zeq (tgt := 159) gd_Picker_pushParts_151 (by decide) (fun c2041 => ?_) (fun c2041 => ?_)
          · have hz : True := trivial
            refine gh_iconst gd_Picker_pushParts_159 (gh_r0 rfl) ?_
            exact k2034 _ (by rw [if_pos c2041])
          · have hz : True := trivial
            refine gh_iload gd_Picker_pushParts_154 7 rfl ?_
            refine gh_goto (tgt := 160) gd_Picker_pushParts_156 (by decide) ?_
            exact k2034 _ (by rw [if_neg c2041])
        refine gh_jeq (tgt := 129) gd_Picker_pushParts_121 (by decide) (fun c2042 => ?_) (fun c2042 => ?_)
        · have hz : True := trivial
          have hk := hk c2042
          refine gh_iconst gd_Picker_pushParts_129 (gh_r0 rfl) ?_
          refine gh_aload_n gd_Picker_pushParts_130 3 rfl (by decide) ?_
          refine gf_47_1 gd_Picker_pushParts_131 gh_k532 hF ?_
          refine gh_iload gd_Picker_pushParts_134 2 rfl ?_
          obtain ⟨q2028, hk⟩ := hk
          refine cv_Text_letterAt (d := d + 1) gd_Picker_pushParts_136 gh_k1289 hF (Nat.le_of_ble_eq_true rfl) (gh_C.pe (e_Text_letterAt (d + 1) v8 hF q2028) ?_)
          have q2029 := hk
          refine gh_isub gd_Picker_pushParts_139 q2029 ?_
          exact k2030 _ (by rw [if_pos c2042])
        · have hz : True := trivial
          refine gh_iload gd_Picker_pushParts_124 0 rfl ?_
          refine gh_goto (tgt := 140) gd_Picker_pushParts_126 (by decide) ?_
          exact k2030 _ (by rw [if_neg c2042])
      refine gh_jne (tgt := 102) gd_Picker_pushParts_83 (by decide) (fun c2043 => ?_) (fun c2043 => ?_)
      · have hz : True := trivial
        have hk := hk c2043
        refine gh_aload_n gd_Picker_pushParts_86 1 rfl (by decide) ?_
        refine gf_47_15 gd_Picker_pushParts_87 gh_k549 hF ?_
        refine gh_iload gd_Picker_pushParts_90 7 rfl ?_
        obtain ⟨q2023, hk⟩ := hk
        have q2024 := hk
        refine la_56 gd_Picker_pushParts_92 hF q2023 q2024 rfl ?_
        refine gh_iload gd_Picker_pushParts_93 4 rfl ?_
        refine gh_jne (tgt := 102) gd_Picker_pushParts_95 (by decide) (fun c2044 => ?_) (fun c2044 => ?_)
        · have hz : True := trivial
          refine gh_iconst gd_Picker_pushParts_98 (gh_r0 rfl) ?_
          refine gh_goto (tgt := 103) gd_Picker_pushParts_99 (by decide) ?_
          exact k2025 _ (if_pos (c := ((v8 = v3) ∧ ((m 56 v7) = v4))) ⟨c2043, c2044⟩).symm
        · have hz : True := trivial
          refine gh_iconst gd_Picker_pushParts_102 (gh_r0 rfl) ?_
          exact k2025 _ (if_neg (c := ((v8 = v3) ∧ ((m 56 v7) = v4))) (fun z => c2044 z.2)).symm
      · have hz : True := trivial
        refine gh_iconst gd_Picker_pushParts_102 (gh_r0 rfl) ?_
        exact k2025 _ (if_neg (c := ((v8 = v3) ∧ ((m 56 v7) = v4))) (fun z => c2043 z.1)).symm
    refine gh_zne (tgt := 69) gd_Picker_pushParts_62 (by decide) (fun c2045 => ?_) (fun c2045 => ?_)
    · have hz : True := trivial
      refine gh_iload_n gd_Picker_pushParts_65 2 rfl ?_
      refine gh_goto (tgt := 78) gd_Picker_pushParts_66 (by decide) ?_
      exact k2021 _ (by rw [if_pos c2045])
    · have hz : True := trivial
      have hk := hk c2045
      refine gh_aload_n gd_Picker_pushParts_69 0 rfl (by decide) ?_
      refine gf_47_15 gd_Picker_pushParts_70 gh_k549 hF ?_
      refine gh_iload gd_Picker_pushParts_73 6 rfl ?_
      refine gh_iconst gd_Picker_pushParts_75 (gh_r0 rfl) ?_
      obtain ⟨q2018, hk⟩ := hk
      refine gh_isub gd_Picker_pushParts_76 q2018 ?_
      obtain ⟨q2019, hk⟩ := hk
      have q2020 := hk
      refine la_56 gd_Picker_pushParts_77 hF q2019 q2020 rfl ?_
      exact k2021 _ (by rw [if_neg c2045])
theorem s_Picker_pushParts {E : gh_E} {m : gh_M} {Q : Int → gh_M → Prop} (d : Nat) (v1 : Int) (v2 : Int) (hF : gh_F m) (h : w_Picker_pushParts v1 v2 m Q) : gh_C E gh_yPicker_pushParts prog_7_method_6_code 11 none 9 (d + 2) [(2, 47), (0, v1), (0, v2)] m (fun r m1 => gh_F m1 ∧ Q r m1) := by
  refine gh_enter2 (L := [(0, 2, 47), (1, 0, v1), (2, 0, v2)]) (by decide +kernel) gh_rt9 (Nat.le_of_ble_eq_true rfl) rfl rfl ?_
  unfold w_Picker_pushParts at h
  refine gh_aload_n gd_Picker_pushParts_0 0 rfl (by decide) ?_
  refine gf_47_9 gd_Picker_pushParts_1 gh_k543 hF ?_
  refine gh_iload_n gd_Picker_pushParts_4 2 rfl ?_
  obtain ⟨q2003, h⟩ := h
  obtain ⟨q2004, h⟩ := h
  refine la_51 gd_Picker_pushParts_5 hF q2003 q2004 rfl ?_
  refine gh_name (fun v3 hn => ?_)
  have h := h v3 hn
  refine gh_istore_n (L2 := [(3, 0, v3), (0, 2, 47), (1, 0, v1), (2, 0, v2)]) gd_Picker_pushParts_6 (by decide) rfl ?_
  refine gh_aload_n gd_Picker_pushParts_7 1 rfl (by decide) ?_
  refine gf_47_10 gd_Picker_pushParts_8 gh_k544 hF ?_
  refine gh_iload_n gd_Picker_pushParts_11 3 rfl ?_
  obtain ⟨q2005, h⟩ := h
  obtain ⟨q2006, h⟩ := h
  refine la_52 gd_Picker_pushParts_12 hF q2005 q2006 rfl ?_
  refine gh_name (fun v4 hn => ?_)
  have h := h v4 hn
  refine gh_istore (L2 := [(4, 0, v4), (3, 0, v3), (0, 2, 47), (1, 0, v1), (2, 0, v2)]) gd_Picker_pushParts_13 (by decide) rfl ?_
  refine gh_aload_n gd_Picker_pushParts_15 2 rfl (by decide) ?_
  refine gf_47_11 gd_Picker_pushParts_16 gh_k545 hF ?_
  refine gh_iload_n gd_Picker_pushParts_19 4 rfl ?_
  obtain ⟨q2007, h⟩ := h
  obtain ⟨q2008, h⟩ := h
  refine la_53 gd_Picker_pushParts_20 hF q2007 q2008 rfl ?_
  refine gh_iconst gd_Picker_pushParts_21 (gh_r0 rfl) ?_
  refine gh_aload_n gd_Picker_pushParts_22 2 rfl (by decide) ?_
  refine gf_47_8 gd_Picker_pushParts_23 gh_k542 hF ?_
  refine gh_iload_n gd_Picker_pushParts_26 4 rfl ?_
  obtain ⟨q2009, h⟩ := h
  obtain ⟨q2010, h⟩ := h
  refine la_50 gd_Picker_pushParts_27 hF q2009 q2010 rfl ?_
  refine gh_ishl gd_Picker_pushParts_28 ?_
  refine gh_ior gd_Picker_pushParts_29 ?_
  refine gh_name (fun v5 hn => ?_)
  have h := h v5 hn
  refine gh_istore (L2 := [(5, 0, v5), (4, 0, v4), (3, 0, v3), (0, 2, 47), (1, 0, v1), (2, 0, v2)]) gd_Picker_pushParts_30 (by decide) rfl ?_
  refine gh_aload_n gd_Picker_pushParts_32 3 rfl (by decide) ?_
  refine gf_47_12 gd_Picker_pushParts_33 gh_k546 hF ?_
  refine gh_iload_n gd_Picker_pushParts_36 5 rfl ?_
  obtain ⟨q2011, h⟩ := h
  obtain ⟨q2012, h⟩ := h
  refine la_54 gd_Picker_pushParts_37 hF q2011 q2012 rfl ?_
  refine gh_iconst gd_Picker_pushParts_38 (gh_r0 rfl) ?_
  obtain ⟨q2013, h⟩ := h
  refine gh_iadd gd_Picker_pushParts_39 q2013 ?_
  refine gh_name (fun v6 hn => ?_)
  have h := h v6 hn
  refine gh_istore (L2 := [(6, 0, v6), (5, 0, v5), (4, 0, v4), (3, 0, v3), (0, 2, 47), (1, 0, v1), (2, 0, v2)]) gd_Picker_pushParts_40 (by decide) rfl ?_
  refine gh_aload_n gd_Picker_pushParts_42 4 rfl (by decide) ?_
  refine gf_47_0 gd_Picker_pushParts_43 gh_k531 hF ?_
  refine gf_13_6 gd_Picker_pushParts_46 gh_k287 hF ?_
  refine gh_iload_n gd_Picker_pushParts_49 5 rfl ?_
  obtain ⟨q2014, h⟩ := h
  obtain ⟨q2015, h⟩ := h
  refine la_17 gd_Picker_pushParts_50 hF q2014 q2015 rfl ?_
  refine gh_iconst gd_Picker_pushParts_51 (gh_r0 rfl) ?_
  obtain ⟨q2016, h⟩ := h
  refine gh_isub gd_Picker_pushParts_52 q2016 ?_
  refine gh_name (fun v7 hn => ?_)
  have h := h v7 hn
  refine gh_istore (L2 := [(7, 0, v7), (6, 0, v6), (5, 0, v5), (4, 0, v4), (3, 0, v3), (0, 2, 47), (1, 0, v1), (2, 0, v2)]) gd_Picker_pushParts_53 (by decide) rfl ?_
  refine gh_pick (L2 := [(0, 2, 47), (1, 0, v1), (3, 0, v3), (4, 0, v4), (5, 0, v5), (6, 0, v6), (7, 0, v7)]) [5, 6, 4, 3, 2, 1, 0] rfl ?_
  exact gh_M1_sound (T := fun v7 m => gh_T E (gh_yPicker_pushParts.cls, prog_7_method_6_code, 11, false, 9) (d + 2) 55 [(0, 2, 47), (1, 0, v1), (3, 0, v3), (4, 0, v4), (5, 0, v5), (6, 0, v6), (7, 0, v7)] [] m (fun r m1 => gh_F m1 ∧ Q r m1)) (fun _ m => gh_F m) (fun K55 v7 m hK hF h => b_Picker_pushParts_55 d hK v7 m hF h) v7 m hF h
def f_Picker_choose_28 (Q : Int → gh_M → Prop) (K28 : Int → gh_M → Prop) (v3 : Int) (m : gh_M) : Prop := (((m 47 14) ≤ 0 → 0 ≤ v3 ∧ 0 + v3 ≤ 300 ∧ 0 + v3 ≤ 300 ∧ Q (v3) (gh_u (gh_u (gh_cpy m 49 0 48 0 v3) 47 4 v3) 47 5 ((gh_cpy m 49 0 48 0 v3) 47 7))) ∧ (¬ ((m 47 14) ≤ 0) → ((v3 = 300 → Q (-1004) m) ∧ (¬ (v3 = 300) → gh_i ((m 47 14) - 1) ∧ 0 ≤ ((m 47 14) - 1) ∧ (((m 47 14) - 1)) < 289 ∧ ∃ J161 : gh_M → Prop, (∀ (m : gh_M), J161 m → gh_i (v3 + 1) ∧ K28 (v3 + 1) m) ∧ (((m 50 (((m 47 14) - 1))) < 0 → 0 ≤ ((m 47 14) - 1) ∧ (((m 47 14) - 1)) < 289 ∧ 0 ≤ v3 ∧ v3 < 300 ∧ J161 (gh_u (gh_u m 47 14 ((m 47 14) - 1)) 49 v3 (m 50 (((m 47 14) - 1))))) ∧ (¬ ((m 50 (((m 47 14) - 1))) < 0) → 0 ≤ ((m 47 14) - 1) ∧ (((m 47 14) - 1)) < 289 ∧ w_Picker_ruleOf (m 50 (((m 47 14) - 1))) (((m 47 14) - 1)) (gh_u m 47 14 ((m 47 14) - 1)) (fun r2064 m2065 => ((r2064 = (-1) → Q (-1) m2065) ∧ (¬ (r2064 = (-1)) → 0 ≤ v3 ∧ v3 < 300 ∧ 0 ≤ m2065 47 14 ∧ (m2065 47 14) < 289 ∧ w_Picker_shareOut r2064 (m2065 47 14) (gh_u (gh_u m2065 49 v3 r2064) 47 7 (max (m2065 47 7) (m2065 54 (m2065 47 14)))) (fun _ m2072 => w_Picker_pushParts r2064 (m2072 47 14) m2072 (fun _ m2074 => J161 m2074)))))))))))
def w_Picker_choose (v1 : Int) (m : gh_M) (Q : Int → gh_M → Prop) : Prop := w_Picker_push 0 0 (m 26 3) 0 1 v1 (gh_u (gh_u m 47 7 0) 47 14 0) (fun _ m2047 => gh_M1 (fun K28 v3 m => f_Picker_choose_28 Q K28 v3 m) 0 m2047)
theorem b_Picker_choose_28 {E : gh_E} {Q : Int → gh_M → Prop} {K28 : Int → gh_M → Prop} (d : Nat) (hK : ∀ (v3 : Int) (m : gh_M), gh_F m → K28 v3 m → gh_T E (gh_yPicker_choose.cls, prog_7_method_2_code, 5, false, 0) (d + 34) 28 [(0, 2, 47), (3, 0, v3)] [] m (fun r m1 => gh_F m1 ∧ Q r m1)) (v3 : Int) (m : gh_M) (hF : gh_F m) (h : f_Picker_choose_28 Q K28 v3 m) : gh_T E (gh_yPicker_choose.cls, prog_7_method_2_code, 5, false, 0) (d + 34) 28 [(0, 2, 47), (3, 0, v3)] [] m (fun r m1 => gh_F m1 ∧ Q r m1) := by
  have hK28 := hK
  unfold f_Picker_choose_28 at h
  refine gh_aload_n gd_Picker_choose_28 0 rfl (by decide) ?_
  refine gf_47_14 gd_Picker_choose_29 gh_k548 hF rfl ?_
  obtain ⟨hA, hB⟩ := h
  refine gh_zle (tgt := 167) gd_Picker_choose_32 (by decide) (fun c2048 => ?_) (fun c2048 => ?_)
  · have h := hA c2048
    refine gh_aload_n gd_Picker_choose_167 0 rfl (by decide) ?_
    refine gf_47_6 gd_Picker_choose_168 gh_k540 hF ?_
    refine gh_iconst gd_Picker_choose_171 (gh_r0 rfl) ?_
    refine gh_aload_n gd_Picker_choose_172 0 rfl (by decide) ?_
    refine gf_47_3 gd_Picker_choose_173 gh_k534 hF ?_
    refine gh_iconst gd_Picker_choose_176 (gh_r0 rfl) ?_
    refine gh_iload_n gd_Picker_choose_177 1 rfl ?_
    obtain ⟨q2049, h⟩ := h
    obtain ⟨q2050, h⟩ := h
    obtain ⟨q2051, h⟩ := h
    refine gh_copyF gd_Picker_choose_178 gh_k1293 gh_k1064 gh_k1063 gh_k146 (ga_49 hF) (ga_48 hF) (by decide) (by decide) (by decide) q2049 q2050 q2051 (Nat.le_of_ble_eq_true rfl) hF gn_48 (fun hF => ?_)
    refine gh_aload_n gd_Picker_choose_181 0 rfl (by decide) ?_
    refine gh_iload_n gd_Picker_choose_182 1 rfl ?_
    refine pf_47_4 gd_Picker_choose_183 gh_k536 hF (fun hF => ?_)
    refine gh_aload_n gd_Picker_choose_186 0 rfl (by decide) ?_
    refine gh_aload_n gd_Picker_choose_187 0 rfl (by decide) ?_
    refine gf_47_7 gd_Picker_choose_188 gh_k541 hF (gh_u_i (by decide)) ?_
    refine pf_47_5 gd_Picker_choose_191 gh_k538 hF (fun hF => ?_)
    refine gh_aload_n gd_Picker_choose_194 0 rfl (by decide) ?_
    refine gf_47_4 gd_Picker_choose_195 gh_k536 hF ((gh_u_i (by decide)).trans (gh_u_s _ _ _ _)) ?_
    exact gh_ret0 rfl gd_Picker_choose_198 ⟨hF, h⟩
  · have h := hB c2048
    refine gh_iload_n gd_Picker_choose_35 1 rfl ?_
    refine gh_sipush gd_Picker_choose_36 (by decide) (gh_r0 rfl) ?_
    obtain ⟨hA, hB⟩ := h
    refine gh_jne (tgt := 46) gd_Picker_choose_39 (by decide) (fun c2052 => ?_) (fun c2052 => ?_)
    · have h := hA c2052
      refine gh_sipush gd_Picker_choose_42 (by decide) (gh_r0 rfl) ?_
      exact gh_ret0 rfl gd_Picker_choose_45 ⟨hF, h⟩
    · have h := hB c2052
      refine gh_aload_n gd_Picker_choose_46 0 rfl (by decide) ?_
      refine gh_dup gd_Picker_choose_47 (by decide) ?_
      refine gf_47_14 gd_Picker_choose_48 gh_k548 hF rfl ?_
      refine gh_iconst gd_Picker_choose_51 (gh_r0 rfl) ?_
      obtain ⟨q2053, h⟩ := h
      refine gh_isub gd_Picker_choose_52 q2053 ?_
      refine pf_47_14 gd_Picker_choose_53 gh_k548 hF (fun hF => ?_)
      refine gh_aload_n gd_Picker_choose_56 0 rfl (by decide) ?_
      refine gf_47_8 gd_Picker_choose_57 gh_k542 hF ?_
      refine gh_aload_n gd_Picker_choose_60 0 rfl (by decide) ?_
      refine gf_47_14 gd_Picker_choose_61 gh_k548 hF (gh_u_s _ _ _ _) ?_
      obtain ⟨q2054, h⟩ := h
      obtain ⟨q2055, h⟩ := h
      refine la_50 gd_Picker_choose_64 hF q2054 q2055 (gh_u_a (by decide)) ?_
      obtain ⟨J161, hJ161, h⟩ := h
      have hJ161 : ∀ (m : gh_M), gh_F m → J161 m → gh_T E (gh_yPicker_choose.cls, prog_7_method_2_code, 5, false, 0) (d + 34) 161 [(0, 2, 47), (3, 0, v3)] [] m (fun r m1 => gh_F m1 ∧ Q r m1) := by
        intro m hF hj
        have h := hJ161 m hj
        obtain ⟨q2056, h⟩ := h
        refine gh_iinc (L2 := [(3, 0, v3 + 1), (0, 2, 47)]) gd_Picker_choose_161 1 rfl q2056 (by decide) rfl ?_
        refine gh_goto (tgt := 28) gd_Picker_choose_164 (by decide) ?_
        refine gh_pick (L2 := [(0, 2, 47), (3, 0, v3 + 1)]) [1, 0] rfl ?_
        exact hK28 (v3 + 1) m hF h
      obtain ⟨hA, hB⟩ := h
      refine gh_zge (tgt := 86) gd_Picker_choose_65 (by decide) (fun c2057 => ?_) (fun c2057 => ?_)
      · have h := hA c2057
        refine gh_aload_n gd_Picker_choose_68 0 rfl (by decide) ?_
        refine gf_47_6 gd_Picker_choose_69 gh_k540 hF ?_
        refine gh_iload_n gd_Picker_choose_72 1 rfl ?_
        refine gh_aload_n gd_Picker_choose_73 0 rfl (by decide) ?_
        refine gf_47_8 gd_Picker_choose_74 gh_k542 hF ?_
        refine gh_aload_n gd_Picker_choose_77 0 rfl (by decide) ?_
        refine gf_47_14 gd_Picker_choose_78 gh_k548 hF (gh_u_s _ _ _ _) ?_
        obtain ⟨q2058, h⟩ := h
        obtain ⟨q2059, h⟩ := h
        refine la_50 gd_Picker_choose_81 hF q2058 q2059 (gh_u_a (by decide)) ?_
        obtain ⟨q2060, h⟩ := h
        obtain ⟨q2061, h⟩ := h
        refine sa_49 gd_Picker_choose_82 hF q2060 q2061 (fun hF => ?_)
        refine gh_goto (tgt := 161) gd_Picker_choose_83 (by decide) ?_
        exact hJ161 (gh_u (gh_u m 47 14 ((m 47 14) - 1)) 49 v3 (m 50 (((m 47 14) - 1)))) hF h
      · have h := hB c2057
        refine gh_aload_n gd_Picker_choose_86 0 rfl (by decide) ?_
        refine gh_aload_n gd_Picker_choose_87 0 rfl (by decide) ?_
        refine gf_47_8 gd_Picker_choose_88 gh_k542 hF ?_
        refine gh_aload_n gd_Picker_choose_91 0 rfl (by decide) ?_
        refine gf_47_14 gd_Picker_choose_92 gh_k548 hF (gh_u_s _ _ _ _) ?_
        obtain ⟨q2062, h⟩ := h
        obtain ⟨q2063, h⟩ := h
        refine la_50 gd_Picker_choose_95 hF q2062 q2063 (gh_u_a (by decide)) ?_
        refine gh_aload_n gd_Picker_choose_96 0 rfl (by decide) ?_
        refine gf_47_14 gd_Picker_choose_97 gh_k548 hF (gh_u_s _ _ _ _) ?_
        refine cv_Picker_ruleOf (d := d + 33) gd_Picker_choose_100 gh_k1262 hF (Nat.le_of_ble_eq_true rfl) (gh_C.mono (s_Picker_ruleOf d (m 50 (((m 47 14) - 1))) (((m 47 14) - 1)) hF h) (fun r2064 m2065 hq => ?_))
        obtain ⟨hF, h⟩ := hq
        refine gh_istore (L2 := [(4, 0, r2064), (0, 2, 47), (3, 0, v3)]) gd_Picker_choose_103 (by decide) rfl ?_
        refine gh_iload gd_Picker_choose_105 0 rfl ?_
        refine gh_iconst gd_Picker_choose_107 (gh_r0 rfl) ?_
        obtain ⟨hA, hB⟩ := h
        refine gh_jne (tgt := 113) gd_Picker_choose_108 (by decide) (fun c2066 => ?_) (fun c2066 => ?_)
        · have h := hA c2066
          refine gh_iconst gd_Picker_choose_111 (gh_r0 rfl) ?_
          exact gh_ret0 rfl gd_Picker_choose_112 ⟨hF, h⟩
        · have h := hB c2066
          refine gh_aload_n gd_Picker_choose_113 1 rfl (by decide) ?_
          refine gf_47_6 gd_Picker_choose_114 gh_k540 hF ?_
          refine gh_iload_n gd_Picker_choose_117 2 rfl ?_
          refine gh_iload gd_Picker_choose_118 0 rfl ?_
          obtain ⟨q2067, h⟩ := h
          obtain ⟨q2068, h⟩ := h
          refine sa_49 gd_Picker_choose_120 hF q2067 q2068 (fun hF => ?_)
          refine gh_aload_n gd_Picker_choose_121 1 rfl (by decide) ?_
          refine gh_aload_n gd_Picker_choose_122 1 rfl (by decide) ?_
          refine gf_47_7 gd_Picker_choose_123 gh_k541 hF (gh_u_a (by decide)) ?_
          refine gh_aload_n gd_Picker_choose_126 1 rfl (by decide) ?_
          refine gf_47_12 gd_Picker_choose_127 gh_k546 hF ?_
          refine gh_aload_n gd_Picker_choose_130 1 rfl (by decide) ?_
          refine gf_47_14 gd_Picker_choose_131 gh_k548 hF (gh_u_a (by decide)) ?_
          obtain ⟨q2069, h⟩ := h
          obtain ⟨q2070, h⟩ := h
          refine la_54 gd_Picker_choose_134 hF q2069 q2070 (gh_u_a (by decide)) ?_
          refine gh_pr_max gd_Picker_choose_135 gh_k1272 (Nat.le_of_ble_eq_true rfl) ?_
          refine pf_47_7 gd_Picker_choose_138 gh_k541 hF (fun hF => ?_)
          refine gh_aload_n gd_Picker_choose_141 1 rfl (by decide) ?_
          refine gh_iload gd_Picker_choose_142 0 rfl ?_
          refine gh_aload_n gd_Picker_choose_144 1 rfl (by decide) ?_
          refine gf_47_14 gd_Picker_choose_145 gh_k548 hF ((gh_u_i (by decide)).trans (gh_u_a (by decide))) ?_
          refine cv_Picker_shareOut (d := d + 33) gd_Picker_choose_148 gh_k1273 hF (Nat.le_of_ble_eq_true rfl) (gh_C.mono (s_Picker_shareOut (d + 1) r2064 (m2065 47 14) hF h) (fun r2071 m2072 hq => ?_))
          obtain ⟨hF, h⟩ := hq
          refine gh_aload_n gd_Picker_choose_151 1 rfl (by decide) ?_
          refine gh_iload gd_Picker_choose_152 0 rfl ?_
          refine gh_aload_n gd_Picker_choose_154 1 rfl (by decide) ?_
          refine gf_47_14 gd_Picker_choose_155 gh_k548 hF rfl ?_
          refine cv_Picker_pushParts (d := d + 33) gd_Picker_choose_158 gh_k1284 hF (Nat.le_of_ble_eq_true rfl) (gh_C.mono (s_Picker_pushParts (d + 31) r2064 (m2072 47 14) hF h) (fun r2073 m2074 hq => ?_))
          obtain ⟨hF, h⟩ := hq
          refine gh_pick (L2 := [(0, 2, 47), (3, 0, v3)]) [1, 2] rfl ?_
          exact hJ161 m2074 hF h
theorem s_Picker_choose {E : gh_E} {m : gh_M} {Q : Int → gh_M → Prop} (d : Nat) (v1 : Int) (hF : gh_F m) (h : w_Picker_choose v1 m Q) : gh_C E gh_yPicker_choose prog_7_method_2_code 5 (some .int) 0 (d + 34) [(2, 47), (1, v1)] m (fun r m1 => gh_F m1 ∧ Q r m1) := by
  refine gh_enter2 (L := [(0, 2, 47), (1, 1, v1)]) (by decide +kernel) gh_rt0 (Nat.le_of_ble_eq_true rfl) rfl rfl ?_
  unfold w_Picker_choose at h
  refine gh_aload_n gd_Picker_choose_0 0 rfl (by decide) ?_
  refine gh_iconst gd_Picker_choose_1 (gh_r0 rfl) ?_
  refine pf_47_7 gd_Picker_choose_2 gh_k541 hF (fun hF => ?_)
  refine gh_aload_n gd_Picker_choose_5 0 rfl (by decide) ?_
  refine gh_iconst gd_Picker_choose_6 (gh_r0 rfl) ?_
  refine pf_47_14 gd_Picker_choose_7 gh_k548 hF (fun hF => ?_)
  refine gh_aload_n gd_Picker_choose_10 0 rfl (by decide) ?_
  refine gh_iconst gd_Picker_choose_11 (gh_r0 rfl) ?_
  refine gh_iconst gd_Picker_choose_12 (gh_r0 rfl) ?_
  refine gh_aload_n gd_Picker_choose_13 0 rfl (by decide) ?_
  refine gf_47_1 gd_Picker_choose_14 gh_k532 hF ?_
  refine gf_26_3 gd_Picker_choose_17 gh_k379 hF ((gh_u_a (by decide)).trans (gh_u_a (by decide))) ?_
  refine gh_iconst gd_Picker_choose_20 (gh_r0 rfl) ?_
  refine gh_iconst gd_Picker_choose_21 (gh_r0 rfl) ?_
  refine gh_lload_n gd_Picker_choose_22 1 rfl ?_
  refine cv_Picker_push (d := d + 33) gd_Picker_choose_23 gh_k1258 hF (Nat.le_of_ble_eq_true rfl) (gh_C.mono (s_Picker_push (d + 33) 0 0 (m 26 3) 0 1 v1 hF h) (fun r2046 m2047 hq => ?_))
  obtain ⟨hF, h⟩ := hq
  refine gh_iconst gd_Picker_choose_26 (gh_r0 rfl) ?_
  refine gh_istore_n (L2 := [(3, 0, 0), (0, 2, 47), (1, 1, v1)]) gd_Picker_choose_27 (by decide) rfl ?_
  refine gh_pick (L2 := [(0, 2, 47), (3, 0, 0)]) [1, 0] rfl ?_
  exact gh_M1_sound (T := fun v3 m => gh_T E (gh_yPicker_choose.cls, prog_7_method_2_code, 5, false, 0) (d + 34) 28 [(0, 2, 47), (3, 0, v3)] [] m (fun r m1 => gh_F m1 ∧ Q r m1)) (fun _ m => gh_F m) (fun K28 v3 m hK hF h => b_Picker_choose_28 d hK v3 m hF h) 0 m2047 hF h
def w_House_pick (v1 : Int) (m : gh_M) (Q : Int → gh_M → Prop) : Prop := (((¬ (v1 < 0) ∧ (v1 < 1000000000000000000)) → (((m 2 10) = 0 → Q (-1003) m) ∧ (¬ ((m 2 10) = 0) → w_Chart_refresh m (fun _ m2079 => w_Forest_treesOf 0 0 (m2079 26 3) m2079 (fun r2080 m2081 => ((v1 < r2080 → w_Picker_choose v1 m2081 (fun r2083 m2084 => Q r2083 m2084)) ∧ (¬ (v1 < r2080) → Q (-1) m2081))))))) ∧ (¬ (¬ (v1 < 0) ∧ (v1 < 1000000000000000000)) → Q (-1002) m))
theorem s_House_pick {E : gh_E} {m : gh_M} {Q : Int → gh_M → Prop} (d : Nat) (v1 : Int) (hF : gh_F m) (h : w_House_pick v1 m Q) : gh_C E gh_yHouse_pick prog_1_method_27_code 3 (some .int) 0 (d + 35) [(2, 2), (1, v1)] m (fun r m1 => gh_F m1 ∧ Q r m1) := by
  refine gh_enter2 (L := [(0, 2, 2), (1, 1, v1)]) (by decide +kernel) gh_rt0 (Nat.le_of_ble_eq_true rfl) rfl rfl ?_
  unfold w_House_pick at h
  refine gh_lload_n gd_House_pick_0 1 rfl ?_
  refine gh_lconst (n := 0) gd_House_pick_1 (by decide) (gh_r1 rfl) ?_
  refine gh_lcmp gd_House_pick_2 ?_
  obtain ⟨hA, hB⟩ := h
  have k2075 : (¬ (v1 < 0) ∧ (v1 < 1000000000000000000)) → gh_T E (gh_yHouse_pick.cls, prog_1_method_27_code, 3, false, 0) (d + 35) 18 [(0, 2, 2), (1, 1, v1)] [] m (fun r m1 => gh_F m1 ∧ Q r m1) := by
    intro c
    have h := hA c
    refine gh_aload_n gd_House_pick_18 0 rfl (by decide) ?_
    refine gf_2_10 gd_House_pick_19 gh_k643 hF rfl ?_
    obtain ⟨hA, hB⟩ := h
    refine gh_zne (tgt := 29) gd_House_pick_22 (by decide) (fun c2077 => ?_) (fun c2077 => ?_)
    · have h := hA c2077
      refine gh_sipush gd_House_pick_25 (by decide) (gh_r0 rfl) ?_
      exact gh_ret0 rfl gd_House_pick_28 ⟨hF, h⟩
    · have h := hB c2077
      refine gh_aload_n gd_House_pick_29 0 rfl (by decide) ?_
      refine gf_2_5 gd_House_pick_30 gh_k638 hF ?_
      refine cv_Chart_refresh (d := d + 34) gd_House_pick_33 gh_k1077 hF (Nat.le_of_ble_eq_true rfl) (gh_C.mono (s_Chart_refresh (d + 29) hF h) (fun r2078 m2079 hq => ?_))
      obtain ⟨hF, h⟩ := hq
      refine gh_lload_n gd_House_pick_36 1 rfl ?_
      refine gh_aload_n gd_House_pick_37 0 rfl (by decide) ?_
      refine gf_2_7 gd_House_pick_38 gh_k640 hF ?_
      refine gh_iconst gd_House_pick_41 (gh_r0 rfl) ?_
      refine gh_iconst gd_House_pick_42 (gh_r0 rfl) ?_
      refine gh_aload_n gd_House_pick_43 0 rfl (by decide) ?_
      refine gf_2_4 gd_House_pick_44 gh_k637 hF ?_
      refine gf_26_3 gd_House_pick_47 gh_k381 hF rfl ?_
      refine cv_Forest_treesOf (d := d + 34) gd_House_pick_50 gh_k1197 hF (Nat.le_of_ble_eq_true rfl) (gh_C.mono (s_Forest_treesOf (d + 2) 0 0 (m2079 26 3) hF h) (fun r2080 m2081 hq => ?_))
      obtain ⟨hF, h⟩ := hq
      refine gh_lcmp gd_House_pick_53 ?_
      obtain ⟨hA, hB⟩ := h
      refine gh_cge (tgt := 68) gd_House_pick_54 (by decide) (fun c2082 => ?_) (fun c2082 => ?_)
      · have h := hA c2082
        refine gh_aload_n gd_House_pick_57 0 rfl (by decide) ?_
        refine gf_2_8 gd_House_pick_58 gh_k641 hF ?_
        refine gh_lload_n gd_House_pick_61 1 rfl ?_
        refine cv_Picker_choose (d := d + 34) gd_House_pick_62 gh_k1254 hF (Nat.le_of_ble_eq_true rfl) (gh_C.mono (s_Picker_choose d v1 hF h) (fun r2083 m2084 hq => ?_))
        obtain ⟨hF, h⟩ := hq
        refine gh_goto (tgt := 69) gd_House_pick_65 (by decide) ?_
        exact gh_ret0 rfl gd_House_pick_69 ⟨hF, h⟩
      · have h := hB c2082
        refine gh_iconst gd_House_pick_68 (gh_r0 rfl) ?_
        exact gh_ret0 rfl gd_House_pick_69 ⟨hF, h⟩
  have k2076 : ¬ (¬ (v1 < 0) ∧ (v1 < 1000000000000000000)) → gh_T E (gh_yHouse_pick.cls, prog_1_method_27_code, 3, false, 0) (d + 35) 14 [(0, 2, 2), (1, 1, v1)] [] m (fun r m1 => gh_F m1 ∧ Q r m1) := by
    intro c
    have h := hB c
    refine gh_sipush gd_House_pick_14 (by decide) (gh_r0 rfl) ?_
    exact gh_ret0 rfl gd_House_pick_17 ⟨hF, h⟩
  refine gh_clt (tgt := 14) gd_House_pick_3 (by decide) (fun c2085 => ?_) (fun c2085 => ?_)
  · have hz : True := trivial
    exact k2076 (fun z => z.1 c2085)
  · have hz : True := trivial
    refine gh_lload_n gd_House_pick_6 1 rfl ?_
    refine gh_ldc2 (n := 1000000000000000000) gd_House_pick_7 gh_k1248 (by decide) (gh_r1 rfl) ?_
    refine gh_lcmp gd_House_pick_10 ?_
    refine gh_clt (tgt := 18) gd_House_pick_11 (by decide) (fun c2086 => ?_) (fun c2086 => ?_)
    · have hz : True := trivial
      exact k2075 ⟨c2085, c2086⟩
    · have hz : True := trivial
      exact k2076 (fun z => c2086 z.2)
def f_Proper_digitOf_9 (v1 : Int) (Q : Int → gh_M → Prop) (m : gh_M) (K9 : Int → Prop) (v2 : Int) : Prop := ∃ J47 : Prop, (J47 → ∃ J79 : gh_M → Prop, (∀ (m : gh_M), J79 m → gh_i (8 + (m 58 7)) ∧ Q (8 + (m 58 7)) m) ∧ (((m 58 7) < 80 → 0 ≤ m 58 7 ∧ (m 58 7) < 80 ∧ gh_i ((m 58 7) + 1) ∧ J79 (gh_u (gh_u m 59 (m 58 7) v1) 58 7 ((m 58 7) + 1))) ∧ (¬ ((m 58 7) < 80) → J79 m))) ∧ ((((v2 < (m 58 7)) ∧ (v2 < 80)) → 0 ≤ v2 ∧ v2 < 80 ∧ (((m 59 v2) = v1 → gh_i (9 + v2) ∧ Q (9 + v2) m) ∧ (¬ ((m 59 v2) = v1) → gh_i (v2 + 1) ∧ K9 (v2 + 1)))) ∧ (¬ ((v2 < (m 58 7)) ∧ (v2 < 80)) → J47))
def w_Proper_digitOf (v1 : Int) (m : gh_M) (Q : Int → gh_M → Prop) : Prop := ((v1 < 0 → gh_i (-v1) ∧ Q (-v1) m) ∧ (¬ (v1 < 0) → gh_L1 (fun K9 v2 => f_Proper_digitOf_9 v1 Q m K9 v2) 0))
theorem b_Proper_digitOf_9 {E : gh_E} {v1 : Int} {Q : Int → gh_M → Prop} {K9 : Int → Prop} (d : Nat) {m : gh_M} (hK : ∀ (v2 : Int), gh_F m → K9 v2 → gh_T E (gh_yProper_digitOf.cls, prog_8_method_4_code, 3, false, 0) (d + 0) 9 [(0, 2, 58), (1, 0, v1), (2, 0, v2)] [] m (fun r m1 => gh_F m1 ∧ Q r m1)) (v2 : Int) (hF : gh_F m) (h : f_Proper_digitOf_9 v1 Q m K9 v2) : gh_T E (gh_yProper_digitOf.cls, prog_8_method_4_code, 3, false, 0) (d + 0) 9 [(0, 2, 58), (1, 0, v1), (2, 0, v2)] [] m (fun r m1 => gh_F m1 ∧ Q r m1) := by
  have hK9 := hK
  unfold f_Proper_digitOf_9 at h
  refine gh_iload_n gd_Proper_digitOf_9 2 rfl ?_
  refine gh_aload_n gd_Proper_digitOf_10 0 rfl (by decide) ?_
  refine gf_58_7 gd_Proper_digitOf_11 gh_k603 hF rfl ?_
  obtain ⟨J47, hJ47, h⟩ := h
  have hJ47 : gh_F m → J47 → gh_T E (gh_yProper_digitOf.cls, prog_8_method_4_code, 3, false, 0) (d + 0) 47 [(0, 2, 58), (1, 0, v1)] [] m (fun r m1 => gh_F m1 ∧ Q r m1) := by
    intro hF hj
    have h := hJ47 hj
    refine gh_aload_n gd_Proper_digitOf_47 0 rfl (by decide) ?_
    refine gf_58_7 gd_Proper_digitOf_48 gh_k603 hF rfl ?_
    refine gh_aload_n gd_Proper_digitOf_51 0 rfl (by decide) ?_
    refine gf_58_6 gd_Proper_digitOf_52 gh_k602 hF ?_
    refine ll_59 gd_Proper_digitOf_55 hF ?_
    obtain ⟨J79, hJ79, h⟩ := h
    have hJ79 : ∀ (m : gh_M), gh_F m → J79 m → gh_T E (gh_yProper_digitOf.cls, prog_8_method_4_code, 3, false, 0) (d + 0) 79 [(0, 2, 58)] [] m (fun r m1 => gh_F m1 ∧ Q r m1) := by
      intro m hF hj
      have h := hJ79 m hj
      refine gh_bipush gd_Proper_digitOf_79 (by decide) (gh_r0 rfl) ?_
      refine gh_aload_n gd_Proper_digitOf_81 0 rfl (by decide) ?_
      refine gf_58_7 gd_Proper_digitOf_82 gh_k603 hF rfl ?_
      obtain ⟨q2089, h⟩ := h
      refine gh_iadd gd_Proper_digitOf_85 q2089 ?_
      exact gh_ret0 rfl gd_Proper_digitOf_86 ⟨hF, h⟩
    obtain ⟨hA, hB⟩ := h
    refine gh_jge (tgt := 79) gd_Proper_digitOf_56 (by decide) (fun c2090 => ?_) (fun c2090 => ?_)
    · have h := hA c2090
      refine gh_aload_n gd_Proper_digitOf_59 0 rfl (by decide) ?_
      refine gf_58_6 gd_Proper_digitOf_60 gh_k602 hF ?_
      refine gh_aload_n gd_Proper_digitOf_63 0 rfl (by decide) ?_
      refine gf_58_7 gd_Proper_digitOf_64 gh_k603 hF rfl ?_
      refine gh_iload_n gd_Proper_digitOf_67 1 rfl ?_
      obtain ⟨q2091, h⟩ := h
      obtain ⟨q2092, h⟩ := h
      refine sa_59 gd_Proper_digitOf_68 hF q2091 q2092 (fun hF => ?_)
      refine gh_aload_n gd_Proper_digitOf_69 0 rfl (by decide) ?_
      refine gh_dup gd_Proper_digitOf_70 (by decide) ?_
      refine gf_58_7 gd_Proper_digitOf_71 gh_k603 hF (gh_u_a (by decide)) ?_
      refine gh_iconst gd_Proper_digitOf_74 (gh_r0 rfl) ?_
      obtain ⟨q2093, h⟩ := h
      refine gh_iadd gd_Proper_digitOf_75 q2093 ?_
      refine pf_58_7 gd_Proper_digitOf_76 gh_k603 hF (fun hF => ?_)
      refine gh_pick (L2 := [(0, 2, 58)]) [0] rfl ?_
      exact hJ79 (gh_u (gh_u m 59 (m 58 7) v1) 58 7 ((m 58 7) + 1)) hF h
    · have h := hB c2090
      refine gh_pick (L2 := [(0, 2, 58)]) [0] rfl ?_
      exact hJ79 m hF h
  obtain ⟨hA, hB⟩ := h
  have k2094 : ((v2 < (m 58 7)) ∧ (v2 < 80)) → gh_T E (gh_yProper_digitOf.cls, prog_8_method_4_code, 3, false, 0) (d + 0) 26 [(0, 2, 58), (1, 0, v1), (2, 0, v2)] [] m (fun r m1 => gh_F m1 ∧ Q r m1) := by
    intro c
    have h := hA c
    refine gh_aload_n gd_Proper_digitOf_26 0 rfl (by decide) ?_
    refine gf_58_6 gd_Proper_digitOf_27 gh_k602 hF ?_
    refine gh_iload_n gd_Proper_digitOf_30 2 rfl ?_
    obtain ⟨q2096, h⟩ := h
    obtain ⟨q2097, h⟩ := h
    refine la_59 gd_Proper_digitOf_31 hF q2096 q2097 rfl ?_
    refine gh_iload_n gd_Proper_digitOf_32 1 rfl ?_
    obtain ⟨hA, hB⟩ := h
    refine gh_jne (tgt := 41) gd_Proper_digitOf_33 (by decide) (fun c2098 => ?_) (fun c2098 => ?_)
    · have h := hA c2098
      refine gh_bipush gd_Proper_digitOf_36 (by decide) (gh_r0 rfl) ?_
      refine gh_iload_n gd_Proper_digitOf_38 2 rfl ?_
      obtain ⟨q2099, h⟩ := h
      refine gh_iadd gd_Proper_digitOf_39 q2099 ?_
      exact gh_ret0 rfl gd_Proper_digitOf_40 ⟨hF, h⟩
    · have h := hB c2098
      obtain ⟨q2100, h⟩ := h
      refine gh_iinc (L2 := [(2, 0, v2 + 1), (0, 2, 58), (1, 0, v1)]) gd_Proper_digitOf_41 2 rfl q2100 (by decide) rfl ?_
      refine gh_goto (tgt := 9) gd_Proper_digitOf_44 (by decide) ?_
      refine gh_pick (L2 := [(0, 2, 58), (1, 0, v1), (2, 0, v2 + 1)]) [1, 2, 0] rfl ?_
      exact hK9 (v2 + 1) hF h
  have k2095 : ¬ ((v2 < (m 58 7)) ∧ (v2 < 80)) → gh_T E (gh_yProper_digitOf.cls, prog_8_method_4_code, 3, false, 0) (d + 0) 47 [(0, 2, 58), (1, 0, v1), (2, 0, v2)] [] m (fun r m1 => gh_F m1 ∧ Q r m1) := by
    intro c
    have h := hB c
    refine gh_pick (L2 := [(0, 2, 58), (1, 0, v1)]) [0, 1] rfl ?_
    exact hJ47 hF h
  refine gh_jge (tgt := 47) gd_Proper_digitOf_14 (by decide) (fun c2101 => ?_) (fun c2101 => ?_)
  · have hz : True := trivial
    refine gh_iload_n gd_Proper_digitOf_17 2 rfl ?_
    refine gh_aload_n gd_Proper_digitOf_18 0 rfl (by decide) ?_
    refine gf_58_6 gd_Proper_digitOf_19 gh_k602 hF ?_
    refine ll_59 gd_Proper_digitOf_22 hF ?_
    refine gh_jge (tgt := 47) gd_Proper_digitOf_23 (by decide) (fun c2102 => ?_) (fun c2102 => ?_)
    · have hz : True := trivial
      exact k2094 ⟨c2101, c2102⟩
    · have hz : True := trivial
      exact k2095 (fun z => c2102 z.2)
  · have hz : True := trivial
    exact k2095 (fun z => c2101 z.1)
theorem s_Proper_digitOf {E : gh_E} {m : gh_M} {Q : Int → gh_M → Prop} (d : Nat) (v1 : Int) (hF : gh_F m) (h : w_Proper_digitOf v1 m Q) : gh_C E gh_yProper_digitOf prog_8_method_4_code 3 (some .int) 0 (d + 0) [(2, 58), (0, v1)] m (fun r m1 => gh_F m1 ∧ Q r m1) := by
  refine gh_enter2 (L := [(0, 2, 58), (1, 0, v1)]) (by decide +kernel) gh_rt0 (Nat.le_of_ble_eq_true rfl) rfl rfl ?_
  unfold w_Proper_digitOf at h
  refine gh_iload_n gd_Proper_digitOf_0 1 rfl ?_
  obtain ⟨hA, hB⟩ := h
  refine gh_zge (tgt := 7) gd_Proper_digitOf_1 (by decide) (fun c2087 => ?_) (fun c2087 => ?_)
  · have h := hA c2087
    refine gh_iload_n gd_Proper_digitOf_4 1 rfl ?_
    obtain ⟨q2088, h⟩ := h
    refine gh_ineg gd_Proper_digitOf_5 q2088 ?_
    exact gh_ret0 rfl gd_Proper_digitOf_6 ⟨hF, h⟩
  · have h := hB c2087
    refine gh_iconst gd_Proper_digitOf_7 (gh_r0 rfl) ?_
    refine gh_istore_n (L2 := [(2, 0, 0), (0, 2, 58), (1, 0, v1)]) gd_Proper_digitOf_8 (by decide) rfl ?_
    refine gh_pick (L2 := [(0, 2, 58), (1, 0, v1), (2, 0, 0)]) [1, 2, 0] rfl ?_
    exact gh_L1_sound (T := fun v2 => gh_T E (gh_yProper_digitOf.cls, prog_8_method_4_code, 3, false, 0) (d + 0) 9 [(0, 2, 58), (1, 0, v1), (2, 0, v2)] [] m (fun r m1 => gh_F m1 ∧ Q r m1)) (fun _ => gh_F m) (fun K9 v2 hK hF h => b_Proper_digitOf_9 d hK v2 hF h) 0 hF h
def f_Proper_addRow_2 (v1 : Int) (v2 : Int) (Q : Int → gh_M → Prop) (m : gh_M) (K2 : Int → Prop) (v3 : Int) : Prop := ((v3 < (m 58 10) → 0 ≤ v3 ∧ v3 < 320 ∧ (((m 60 v3) = v1 → 0 ≤ v3 ∧ v3 < 320 ∧ 0 ≤ v3 ∧ v3 < 320 ∧ Q 0 (gh_u m 61 v3 (gh_ior_f (m 61 v3) (gh_ishl_f 1 v2)))) ∧ (¬ ((m 60 v3) = v1) → gh_i (v3 + 1) ∧ K2 (v3 + 1)))) ∧ (¬ (v3 < (m 58 10)) → (((m 58 10) < 320 → 0 ≤ m 58 10 ∧ (m 58 10) < 320 ∧ 0 ≤ m 58 10 ∧ (m 58 10) < 320 ∧ gh_i ((m 58 10) + 1) ∧ Q 0 (gh_u (gh_u (gh_u m 60 (m 58 10) v1) 61 (m 58 10) (gh_ishl_f 1 v2)) 58 10 ((m 58 10) + 1))) ∧ (¬ ((m 58 10) < 320) → Q 0 m))))
def w_Proper_addRow (v1 : Int) (v2 : Int) (m : gh_M) (Q : Int → gh_M → Prop) : Prop := gh_L1 (fun K2 v3 => f_Proper_addRow_2 v1 v2 Q m K2 v3) 0
theorem b_Proper_addRow_2 {E : gh_E} {v1 : Int} {v2 : Int} {Q : Int → gh_M → Prop} {K2 : Int → Prop} (d : Nat) {m : gh_M} (hK : ∀ (v3 : Int), gh_F m → K2 v3 → gh_T E (gh_yProper_addRow.cls, prog_8_method_5_code, 4, false, 9) (d + 0) 2 [(0, 2, 58), (1, 0, v1), (2, 0, v2), (3, 0, v3)] [] m (fun r m1 => gh_F m1 ∧ Q r m1)) (v3 : Int) (hF : gh_F m) (h : f_Proper_addRow_2 v1 v2 Q m K2 v3) : gh_T E (gh_yProper_addRow.cls, prog_8_method_5_code, 4, false, 9) (d + 0) 2 [(0, 2, 58), (1, 0, v1), (2, 0, v2), (3, 0, v3)] [] m (fun r m1 => gh_F m1 ∧ Q r m1) := by
  have hK2 := hK
  unfold f_Proper_addRow_2 at h
  refine gh_iload_n gd_Proper_addRow_2 3 rfl ?_
  refine gh_aload_n gd_Proper_addRow_3 0 rfl (by decide) ?_
  refine gf_58_10 gd_Proper_addRow_4 gh_k606 hF rfl ?_
  obtain ⟨hA, hB⟩ := h
  refine gh_jge (tgt := 39) gd_Proper_addRow_7 (by decide) (fun c2103 => ?_) (fun c2103 => ?_)
  · have h := hA c2103
    refine gh_aload_n gd_Proper_addRow_10 0 rfl (by decide) ?_
    refine gf_58_8 gd_Proper_addRow_11 gh_k604 hF ?_
    refine gh_iload_n gd_Proper_addRow_14 3 rfl ?_
    obtain ⟨q2104, h⟩ := h
    obtain ⟨q2105, h⟩ := h
    refine la_60 gd_Proper_addRow_15 hF q2104 q2105 rfl ?_
    refine gh_iload_n gd_Proper_addRow_16 1 rfl ?_
    obtain ⟨hA, hB⟩ := h
    refine gh_jne (tgt := 33) gd_Proper_addRow_17 (by decide) (fun c2106 => ?_) (fun c2106 => ?_)
    · have h := hA c2106
      refine gh_aload_n gd_Proper_addRow_20 0 rfl (by decide) ?_
      refine gf_58_9 gd_Proper_addRow_21 gh_k605 hF ?_
      refine gh_iload_n gd_Proper_addRow_24 3 rfl ?_
      refine gh_dup2 gd_Proper_addRow_25 (by decide) (by decide) ?_
      obtain ⟨q2107, h⟩ := h
      obtain ⟨q2108, h⟩ := h
      refine la_61 gd_Proper_addRow_26 hF q2107 q2108 rfl ?_
      refine gh_iconst gd_Proper_addRow_27 (gh_r0 rfl) ?_
      refine gh_iload_n gd_Proper_addRow_28 2 rfl ?_
      refine gh_ishl gd_Proper_addRow_29 ?_
      refine gh_ior gd_Proper_addRow_30 ?_
      obtain ⟨q2109, h⟩ := h
      obtain ⟨q2110, h⟩ := h
      refine sa_61 gd_Proper_addRow_31 hF q2109 q2110 (fun hF => ?_)
      exact gh_ret9 rfl gd_Proper_addRow_32 ⟨hF, h⟩
    · have h := hB c2106
      obtain ⟨q2111, h⟩ := h
      refine gh_iinc (L2 := [(3, 0, v3 + 1), (0, 2, 58), (1, 0, v1), (2, 0, v2)]) gd_Proper_addRow_33 3 rfl q2111 (by decide) rfl ?_
      refine gh_goto (tgt := 2) gd_Proper_addRow_36 (by decide) ?_
      refine gh_pick (L2 := [(0, 2, 58), (1, 0, v1), (2, 0, v2), (3, 0, v3 + 1)]) [1, 2, 3, 0] rfl ?_
      exact hK2 (v3 + 1) hF h
  · have h := hB c2103
    refine gh_aload_n gd_Proper_addRow_39 0 rfl (by decide) ?_
    refine gf_58_10 gd_Proper_addRow_40 gh_k606 hF rfl ?_
    refine gh_sipush gd_Proper_addRow_43 (by decide) (gh_r0 rfl) ?_
    obtain ⟨hA, hB⟩ := h
    refine gh_jge (tgt := 81) gd_Proper_addRow_46 (by decide) (fun c2112 => ?_) (fun c2112 => ?_)
    · have h := hA c2112
      refine gh_aload_n gd_Proper_addRow_49 0 rfl (by decide) ?_
      refine gf_58_8 gd_Proper_addRow_50 gh_k604 hF ?_
      refine gh_aload_n gd_Proper_addRow_53 0 rfl (by decide) ?_
      refine gf_58_10 gd_Proper_addRow_54 gh_k606 hF rfl ?_
      refine gh_iload_n gd_Proper_addRow_57 1 rfl ?_
      obtain ⟨q2113, h⟩ := h
      obtain ⟨q2114, h⟩ := h
      refine sa_60 gd_Proper_addRow_58 hF q2113 q2114 (fun hF => ?_)
      refine gh_aload_n gd_Proper_addRow_59 0 rfl (by decide) ?_
      refine gf_58_9 gd_Proper_addRow_60 gh_k605 hF ?_
      refine gh_aload_n gd_Proper_addRow_63 0 rfl (by decide) ?_
      refine gf_58_10 gd_Proper_addRow_64 gh_k606 hF (gh_u_a (by decide)) ?_
      refine gh_iconst gd_Proper_addRow_67 (gh_r0 rfl) ?_
      refine gh_iload_n gd_Proper_addRow_68 2 rfl ?_
      refine gh_ishl gd_Proper_addRow_69 ?_
      obtain ⟨q2115, h⟩ := h
      obtain ⟨q2116, h⟩ := h
      refine sa_61 gd_Proper_addRow_70 hF q2115 q2116 (fun hF => ?_)
      refine gh_aload_n gd_Proper_addRow_71 0 rfl (by decide) ?_
      refine gh_dup gd_Proper_addRow_72 (by decide) ?_
      refine gf_58_10 gd_Proper_addRow_73 gh_k606 hF ((gh_u_a (by decide)).trans (gh_u_a (by decide))) ?_
      refine gh_iconst gd_Proper_addRow_76 (gh_r0 rfl) ?_
      obtain ⟨q2117, h⟩ := h
      refine gh_iadd gd_Proper_addRow_77 q2117 ?_
      refine pf_58_10 gd_Proper_addRow_78 gh_k606 hF (fun hF => ?_)
      exact gh_ret9 rfl gd_Proper_addRow_81 ⟨hF, h⟩
    · have h := hB c2112
      exact gh_ret9 rfl gd_Proper_addRow_81 ⟨hF, h⟩
theorem s_Proper_addRow {E : gh_E} {m : gh_M} {Q : Int → gh_M → Prop} (d : Nat) (v1 : Int) (v2 : Int) (hF : gh_F m) (h : w_Proper_addRow v1 v2 m Q) : gh_C E gh_yProper_addRow prog_8_method_5_code 4 none 9 (d + 0) [(2, 58), (0, v1), (0, v2)] m (fun r m1 => gh_F m1 ∧ Q r m1) := by
  refine gh_enter2 (L := [(0, 2, 58), (1, 0, v1), (2, 0, v2)]) (by decide +kernel) gh_rt9 (Nat.le_of_ble_eq_true rfl) rfl rfl ?_
  unfold w_Proper_addRow at h
  refine gh_iconst gd_Proper_addRow_0 (gh_r0 rfl) ?_
  refine gh_istore_n (L2 := [(3, 0, 0), (0, 2, 58), (1, 0, v1), (2, 0, v2)]) gd_Proper_addRow_1 (by decide) rfl ?_
  refine gh_pick (L2 := [(0, 2, 58), (1, 0, v1), (2, 0, v2), (3, 0, 0)]) [1, 2, 3, 0] rfl ?_
  exact gh_L1_sound (T := fun v3 => gh_T E (gh_yProper_addRow.cls, prog_8_method_5_code, 4, false, 9) (d + 0) 2 [(0, 2, 58), (1, 0, v1), (2, 0, v2), (3, 0, v3)] [] m (fun r m1 => gh_F m1 ∧ Q r m1)) (fun _ => gh_F m) (fun K2 v3 hK hF h => b_Proper_addRow_2 d hK v3 hF h) 0 hF h
def f_Proper_addRows_25 (v1 : Int) (v2 : Int) (K2 : Int → gh_M → Prop) (K25 : Int → Int → Int → gh_M → Prop) (v3 : Int) (v4 : Int) (v5 : Int) (m : gh_M) : Prop := 0 ≤ v1 ∧ v1 < 20 ∧ ((v5 < (m 17 v1) → ∃ J115 : Int → Int → gh_M → Prop, (∀ (v3' : Int) (v4' : Int) (m : gh_M), J115 v3' v4' m → gh_i (v5 + 1) ∧ K25 v3' v4' (v5 + 1) m) ∧ (((gh_iand_f (gh_ishr_f v2 v5) 1) = 0 → gh_i (v3 * 128) ∧ k_Grammar_partAt v1 v5 m ∧ w_Proper_digitOf (x_Grammar_partAt v1 v5 m) m (fun r2128 m2129 => gh_i ((v3 * 128) + r2128) ∧ ∀ v3' : Int, v3' = (v3 * 128) + r2128 → J115 v3' v4 m2129)) ∧ (¬ ((gh_iand_f (gh_ishr_f v2 v5) 1) = 0) → k_Grammar_nameAt v1 v5 m ∧ ∀ v6 : Int, v6 = x_Grammar_nameAt v1 v5 m → ∀ v4' : Int, v4' = gh_iand_f v4 (if (¬ (v6 = (-1)) ∧ (¬ ((gh_iand_f (gh_ishr_f (m 20 1) v6) 1) = 0))) then (1:Int) else 0) → J115 v3 v4' m))) ∧ (¬ (v5 < (m 17 v1)) → ∃ J185 : gh_M → Prop, (∀ (m : gh_M), J185 m → gh_i (v2 + 1) ∧ K2 (v2 + 1) m) ∧ ∃ J162 : Prop, (J162 → ((((v4 = 0) ∨ (v3 ≤ 0)) → J185 m) ∧ (¬ ((v4 = 0) ∨ (v3 ≤ 0)) → 0 ≤ v1 ∧ v1 < 20 ∧ w_Proper_addRow v3 (m 16 v1) m (fun _ m2142 => J185 m2142)))) ∧ ((((v4 = 0) ∨ ((v3 < 1) ∨ (¬ (v3 ≤ 8)))) → J162) ∧ (¬ ((v4 = 0) ∨ ((v3 < 1) ∨ (¬ (v3 ≤ 8)))) → 0 ≤ v1 ∧ v1 < 20 ∧ 0 ≤ m 16 v1 ∧ (m 16 v1) < 8 ∧ gh_i (v3 - 1) ∧ 0 ≤ m 16 v1 ∧ (m 16 v1) < 8 ∧ J185 (gh_u m 62 (m 16 v1) (gh_ior_f (m 62 (m 16 v1)) (gh_ishl_f 1 (v3 - 1))))))))
def f_Proper_addRows_2 (v1 : Int) (Q : Int → gh_M → Prop) (K2 : Int → gh_M → Prop) (v2 : Int) (m : gh_M) : Prop := 0 ≤ v1 ∧ v1 < 20 ∧ ((v2 < (gh_ishl_f 1 (m 17 v1)) → gh_M3 (fun K25 v3 v4 v5 m => f_Proper_addRows_25 v1 v2 K2 K25 v3 v4 v5 m) 0 1 0 m) ∧ (¬ (v2 < (gh_ishl_f 1 (m 17 v1))) → Q 0 m))
def w_Proper_addRows (v1 : Int) (m : gh_M) (Q : Int → gh_M → Prop) : Prop := gh_M1 (fun K2 v2 m => f_Proper_addRows_2 v1 Q K2 v2 m) 0 m
theorem b_Proper_addRows_25 {E : gh_E} {v1 : Int} {v2 : Int} {K2 : Int → gh_M → Prop} {Q : Int → gh_M → Prop} {K25 : Int → Int → Int → gh_M → Prop} (d : Nat) (hK2 : ∀ (v2 : Int) (m : gh_M), gh_F m → K2 v2 m → gh_T E (gh_yProper_addRows.cls, prog_8_method_3_code, 7, false, 9) (d + 2) 2 [(0, 2, 58), (1, 0, v1), (2, 0, v2)] [] m (fun r m1 => gh_F m1 ∧ Q r m1)) (hK : ∀ (v3 : Int) (v4 : Int) (v5 : Int) (m : gh_M), gh_F m → K25 v3 v4 v5 m → gh_T E (gh_yProper_addRows.cls, prog_8_method_3_code, 7, false, 9) (d + 2) 25 [(0, 2, 58), (1, 0, v1), (2, 0, v2), (3, 0, v3), (4, 0, v4), (5, 0, v5)] [] m (fun r m1 => gh_F m1 ∧ Q r m1)) (v3 : Int) (v4 : Int) (v5 : Int) (m : gh_M) (hF : gh_F m) (h : f_Proper_addRows_25 v1 v2 K2 K25 v3 v4 v5 m) : gh_T E (gh_yProper_addRows.cls, prog_8_method_3_code, 7, false, 9) (d + 2) 25 [(0, 2, 58), (1, 0, v1), (2, 0, v2), (3, 0, v3), (4, 0, v4), (5, 0, v5)] [] m (fun r m1 => gh_F m1 ∧ Q r m1) := by
  have hK25 := hK
  unfold f_Proper_addRows_25 at h
  refine gh_iload gd_Proper_addRows_25 5 rfl ?_
  refine gh_aload_n gd_Proper_addRows_27 0 rfl (by decide) ?_
  refine gf_58_0 gd_Proper_addRows_28 gh_k592 hF ?_
  refine gf_13_6 gd_Proper_addRows_31 gh_k284 hF ?_
  refine gh_iload_n gd_Proper_addRows_34 1 rfl ?_
  obtain ⟨q2121, h⟩ := h
  obtain ⟨q2122, h⟩ := h
  refine la_17 gd_Proper_addRows_35 hF q2121 q2122 rfl ?_
  obtain ⟨hA, hB⟩ := h
  refine gh_jge (tgt := 121) gd_Proper_addRows_36 (by decide) (fun c2123 => ?_) (fun c2123 => ?_)
  · have h := hA c2123
    refine gh_iload_n gd_Proper_addRows_39 2 rfl ?_
    refine gh_iload gd_Proper_addRows_40 5 rfl ?_
    refine gh_ishr gd_Proper_addRows_42 ?_
    refine gh_iconst gd_Proper_addRows_43 (gh_r0 rfl) ?_
    refine gh_iand gd_Proper_addRows_44 ?_
    obtain ⟨J115, hJ115, h⟩ := h
    have hJ115 : ∀ (v3' : Int) (v4' : Int) (m : gh_M), gh_F m → J115 v3' v4' m → gh_T E (gh_yProper_addRows.cls, prog_8_method_3_code, 7, false, 9) (d + 2) 115 [(0, 2, 58), (1, 0, v1), (2, 0, v2), (3, 0, v3'), (4, 0, v4'), (5, 0, v5)] [] m (fun r m1 => gh_F m1 ∧ Q r m1) := by
      intro v3' v4' m hF hj
      have h := hJ115 v3' v4' m hj
      obtain ⟨q2124, h⟩ := h
      refine gh_iinc (L2 := [(5, 0, v5 + 1), (0, 2, 58), (1, 0, v1), (2, 0, v2), (3, 0, v3'), (4, 0, v4')]) gd_Proper_addRows_115 5 rfl q2124 (by decide) rfl ?_
      refine gh_goto (tgt := 25) gd_Proper_addRows_118 (by decide) ?_
      refine gh_pick (L2 := [(0, 2, 58), (1, 0, v1), (2, 0, v2), (3, 0, v3'), (4, 0, v4'), (5, 0, v5 + 1)]) [1, 2, 3, 4, 5, 0] rfl ?_
      exact hK25 v3' v4' (v5 + 1) m hF h
    obtain ⟨hA, hB⟩ := h
    refine gh_zne (tgt := 72) gd_Proper_addRows_45 (by decide) (fun c2125 => ?_) (fun c2125 => ?_)
    · have h := hA c2125
      refine gh_iload_n gd_Proper_addRows_48 3 rfl ?_
      refine gh_sipush gd_Proper_addRows_49 (by decide) (gh_r0 rfl) ?_
      obtain ⟨q2126, h⟩ := h
      refine gh_imul gd_Proper_addRows_52 q2126 ?_
      refine gh_aload_n gd_Proper_addRows_53 0 rfl (by decide) ?_
      refine gh_aload_n gd_Proper_addRows_54 0 rfl (by decide) ?_
      refine gf_58_0 gd_Proper_addRows_55 gh_k592 hF ?_
      refine gh_iload_n gd_Proper_addRows_58 1 rfl ?_
      refine gh_iload gd_Proper_addRows_59 5 rfl ?_
      obtain ⟨q2127, h⟩ := h
      refine cv_Grammar_partAt (d := d + 1) gd_Proper_addRows_61 gh_k1316 hF (Nat.le_of_ble_eq_true rfl) (gh_C.pe (e_Grammar_partAt (d + 1) v1 v5 hF q2127) ?_)
      refine cv_Proper_digitOf (d := d + 1) gd_Proper_addRows_64 gh_k1317 hF (Nat.le_of_ble_eq_true rfl) (gh_C.mono (s_Proper_digitOf (d + 1) (x_Grammar_partAt v1 v5 m) hF h) (fun r2128 m2129 hq => ?_))
      obtain ⟨hF, h⟩ := hq
      obtain ⟨q2130, h⟩ := h
      refine gh_iadd gd_Proper_addRows_67 q2130 ?_
      refine gh_name (fun v3' hn => ?_)
      have h := h v3' hn
      refine gh_istore_n (L2 := [(3, 0, v3'), (0, 2, 58), (1, 0, v1), (2, 0, v2), (4, 0, v4), (5, 0, v5)]) gd_Proper_addRows_68 (by decide) rfl ?_
      refine gh_goto (tgt := 115) gd_Proper_addRows_69 (by decide) ?_
      refine gh_pick (L2 := [(0, 2, 58), (1, 0, v1), (2, 0, v2), (3, 0, v3'), (4, 0, v4), (5, 0, v5)]) [1, 2, 3, 0, 4, 5] rfl ?_
      exact hJ115 v3' v4 m2129 hF h
    · have h := hB c2125
      refine gh_aload_n gd_Proper_addRows_72 0 rfl (by decide) ?_
      refine gf_58_0 gd_Proper_addRows_73 gh_k592 hF ?_
      refine gh_iload_n gd_Proper_addRows_76 1 rfl ?_
      refine gh_iload gd_Proper_addRows_77 5 rfl ?_
      obtain ⟨q2131, h⟩ := h
      refine cv_Grammar_nameAt (d := d + 1) gd_Proper_addRows_79 gh_k1321 hF (Nat.le_of_ble_eq_true rfl) (gh_C.pe (e_Grammar_nameAt d v1 v5 hF q2131) ?_)
      refine gh_name (fun v6 hn => ?_)
      have h := h v6 hn
      refine gh_istore (L2 := [(6, 0, v6), (0, 2, 58), (1, 0, v1), (2, 0, v2), (3, 0, v3), (4, 0, v4), (5, 0, v5)]) gd_Proper_addRows_82 (by decide) rfl ?_
      refine gh_iload gd_Proper_addRows_84 5 rfl ?_
      refine gh_iload gd_Proper_addRows_86 0 rfl ?_
      refine gh_iconst gd_Proper_addRows_88 (gh_r0 rfl) ?_
      have k2132 : ∀ x2133 : Int, x2133 = (if (¬ (v6 = (-1)) ∧ (¬ ((gh_iand_f (gh_ishr_f (m 20 1) v6) 1) = 0))) then (1:Int) else 0) → gh_T E (gh_yProper_addRows.cls, prog_8_method_3_code, 7, false, 9) (d + 2) 112 [(6, 0, v6), (0, 2, 58), (1, 0, v1), (2, 0, v2), (3, 0, v3), (4, 0, v4), (5, 0, v5)] [(0, x2133), (0, v4)] m (fun r m1 => gh_F m1 ∧ Q r m1) := by
        rintro _ rfl
        refine gh_iand gd_Proper_addRows_112 ?_
        refine gh_name (fun v4' hn => ?_)
        have h := h v4' hn
        refine gh_istore (L2 := [(4, 0, v4'), (6, 0, v6), (0, 2, 58), (1, 0, v1), (2, 0, v2), (3, 0, v3), (5, 0, v5)]) gd_Proper_addRows_113 (by decide) rfl ?_
        refine gh_pick (L2 := [(0, 2, 58), (1, 0, v1), (2, 0, v2), (3, 0, v3), (4, 0, v4'), (5, 0, v5)]) [2, 3, 4, 5, 0, 6] rfl ?_
        exact hJ115 v3 v4' m hF h
      refine gh_jeq (tgt := 111) gd_Proper_addRows_89 (by decide) (fun c2134 => ?_) (fun c2134 => ?_)
      · have hz : True := trivial
        refine gh_iconst gd_Proper_addRows_111 (gh_r0 rfl) ?_
        exact k2132 _ (if_neg (c := (¬ (v6 = (-1)) ∧ (¬ ((gh_iand_f (gh_ishr_f (m 20 1) v6) 1) = 0)))) (fun z => z.1 c2134)).symm
      · have hz : True := trivial
        refine gh_aload_n gd_Proper_addRows_92 1 rfl (by decide) ?_
        refine gf_58_1 gd_Proper_addRows_93 gh_k593 hF ?_
        refine gf_20_1 gd_Proper_addRows_96 gh_k320 hF rfl ?_
        refine gh_iload gd_Proper_addRows_99 0 rfl ?_
        refine gh_ishr gd_Proper_addRows_101 ?_
        refine gh_iconst gd_Proper_addRows_102 (gh_r0 rfl) ?_
        refine gh_iand gd_Proper_addRows_103 ?_
        refine gh_zeq (tgt := 111) gd_Proper_addRows_104 (by decide) (fun c2135 => ?_) (fun c2135 => ?_)
        · have hz : True := trivial
          refine gh_iconst gd_Proper_addRows_111 (gh_r0 rfl) ?_
          exact k2132 _ (if_neg (c := (¬ (v6 = (-1)) ∧ (¬ ((gh_iand_f (gh_ishr_f (m 20 1) v6) 1) = 0)))) (fun z => (not_not_intro c2135) z.2)).symm
        · have hz : True := trivial
          refine gh_iconst gd_Proper_addRows_107 (gh_r0 rfl) ?_
          refine gh_goto (tgt := 112) gd_Proper_addRows_108 (by decide) ?_
          exact k2132 _ (if_pos (c := (¬ (v6 = (-1)) ∧ (¬ ((gh_iand_f (gh_ishr_f (m 20 1) v6) 1) = 0)))) ⟨c2134, c2135⟩).symm
  · have h := hB c2123
    refine gh_iload gd_Proper_addRows_121 4 rfl ?_
    obtain ⟨J185, hJ185, h⟩ := h
    have hJ185 : ∀ (m : gh_M), gh_F m → J185 m → gh_T E (gh_yProper_addRows.cls, prog_8_method_3_code, 7, false, 9) (d + 2) 185 [(0, 2, 58), (1, 0, v1), (2, 0, v2)] [] m (fun r m1 => gh_F m1 ∧ Q r m1) := by
      intro m hF hj
      have h := hJ185 m hj
      obtain ⟨q2136, h⟩ := h
      refine gh_iinc (L2 := [(2, 0, v2 + 1), (0, 2, 58), (1, 0, v1)]) gd_Proper_addRows_185 2 rfl q2136 (by decide) rfl ?_
      refine gh_goto (tgt := 2) gd_Proper_addRows_188 (by decide) ?_
      refine gh_pick (L2 := [(0, 2, 58), (1, 0, v1), (2, 0, v2 + 1)]) [1, 2, 0] rfl ?_
      exact hK2 (v2 + 1) m hF h
    obtain ⟨J162, hJ162, h⟩ := h
    have hJ162 : gh_F m → J162 → gh_T E (gh_yProper_addRows.cls, prog_8_method_3_code, 7, false, 9) (d + 2) 162 [(0, 2, 58), (1, 0, v1), (2, 0, v2), (3, 0, v3), (4, 0, v4)] [] m (fun r m1 => gh_F m1 ∧ Q r m1) := by
      intro hF hj
      have h := hJ162 hj
      refine gh_iload gd_Proper_addRows_162 4 rfl ?_
      obtain ⟨hA, hB⟩ := h
      have k2137 : ((v4 = 0) ∨ (v3 ≤ 0)) → gh_T E (gh_yProper_addRows.cls, prog_8_method_3_code, 7, false, 9) (d + 2) 185 [(0, 2, 58), (1, 0, v1), (2, 0, v2), (3, 0, v3), (4, 0, v4)] [] m (fun r m1 => gh_F m1 ∧ Q r m1) := by
        intro c
        have h := hA c
        refine gh_pick (L2 := [(0, 2, 58), (1, 0, v1), (2, 0, v2)]) [0, 1, 2] rfl ?_
        exact hJ185 m hF h
      have k2138 : ¬ ((v4 = 0) ∨ (v3 ≤ 0)) → gh_T E (gh_yProper_addRows.cls, prog_8_method_3_code, 7, false, 9) (d + 2) 171 [(0, 2, 58), (1, 0, v1), (2, 0, v2), (3, 0, v3), (4, 0, v4)] [] m (fun r m1 => gh_F m1 ∧ Q r m1) := by
        intro c
        have h := hB c
        refine gh_aload_n gd_Proper_addRows_171 0 rfl (by decide) ?_
        refine gh_iload_n gd_Proper_addRows_172 3 rfl ?_
        refine gh_aload_n gd_Proper_addRows_173 0 rfl (by decide) ?_
        refine gf_58_0 gd_Proper_addRows_174 gh_k592 hF ?_
        refine gf_13_5 gd_Proper_addRows_177 gh_k278 hF ?_
        refine gh_iload_n gd_Proper_addRows_180 1 rfl ?_
        obtain ⟨q2139, h⟩ := h
        obtain ⟨q2140, h⟩ := h
        refine la_16 gd_Proper_addRows_181 hF q2139 q2140 rfl ?_
        refine cv_Proper_addRow (d := d + 1) gd_Proper_addRows_182 gh_k1322 hF (Nat.le_of_ble_eq_true rfl) (gh_C.mono (s_Proper_addRow (d + 1) v3 (m 16 v1) hF h) (fun r2141 m2142 hq => ?_))
        obtain ⟨hF, h⟩ := hq
        refine gh_pick (L2 := [(0, 2, 58), (1, 0, v1), (2, 0, v2)]) [0, 1, 2] rfl ?_
        exact hJ185 m2142 hF h
      refine gh_zeq (tgt := 185) gd_Proper_addRows_164 (by decide) (fun c2143 => ?_) (fun c2143 => ?_)
      · have hz : True := trivial
        exact k2137 (Or.inl c2143)
      · have hz : True := trivial
        refine gh_iload_n gd_Proper_addRows_167 3 rfl ?_
        refine gh_zle (tgt := 185) gd_Proper_addRows_168 (by decide) (fun c2144 => ?_) (fun c2144 => ?_)
        · have hz : True := trivial
          exact k2137 (Or.inr c2144)
        · have hz : True := trivial
          exact k2138 (fun z => z.elim c2143 c2144)
    obtain ⟨hA, hB⟩ := h
    have k2145 : ((v4 = 0) ∨ ((v3 < 1) ∨ (¬ (v3 ≤ 8)))) → gh_T E (gh_yProper_addRows.cls, prog_8_method_3_code, 7, false, 9) (d + 2) 162 [(0, 2, 58), (1, 0, v1), (2, 0, v2), (3, 0, v3), (4, 0, v4), (5, 0, v5)] [] m (fun r m1 => gh_F m1 ∧ Q r m1) := by
      intro c
      have h := hA c
      refine gh_pick (L2 := [(0, 2, 58), (1, 0, v1), (2, 0, v2), (3, 0, v3), (4, 0, v4)]) [0, 1, 2, 3, 4] rfl ?_
      exact hJ162 hF h
    have k2146 : ¬ ((v4 = 0) ∨ ((v3 < 1) ∨ (¬ (v3 ≤ 8)))) → gh_T E (gh_yProper_addRows.cls, prog_8_method_3_code, 7, false, 9) (d + 2) 137 [(0, 2, 58), (1, 0, v1), (2, 0, v2), (3, 0, v3), (4, 0, v4), (5, 0, v5)] [] m (fun r m1 => gh_F m1 ∧ Q r m1) := by
      intro c
      have h := hB c
      refine gh_aload_n gd_Proper_addRows_137 0 rfl (by decide) ?_
      refine gf_58_11 gd_Proper_addRows_138 gh_k607 hF ?_
      refine gh_aload_n gd_Proper_addRows_141 0 rfl (by decide) ?_
      refine gf_58_0 gd_Proper_addRows_142 gh_k592 hF ?_
      refine gf_13_5 gd_Proper_addRows_145 gh_k278 hF ?_
      refine gh_iload_n gd_Proper_addRows_148 1 rfl ?_
      obtain ⟨q2147, h⟩ := h
      obtain ⟨q2148, h⟩ := h
      refine la_16 gd_Proper_addRows_149 hF q2147 q2148 rfl ?_
      refine gh_dup2 gd_Proper_addRows_150 (by decide) (by decide) ?_
      obtain ⟨q2149, h⟩ := h
      obtain ⟨q2150, h⟩ := h
      refine la_62 gd_Proper_addRows_151 hF q2149 q2150 rfl ?_
      refine gh_iconst gd_Proper_addRows_152 (gh_r0 rfl) ?_
      refine gh_iload_n gd_Proper_addRows_153 3 rfl ?_
      refine gh_iconst gd_Proper_addRows_154 (gh_r0 rfl) ?_
      obtain ⟨q2151, h⟩ := h
      refine gh_isub gd_Proper_addRows_155 q2151 ?_
      refine gh_ishl gd_Proper_addRows_156 ?_
      refine gh_ior gd_Proper_addRows_157 ?_
      obtain ⟨q2152, h⟩ := h
      obtain ⟨q2153, h⟩ := h
      refine sa_62 gd_Proper_addRows_158 hF q2152 q2153 (fun hF => ?_)
      refine gh_goto (tgt := 185) gd_Proper_addRows_159 (by decide) ?_
      refine gh_pick (L2 := [(0, 2, 58), (1, 0, v1), (2, 0, v2)]) [0, 1, 2] rfl ?_
      exact hJ185 (gh_u m 62 (m 16 v1) (gh_ior_f (m 62 (m 16 v1)) (gh_ishl_f 1 (v3 - 1)))) hF h
    refine gh_zeq (tgt := 162) gd_Proper_addRows_123 (by decide) (fun c2154 => ?_) (fun c2154 => ?_)
    · have hz : True := trivial
      exact k2145 (Or.inl c2154)
    · have hz : True := trivial
      refine gh_iload_n gd_Proper_addRows_126 3 rfl ?_
      refine gh_iconst gd_Proper_addRows_127 (gh_r0 rfl) ?_
      refine gh_jlt (tgt := 162) gd_Proper_addRows_128 (by decide) (fun c2155 => ?_) (fun c2155 => ?_)
      · have hz : True := trivial
        exact k2145 (Or.inr (Or.inl c2155))
      · have hz : True := trivial
        refine gh_iload_n gd_Proper_addRows_131 3 rfl ?_
        refine gh_bipush gd_Proper_addRows_132 (by decide) (gh_r0 rfl) ?_
        refine gh_jgt (tgt := 162) gd_Proper_addRows_134 (by decide) (fun c2156 => ?_) (fun c2156 => ?_)
        · have hz : True := trivial
          exact k2146 (fun z => z.elim c2154 (fun z => z.elim c2155 (not_not_intro c2156)))
        · have hz : True := trivial
          exact k2145 (Or.inr (Or.inr c2156))
theorem b_Proper_addRows_2 {E : gh_E} {v1 : Int} {Q : Int → gh_M → Prop} {K2 : Int → gh_M → Prop} (d : Nat) (hK : ∀ (v2 : Int) (m : gh_M), gh_F m → K2 v2 m → gh_T E (gh_yProper_addRows.cls, prog_8_method_3_code, 7, false, 9) (d + 2) 2 [(0, 2, 58), (1, 0, v1), (2, 0, v2)] [] m (fun r m1 => gh_F m1 ∧ Q r m1)) (v2 : Int) (m : gh_M) (hF : gh_F m) (h : f_Proper_addRows_2 v1 Q K2 v2 m) : gh_T E (gh_yProper_addRows.cls, prog_8_method_3_code, 7, false, 9) (d + 2) 2 [(0, 2, 58), (1, 0, v1), (2, 0, v2)] [] m (fun r m1 => gh_F m1 ∧ Q r m1) := by
  have hK2 := hK
  unfold f_Proper_addRows_2 at h
  refine gh_iload_n gd_Proper_addRows_2 2 rfl ?_
  refine gh_iconst gd_Proper_addRows_3 (gh_r0 rfl) ?_
  refine gh_aload_n gd_Proper_addRows_4 0 rfl (by decide) ?_
  refine gf_58_0 gd_Proper_addRows_5 gh_k592 hF ?_
  refine gf_13_6 gd_Proper_addRows_8 gh_k284 hF ?_
  refine gh_iload_n gd_Proper_addRows_11 1 rfl ?_
  obtain ⟨q2118, h⟩ := h
  obtain ⟨q2119, h⟩ := h
  refine la_17 gd_Proper_addRows_12 hF q2118 q2119 rfl ?_
  refine gh_ishl gd_Proper_addRows_13 ?_
  obtain ⟨hA, hB⟩ := h
  refine gh_jge (tgt := 191) gd_Proper_addRows_14 (by decide) (fun c2120 => ?_) (fun c2120 => ?_)
  · have h := hA c2120
    refine gh_iconst gd_Proper_addRows_17 (gh_r0 rfl) ?_
    refine gh_istore_n (L2 := [(3, 0, 0), (0, 2, 58), (1, 0, v1), (2, 0, v2)]) gd_Proper_addRows_18 (by decide) rfl ?_
    refine gh_iconst gd_Proper_addRows_19 (gh_r0 rfl) ?_
    refine gh_istore (L2 := [(4, 0, 1), (3, 0, 0), (0, 2, 58), (1, 0, v1), (2, 0, v2)]) gd_Proper_addRows_20 (by decide) rfl ?_
    refine gh_iconst gd_Proper_addRows_22 (gh_r0 rfl) ?_
    refine gh_istore (L2 := [(5, 0, 0), (4, 0, 1), (3, 0, 0), (0, 2, 58), (1, 0, v1), (2, 0, v2)]) gd_Proper_addRows_23 (by decide) rfl ?_
    refine gh_pick (L2 := [(0, 2, 58), (1, 0, v1), (2, 0, v2), (3, 0, 0), (4, 0, 1), (5, 0, 0)]) [3, 4, 5, 2, 1, 0] rfl ?_
    exact gh_M3_sound (T := fun v3 v4 v5 m => gh_T E (gh_yProper_addRows.cls, prog_8_method_3_code, 7, false, 9) (d + 2) 25 [(0, 2, 58), (1, 0, v1), (2, 0, v2), (3, 0, v3), (4, 0, v4), (5, 0, v5)] [] m (fun r m1 => gh_F m1 ∧ Q r m1)) (fun _ _ _ m => gh_F m) (fun K25 v3 v4 v5 m hK hF h => b_Proper_addRows_25 d hK2 hK v3 v4 v5 m hF h) 0 1 0 m hF h
  · have h := hB c2120
    exact gh_ret9 rfl gd_Proper_addRows_191 ⟨hF, h⟩
theorem s_Proper_addRows {E : gh_E} {m : gh_M} {Q : Int → gh_M → Prop} (d : Nat) (v1 : Int) (hF : gh_F m) (h : w_Proper_addRows v1 m Q) : gh_C E gh_yProper_addRows prog_8_method_3_code 7 none 9 (d + 2) [(2, 58), (0, v1)] m (fun r m1 => gh_F m1 ∧ Q r m1) := by
  refine gh_enter2 (L := [(0, 2, 58), (1, 0, v1)]) (by decide +kernel) gh_rt9 (Nat.le_of_ble_eq_true rfl) rfl rfl ?_
  unfold w_Proper_addRows at h
  refine gh_iconst gd_Proper_addRows_0 (gh_r0 rfl) ?_
  refine gh_istore_n (L2 := [(2, 0, 0), (0, 2, 58), (1, 0, v1)]) gd_Proper_addRows_1 (by decide) rfl ?_
  refine gh_pick (L2 := [(0, 2, 58), (1, 0, v1), (2, 0, 0)]) [1, 2, 0] rfl ?_
  exact gh_M1_sound (T := fun v2 m => gh_T E (gh_yProper_addRows.cls, prog_8_method_3_code, 7, false, 9) (d + 2) 2 [(0, 2, 58), (1, 0, v1), (2, 0, v2)] [] m (fun r m1 => gh_F m1 ∧ Q r m1)) (fun _ m => gh_F m) (fun K2 v2 m hK hF h => b_Proper_addRows_2 d hK v2 m hF h) 0 m hF h
def f_Facts_closeOver_62_9 (v1 : Int) (v2 : Int) (K2 : Int → gh_M → Prop) (K9 : Int → gh_M → Prop) (v3 : Int) (m : gh_M) : Prop := ((v3 < v1 → 0 ≤ v3 ∧ v3 < 8 ∧ ∃ J33 : gh_M → Prop, (∀ (m : gh_M), J33 m → gh_i (v3 + 1) ∧ K9 (v3 + 1) m) ∧ (((gh_iand_f (gh_ishr_f (m 62 v3) v2) 1) = 0 → J33 m) ∧ (¬ ((gh_iand_f (gh_ishr_f (m 62 v3) v2) 1) = 0) → 0 ≤ v3 ∧ v3 < 8 ∧ 0 ≤ v2 ∧ v2 < 8 ∧ 0 ≤ v3 ∧ v3 < 8 ∧ J33 (gh_u m 62 v3 (gh_ior_f (m 62 v3) (m 62 v2)))))) ∧ (¬ (v3 < v1) → gh_i (v2 + 1) ∧ K2 (v2 + 1) m))
def f_Facts_closeOver_62_2 (v1 : Int) (Q : Int → gh_M → Prop) (K2 : Int → gh_M → Prop) (v2 : Int) (m : gh_M) : Prop := ((v2 < v1 → gh_M1 (fun K9 v3 m => f_Facts_closeOver_62_9 v1 v2 K2 K9 v3 m) 0 m) ∧ (¬ (v2 < v1) → Q 0 m))
def w_Facts_closeOver_62 (v1 : Int) (m : gh_M) (Q : Int → gh_M → Prop) : Prop := gh_M1 (fun K2 v2 m => f_Facts_closeOver_62_2 v1 Q K2 v2 m) 0 m
theorem b_Facts_closeOver_62_9 {E : gh_E} {v1 : Int} {v2 : Int} {K2 : Int → gh_M → Prop} {Q : Int → gh_M → Prop} {K9 : Int → gh_M → Prop} (d : Nat) (hK2 : ∀ (v2 : Int) (m : gh_M), gh_F m → K2 v2 m → gh_T E (gh_yFacts_closeOver.cls, prog_4_method_12_code, 4, false, 9) (d + 0) 2 [(0, 2, 62), (1, 0, v1), (2, 0, v2)] [] m (fun r m1 => gh_F m1 ∧ Q r m1)) (hK : ∀ (v3 : Int) (m : gh_M), gh_F m → K9 v3 m → gh_T E (gh_yFacts_closeOver.cls, prog_4_method_12_code, 4, false, 9) (d + 0) 9 [(0, 2, 62), (1, 0, v1), (2, 0, v2), (3, 0, v3)] [] m (fun r m1 => gh_F m1 ∧ Q r m1)) (v3 : Int) (m : gh_M) (hF : gh_F m) (h : f_Facts_closeOver_62_9 v1 v2 K2 K9 v3 m) : gh_T E (gh_yFacts_closeOver.cls, prog_4_method_12_code, 4, false, 9) (d + 0) 9 [(0, 2, 62), (1, 0, v1), (2, 0, v2), (3, 0, v3)] [] m (fun r m1 => gh_F m1 ∧ Q r m1) := by
  have hK9 := hK
  unfold f_Facts_closeOver_62_9 at h
  refine gh_iload_n gd_Facts_closeOver_9 3 rfl ?_
  refine gh_iload_n gd_Facts_closeOver_10 1 rfl ?_
  obtain ⟨hA, hB⟩ := h
  refine gh_jge (tgt := 39) gd_Facts_closeOver_11 (by decide) (fun c2160 => ?_) (fun c2160 => ?_)
  · have h := hA c2160
    refine gh_aload_n gd_Facts_closeOver_14 0 rfl (by decide) ?_
    refine gh_iload_n gd_Facts_closeOver_15 3 rfl ?_
    obtain ⟨q2161, h⟩ := h
    obtain ⟨q2162, h⟩ := h
    refine la_62 gd_Facts_closeOver_16 hF q2161 q2162 rfl ?_
    refine gh_iload_n gd_Facts_closeOver_17 2 rfl ?_
    refine gh_ishr gd_Facts_closeOver_18 ?_
    refine gh_iconst gd_Facts_closeOver_19 (gh_r0 rfl) ?_
    refine gh_iand gd_Facts_closeOver_20 ?_
    obtain ⟨J33, hJ33, h⟩ := h
    have hJ33 : ∀ (m : gh_M), gh_F m → J33 m → gh_T E (gh_yFacts_closeOver.cls, prog_4_method_12_code, 4, false, 9) (d + 0) 33 [(0, 2, 62), (1, 0, v1), (2, 0, v2), (3, 0, v3)] [] m (fun r m1 => gh_F m1 ∧ Q r m1) := by
      intro m hF hj
      have h := hJ33 m hj
      obtain ⟨q2163, h⟩ := h
      refine gh_iinc (L2 := [(3, 0, v3 + 1), (0, 2, 62), (1, 0, v1), (2, 0, v2)]) gd_Facts_closeOver_33 3 rfl q2163 (by decide) rfl ?_
      refine gh_goto (tgt := 9) gd_Facts_closeOver_36 (by decide) ?_
      refine gh_pick (L2 := [(0, 2, 62), (1, 0, v1), (2, 0, v2), (3, 0, v3 + 1)]) [1, 2, 3, 0] rfl ?_
      exact hK9 (v3 + 1) m hF h
    obtain ⟨hA, hB⟩ := h
    refine gh_zeq (tgt := 33) gd_Facts_closeOver_21 (by decide) (fun c2164 => ?_) (fun c2164 => ?_)
    · have h := hA c2164
      exact hJ33 m hF h
    · have h := hB c2164
      refine gh_aload_n gd_Facts_closeOver_24 0 rfl (by decide) ?_
      refine gh_iload_n gd_Facts_closeOver_25 3 rfl ?_
      refine gh_dup2 gd_Facts_closeOver_26 (by decide) (by decide) ?_
      obtain ⟨q2165, h⟩ := h
      obtain ⟨q2166, h⟩ := h
      refine la_62 gd_Facts_closeOver_27 hF q2165 q2166 rfl ?_
      refine gh_aload_n gd_Facts_closeOver_28 0 rfl (by decide) ?_
      refine gh_iload_n gd_Facts_closeOver_29 2 rfl ?_
      obtain ⟨q2167, h⟩ := h
      obtain ⟨q2168, h⟩ := h
      refine la_62 gd_Facts_closeOver_30 hF q2167 q2168 rfl ?_
      refine gh_ior gd_Facts_closeOver_31 ?_
      obtain ⟨q2169, h⟩ := h
      obtain ⟨q2170, h⟩ := h
      refine sa_62 gd_Facts_closeOver_32 hF q2169 q2170 (fun hF => ?_)
      exact hJ33 (gh_u m 62 v3 (gh_ior_f (m 62 v3) (m 62 v2))) hF h
  · have h := hB c2160
    obtain ⟨q2171, h⟩ := h
    refine gh_iinc (L2 := [(2, 0, v2 + 1), (0, 2, 62), (1, 0, v1), (3, 0, v3)]) gd_Facts_closeOver_39 2 rfl q2171 (by decide) rfl ?_
    refine gh_goto (tgt := 2) gd_Facts_closeOver_42 (by decide) ?_
    refine gh_pick (L2 := [(0, 2, 62), (1, 0, v1), (2, 0, v2 + 1)]) [1, 2, 0] rfl ?_
    exact hK2 (v2 + 1) m hF h
theorem b_Facts_closeOver_62_2 {E : gh_E} {v1 : Int} {Q : Int → gh_M → Prop} {K2 : Int → gh_M → Prop} (d : Nat) (hK : ∀ (v2 : Int) (m : gh_M), gh_F m → K2 v2 m → gh_T E (gh_yFacts_closeOver.cls, prog_4_method_12_code, 4, false, 9) (d + 0) 2 [(0, 2, 62), (1, 0, v1), (2, 0, v2)] [] m (fun r m1 => gh_F m1 ∧ Q r m1)) (v2 : Int) (m : gh_M) (hF : gh_F m) (h : f_Facts_closeOver_62_2 v1 Q K2 v2 m) : gh_T E (gh_yFacts_closeOver.cls, prog_4_method_12_code, 4, false, 9) (d + 0) 2 [(0, 2, 62), (1, 0, v1), (2, 0, v2)] [] m (fun r m1 => gh_F m1 ∧ Q r m1) := by
  have hK2 := hK
  unfold f_Facts_closeOver_62_2 at h
  refine gh_iload_n gd_Facts_closeOver_2 2 rfl ?_
  refine gh_iload_n gd_Facts_closeOver_3 1 rfl ?_
  obtain ⟨hA, hB⟩ := h
  refine gh_jge (tgt := 45) gd_Facts_closeOver_4 (by decide) (fun c2159 => ?_) (fun c2159 => ?_)
  · have h := hA c2159
    refine gh_iconst gd_Facts_closeOver_7 (gh_r0 rfl) ?_
    refine gh_istore_n (L2 := [(3, 0, 0), (0, 2, 62), (1, 0, v1), (2, 0, v2)]) gd_Facts_closeOver_8 (by decide) rfl ?_
    refine gh_pick (L2 := [(0, 2, 62), (1, 0, v1), (2, 0, v2), (3, 0, 0)]) [1, 2, 3, 0] rfl ?_
    exact gh_M1_sound (T := fun v3 m => gh_T E (gh_yFacts_closeOver.cls, prog_4_method_12_code, 4, false, 9) (d + 0) 9 [(0, 2, 62), (1, 0, v1), (2, 0, v2), (3, 0, v3)] [] m (fun r m1 => gh_F m1 ∧ Q r m1)) (fun _ m => gh_F m) (fun K9 v3 m hK hF h => b_Facts_closeOver_62_9 d hK2 hK v3 m hF h) 0 m hF h
  · have h := hB c2159
    exact gh_ret9 rfl gd_Facts_closeOver_45 ⟨hF, h⟩
theorem s_Facts_closeOver_62 {E : gh_E} {m : gh_M} {Q : Int → gh_M → Prop} (d : Nat) (v1 : Int) (hF : gh_F m) (h : w_Facts_closeOver_62 v1 m Q) : gh_C E gh_yFacts_closeOver prog_4_method_12_code 4 none 9 (d + 0) [(2, 62), (0, v1)] m (fun r m1 => gh_F m1 ∧ Q r m1) := by
  refine gh_enter2 (L := [(0, 2, 62), (1, 0, v1)]) (by decide +kernel) gh_rt9 (Nat.le_of_ble_eq_true rfl) rfl rfl ?_
  unfold w_Facts_closeOver_62 at h
  refine gh_iconst gd_Facts_closeOver_0 (gh_r0 rfl) ?_
  refine gh_istore_n (L2 := [(2, 0, 0), (0, 2, 62), (1, 0, v1)]) gd_Facts_closeOver_1 (by decide) rfl ?_
  refine gh_pick (L2 := [(0, 2, 62), (1, 0, v1), (2, 0, 0)]) [1, 2, 0] rfl ?_
  exact gh_M1_sound (T := fun v2 m => gh_T E (gh_yFacts_closeOver.cls, prog_4_method_12_code, 4, false, 9) (d + 0) 2 [(0, 2, 62), (1, 0, v1), (2, 0, v2)] [] m (fun r m1 => gh_F m1 ∧ Q r m1)) (fun _ m => gh_F m) (fun K2 v2 m hK hF h => b_Facts_closeOver_62_2 d hK v2 m hF h) 0 m hF h
def f_Proper_shareRows_33 (v1 : Int) (v2 : Int) (K16 : Int → gh_M → Prop) (K33 : Int → gh_M → Prop) (v3 : Int) (m : gh_M) : Prop := ((v3 < (m 13 1) → 0 ≤ v3 ∧ v3 < 8 ∧ ∃ J67 : gh_M → Prop, (∀ (m : gh_M), J67 m → gh_i (v3 + 1) ∧ K33 (v3 + 1) m) ∧ (((gh_iand_f (m 62 v3) v2) = 0 → J67 m) ∧ (¬ ((gh_iand_f (m 62 v3) v2) = 0) → 0 ≤ v1 ∧ v1 < 320 ∧ 0 ≤ v1 ∧ v1 < 320 ∧ J67 (gh_u m 61 v1 (gh_ior_f (m 61 v1) (gh_ishl_f 1 v3)))))) ∧ (¬ (v3 < (m 13 1)) → gh_i (v1 + 1) ∧ K16 (v1 + 1) m))
def f_Proper_shareRows_16 (Q : Int → gh_M → Prop) (K16 : Int → gh_M → Prop) (v1 : Int) (m : gh_M) : Prop := ((v1 < (m 58 10) → 0 ≤ v1 ∧ v1 < 320 ∧ ∀ v2 : Int, v2 = m 61 v1 → gh_M1 (fun K33 v3 m => f_Proper_shareRows_33 v1 v2 K16 K33 v3 m) 0 m) ∧ (¬ (v1 < (m 58 10)) → Q 0 m))
def w_Proper_shareRows (m : gh_M) (Q : Int → gh_M → Prop) : Prop := w_Facts_closeOver_62 (m 13 1) m (fun _ m2158 => gh_M1 (fun K16 v1 m => f_Proper_shareRows_16 Q K16 v1 m) 0 m2158)
theorem b_Proper_shareRows_33 {E : gh_E} {v1 : Int} {v2 : Int} {K16 : Int → gh_M → Prop} {Q : Int → gh_M → Prop} {K33 : Int → gh_M → Prop} (d : Nat) (hK16 : ∀ (v1 : Int) (m : gh_M), gh_F m → K16 v1 m → gh_T E (gh_yProper_shareRows.cls, prog_8_method_6_code, 4, false, 9) (d + 1) 16 [(0, 2, 58), (1, 0, v1)] [] m (fun r m1 => gh_F m1 ∧ Q r m1)) (hK : ∀ (v3 : Int) (m : gh_M), gh_F m → K33 v3 m → gh_T E (gh_yProper_shareRows.cls, prog_8_method_6_code, 4, false, 9) (d + 1) 33 [(0, 2, 58), (1, 0, v1), (2, 0, v2), (3, 0, v3)] [] m (fun r m1 => gh_F m1 ∧ Q r m1)) (v3 : Int) (m : gh_M) (hF : gh_F m) (h : f_Proper_shareRows_33 v1 v2 K16 K33 v3 m) : gh_T E (gh_yProper_shareRows.cls, prog_8_method_6_code, 4, false, 9) (d + 1) 33 [(0, 2, 58), (1, 0, v1), (2, 0, v2), (3, 0, v3)] [] m (fun r m1 => gh_F m1 ∧ Q r m1) := by
  have hK33 := hK
  unfold f_Proper_shareRows_33 at h
  refine gh_iload_n gd_Proper_shareRows_33 3 rfl ?_
  refine gh_aload_n gd_Proper_shareRows_34 0 rfl (by decide) ?_
  refine gf_58_0 gd_Proper_shareRows_35 gh_k592 hF ?_
  refine gf_13_1 gd_Proper_shareRows_38 gh_k261 hF rfl ?_
  obtain ⟨hA, hB⟩ := h
  refine gh_jge (tgt := 73) gd_Proper_shareRows_41 (by decide) (fun c2175 => ?_) (fun c2175 => ?_)
  · have h := hA c2175
    refine gh_aload_n gd_Proper_shareRows_44 0 rfl (by decide) ?_
    refine gf_58_11 gd_Proper_shareRows_45 gh_k607 hF ?_
    refine gh_iload_n gd_Proper_shareRows_48 3 rfl ?_
    obtain ⟨q2176, h⟩ := h
    obtain ⟨q2177, h⟩ := h
    refine la_62 gd_Proper_shareRows_49 hF q2176 q2177 rfl ?_
    refine gh_iload_n gd_Proper_shareRows_50 2 rfl ?_
    refine gh_iand gd_Proper_shareRows_51 ?_
    obtain ⟨J67, hJ67, h⟩ := h
    have hJ67 : ∀ (m : gh_M), gh_F m → J67 m → gh_T E (gh_yProper_shareRows.cls, prog_8_method_6_code, 4, false, 9) (d + 1) 67 [(0, 2, 58), (1, 0, v1), (2, 0, v2), (3, 0, v3)] [] m (fun r m1 => gh_F m1 ∧ Q r m1) := by
      intro m hF hj
      have h := hJ67 m hj
      obtain ⟨q2178, h⟩ := h
      refine gh_iinc (L2 := [(3, 0, v3 + 1), (0, 2, 58), (1, 0, v1), (2, 0, v2)]) gd_Proper_shareRows_67 3 rfl q2178 (by decide) rfl ?_
      refine gh_goto (tgt := 33) gd_Proper_shareRows_70 (by decide) ?_
      refine gh_pick (L2 := [(0, 2, 58), (1, 0, v1), (2, 0, v2), (3, 0, v3 + 1)]) [1, 2, 3, 0] rfl ?_
      exact hK33 (v3 + 1) m hF h
    obtain ⟨hA, hB⟩ := h
    refine gh_zeq (tgt := 67) gd_Proper_shareRows_52 (by decide) (fun c2179 => ?_) (fun c2179 => ?_)
    · have h := hA c2179
      exact hJ67 m hF h
    · have h := hB c2179
      refine gh_aload_n gd_Proper_shareRows_55 0 rfl (by decide) ?_
      refine gf_58_9 gd_Proper_shareRows_56 gh_k605 hF ?_
      refine gh_iload_n gd_Proper_shareRows_59 1 rfl ?_
      refine gh_dup2 gd_Proper_shareRows_60 (by decide) (by decide) ?_
      obtain ⟨q2180, h⟩ := h
      obtain ⟨q2181, h⟩ := h
      refine la_61 gd_Proper_shareRows_61 hF q2180 q2181 rfl ?_
      refine gh_iconst gd_Proper_shareRows_62 (gh_r0 rfl) ?_
      refine gh_iload_n gd_Proper_shareRows_63 3 rfl ?_
      refine gh_ishl gd_Proper_shareRows_64 ?_
      refine gh_ior gd_Proper_shareRows_65 ?_
      obtain ⟨q2182, h⟩ := h
      obtain ⟨q2183, h⟩ := h
      refine sa_61 gd_Proper_shareRows_66 hF q2182 q2183 (fun hF => ?_)
      exact hJ67 (gh_u m 61 v1 (gh_ior_f (m 61 v1) (gh_ishl_f 1 v3))) hF h
  · have h := hB c2175
    obtain ⟨q2184, h⟩ := h
    refine gh_iinc (L2 := [(1, 0, v1 + 1), (0, 2, 58), (2, 0, v2), (3, 0, v3)]) gd_Proper_shareRows_73 1 rfl q2184 (by decide) rfl ?_
    refine gh_goto (tgt := 16) gd_Proper_shareRows_76 (by decide) ?_
    refine gh_pick (L2 := [(0, 2, 58), (1, 0, v1 + 1)]) [1, 0] rfl ?_
    exact hK16 (v1 + 1) m hF h
theorem b_Proper_shareRows_16 {E : gh_E} {Q : Int → gh_M → Prop} {K16 : Int → gh_M → Prop} (d : Nat) (hK : ∀ (v1 : Int) (m : gh_M), gh_F m → K16 v1 m → gh_T E (gh_yProper_shareRows.cls, prog_8_method_6_code, 4, false, 9) (d + 1) 16 [(0, 2, 58), (1, 0, v1)] [] m (fun r m1 => gh_F m1 ∧ Q r m1)) (v1 : Int) (m : gh_M) (hF : gh_F m) (h : f_Proper_shareRows_16 Q K16 v1 m) : gh_T E (gh_yProper_shareRows.cls, prog_8_method_6_code, 4, false, 9) (d + 1) 16 [(0, 2, 58), (1, 0, v1)] [] m (fun r m1 => gh_F m1 ∧ Q r m1) := by
  have hK16 := hK
  unfold f_Proper_shareRows_16 at h
  refine gh_iload_n gd_Proper_shareRows_16 1 rfl ?_
  refine gh_aload_n gd_Proper_shareRows_17 0 rfl (by decide) ?_
  refine gf_58_10 gd_Proper_shareRows_18 gh_k606 hF rfl ?_
  obtain ⟨hA, hB⟩ := h
  refine gh_jge (tgt := 79) gd_Proper_shareRows_21 (by decide) (fun c2172 => ?_) (fun c2172 => ?_)
  · have h := hA c2172
    refine gh_aload_n gd_Proper_shareRows_24 0 rfl (by decide) ?_
    refine gf_58_9 gd_Proper_shareRows_25 gh_k605 hF ?_
    refine gh_iload_n gd_Proper_shareRows_28 1 rfl ?_
    obtain ⟨q2173, h⟩ := h
    obtain ⟨q2174, h⟩ := h
    refine la_61 gd_Proper_shareRows_29 hF q2173 q2174 rfl ?_
    refine gh_name (fun v2 hn => ?_)
    have h := h v2 hn
    refine gh_istore_n (L2 := [(2, 0, v2), (0, 2, 58), (1, 0, v1)]) gd_Proper_shareRows_30 (by decide) rfl ?_
    refine gh_iconst gd_Proper_shareRows_31 (gh_r0 rfl) ?_
    refine gh_istore_n (L2 := [(3, 0, 0), (2, 0, v2), (0, 2, 58), (1, 0, v1)]) gd_Proper_shareRows_32 (by decide) rfl ?_
    refine gh_pick (L2 := [(0, 2, 58), (1, 0, v1), (2, 0, v2), (3, 0, 0)]) [2, 3, 1, 0] rfl ?_
    exact gh_M1_sound (T := fun v3 m => gh_T E (gh_yProper_shareRows.cls, prog_8_method_6_code, 4, false, 9) (d + 1) 33 [(0, 2, 58), (1, 0, v1), (2, 0, v2), (3, 0, v3)] [] m (fun r m1 => gh_F m1 ∧ Q r m1)) (fun _ m => gh_F m) (fun K33 v3 m hK hF h => b_Proper_shareRows_33 d hK16 hK v3 m hF h) 0 m hF h
  · have h := hB c2172
    exact gh_ret9 rfl gd_Proper_shareRows_79 ⟨hF, h⟩
theorem s_Proper_shareRows {E : gh_E} {m : gh_M} {Q : Int → gh_M → Prop} (d : Nat) (hF : gh_F m) (h : w_Proper_shareRows m Q) : gh_C E gh_yProper_shareRows prog_8_method_6_code 4 none 9 (d + 1) [(2, 58)] m (fun r m1 => gh_F m1 ∧ Q r m1) := by
  refine gh_enter2 (L := [(0, 2, 58)]) (by decide +kernel) gh_rt9 (Nat.le_of_ble_eq_true rfl) rfl rfl ?_
  unfold w_Proper_shareRows at h
  refine gh_aload_n gd_Proper_shareRows_0 0 rfl (by decide) ?_
  refine gf_58_11 gd_Proper_shareRows_1 gh_k607 hF ?_
  refine gh_aload_n gd_Proper_shareRows_4 0 rfl (by decide) ?_
  refine gf_58_0 gd_Proper_shareRows_5 gh_k592 hF ?_
  refine gf_13_1 gd_Proper_shareRows_8 gh_k261 hF rfl ?_
  refine cv_Facts_closeOver (d := d) gd_Proper_shareRows_11 gh_k1330 (Nat.le_of_ble_eq_true rfl) (gh_C.mono (s_Facts_closeOver_62 d (m 13 1) hF h) (fun r2157 m2158 hq => ?_))
  obtain ⟨hF, h⟩ := hq
  refine gh_iconst gd_Proper_shareRows_14 (gh_r0 rfl) ?_
  refine gh_istore_n (L2 := [(1, 0, 0), (0, 2, 58)]) gd_Proper_shareRows_15 (by decide) rfl ?_
  refine gh_pick (L2 := [(0, 2, 58), (1, 0, 0)]) [1, 0] rfl ?_
  exact gh_M1_sound (T := fun v1 m => gh_T E (gh_yProper_shareRows.cls, prog_8_method_6_code, 4, false, 9) (d + 1) 16 [(0, 2, 58), (1, 0, v1)] [] m (fun r m1 => gh_F m1 ∧ Q r m1)) (fun _ m => gh_F m) (fun K16 v1 m hK hF h => b_Proper_shareRows_16 d hK v1 m hF h) 0 m2158 hF h
def f_Proper_namesIn_4 (Q : Int → Prop) (m : gh_M) (K4 : Int → Int → Prop) (v1 : Int) (v2 : Int) : Prop := ((v2 ≤ 0 → Q v1) ∧ (¬ (v2 ≤ 0) → 0 ≤ v2 ∧ ∀ v3 : Int, v3 = v2 % 128 → ((¬ (v3 < 1) → (((v3 ≤ 8) → (gh_i (v3 - 1)))))) ∧ ∀ v1' : Int, v1' = gh_ior_f v1 (if v3 < 1 then 0 else (if v3 ≤ 8 then (gh_ishl_f 1 (v3 - 1)) else 0)) → 0 ≤ v2 ∧ ∀ v2' : Int, v2' = v2 / 128 → K4 v1' v2'))
def w_Proper_namesIn (v0 : Int) (m : gh_M) (Q : Int → Prop) : Prop := gh_L2 (fun K4 v1 v2 => f_Proper_namesIn_4 Q m K4 v1 v2) 0 v0
theorem b_Proper_namesIn_4 {E : gh_E} {Q : Int → Prop} {K4 : Int → Int → Prop} (d : Nat) {m : gh_M} (hK : ∀ (v1 : Int) (v2 : Int), gh_F m → K4 v1 v2 → gh_T E (gh_yProper_namesIn.cls, prog_8_method_8_code, 4, false, 0) (d + 0) 4 [(1, 0, v1), (2, 0, v2)] [] m (fun r m1 => m1 = m ∧ Q r)) (v1 : Int) (v2 : Int) (hF : gh_F m) (h : f_Proper_namesIn_4 Q m K4 v1 v2) : gh_T E (gh_yProper_namesIn.cls, prog_8_method_8_code, 4, false, 0) (d + 0) 4 [(1, 0, v1), (2, 0, v2)] [] m (fun r m1 => m1 = m ∧ Q r) := by
  have hK4 := hK
  unfold f_Proper_namesIn_4 at h
  refine gh_iload_n gd_Proper_namesIn_4 1 rfl ?_
  obtain ⟨hA, hB⟩ := h
  refine gh_zle (tgt := 46) gd_Proper_namesIn_5 (by decide) (fun c2185 => ?_) (fun c2185 => ?_)
  · have h := hA c2185
    refine gh_iload_n gd_Proper_namesIn_46 0 rfl ?_
    exact gh_ret0 rfl gd_Proper_namesIn_47 ⟨rfl, h⟩
  · have h := hB c2185
    refine gh_iload_n gd_Proper_namesIn_8 1 rfl ?_
    refine gh_sipush gd_Proper_namesIn_9 (by decide) (gh_r0 rfl) ?_
    obtain ⟨q2186, h⟩ := h
    refine gh_irem gd_Proper_namesIn_12 q2186 (by decide) ?_
    refine gh_name (fun v3 hn => ?_)
    have h := h v3 hn
    refine gh_istore_n (L2 := [(3, 0, v3), (1, 0, v1), (2, 0, v2)]) gd_Proper_namesIn_13 (by decide) rfl ?_
    refine gh_iload_n gd_Proper_namesIn_14 1 rfl ?_
    refine gh_iload_n gd_Proper_namesIn_15 0 rfl ?_
    refine gh_iconst gd_Proper_namesIn_16 (gh_r0 rfl) ?_
    obtain ⟨hk, h⟩ := h
    have k2188 : ∀ x2189 : Int, x2189 = (if v3 < 1 then 0 else (if v3 ≤ 8 then (gh_ishl_f 1 (v3 - 1)) else 0)) → gh_T E (gh_yProper_namesIn.cls, prog_8_method_8_code, 4, false, 0) (d + 0) 35 [(3, 0, v3), (1, 0, v1), (2, 0, v2)] [(0, x2189), (0, v1)] m (fun r m1 => m1 = m ∧ Q r) := by
      rintro _ rfl
      refine gh_ior gd_Proper_namesIn_35 ?_
      refine gh_name (fun v1' hn => ?_)
      have h := h v1' hn
      refine gh_istore_n (L2 := [(1, 0, v1'), (3, 0, v3), (2, 0, v2)]) gd_Proper_namesIn_36 (by decide) rfl ?_
      refine gh_iload_n gd_Proper_namesIn_37 2 rfl ?_
      refine gh_sipush gd_Proper_namesIn_38 (by decide) (gh_r0 rfl) ?_
      obtain ⟨q2190, h⟩ := h
      refine gh_idiv gd_Proper_namesIn_41 q2190 (by decide) ?_
      refine gh_name (fun v2' hn => ?_)
      have h := h v2' hn
      refine gh_istore_n (L2 := [(2, 0, v2'), (1, 0, v1'), (3, 0, v3)]) gd_Proper_namesIn_42 (by decide) rfl ?_
      refine gh_goto (tgt := 4) gd_Proper_namesIn_43 (by decide) ?_
      refine gh_pick (L2 := [(1, 0, v1'), (2, 0, v2')]) [1, 0] rfl ?_
      exact hK4 v1' v2' hF h
    refine gh_jlt (tgt := 34) gd_Proper_namesIn_17 (by decide) (fun c2191 => ?_) (fun c2191 => ?_)
    · have hz : True := trivial
      refine gh_iconst gd_Proper_namesIn_34 (gh_r0 rfl) ?_
      exact k2188 _ (by rw [if_pos c2191])
    · have hz : True := trivial
      have hk := hk c2191
      refine gh_iload_n gd_Proper_namesIn_20 0 rfl ?_
      refine gh_bipush gd_Proper_namesIn_21 (by decide) (gh_r0 rfl) ?_
      refine gh_jgt (tgt := 34) gd_Proper_namesIn_23 (by decide) (fun c2192 => ?_) (fun c2192 => ?_)
      · have hz : True := trivial
        have hk := hk c2192
        refine gh_iconst gd_Proper_namesIn_26 (gh_r0 rfl) ?_
        refine gh_iload_n gd_Proper_namesIn_27 0 rfl ?_
        refine gh_iconst gd_Proper_namesIn_28 (gh_r0 rfl) ?_
        have q2187 := hk
        refine gh_isub gd_Proper_namesIn_29 q2187 ?_
        refine gh_ishl gd_Proper_namesIn_30 ?_
        refine gh_goto (tgt := 35) gd_Proper_namesIn_31 (by decide) ?_
        exact k2188 _ (by rw [if_neg c2191, if_pos c2192])
      · have hz : True := trivial
        refine gh_iconst gd_Proper_namesIn_34 (gh_r0 rfl) ?_
        exact k2188 _ (by rw [if_neg c2191, if_neg c2192])
theorem s_Proper_namesIn {E : gh_E} {m : gh_M} {Q : Int → Prop} (d : Nat) (v0 : Int) (hF : gh_F m) (h : w_Proper_namesIn v0 m Q) : gh_C E gh_yProper_namesIn prog_8_method_8_code 4 (some .int) 0 (d + 0) [(0, v0)] m (fun r m1 => m1 = m ∧ Q r) := by
  refine gh_enter2 (L := [(0, 0, v0)]) (by decide +kernel) gh_rt0 (Nat.le_of_ble_eq_true rfl) rfl rfl ?_
  unfold w_Proper_namesIn at h
  refine gh_iconst gd_Proper_namesIn_0 (gh_r0 rfl) ?_
  refine gh_istore_n (L2 := [(1, 0, 0), (0, 0, v0)]) gd_Proper_namesIn_1 (by decide) rfl ?_
  refine gh_iload_n gd_Proper_namesIn_2 1 rfl ?_
  refine gh_istore_n (L2 := [(2, 0, v0), (1, 0, 0), (0, 0, v0)]) gd_Proper_namesIn_3 (by decide) rfl ?_
  refine gh_pick (L2 := [(1, 0, 0), (2, 0, v0)]) [1, 0] rfl ?_
  exact gh_L2_sound (T := fun v1 v2 => gh_T E (gh_yProper_namesIn.cls, prog_8_method_8_code, 4, false, 0) (d + 0) 4 [(1, 0, v1), (2, 0, v2)] [] m (fun r m1 => m1 = m ∧ Q r)) (fun _ _ => gh_F m) (fun K4 v1 v2 hK hF h => b_Proper_namesIn_4 d hK v1 v2 hF h) 0 v0 hF h
def f_Proper_lengthOf_4 (Q : Int → Prop) (m : gh_M) (K4 : Int → Int → Prop) (v1 : Int) (v2 : Int) : Prop := ((v2 ≤ 0 → Q v1) ∧ (¬ (v2 ≤ 0) → gh_i (v1 + 1) ∧ 0 ≤ v2 ∧ ∀ v2' : Int, v2' = v2 / 128 → K4 (v1 + 1) v2'))
def w_Proper_lengthOf (v0 : Int) (m : gh_M) (Q : Int → Prop) : Prop := gh_L2 (fun K4 v1 v2 => f_Proper_lengthOf_4 Q m K4 v1 v2) 0 v0
theorem b_Proper_lengthOf_4 {E : gh_E} {Q : Int → Prop} {K4 : Int → Int → Prop} (d : Nat) {m : gh_M} (hK : ∀ (v1 : Int) (v2 : Int), gh_F m → K4 v1 v2 → gh_T E (gh_yProper_lengthOf.cls, prog_8_method_9_code, 3, false, 0) (d + 0) 4 [(1, 0, v1), (2, 0, v2)] [] m (fun r m1 => m1 = m ∧ Q r)) (v1 : Int) (v2 : Int) (hF : gh_F m) (h : f_Proper_lengthOf_4 Q m K4 v1 v2) : gh_T E (gh_yProper_lengthOf.cls, prog_8_method_9_code, 3, false, 0) (d + 0) 4 [(1, 0, v1), (2, 0, v2)] [] m (fun r m1 => m1 = m ∧ Q r) := by
  have hK4 := hK
  unfold f_Proper_lengthOf_4 at h
  refine gh_iload_n gd_Proper_lengthOf_4 1 rfl ?_
  obtain ⟨hA, hB⟩ := h
  refine gh_zle (tgt := 20) gd_Proper_lengthOf_5 (by decide) (fun c2193 => ?_) (fun c2193 => ?_)
  · have h := hA c2193
    refine gh_iload_n gd_Proper_lengthOf_20 0 rfl ?_
    exact gh_ret0 rfl gd_Proper_lengthOf_21 ⟨rfl, h⟩
  · have h := hB c2193
    obtain ⟨q2194, h⟩ := h
    refine gh_iinc (L2 := [(1, 0, v1 + 1), (2, 0, v2)]) gd_Proper_lengthOf_8 0 rfl q2194 (by decide) rfl ?_
    refine gh_iload_n gd_Proper_lengthOf_11 1 rfl ?_
    refine gh_sipush gd_Proper_lengthOf_12 (by decide) (gh_r0 rfl) ?_
    obtain ⟨q2195, h⟩ := h
    refine gh_idiv gd_Proper_lengthOf_15 q2195 (by decide) ?_
    refine gh_name (fun v2' hn => ?_)
    have h := h v2' hn
    refine gh_istore_n (L2 := [(2, 0, v2'), (1, 0, v1 + 1)]) gd_Proper_lengthOf_16 (by decide) rfl ?_
    refine gh_goto (tgt := 4) gd_Proper_lengthOf_17 (by decide) ?_
    refine gh_pick (L2 := [(1, 0, v1 + 1), (2, 0, v2')]) [1, 0] rfl ?_
    exact hK4 (v1 + 1) v2' hF h
theorem s_Proper_lengthOf {E : gh_E} {m : gh_M} {Q : Int → Prop} (d : Nat) (v0 : Int) (hF : gh_F m) (h : w_Proper_lengthOf v0 m Q) : gh_C E gh_yProper_lengthOf prog_8_method_9_code 3 (some .int) 0 (d + 0) [(0, v0)] m (fun r m1 => m1 = m ∧ Q r) := by
  refine gh_enter2 (L := [(0, 0, v0)]) (by decide +kernel) gh_rt0 (Nat.le_of_ble_eq_true rfl) rfl rfl ?_
  unfold w_Proper_lengthOf at h
  refine gh_iconst gd_Proper_lengthOf_0 (gh_r0 rfl) ?_
  refine gh_istore_n (L2 := [(1, 0, 0), (0, 0, v0)]) gd_Proper_lengthOf_1 (by decide) rfl ?_
  refine gh_iload_n gd_Proper_lengthOf_2 1 rfl ?_
  refine gh_istore_n (L2 := [(2, 0, v0), (1, 0, 0), (0, 0, v0)]) gd_Proper_lengthOf_3 (by decide) rfl ?_
  refine gh_pick (L2 := [(1, 0, 0), (2, 0, v0)]) [1, 0] rfl ?_
  exact gh_L2_sound (T := fun v1 v2 => gh_T E (gh_yProper_lengthOf.cls, prog_8_method_9_code, 3, false, 0) (d + 0) 4 [(1, 0, v1), (2, 0, v2)] [] m (fun r m1 => m1 = m ∧ Q r)) (fun _ _ => gh_F m) (fun K4 v1 v2 hK hF h => b_Proper_lengthOf_4 d hK v1 v2 hF h) 0 v0 hF h
def f_Proper_countUseful_17 (v2 : Int) (K4 : Int → Int → Prop) (m : gh_M) (K17 : Int → Int → Prop) (v1 : Int) (v3 : Int) : Prop := ((v3 < (m 58 10) → 0 ≤ v3 ∧ v3 < 320 ∧ w_Proper_namesIn (m 60 v3) m (fun r2200 => ((((gh_iand_f r2200 (gh_ixor_f v1 (-1))) = 0) → (0 ≤ v3 ∧ v3 < 320))) ∧ ∀ v1' : Int, v1' = gh_ior_f v1 (if (gh_iand_f r2200 (gh_ixor_f v1 (-1))) = 0 then (m 61 v3) else 0) → gh_i (v3 + 1) ∧ K17 v1' (v3 + 1))) ∧ (¬ (v3 < (m 58 10)) → gh_i (v2 + 1) ∧ K4 v1 (v2 + 1)))
def f_Proper_countUseful_86 (v1 : Int) (v3 : Int) (K72 : Int → Int → Prop) (m : gh_M) (K86 : Int → Int → Prop) (v2 : Int) (v4 : Int) : Prop := ((v4 < (m 58 10) → 0 ≤ v4 ∧ v4 < 320 ∧ w_Proper_namesIn (m 60 v4) m (fun r2213 => ((((gh_iand_f r2213 (gh_ixor_f v1 (-1))) = 0) → (0 ≤ v4 ∧ v4 < 320))) ∧ ∀ v2'' : Int, v2'' = gh_ior_f v2 (if (gh_iand_f r2213 (gh_ixor_f v1 (-1))) = 0 then (if (gh_iand_f (m 61 v4) v2) = 0 then 0 else r2213) else 0) → gh_i (v4 + 1) ∧ K86 v2'' (v4 + 1))) ∧ (¬ (v4 < (m 58 10)) → gh_i (v3 + 1) ∧ K72 v2 (v3 + 1)))
def f_Proper_countUseful_166 (v1 : Int) (v2 : Int) (Q : Int → gh_M → Prop) (K166 : Int → gh_M → Prop) (v3 : Int) (m : gh_M) : Prop := ((v3 < (m 58 10) → 0 ≤ v3 ∧ v3 < 320 ∧ w_Proper_namesIn (m 60 v3) m (fun r2226 => ((((gh_iand_f r2226 (gh_ixor_f v1 (-1))) = 0) → (0 ≤ v3 ∧ v3 < 320))) ∧ ∀ v4 : Int, v4 = (if (gh_iand_f r2226 (gh_ixor_f v1 (-1))) = 0 then (gh_iand_f (m 61 v3) v2) else 0) → gh_i ((m 58 3) + (gh_pop v4)) ∧ 0 ≤ v3 ∧ v3 < 320 ∧ w_Proper_lengthOf (m 60 v3) (gh_u (gh_u m 58 3 ((m 58 3) + (gh_pop v4))) 58 4 (gh_ior_f (m 58 4) v4)) (fun r2235 => gh_i ((gh_pop v4) * r2235) ∧ gh_i ((m 58 5) + ((gh_pop v4) * r2235)) ∧ gh_i (v3 + 1) ∧ K166 (v3 + 1) (gh_u (gh_u (gh_u m 58 3 ((m 58 3) + (gh_pop v4))) 58 4 (gh_ior_f (m 58 4) v4)) 58 5 ((m 58 5) + ((gh_pop v4) * r2235)))))) ∧ (¬ (v3 < (m 58 10)) → Q 0 m))
def f_Proper_countUseful_72 (v1 : Int) (Q : Int → gh_M → Prop) (m : gh_M) (K72 : Int → Int → Prop) (v2 : Int) (v3 : Int) : Prop := ((v3 < (m 13 1) → gh_L2 (fun K86 v2 v4 => f_Proper_countUseful_86 v1 v3 K72 m K86 v2 v4) v2 0) ∧ (¬ (v3 < (m 13 1)) → gh_M1 (fun K166 v3 m => f_Proper_countUseful_166 v1 v2 Q K166 v3 m) 0 (gh_u (gh_u (gh_u m 58 3 0) 58 4 0) 58 5 0)))
def f_Proper_countUseful_4 (Q : Int → gh_M → Prop) (m : gh_M) (K4 : Int → Int → Prop) (v1 : Int) (v2 : Int) : Prop := ((v2 < (m 13 1) → gh_L2 (fun K17 v1 v3 => f_Proper_countUseful_17 v2 K4 m K17 v1 v3) v1 0) ∧ (¬ (v2 < (m 13 1)) → ∀ v2' : Int, v2' = gh_iand_f v1 1 → gh_L2 (fun K72 v2 v3 => f_Proper_countUseful_72 v1 Q m K72 v2 v3) v2' 0))
def w_Proper_countUseful (m : gh_M) (Q : Int → gh_M → Prop) : Prop := gh_L2 (fun K4 v1 v2 => f_Proper_countUseful_4 Q m K4 v1 v2) 0 0
theorem b_Proper_countUseful_17 {E : gh_E} {v2 : Int} {K4 : Int → Int → Prop} {Q : Int → gh_M → Prop} {K17 : Int → Int → Prop} (d : Nat) {m : gh_M} (hK4 : ∀ (v1 : Int) (v2 : Int), gh_F m → K4 v1 v2 → gh_T E (gh_yProper_countUseful.cls, prog_8_method_7_code, 6, false, 9) (d + 1) 4 [(0, 2, 58), (1, 0, v1), (2, 0, v2)] [] m (fun r m1 => gh_F m1 ∧ Q r m1)) (hK : ∀ (v1 : Int) (v3 : Int), gh_F m → K17 v1 v3 → gh_T E (gh_yProper_countUseful.cls, prog_8_method_7_code, 6, false, 9) (d + 1) 17 [(0, 2, 58), (1, 0, v1), (2, 0, v2), (3, 0, v3)] [] m (fun r m1 => gh_F m1 ∧ Q r m1)) (v1 : Int) (v3 : Int) (hF : gh_F m) (h : f_Proper_countUseful_17 v2 K4 m K17 v1 v3) : gh_T E (gh_yProper_countUseful.cls, prog_8_method_7_code, 6, false, 9) (d + 1) 17 [(0, 2, 58), (1, 0, v1), (2, 0, v2), (3, 0, v3)] [] m (fun r m1 => gh_F m1 ∧ Q r m1) := by
  have hK17 := hK
  unfold f_Proper_countUseful_17 at h
  refine gh_iload_n gd_Proper_countUseful_17 3 rfl ?_
  refine gh_aload_n gd_Proper_countUseful_18 0 rfl (by decide) ?_
  refine gf_58_10 gd_Proper_countUseful_19 gh_k606 hF rfl ?_
  obtain ⟨hA, hB⟩ := h
  refine gh_jge (tgt := 60) gd_Proper_countUseful_22 (by decide) (fun c2197 => ?_) (fun c2197 => ?_)
  · have h := hA c2197
    refine gh_iload_n gd_Proper_countUseful_25 1 rfl ?_
    refine gh_aload_n gd_Proper_countUseful_26 0 rfl (by decide) ?_
    refine gf_58_8 gd_Proper_countUseful_27 gh_k604 hF ?_
    refine gh_iload_n gd_Proper_countUseful_30 3 rfl ?_
    obtain ⟨q2198, h⟩ := h
    obtain ⟨q2199, h⟩ := h
    refine la_60 gd_Proper_countUseful_31 hF q2198 q2199 rfl ?_
    refine cv_Proper_namesIn (d := d) gd_Proper_countUseful_32 gh_k1335 (Nat.le_of_ble_eq_true rfl) (gh_C.pw (s_Proper_namesIn d (m 60 v3) hF h) (fun r2200 h => ?_))
    refine gh_iload_n gd_Proper_countUseful_35 1 rfl ?_
    refine gh_iconst gd_Proper_countUseful_36 (gh_r0 rfl) ?_
    refine gh_ixor gd_Proper_countUseful_37 ?_
    refine gh_iand gd_Proper_countUseful_38 ?_
    obtain ⟨hk, h⟩ := h
    have k2204 : ∀ x2205 : Int, x2205 = (if (gh_iand_f r2200 (gh_ixor_f v1 (-1))) = 0 then (m 61 v3) else 0) → gh_T E (gh_yProper_countUseful.cls, prog_8_method_7_code, 6, false, 9) (d + 1) 52 [(0, 2, 58), (1, 0, v1), (2, 0, v2), (3, 0, v3)] [(0, x2205), (0, v1)] m (fun r m1 => gh_F m1 ∧ Q r m1) := by
      rintro _ rfl
      refine gh_ior gd_Proper_countUseful_52 ?_
      refine gh_name (fun v1' hn => ?_)
      have h := h v1' hn
      refine gh_istore_n (L2 := [(1, 0, v1'), (0, 2, 58), (2, 0, v2), (3, 0, v3)]) gd_Proper_countUseful_53 (by decide) rfl ?_
      obtain ⟨q2206, h⟩ := h
      refine gh_iinc (L2 := [(3, 0, v3 + 1), (1, 0, v1'), (0, 2, 58), (2, 0, v2)]) gd_Proper_countUseful_54 3 rfl q2206 (by decide) rfl ?_
      refine gh_goto (tgt := 17) gd_Proper_countUseful_57 (by decide) ?_
      refine gh_pick (L2 := [(0, 2, 58), (1, 0, v1'), (2, 0, v2), (3, 0, v3 + 1)]) [2, 1, 3, 0] rfl ?_
      exact hK17 v1' (v3 + 1) hF h
    refine gh_zne (tgt := 51) gd_Proper_countUseful_39 (by decide) (fun c2207 => ?_) (fun c2207 => ?_)
    · have hz : True := trivial
      have hk := hk c2207
      refine gh_aload_n gd_Proper_countUseful_42 0 rfl (by decide) ?_
      refine gf_58_9 gd_Proper_countUseful_43 gh_k605 hF ?_
      refine gh_iload_n gd_Proper_countUseful_46 3 rfl ?_
      obtain ⟨q2202, hk⟩ := hk
      have q2203 := hk
      refine la_61 gd_Proper_countUseful_47 hF q2202 q2203 rfl ?_
      refine gh_goto (tgt := 52) gd_Proper_countUseful_48 (by decide) ?_
      exact k2204 _ (by rw [if_pos c2207])
    · have hz : True := trivial
      refine gh_iconst gd_Proper_countUseful_51 (gh_r0 rfl) ?_
      exact k2204 _ (by rw [if_neg c2207])
  · have h := hB c2197
    obtain ⟨q2208, h⟩ := h
    refine gh_iinc (L2 := [(2, 0, v2 + 1), (0, 2, 58), (1, 0, v1), (3, 0, v3)]) gd_Proper_countUseful_60 2 rfl q2208 (by decide) rfl ?_
    refine gh_goto (tgt := 4) gd_Proper_countUseful_63 (by decide) ?_
    refine gh_pick (L2 := [(0, 2, 58), (1, 0, v1), (2, 0, v2 + 1)]) [1, 2, 0] rfl ?_
    exact hK4 v1 (v2 + 1) hF h
theorem b_Proper_countUseful_86 {E : gh_E} {v1 : Int} {v3 : Int} {K72 : Int → Int → Prop} {Q : Int → gh_M → Prop} {K86 : Int → Int → Prop} (d : Nat) {m : gh_M} (hK72 : ∀ (v2 : Int) (v3 : Int), gh_F m → K72 v2 v3 → gh_T E (gh_yProper_countUseful.cls, prog_8_method_7_code, 6, false, 9) (d + 1) 72 [(0, 2, 58), (1, 0, v1), (2, 0, v2), (3, 0, v3)] [] m (fun r m1 => gh_F m1 ∧ Q r m1)) (hK : ∀ (v2 : Int) (v4 : Int), gh_F m → K86 v2 v4 → gh_T E (gh_yProper_countUseful.cls, prog_8_method_7_code, 6, false, 9) (d + 1) 86 [(0, 2, 58), (1, 0, v1), (2, 0, v2), (3, 0, v3), (4, 0, v4)] [] m (fun r m1 => gh_F m1 ∧ Q r m1)) (v2 : Int) (v4 : Int) (hF : gh_F m) (h : f_Proper_countUseful_86 v1 v3 K72 m K86 v2 v4) : gh_T E (gh_yProper_countUseful.cls, prog_8_method_7_code, 6, false, 9) (d + 1) 86 [(0, 2, 58), (1, 0, v1), (2, 0, v2), (3, 0, v3), (4, 0, v4)] [] m (fun r m1 => gh_F m1 ∧ Q r m1) := by
  have hK86 := hK
  unfold f_Proper_countUseful_86 at h
  refine gh_iload gd_Proper_countUseful_86 4 rfl ?_
  refine gh_aload_n gd_Proper_countUseful_88 0 rfl (by decide) ?_
  refine gf_58_10 gd_Proper_countUseful_89 gh_k606 hF rfl ?_
  obtain ⟨hA, hB⟩ := h
  refine gh_jge (tgt := 143) gd_Proper_countUseful_92 (by decide) (fun c2210 => ?_) (fun c2210 => ?_)
  · have h := hA c2210
    refine gh_aload_n gd_Proper_countUseful_95 0 rfl (by decide) ?_
    refine gf_58_8 gd_Proper_countUseful_96 gh_k604 hF ?_
    refine gh_iload gd_Proper_countUseful_99 4 rfl ?_
    obtain ⟨q2211, h⟩ := h
    obtain ⟨q2212, h⟩ := h
    refine la_60 gd_Proper_countUseful_101 hF q2211 q2212 rfl ?_
    refine cv_Proper_namesIn (d := d) gd_Proper_countUseful_102 gh_k1335 (Nat.le_of_ble_eq_true rfl) (gh_C.pw (s_Proper_namesIn d (m 60 v4) hF h) (fun r2213 h => ?_))
    refine gh_istore (L2 := [(5, 0, r2213), (0, 2, 58), (1, 0, v1), (2, 0, v2), (3, 0, v3), (4, 0, v4)]) gd_Proper_countUseful_105 (by decide) rfl ?_
    refine gh_iload_n gd_Proper_countUseful_107 3 rfl ?_
    refine gh_iload gd_Proper_countUseful_108 0 rfl ?_
    refine gh_iload_n gd_Proper_countUseful_110 2 rfl ?_
    refine gh_iconst gd_Proper_countUseful_111 (gh_r0 rfl) ?_
    refine gh_ixor gd_Proper_countUseful_112 ?_
    refine gh_iand gd_Proper_countUseful_113 ?_
    obtain ⟨hk, h⟩ := h
    have k2217 : ∀ x2218 : Int, x2218 = (if (gh_iand_f r2213 (gh_ixor_f v1 (-1))) = 0 then (if (gh_iand_f (m 61 v4) v2) = 0 then 0 else r2213) else 0) → gh_T E (gh_yProper_countUseful.cls, prog_8_method_7_code, 6, false, 9) (d + 1) 135 [(5, 0, r2213), (0, 2, 58), (1, 0, v1), (2, 0, v2), (3, 0, v3), (4, 0, v4)] [(0, x2218), (0, v2)] m (fun r m1 => gh_F m1 ∧ Q r m1) := by
      rintro _ rfl
      refine gh_ior gd_Proper_countUseful_135 ?_
      refine gh_name (fun v2'' hn => ?_)
      have h := h v2'' hn
      refine gh_istore_n (L2 := [(2, 0, v2''), (5, 0, r2213), (0, 2, 58), (1, 0, v1), (3, 0, v3), (4, 0, v4)]) gd_Proper_countUseful_136 (by decide) rfl ?_
      obtain ⟨q2219, h⟩ := h
      refine gh_iinc (L2 := [(4, 0, v4 + 1), (2, 0, v2''), (5, 0, r2213), (0, 2, 58), (1, 0, v1), (3, 0, v3)]) gd_Proper_countUseful_137 5 rfl q2219 (by decide) rfl ?_
      refine gh_goto (tgt := 86) gd_Proper_countUseful_140 (by decide) ?_
      refine gh_pick (L2 := [(0, 2, 58), (1, 0, v1), (2, 0, v2''), (3, 0, v3), (4, 0, v4 + 1)]) [3, 4, 1, 5, 0] rfl ?_
      exact hK86 v2'' (v4 + 1) hF h
    refine gh_zne (tgt := 134) gd_Proper_countUseful_114 (by decide) (fun c2220 => ?_) (fun c2220 => ?_)
    · have hz : True := trivial
      have hk := hk c2220
      refine gh_aload_n gd_Proper_countUseful_117 1 rfl (by decide) ?_
      refine gf_58_9 gd_Proper_countUseful_118 gh_k605 hF ?_
      refine gh_iload gd_Proper_countUseful_121 5 rfl ?_
      obtain ⟨q2215, hk⟩ := hk
      have q2216 := hk
      refine la_61 gd_Proper_countUseful_123 hF q2215 q2216 rfl ?_
      refine gh_iload_n gd_Proper_countUseful_124 3 rfl ?_
      refine gh_iand gd_Proper_countUseful_125 ?_
      refine gh_zeq (tgt := 134) gd_Proper_countUseful_126 (by decide) (fun c2221 => ?_) (fun c2221 => ?_)
      · have hz : True := trivial
        refine gh_iconst gd_Proper_countUseful_134 (gh_r0 rfl) ?_
        exact k2217 _ (by rw [if_pos c2220, if_pos c2221])
      · have hz : True := trivial
        refine gh_iload gd_Proper_countUseful_129 0 rfl ?_
        refine gh_goto (tgt := 135) gd_Proper_countUseful_131 (by decide) ?_
        exact k2217 _ (by rw [if_pos c2220, if_neg c2221])
    · have hz : True := trivial
      refine gh_iconst gd_Proper_countUseful_134 (gh_r0 rfl) ?_
      exact k2217 _ (by rw [if_neg c2220])
  · have h := hB c2210
    obtain ⟨q2222, h⟩ := h
    refine gh_iinc (L2 := [(3, 0, v3 + 1), (0, 2, 58), (1, 0, v1), (2, 0, v2), (4, 0, v4)]) gd_Proper_countUseful_143 3 rfl q2222 (by decide) rfl ?_
    refine gh_goto (tgt := 72) gd_Proper_countUseful_146 (by decide) ?_
    refine gh_pick (L2 := [(0, 2, 58), (1, 0, v1), (2, 0, v2), (3, 0, v3 + 1)]) [1, 2, 3, 0] rfl ?_
    exact hK72 v2 (v3 + 1) hF h
theorem b_Proper_countUseful_166 {E : gh_E} {v1 : Int} {v2 : Int} {Q : Int → gh_M → Prop} {K166 : Int → gh_M → Prop} (d : Nat) (hK : ∀ (v3 : Int) (m : gh_M), gh_F m → K166 v3 m → gh_T E (gh_yProper_countUseful.cls, prog_8_method_7_code, 6, false, 9) (d + 1) 166 [(0, 2, 58), (1, 0, v1), (2, 0, v2), (3, 0, v3)] [] m (fun r m1 => gh_F m1 ∧ Q r m1)) (v3 : Int) (m : gh_M) (hF : gh_F m) (h : f_Proper_countUseful_166 v1 v2 Q K166 v3 m) : gh_T E (gh_yProper_countUseful.cls, prog_8_method_7_code, 6, false, 9) (d + 1) 166 [(0, 2, 58), (1, 0, v1), (2, 0, v2), (3, 0, v3)] [] m (fun r m1 => gh_F m1 ∧ Q r m1) := by
  have hK166 := hK
  unfold f_Proper_countUseful_166 at h
  refine gh_iload_n gd_Proper_countUseful_166 3 rfl ?_
  refine gh_aload_n gd_Proper_countUseful_167 0 rfl (by decide) ?_
  refine gf_58_10 gd_Proper_countUseful_168 gh_k606 hF rfl ?_
  obtain ⟨hA, hB⟩ := h
  refine gh_jge (tgt := 259) gd_Proper_countUseful_171 (by decide) (fun c2223 => ?_) (fun c2223 => ?_)
  · have h := hA c2223
    refine gh_aload_n gd_Proper_countUseful_174 0 rfl (by decide) ?_
    refine gf_58_8 gd_Proper_countUseful_175 gh_k604 hF ?_
    refine gh_iload_n gd_Proper_countUseful_178 3 rfl ?_
    obtain ⟨q2224, h⟩ := h
    obtain ⟨q2225, h⟩ := h
    refine la_60 gd_Proper_countUseful_179 hF q2224 q2225 rfl ?_
    refine cv_Proper_namesIn (d := d) gd_Proper_countUseful_180 gh_k1335 (Nat.le_of_ble_eq_true rfl) (gh_C.pw (s_Proper_namesIn d (m 60 v3) hF h) (fun r2226 h => ?_))
    refine gh_iload_n gd_Proper_countUseful_183 1 rfl ?_
    refine gh_iconst gd_Proper_countUseful_184 (gh_r0 rfl) ?_
    refine gh_ixor gd_Proper_countUseful_185 ?_
    refine gh_iand gd_Proper_countUseful_186 ?_
    obtain ⟨hk, h⟩ := h
    have k2230 : ∀ x2231 : Int, x2231 = (if (gh_iand_f r2226 (gh_ixor_f v1 (-1))) = 0 then (gh_iand_f (m 61 v3) v2) else 0) → gh_T E (gh_yProper_countUseful.cls, prog_8_method_7_code, 6, false, 9) (d + 1) 202 [(0, 2, 58), (1, 0, v1), (2, 0, v2), (3, 0, v3)] [(0, x2231)] m (fun r m1 => gh_F m1 ∧ Q r m1) := by
      rintro _ rfl
      refine gh_name (fun v4 hn => ?_)
      have h := h v4 hn
      refine gh_istore (L2 := [(4, 0, v4), (0, 2, 58), (1, 0, v1), (2, 0, v2), (3, 0, v3)]) gd_Proper_countUseful_202 (by decide) rfl ?_
      refine gh_aload_n gd_Proper_countUseful_204 1 rfl (by decide) ?_
      refine gh_dup gd_Proper_countUseful_205 (by decide) ?_
      refine gf_58_3 gd_Proper_countUseful_206 gh_k596 hF rfl ?_
      refine gh_iload gd_Proper_countUseful_209 0 rfl ?_
      refine gh_pr_gh_pop gd_Proper_countUseful_211 gh_k1338 (Nat.le_of_ble_eq_true rfl) ?_
      obtain ⟨q2232, h⟩ := h
      refine gh_iadd gd_Proper_countUseful_214 q2232 ?_
      refine pf_58_3 gd_Proper_countUseful_215 gh_k596 hF (fun hF => ?_)
      refine gh_aload_n gd_Proper_countUseful_218 1 rfl (by decide) ?_
      refine gh_dup gd_Proper_countUseful_219 (by decide) ?_
      refine gf_58_4 gd_Proper_countUseful_220 gh_k598 hF (gh_u_i (by decide)) ?_
      refine gh_iload gd_Proper_countUseful_223 0 rfl ?_
      refine gh_ior gd_Proper_countUseful_225 ?_
      refine pf_58_4 gd_Proper_countUseful_226 gh_k598 hF (fun hF => ?_)
      refine gh_aload_n gd_Proper_countUseful_229 1 rfl (by decide) ?_
      refine gh_dup gd_Proper_countUseful_230 (by decide) ?_
      refine gf_58_5 gd_Proper_countUseful_231 gh_k600 hF ((gh_u_i (by decide)).trans (gh_u_i (by decide))) ?_
      refine gh_iload gd_Proper_countUseful_234 0 rfl ?_
      refine gh_pr_gh_pop gd_Proper_countUseful_236 gh_k1338 (Nat.le_of_ble_eq_true rfl) ?_
      refine gh_aload_n gd_Proper_countUseful_239 1 rfl (by decide) ?_
      refine gf_58_8 gd_Proper_countUseful_240 gh_k604 hF ?_
      refine gh_iload_n gd_Proper_countUseful_243 4 rfl ?_
      obtain ⟨q2233, h⟩ := h
      obtain ⟨q2234, h⟩ := h
      refine la_60 gd_Proper_countUseful_244 hF q2233 q2234 ((gh_u_a (by decide)).trans (gh_u_a (by decide))) ?_
      refine cv_Proper_lengthOf (d := d) gd_Proper_countUseful_245 gh_k1339 (Nat.le_of_ble_eq_true rfl) (gh_C.pw (s_Proper_lengthOf d (m 60 v3) hF h) (fun r2235 h => ?_))
      obtain ⟨q2237, h⟩ := h
      refine gh_imul gd_Proper_countUseful_248 q2237 ?_
      obtain ⟨q2238, h⟩ := h
      refine gh_iadd gd_Proper_countUseful_249 q2238 ?_
      refine pf_58_5 gd_Proper_countUseful_250 gh_k600 hF (fun hF => ?_)
      obtain ⟨q2239, h⟩ := h
      refine gh_iinc (L2 := [(3, 0, v3 + 1), (4, 0, v4), (0, 2, 58), (1, 0, v1), (2, 0, v2)]) gd_Proper_countUseful_253 4 rfl q2239 (by decide) rfl ?_
      refine gh_goto (tgt := 166) gd_Proper_countUseful_256 (by decide) ?_
      refine gh_pick (L2 := [(0, 2, 58), (1, 0, v1), (2, 0, v2), (3, 0, v3 + 1)]) [2, 3, 4, 0] rfl ?_
      exact hK166 (v3 + 1) (gh_u (gh_u (gh_u m 58 3 ((m 58 3) + (gh_pop v4))) 58 4 (gh_ior_f (m 58 4) v4)) 58 5 ((m 58 5) + ((gh_pop v4) * r2235))) hF h
    refine gh_zne (tgt := 201) gd_Proper_countUseful_187 (by decide) (fun c2240 => ?_) (fun c2240 => ?_)
    · have hz : True := trivial
      have hk := hk c2240
      refine gh_aload_n gd_Proper_countUseful_190 0 rfl (by decide) ?_
      refine gf_58_9 gd_Proper_countUseful_191 gh_k605 hF ?_
      refine gh_iload_n gd_Proper_countUseful_194 3 rfl ?_
      obtain ⟨q2228, hk⟩ := hk
      have q2229 := hk
      refine la_61 gd_Proper_countUseful_195 hF q2228 q2229 rfl ?_
      refine gh_iload_n gd_Proper_countUseful_196 2 rfl ?_
      refine gh_iand gd_Proper_countUseful_197 ?_
      refine gh_goto (tgt := 202) gd_Proper_countUseful_198 (by decide) ?_
      exact k2230 _ (by rw [if_pos c2240])
    · have hz : True := trivial
      refine gh_iconst gd_Proper_countUseful_201 (gh_r0 rfl) ?_
      exact k2230 _ (by rw [if_neg c2240])
  · have h := hB c2223
    exact gh_ret9 rfl gd_Proper_countUseful_259 ⟨hF, h⟩
theorem b_Proper_countUseful_72 {E : gh_E} {v1 : Int} {Q : Int → gh_M → Prop} {K72 : Int → Int → Prop} (d : Nat) {m : gh_M} (hK : ∀ (v2 : Int) (v3 : Int), gh_F m → K72 v2 v3 → gh_T E (gh_yProper_countUseful.cls, prog_8_method_7_code, 6, false, 9) (d + 1) 72 [(0, 2, 58), (1, 0, v1), (2, 0, v2), (3, 0, v3)] [] m (fun r m1 => gh_F m1 ∧ Q r m1)) (v2 : Int) (v3 : Int) (hF : gh_F m) (h : f_Proper_countUseful_72 v1 Q m K72 v2 v3) : gh_T E (gh_yProper_countUseful.cls, prog_8_method_7_code, 6, false, 9) (d + 1) 72 [(0, 2, 58), (1, 0, v1), (2, 0, v2), (3, 0, v3)] [] m (fun r m1 => gh_F m1 ∧ Q r m1) := by
  have hK72 := hK
  unfold f_Proper_countUseful_72 at h
  refine gh_iload_n gd_Proper_countUseful_72 3 rfl ?_
  refine gh_aload_n gd_Proper_countUseful_73 0 rfl (by decide) ?_
  refine gf_58_0 gd_Proper_countUseful_74 gh_k592 hF ?_
  refine gf_13_1 gd_Proper_countUseful_77 gh_k261 hF rfl ?_
  obtain ⟨hA, hB⟩ := h
  refine gh_jge (tgt := 149) gd_Proper_countUseful_80 (by decide) (fun c2209 => ?_) (fun c2209 => ?_)
  · have h := hA c2209
    refine gh_iconst gd_Proper_countUseful_83 (gh_r0 rfl) ?_
    refine gh_istore (L2 := [(4, 0, 0), (0, 2, 58), (1, 0, v1), (2, 0, v2), (3, 0, v3)]) gd_Proper_countUseful_84 (by decide) rfl ?_
    refine gh_pick (L2 := [(0, 2, 58), (1, 0, v1), (2, 0, v2), (3, 0, v3), (4, 0, 0)]) [1, 2, 3, 4, 0] rfl ?_
    exact gh_L2_sound (T := fun v2 v4 => gh_T E (gh_yProper_countUseful.cls, prog_8_method_7_code, 6, false, 9) (d + 1) 86 [(0, 2, 58), (1, 0, v1), (2, 0, v2), (3, 0, v3), (4, 0, v4)] [] m (fun r m1 => gh_F m1 ∧ Q r m1)) (fun _ _ => gh_F m) (fun K86 v2 v4 hK hF h => b_Proper_countUseful_86 d hK72 hK v2 v4 hF h) v2 0 hF h
  · have h := hB c2209
    refine gh_aload_n gd_Proper_countUseful_149 0 rfl (by decide) ?_
    refine gh_iconst gd_Proper_countUseful_150 (gh_r0 rfl) ?_
    refine pf_58_3 gd_Proper_countUseful_151 gh_k596 hF (fun hF => ?_)
    refine gh_aload_n gd_Proper_countUseful_154 0 rfl (by decide) ?_
    refine gh_iconst gd_Proper_countUseful_155 (gh_r0 rfl) ?_
    refine pf_58_4 gd_Proper_countUseful_156 gh_k598 hF (fun hF => ?_)
    refine gh_aload_n gd_Proper_countUseful_159 0 rfl (by decide) ?_
    refine gh_iconst gd_Proper_countUseful_160 (gh_r0 rfl) ?_
    refine pf_58_5 gd_Proper_countUseful_161 gh_k600 hF (fun hF => ?_)
    refine gh_iconst gd_Proper_countUseful_164 (gh_r0 rfl) ?_
    refine gh_istore_n (L2 := [(3, 0, 0), (0, 2, 58), (1, 0, v1), (2, 0, v2)]) gd_Proper_countUseful_165 (by decide) rfl ?_
    refine gh_pick (L2 := [(0, 2, 58), (1, 0, v1), (2, 0, v2), (3, 0, 0)]) [1, 2, 3, 0] rfl ?_
    exact gh_M1_sound (T := fun v3 m => gh_T E (gh_yProper_countUseful.cls, prog_8_method_7_code, 6, false, 9) (d + 1) 166 [(0, 2, 58), (1, 0, v1), (2, 0, v2), (3, 0, v3)] [] m (fun r m1 => gh_F m1 ∧ Q r m1)) (fun _ m => gh_F m) (fun K166 v3 m hK hF h => b_Proper_countUseful_166 d hK v3 m hF h) 0 (gh_u (gh_u (gh_u m 58 3 0) 58 4 0) 58 5 0) hF h
theorem b_Proper_countUseful_4 {E : gh_E} {Q : Int → gh_M → Prop} {K4 : Int → Int → Prop} (d : Nat) {m : gh_M} (hK : ∀ (v1 : Int) (v2 : Int), gh_F m → K4 v1 v2 → gh_T E (gh_yProper_countUseful.cls, prog_8_method_7_code, 6, false, 9) (d + 1) 4 [(0, 2, 58), (1, 0, v1), (2, 0, v2)] [] m (fun r m1 => gh_F m1 ∧ Q r m1)) (v1 : Int) (v2 : Int) (hF : gh_F m) (h : f_Proper_countUseful_4 Q m K4 v1 v2) : gh_T E (gh_yProper_countUseful.cls, prog_8_method_7_code, 6, false, 9) (d + 1) 4 [(0, 2, 58), (1, 0, v1), (2, 0, v2)] [] m (fun r m1 => gh_F m1 ∧ Q r m1) := by
  have hK4 := hK
  unfold f_Proper_countUseful_4 at h
  refine gh_iload_n gd_Proper_countUseful_4 2 rfl ?_
  refine gh_aload_n gd_Proper_countUseful_5 0 rfl (by decide) ?_
  refine gf_58_0 gd_Proper_countUseful_6 gh_k592 hF ?_
  refine gf_13_1 gd_Proper_countUseful_9 gh_k261 hF rfl ?_
  obtain ⟨hA, hB⟩ := h
  refine gh_jge (tgt := 66) gd_Proper_countUseful_12 (by decide) (fun c2196 => ?_) (fun c2196 => ?_)
  · have h := hA c2196
    refine gh_iconst gd_Proper_countUseful_15 (gh_r0 rfl) ?_
    refine gh_istore_n (L2 := [(3, 0, 0), (0, 2, 58), (1, 0, v1), (2, 0, v2)]) gd_Proper_countUseful_16 (by decide) rfl ?_
    refine gh_pick (L2 := [(0, 2, 58), (1, 0, v1), (2, 0, v2), (3, 0, 0)]) [1, 2, 3, 0] rfl ?_
    exact gh_L2_sound (T := fun v1 v3 => gh_T E (gh_yProper_countUseful.cls, prog_8_method_7_code, 6, false, 9) (d + 1) 17 [(0, 2, 58), (1, 0, v1), (2, 0, v2), (3, 0, v3)] [] m (fun r m1 => gh_F m1 ∧ Q r m1)) (fun _ _ => gh_F m) (fun K17 v1 v3 hK hF h => b_Proper_countUseful_17 d hK4 hK v1 v3 hF h) v1 0 hF h
  · have h := hB c2196
    refine gh_iload_n gd_Proper_countUseful_66 1 rfl ?_
    refine gh_iconst gd_Proper_countUseful_67 (gh_r0 rfl) ?_
    refine gh_iand gd_Proper_countUseful_68 ?_
    refine gh_name (fun v2' hn => ?_)
    have h := h v2' hn
    refine gh_istore_n (L2 := [(2, 0, v2'), (0, 2, 58), (1, 0, v1)]) gd_Proper_countUseful_69 (by decide) rfl ?_
    refine gh_iconst gd_Proper_countUseful_70 (gh_r0 rfl) ?_
    refine gh_istore_n (L2 := [(3, 0, 0), (2, 0, v2'), (0, 2, 58), (1, 0, v1)]) gd_Proper_countUseful_71 (by decide) rfl ?_
    refine gh_pick (L2 := [(0, 2, 58), (1, 0, v1), (2, 0, v2'), (3, 0, 0)]) [2, 3, 1, 0] rfl ?_
    exact gh_L2_sound (T := fun v2 v3 => gh_T E (gh_yProper_countUseful.cls, prog_8_method_7_code, 6, false, 9) (d + 1) 72 [(0, 2, 58), (1, 0, v1), (2, 0, v2), (3, 0, v3)] [] m (fun r m1 => gh_F m1 ∧ Q r m1)) (fun _ _ => gh_F m) (fun K72 v2 v3 hK hF h => b_Proper_countUseful_72 d hK v2 v3 hF h) v2' 0 hF h
theorem s_Proper_countUseful {E : gh_E} {m : gh_M} {Q : Int → gh_M → Prop} (d : Nat) (hF : gh_F m) (h : w_Proper_countUseful m Q) : gh_C E gh_yProper_countUseful prog_8_method_7_code 6 none 9 (d + 1) [(2, 58)] m (fun r m1 => gh_F m1 ∧ Q r m1) := by
  refine gh_enter2 (L := [(0, 2, 58)]) (by decide +kernel) gh_rt9 (Nat.le_of_ble_eq_true rfl) rfl rfl ?_
  unfold w_Proper_countUseful at h
  refine gh_iconst gd_Proper_countUseful_0 (gh_r0 rfl) ?_
  refine gh_istore_n (L2 := [(1, 0, 0), (0, 2, 58)]) gd_Proper_countUseful_1 (by decide) rfl ?_
  refine gh_iconst gd_Proper_countUseful_2 (gh_r0 rfl) ?_
  refine gh_istore_n (L2 := [(2, 0, 0), (1, 0, 0), (0, 2, 58)]) gd_Proper_countUseful_3 (by decide) rfl ?_
  refine gh_pick (L2 := [(0, 2, 58), (1, 0, 0), (2, 0, 0)]) [2, 1, 0] rfl ?_
  exact gh_L2_sound (T := fun v1 v2 => gh_T E (gh_yProper_countUseful.cls, prog_8_method_7_code, 6, false, 9) (d + 1) 4 [(0, 2, 58), (1, 0, v1), (2, 0, v2)] [] m (fun r m1 => gh_F m1 ∧ Q r m1)) (fun _ _ => gh_F m) (fun K4 v1 v2 hK hF h => b_Proper_countUseful_4 d hK v1 v2 hF h) 0 0 hF h
def f_Proper_find_33 (Q : Int → gh_M → Prop) (K33 : Int → gh_M → Prop) (v1 : Int) (m : gh_M) : Prop := ((v1 < (m 13 2) → ∃ J82 : gh_M → Prop, (∀ (m : gh_M), J82 m → gh_i (v1 + 1) ∧ K33 (v1 + 1) m) ∧ (((p_Facts_isUsefulRule v1 m) → (0 ≤ v1 ∧ v1 < 20))) ∧ (((¬ (p_Facts_isUsefulRule v1 m) ∨ ((gh_iand_f (gh_ishr_f (m 20 4) (m 16 v1)) 1) = 0)) → J82 m) ∧ (¬ (¬ (p_Facts_isUsefulRule v1 m) ∨ ((gh_iand_f (gh_ishr_f (m 20 4) (m 16 v1)) 1) = 0)) → w_Proper_addRows v1 m (fun _ m2249 => J82 m2249)))) ∧ (¬ (v1 < (m 13 2)) → w_Proper_shareRows m (fun _ m2253 => w_Proper_countUseful m2253 (fun _ m2255 => Q 0 m2255))))
def w_Proper_find (m : gh_M) (Q : Int → gh_M → Prop) : Prop := (((m 58 2) = 0 → gh_M1 (fun K33 v1 m => f_Proper_find_33 Q K33 v1 m) 0 (gh_fil (gh_u (gh_u (gh_u m 58 2 1) 58 7 0) 58 10 0) 62 8 0)) ∧ (¬ ((m 58 2) = 0) → Q 0 m))
theorem b_Proper_find_33 {E : gh_E} {Q : Int → gh_M → Prop} {K33 : Int → gh_M → Prop} (d : Nat) (hK : ∀ (v1 : Int) (m : gh_M), gh_F m → K33 v1 m → gh_T E (gh_yProper_find.cls, prog_8_method_2_code, 2, false, 9) (d + 3) 33 [(0, 2, 58), (1, 0, v1)] [] m (fun r m1 => gh_F m1 ∧ Q r m1)) (v1 : Int) (m : gh_M) (hF : gh_F m) (h : f_Proper_find_33 Q K33 v1 m) : gh_T E (gh_yProper_find.cls, prog_8_method_2_code, 2, false, 9) (d + 3) 33 [(0, 2, 58), (1, 0, v1)] [] m (fun r m1 => gh_F m1 ∧ Q r m1) := by
  have hK33 := hK
  unfold f_Proper_find_33 at h
  refine gh_iload_n gd_Proper_find_33 1 rfl ?_
  refine gh_aload_n gd_Proper_find_34 0 rfl (by decide) ?_
  refine gf_58_0 gd_Proper_find_35 gh_k592 hF ?_
  refine gf_13_2 gd_Proper_find_38 gh_k264 hF rfl ?_
  obtain ⟨hA, hB⟩ := h
  refine gh_jge (tgt := 88) gd_Proper_find_41 (by decide) (fun c2242 => ?_) (fun c2242 => ?_)
  · have h := hA c2242
    refine gh_aload_n gd_Proper_find_44 0 rfl (by decide) ?_
    refine gf_58_1 gd_Proper_find_45 gh_k593 hF ?_
    refine gh_iload_n gd_Proper_find_48 1 rfl ?_
    refine cv_Facts_isUsefulRule (d := d + 2) gd_Proper_find_49 gh_k1311 hF (Nat.le_of_ble_eq_true rfl) (gh_C.pe (e_Facts_isUsefulRule (d + 2) v1 hF) ?_)
    obtain ⟨J82, hJ82, h⟩ := h
    have hJ82 : ∀ (m : gh_M), gh_F m → J82 m → gh_T E (gh_yProper_find.cls, prog_8_method_2_code, 2, false, 9) (d + 3) 82 [(0, 2, 58), (1, 0, v1)] [] m (fun r m1 => gh_F m1 ∧ Q r m1) := by
      intro m hF hj
      have h := hJ82 m hj
      obtain ⟨q2243, h⟩ := h
      refine gh_iinc (L2 := [(1, 0, v1 + 1), (0, 2, 58)]) gd_Proper_find_82 1 rfl q2243 (by decide) rfl ?_
      refine gh_goto (tgt := 33) gd_Proper_find_85 (by decide) ?_
      refine gh_pick (L2 := [(0, 2, 58), (1, 0, v1 + 1)]) [1, 0] rfl ?_
      exact hK33 (v1 + 1) m hF h
    obtain ⟨hk, hA, hB⟩ := h
    have k2246 : (¬ (p_Facts_isUsefulRule v1 m) ∨ ((gh_iand_f (gh_ishr_f (m 20 4) (m 16 v1)) 1) = 0)) → gh_T E (gh_yProper_find.cls, prog_8_method_2_code, 2, false, 9) (d + 3) 82 [(0, 2, 58), (1, 0, v1)] [] m (fun r m1 => gh_F m1 ∧ Q r m1) := by
      intro c
      have h := hA c
      exact hJ82 m hF h
    have k2247 : ¬ (¬ (p_Facts_isUsefulRule v1 m) ∨ ((gh_iand_f (gh_ishr_f (m 20 4) (m 16 v1)) 1) = 0)) → gh_T E (gh_yProper_find.cls, prog_8_method_2_code, 2, false, 9) (d + 3) 77 [(0, 2, 58), (1, 0, v1)] [] m (fun r m1 => gh_F m1 ∧ Q r m1) := by
      intro c
      have h := hB c
      refine gh_aload_n gd_Proper_find_77 0 rfl (by decide) ?_
      refine gh_iload_n gd_Proper_find_78 1 rfl ?_
      refine cv_Proper_addRows (d := d + 2) gd_Proper_find_79 gh_k1312 hF (Nat.le_of_ble_eq_true rfl) (gh_C.mono (s_Proper_addRows d v1 hF h) (fun r2248 m2249 hq => ?_))
      obtain ⟨hF, h⟩ := hq
      exact hJ82 m2249 hF h
    refine gh_beq (tgt := 82) gd_Proper_find_52 (by decide) (fun c2250 => ?_) (fun c2250 => ?_)
    · have hz : True := trivial
      have hk := hk c2250
      refine gh_aload_n gd_Proper_find_55 0 rfl (by decide) ?_
      refine gf_58_1 gd_Proper_find_56 gh_k593 hF ?_
      refine gf_20_4 gd_Proper_find_59 gh_k330 hF rfl ?_
      refine gh_aload_n gd_Proper_find_62 0 rfl (by decide) ?_
      refine gf_58_0 gd_Proper_find_63 gh_k592 hF ?_
      refine gf_13_5 gd_Proper_find_66 gh_k278 hF ?_
      refine gh_iload_n gd_Proper_find_69 1 rfl ?_
      obtain ⟨q2244, hk⟩ := hk
      have q2245 := hk
      refine la_16 gd_Proper_find_70 hF q2244 q2245 rfl ?_
      refine gh_ishr gd_Proper_find_71 ?_
      refine gh_iconst gd_Proper_find_72 (gh_r0 rfl) ?_
      refine gh_iand gd_Proper_find_73 ?_
      refine gh_zeq (tgt := 82) gd_Proper_find_74 (by decide) (fun c2251 => ?_) (fun c2251 => ?_)
      · have hz : True := trivial
        exact k2246 (Or.inr c2251)
      · have hz : True := trivial
        exact k2247 (fun z => z.elim (fun w => w c2250) c2251)
    · have hz : True := trivial
      exact k2246 (Or.inl c2250)
  · have h := hB c2242
    refine gh_aload_n gd_Proper_find_88 0 rfl (by decide) ?_
    refine cv_Proper_shareRows (d := d + 2) gd_Proper_find_89 gh_k1326 hF (Nat.le_of_ble_eq_true rfl) (gh_C.mono (s_Proper_shareRows (d + 1) hF h) (fun r2252 m2253 hq => ?_))
    obtain ⟨hF, h⟩ := hq
    refine gh_aload_n gd_Proper_find_92 0 rfl (by decide) ?_
    refine cv_Proper_countUseful (d := d + 2) gd_Proper_find_93 gh_k1331 hF (Nat.le_of_ble_eq_true rfl) (gh_C.mono (s_Proper_countUseful (d + 1) hF h) (fun r2254 m2255 hq => ?_))
    obtain ⟨hF, h⟩ := hq
    exact gh_ret9 rfl gd_Proper_find_96 ⟨hF, h⟩
theorem s_Proper_find {E : gh_E} {m : gh_M} {Q : Int → gh_M → Prop} (d : Nat) (hF : gh_F m) (h : w_Proper_find m Q) : gh_C E gh_yProper_find prog_8_method_2_code 2 none 9 (d + 3) [(2, 58)] m (fun r m1 => gh_F m1 ∧ Q r m1) := by
  refine gh_enter2 (L := [(0, 2, 58)]) (by decide +kernel) gh_rt9 (Nat.le_of_ble_eq_true rfl) rfl rfl ?_
  unfold w_Proper_find at h
  refine gh_aload_n gd_Proper_find_0 0 rfl (by decide) ?_
  refine gf_58_2 gd_Proper_find_1 gh_k594 hF rfl ?_
  obtain ⟨hA, hB⟩ := h
  refine gh_zeq (tgt := 8) gd_Proper_find_4 (by decide) (fun c2241 => ?_) (fun c2241 => ?_)
  · have h := hA c2241
    refine gh_aload_n gd_Proper_find_8 0 rfl (by decide) ?_
    refine gh_iconst gd_Proper_find_9 (gh_r0 rfl) ?_
    refine pf_58_2 gd_Proper_find_10 gh_k594 hF (by decide) (fun hF => ?_)
    refine gh_aload_n gd_Proper_find_13 0 rfl (by decide) ?_
    refine gh_iconst gd_Proper_find_14 (gh_r0 rfl) ?_
    refine pf_58_7 gd_Proper_find_15 gh_k603 hF (fun hF => ?_)
    refine gh_aload_n gd_Proper_find_18 0 rfl (by decide) ?_
    refine gh_iconst gd_Proper_find_19 (gh_r0 rfl) ?_
    refine pf_58_10 gd_Proper_find_20 gh_k606 hF (fun hF => ?_)
    refine gh_aload_n gd_Proper_find_23 0 rfl (by decide) ?_
    refine gf_58_11 gd_Proper_find_24 gh_k607 hF ?_
    refine gh_iconst gd_Proper_find_27 (gh_r0 rfl) ?_
    refine gh_fillF (d := d + 2) gd_Proper_find_28 gh_k1310 (ga_62 hF) (Nat.le_of_ble_eq_true rfl) hF gn_62 (by decide) (fun hF => ?_)
    refine gh_iconst gd_Proper_find_31 (gh_r0 rfl) ?_
    refine gh_istore_n (L2 := [(1, 0, 0), (0, 2, 58)]) gd_Proper_find_32 (by decide) rfl ?_
    refine gh_pick (L2 := [(0, 2, 58), (1, 0, 0)]) [1, 0] rfl ?_
    exact gh_M1_sound (T := fun v1 m => gh_T E (gh_yProper_find.cls, prog_8_method_2_code, 2, false, 9) (d + 3) 33 [(0, 2, 58), (1, 0, v1)] [] m (fun r m1 => gh_F m1 ∧ Q r m1)) (fun _ m => gh_F m) (fun K33 v1 m hK hF h => b_Proper_find_33 d hK v1 m hF h) 0 (gh_fil (gh_u (gh_u (gh_u m 58 2 1) 58 7 0) 58 10 0) 62 8 0) hF h
  · have h := hB c2241
    exact gh_ret9 rfl gd_Proper_find_7 ⟨hF, h⟩
def w_House_proper (v1 : Int) (m : gh_M) (Q : Int → gh_M → Prop) : Prop := (((¬ (v1 < 0) ∧ (v1 ≤ 2)) → (((m 2 10) = 0 → Q (-1003) m) ∧ (¬ ((m 2 10) = 0) → w_Proper_find m (fun _ m2260 => ((v1 = 0 → Q (m2260 58 3) m2260) ∧ ((v1 = 1 → Q (gh_pop (m2260 58 4)) m2260) ∧ (¬ (v1 = 0) → ¬ (v1 = 1) → Q (m2260 58 5) m2260))))))) ∧ (¬ (¬ (v1 < 0) ∧ (v1 ≤ 2)) → Q (-1002) m))
theorem s_House_proper {E : gh_E} {m : gh_M} {Q : Int → gh_M → Prop} (d : Nat) (v1 : Int) (hF : gh_F m) (h : w_House_proper v1 m Q) : gh_C E gh_yHouse_proper prog_1_method_30_code 2 (some .int) 0 (d + 4) [(2, 2), (0, v1)] m (fun r m1 => gh_F m1 ∧ Q r m1) := by
  refine gh_enter2 (L := [(0, 2, 2), (1, 0, v1)]) (by decide +kernel) gh_rt0 (Nat.le_of_ble_eq_true rfl) rfl rfl ?_
  unfold w_House_proper at h
  refine gh_iload_n gd_House_proper_0 1 rfl ?_
  obtain ⟨hA, hB⟩ := h
  have k2256 : (¬ (v1 < 0) ∧ (v1 ≤ 2)) → gh_T E (gh_yHouse_proper.cls, prog_1_method_30_code, 2, false, 0) (d + 4) 13 [(0, 2, 2), (1, 0, v1)] [] m (fun r m1 => gh_F m1 ∧ Q r m1) := by
    intro c
    have h := hA c
    refine gh_aload_n gd_House_proper_13 0 rfl (by decide) ?_
    refine gf_2_10 gd_House_proper_14 gh_k643 hF rfl ?_
    obtain ⟨hA, hB⟩ := h
    refine gh_zne (tgt := 24) gd_House_proper_17 (by decide) (fun c2258 => ?_) (fun c2258 => ?_)
    · have h := hA c2258
      refine gh_sipush gd_House_proper_20 (by decide) (gh_r0 rfl) ?_
      exact gh_ret0 rfl gd_House_proper_23 ⟨hF, h⟩
    · have h := hB c2258
      refine gh_aload_n gd_House_proper_24 0 rfl (by decide) ?_
      refine gf_2_9 gd_House_proper_25 gh_k642 hF ?_
      refine cv_Proper_find (d := d + 3) gd_House_proper_28 gh_k1306 hF (Nat.le_of_ble_eq_true rfl) (gh_C.mono (s_Proper_find d hF h) (fun r2259 m2260 hq => ?_))
      obtain ⟨hF, h⟩ := hq
      refine gh_iload_n gd_House_proper_31 1 rfl ?_
      obtain ⟨hA, h⟩ := h
      by_cases c2261 : v1 = 0
      · have h := hA c2261
        refine gh_lookup (tgt := 60) gd_House_proper_32 (by decide) (by rw [c2261]; decide) ?_
        refine gh_aload_n gd_House_proper_60 0 rfl (by decide) ?_
        refine gf_2_9 gd_House_proper_61 gh_k642 hF ?_
        refine gf_58_3 gd_House_proper_64 gh_k597 hF rfl ?_
        exact gh_ret0 rfl gd_House_proper_67 ⟨hF, h⟩
      obtain ⟨hA, h⟩ := h
      by_cases c2262 : v1 = 1
      · have h := hA c2262
        refine gh_lookup (tgt := 68) gd_House_proper_32 (by decide) (by rw [c2262]; decide) ?_
        refine gh_aload_n gd_House_proper_68 0 rfl (by decide) ?_
        refine gf_2_9 gd_House_proper_69 gh_k642 hF ?_
        refine gf_58_4 gd_House_proper_72 gh_k599 hF rfl ?_
        refine gh_pr_gh_pop gd_House_proper_75 gh_k1342 (Nat.le_of_ble_eq_true rfl) ?_
        exact gh_ret0 rfl gd_House_proper_78 ⟨hF, h⟩
      have n2263 : ¬ (v1 = 0) := c2261
      have n2264 : ¬ (v1 = 1) := c2262
      refine gh_lookup (tgt := 79) gd_House_proper_32 (by decide) (by simp [Op.lookupswitch.offset]; rw [if_neg (Ne.symm n2263), if_neg (Ne.symm n2264)]; rfl) ?_
      have h := h c2261 c2262
      refine gh_aload_n gd_House_proper_79 0 rfl (by decide) ?_
      refine gf_2_9 gd_House_proper_80 gh_k642 hF ?_
      refine gf_58_5 gd_House_proper_83 gh_k601 hF rfl ?_
      exact gh_ret0 rfl gd_House_proper_86 ⟨hF, h⟩
  have k2257 : ¬ (¬ (v1 < 0) ∧ (v1 ≤ 2)) → gh_T E (gh_yHouse_proper.cls, prog_1_method_30_code, 2, false, 0) (d + 4) 9 [(0, 2, 2), (1, 0, v1)] [] m (fun r m1 => gh_F m1 ∧ Q r m1) := by
    intro c
    have h := hB c
    refine gh_sipush gd_House_proper_9 (by decide) (gh_r0 rfl) ?_
    exact gh_ret0 rfl gd_House_proper_12 ⟨hF, h⟩
  refine gh_zlt (tgt := 9) gd_House_proper_1 (by decide) (fun c2265 => ?_) (fun c2265 => ?_)
  · have hz : True := trivial
    exact k2257 (fun z => z.1 c2265)
  · have hz : True := trivial
    refine gh_iload_n gd_House_proper_4 1 rfl ?_
    refine gh_iconst gd_House_proper_5 (gh_r0 rfl) ?_
    refine gh_jle (tgt := 13) gd_House_proper_6 (by decide) (fun c2266 => ?_) (fun c2266 => ?_)
    · have hz : True := trivial
      exact k2256 ⟨c2265, c2266⟩
    · have hz : True := trivial
      exact k2257 (fun z => c2266 z.2)
def w_House_properly (v1 : Int) (m : gh_M) (Q : Int → gh_M → Prop) : Prop := (((m 2 10) = 0 → Q (-1003) m) ∧ (¬ ((m 2 10) = 0) → ((p_House_isPlace v1 m → w_Chart_refresh m (fun _ m2270 => ((¬ (v1 ≤ 0) → (k_Chart_covers 0 0 v1))) ∧ Q (if (¬ (v1 ≤ 0) ∧ (p_Chart_covers 0 0 v1 m2270)) then (1:Int) else 0) m2270)) ∧ (¬ (p_House_isPlace v1 m) → Q (-1001) m))))
theorem s_House_properly {E : gh_E} {m : gh_M} {Q : Int → gh_M → Prop} (d : Nat) (v1 : Int) (hF : gh_F m) (h : w_House_properly v1 m Q) : gh_C E gh_yHouse_properly prog_1_method_31_code 2 (some .int) 0 (d + 6) [(2, 2), (0, v1)] m (fun r m1 => gh_F m1 ∧ Q r m1) := by
  refine gh_enter2 (L := [(0, 2, 2), (1, 0, v1)]) (by decide +kernel) gh_rt0 (Nat.le_of_ble_eq_true rfl) rfl rfl ?_
  unfold w_House_properly at h
  refine gh_aload_n gd_House_properly_0 0 rfl (by decide) ?_
  refine gf_2_10 gd_House_properly_1 gh_k643 hF rfl ?_
  obtain ⟨hA, hB⟩ := h
  refine gh_zne (tgt := 11) gd_House_properly_4 (by decide) (fun c2267 => ?_) (fun c2267 => ?_)
  · have h := hA c2267
    refine gh_sipush gd_House_properly_7 (by decide) (gh_r0 rfl) ?_
    exact gh_ret0 rfl gd_House_properly_10 ⟨hF, h⟩
  · have h := hB c2267
    refine gh_aload_n gd_House_properly_11 0 rfl (by decide) ?_
    refine gh_iload_n gd_House_properly_12 1 rfl ?_
    refine cv_House_isPlace (d := d + 5) gd_House_properly_13 gh_k1073 hF (Nat.le_of_ble_eq_true rfl) (gh_C.pe (e_House_isPlace (d + 5) v1 hF) ?_)
    obtain ⟨hA, hB⟩ := h
    refine gh_bne (tgt := 23) gd_House_properly_16 (by decide) (fun c2268 => ?_) (fun c2268 => ?_)
    · have h := hA c2268
      refine gh_aload_n gd_House_properly_23 0 rfl (by decide) ?_
      refine gf_2_5 gd_House_properly_24 gh_k638 hF ?_
      refine cv_Chart_refresh (d := d + 5) gd_House_properly_27 gh_k1077 hF (Nat.le_of_ble_eq_true rfl) (gh_C.mono (s_Chart_refresh d hF h) (fun r2269 m2270 hq => ?_))
      obtain ⟨hF, h⟩ := hq
      refine gh_iload_n gd_House_properly_30 1 rfl ?_
      obtain ⟨hk, h⟩ := h
      have k2272 : ∀ x2273 : Int, x2273 = (if (¬ (v1 ≤ 0) ∧ (p_Chart_covers 0 0 v1 m2270)) then (1:Int) else 0) → gh_T E (gh_yHouse_properly.cls, prog_1_method_31_code, 2, false, 0) (d + 6) 52 [(0, 2, 2), (1, 0, v1)] [(0, x2273)] m2270 (fun r m1 => gh_F m1 ∧ Q r m1) := by
        rintro _ rfl
        exact gh_ret0 rfl gd_House_properly_52 ⟨hF, h⟩
      refine gh_zle (tgt := 51) gd_House_properly_31 (by decide) (fun c2274 => ?_) (fun c2274 => ?_)
      · have hz : True := trivial
        refine gh_iconst gd_House_properly_51 (gh_r0 rfl) ?_
        exact k2272 _ (if_neg (c := (¬ (v1 ≤ 0) ∧ (p_Chart_covers 0 0 v1 m2270))) (fun z => z.1 c2274)).symm
      · have hz : True := trivial
        have hk := hk c2274
        refine gh_aload_n gd_House_properly_34 0 rfl (by decide) ?_
        refine gf_2_5 gd_House_properly_35 gh_k638 hF ?_
        refine gh_iconst gd_House_properly_38 (gh_r0 rfl) ?_
        refine gh_iconst gd_House_properly_39 (gh_r0 rfl) ?_
        refine gh_iload_n gd_House_properly_40 1 rfl ?_
        have q2271 := hk
        refine cv_Chart_covers (d := d + 5) gd_House_properly_41 gh_k1117 hF (Nat.le_of_ble_eq_true rfl) (gh_C.pe (e_Chart_covers (d + 5) 0 0 v1 hF q2271) ?_)
        refine gh_beq (tgt := 51) gd_House_properly_44 (by decide) (fun c2275 => ?_) (fun c2275 => ?_)
        · have hz : True := trivial
          refine gh_iconst gd_House_properly_47 (gh_r0 rfl) ?_
          refine gh_goto (tgt := 52) gd_House_properly_48 (by decide) ?_
          exact k2272 _ (if_pos (c := (¬ (v1 ≤ 0) ∧ (p_Chart_covers 0 0 v1 m2270))) ⟨c2274, c2275⟩).symm
        · have hz : True := trivial
          refine gh_iconst gd_House_properly_51 (gh_r0 rfl) ?_
          exact k2272 _ (if_neg (c := (¬ (v1 ≤ 0) ∧ (p_Chart_covers 0 0 v1 m2270))) (fun z => c2275 z.2)).symm
    · have h := hB c2268
      refine gh_sipush gd_House_properly_19 (by decide) (gh_r0 rfl) ?_
      exact gh_ret0 rfl gd_House_properly_22 ⟨hF, h⟩
def f_House_digest_87 (v3 : Int) (K73 : Int → Int → Prop) (m : gh_M) (K87 : Int → Int → Prop) (v1 : Int) (v4 : Int) : Prop := ((v4 ≤ 7 → w_House_name v3 v4 m (fun r2283 => ∀ v1' : Int, v1' = x_House_mix v1 r2283 → gh_i (v4 + 1) ∧ K87 v1' (v4 + 1))) ∧ (¬ (v4 ≤ 7) → 0 ≤ v3 ∧ v3 < 8 ∧ 0 ≤ v3 ∧ v3 < 8 ∧ ∀ v1' : Int, v1' = x_House_mix (x_House_mix v1 (m 22 v3)) (m 23 v3) → gh_i (v3 + 1) ∧ K73 v1' (v3 + 1)))
def f_House_digest_265 (Q : Int → gh_M → Prop) (K265 : Int → Int → gh_M → Prop) (v1 : Int) (v3 : Int) (m : gh_M) : Prop := ((v3 ≤ 2 → w_House_proper v3 m (fun r2308 m2309 => ∀ v1' : Int, v1' = x_House_mix v1 r2308 → gh_i (v3 + 1) ∧ K265 v1' (v3 + 1) m2309)) ∧ (¬ (v3 ≤ 2) → Q v1 m))
def f_House_digest_231 (Q : Int → gh_M → Prop) (m : gh_M) (K231 : Int → Int → Prop) (v1 : Int) (v3 : Int) : Prop := ((v3 < (m 47 4) → 0 ≤ v3 ∧ v3 < 300 ∧ ∀ v1' : Int, v1' = x_House_mix v1 (m 48 v3) → gh_i (v3 + 1) ∧ K231 v1' (v3 + 1)) ∧ (¬ (v3 < (m 47 4)) → gh_M2 (fun K265 v1 v3 m => f_House_digest_265 Q K265 v1 v3 m) v1 0 m))
def f_House_digest_183 (Q : Int → gh_M → Prop) (K183 : Int → Int → gh_M → Prop) (v1 : Int) (v3 : Int) (m : gh_M) : Prop := ((v3 ≤ (m 26 3) → w_House_next v3 m (fun r2296 m2297 => w_House_items v3 m2297 (fun r2298 m2299 => w_House_end v3 m2299 (fun r2300 m2301 => ∀ v1' : Int, v1' = x_House_mix (x_House_mix (x_House_mix v1 r2296) r2298) r2300 → gh_i (v3 + 1) ∧ K183 v1' (v3 + 1) m2301)))) ∧ (¬ (v3 ≤ (m 26 3)) → gh_L2 (fun K231 v1 v3 => f_House_digest_231 Q m K231 v1 v3) v1 0))
def f_House_digest_149 (Q : Int → gh_M → Prop) (m : gh_M) (K149 : Int → Int → Prop) (v1 : Int) (v3 : Int) : Prop := ((v3 < (m 26 3) → 0 ≤ v3 ∧ v3 < 8 ∧ ∀ v1' : Int, v1' = x_House_mix v1 (m 27 v3) → gh_i (v3 + 1) ∧ K149 v1' (v3 + 1)) ∧ (¬ (v3 < (m 26 3)) → gh_M2 (fun K183 v1 v3 m => f_House_digest_183 Q K183 v1 v3 m) v1 0 m))
def f_House_digest_73 (Q : Int → gh_M → Prop) (m : gh_M) (K73 : Int → Int → Prop) (v1 : Int) (v3 : Int) : Prop := ((v3 < (m 13 1) → gh_L2 (fun K87 v1 v4 => f_House_digest_87 v3 K73 m K87 v1 v4) v1 0) ∧ (¬ (v3 < (m 13 1)) → gh_L2 (fun K149 v1 v3 => f_House_digest_149 Q m K149 v1 v3) v1 0))
def f_House_digest_48 (Q : Int → gh_M → Prop) (m : gh_M) (K48 : Int → Int → Prop) (v1 : Int) (v3 : Int) : Prop := ((v3 ≤ 6 → w_House_sum v3 m (fun r2278 => ∀ v1' : Int, v1' = x_House_mix v1 r2278 → gh_i (v3 + 1) ∧ K48 v1' (v3 + 1))) ∧ (¬ (v3 ≤ 6) → gh_L2 (fun K73 v1 v3 => f_House_digest_73 Q m K73 v1 v3) v1 0))
def w_House_digest (m : gh_M) (Q : Int → gh_M → Prop) : Prop := ∀ v1 : Int, v1 = x_House_mix (x_House_mix (x_House_mix 17 (m 3 1)) (m 5 1)) (m 5 2) → (((m 2 10) = 0 → Q v1 m) ∧ (¬ ((m 2 10) = 0) → gh_L2 (fun K48 v1 v3 => f_House_digest_48 Q m K48 v1 v3) v1 0))
theorem b_House_digest_87 {E : gh_E} {v3 : Int} {K73 : Int → Int → Prop} {Q : Int → gh_M → Prop} {K87 : Int → Int → Prop} (d : Nat) {m : gh_M} (hK73 : ∀ (v1 : Int) (v3 : Int), gh_F m → K73 v1 v3 → gh_T E (gh_yHouse_digest.cls, prog_1_method_32_code, 5, false, 1) (d + 7) 73 [(0, 2, 2), (1, 1, v1), (3, 0, v3)] [] m (fun r m1 => gh_F m1 ∧ Q r m1)) (hK : ∀ (v1 : Int) (v4 : Int), gh_F m → K87 v1 v4 → gh_T E (gh_yHouse_digest.cls, prog_1_method_32_code, 5, false, 1) (d + 7) 87 [(0, 2, 2), (1, 1, v1), (3, 0, v3), (4, 0, v4)] [] m (fun r m1 => gh_F m1 ∧ Q r m1)) (v1 : Int) (v4 : Int) (hF : gh_F m) (h : f_House_digest_87 v3 K73 m K87 v1 v4) : gh_T E (gh_yHouse_digest.cls, prog_1_method_32_code, 5, false, 1) (d + 7) 87 [(0, 2, 2), (1, 1, v1), (3, 0, v3), (4, 0, v4)] [] m (fun r m1 => gh_F m1 ∧ Q r m1) := by
  have hK87 := hK
  unfold f_House_digest_87 at h
  refine gh_iload gd_House_digest_87 3 rfl ?_
  refine gh_bipush gd_House_digest_89 (by decide) (gh_r0 rfl) ?_
  obtain ⟨hA, hB⟩ := h
  refine gh_jgt (tgt := 113) gd_House_digest_91 (by decide) (fun c2282 => ?_) (fun c2282 => ?_)
  · have h := hA c2282
    refine gh_lload_n gd_House_digest_94 1 rfl ?_
    refine gh_aload_n gd_House_digest_95 0 rfl (by decide) ?_
    refine gh_iload_n gd_House_digest_96 2 rfl ?_
    refine gh_iload gd_House_digest_97 3 rfl ?_
    refine cv_House_name (d := d + 6) gd_House_digest_99 gh_k1357 hF (Nat.le_of_ble_eq_true rfl) (gh_C.pw (s_House_name (d + 5) v3 v4 hF h) (fun r2283 h => ?_))
    refine gh_i2l gd_House_digest_102 ?_
    refine cv_House_mix (d := d + 6) gd_House_digest_103 gh_k1352 (Nat.le_of_ble_eq_true rfl) (gh_C.pe (e_House_mix (d + 6) v1 r2283) ?_)
    refine gh_name (fun v1' hn => ?_)
    have h := h v1' hn
    refine gh_lstore_n (L2 := [(1, 1, v1'), (0, 2, 2), (3, 0, v3), (4, 0, v4)]) gd_House_digest_106 (by decide) rfl ?_
    obtain ⟨q2285, h⟩ := h
    refine gh_iinc (L2 := [(4, 0, v4 + 1), (1, 1, v1'), (0, 2, 2), (3, 0, v3)]) gd_House_digest_107 3 rfl q2285 (by decide) rfl ?_
    refine gh_goto (tgt := 87) gd_House_digest_110 (by decide) ?_
    refine gh_pick (L2 := [(0, 2, 2), (1, 1, v1'), (3, 0, v3), (4, 0, v4 + 1)]) [2, 1, 3, 0] rfl ?_
    exact hK87 v1' (v4 + 1) hF h
  · have h := hB c2282
    refine gh_lload_n gd_House_digest_113 1 rfl ?_
    refine gh_aload_n gd_House_digest_114 0 rfl (by decide) ?_
    refine gf_2_3 gd_House_digest_115 gh_k636 hF ?_
    refine gf_20_7 gd_House_digest_118 gh_k338 hF ?_
    refine gh_iload_n gd_House_digest_121 2 rfl ?_
    obtain ⟨q2286, h⟩ := h
    obtain ⟨q2287, h⟩ := h
    refine la_22 gd_House_digest_122 hF q2286 q2287 rfl ?_
    refine gh_i2l gd_House_digest_123 ?_
    refine cv_House_mix (d := d + 6) gd_House_digest_124 gh_k1352 (Nat.le_of_ble_eq_true rfl) (gh_C.pe (e_House_mix (d + 6) v1 (m 22 v3)) ?_)
    refine gh_aload_n gd_House_digest_127 0 rfl (by decide) ?_
    refine gf_2_3 gd_House_digest_128 gh_k636 hF ?_
    refine gf_20_8 gd_House_digest_131 gh_k340 hF ?_
    refine gh_iload_n gd_House_digest_134 2 rfl ?_
    obtain ⟨q2288, h⟩ := h
    obtain ⟨q2289, h⟩ := h
    refine la_23 gd_House_digest_135 hF q2288 q2289 rfl ?_
    refine gh_i2l gd_House_digest_136 ?_
    refine cv_House_mix (d := d + 6) gd_House_digest_137 gh_k1352 (Nat.le_of_ble_eq_true rfl) (gh_C.pe (e_House_mix (d + 6) (x_House_mix v1 (m 22 v3)) (m 23 v3)) ?_)
    refine gh_name (fun v1' hn => ?_)
    have h := h v1' hn
    refine gh_lstore_n (L2 := [(1, 1, v1'), (0, 2, 2), (3, 0, v3), (4, 0, v4)]) gd_House_digest_140 (by decide) rfl ?_
    obtain ⟨q2290, h⟩ := h
    refine gh_iinc (L2 := [(3, 0, v3 + 1), (1, 1, v1'), (0, 2, 2), (4, 0, v4)]) gd_House_digest_141 2 rfl q2290 (by decide) rfl ?_
    refine gh_goto (tgt := 73) gd_House_digest_144 (by decide) ?_
    refine gh_pick (L2 := [(0, 2, 2), (1, 1, v1'), (3, 0, v3 + 1)]) [2, 1, 0] rfl ?_
    exact hK73 v1' (v3 + 1) hF h
theorem b_House_digest_265 {E : gh_E} {Q : Int → gh_M → Prop} {K265 : Int → Int → gh_M → Prop} (d : Nat) (hK : ∀ (v1 : Int) (v3 : Int) (m : gh_M), gh_F m → K265 v1 v3 m → gh_T E (gh_yHouse_digest.cls, prog_1_method_32_code, 5, false, 1) (d + 7) 265 [(0, 2, 2), (1, 1, v1), (3, 0, v3)] [] m (fun r m1 => gh_F m1 ∧ Q r m1)) (v1 : Int) (v3 : Int) (m : gh_M) (hF : gh_F m) (h : f_House_digest_265 Q K265 v1 v3 m) : gh_T E (gh_yHouse_digest.cls, prog_1_method_32_code, 5, false, 1) (d + 7) 265 [(0, 2, 2), (1, 1, v1), (3, 0, v3)] [] m (fun r m1 => gh_F m1 ∧ Q r m1) := by
  have hK265 := hK
  unfold f_House_digest_265 at h
  refine gh_iload_n gd_House_digest_265 2 rfl ?_
  refine gh_iconst gd_House_digest_266 (gh_r0 rfl) ?_
  obtain ⟨hA, hB⟩ := h
  refine gh_jgt (tgt := 287) gd_House_digest_267 (by decide) (fun c2307 => ?_) (fun c2307 => ?_)
  · have h := hA c2307
    refine gh_lload_n gd_House_digest_270 1 rfl ?_
    refine gh_aload_n gd_House_digest_271 0 rfl (by decide) ?_
    refine gh_iload_n gd_House_digest_272 2 rfl ?_
    refine cv_House_proper (d := d + 6) gd_House_digest_273 gh_k1361 hF (Nat.le_of_ble_eq_true rfl) (gh_C.mono (s_House_proper (d + 2) v3 hF h) (fun r2308 m2309 hq => ?_))
    obtain ⟨hF, h⟩ := hq
    refine gh_i2l gd_House_digest_276 ?_
    refine cv_House_mix (d := d + 6) gd_House_digest_277 gh_k1352 (Nat.le_of_ble_eq_true rfl) (gh_C.pe (e_House_mix (d + 6) v1 r2308) ?_)
    refine gh_name (fun v1' hn => ?_)
    have h := h v1' hn
    refine gh_lstore_n (L2 := [(1, 1, v1'), (0, 2, 2), (3, 0, v3)]) gd_House_digest_280 (by decide) rfl ?_
    obtain ⟨q2310, h⟩ := h
    refine gh_iinc (L2 := [(3, 0, v3 + 1), (1, 1, v1'), (0, 2, 2)]) gd_House_digest_281 2 rfl q2310 (by decide) rfl ?_
    refine gh_goto (tgt := 265) gd_House_digest_284 (by decide) ?_
    refine gh_pick (L2 := [(0, 2, 2), (1, 1, v1'), (3, 0, v3 + 1)]) [2, 1, 0] rfl ?_
    exact hK265 v1' (v3 + 1) m2309 hF h
  · have h := hB c2307
    refine gh_lload_n gd_House_digest_287 1 rfl ?_
    exact gh_ret1 rfl gd_House_digest_288 ⟨hF, h⟩
theorem b_House_digest_231 {E : gh_E} {Q : Int → gh_M → Prop} {K231 : Int → Int → Prop} (d : Nat) {m : gh_M} (hK : ∀ (v1 : Int) (v3 : Int), gh_F m → K231 v1 v3 → gh_T E (gh_yHouse_digest.cls, prog_1_method_32_code, 5, false, 1) (d + 7) 231 [(0, 2, 2), (1, 1, v1), (3, 0, v3)] [] m (fun r m1 => gh_F m1 ∧ Q r m1)) (v1 : Int) (v3 : Int) (hF : gh_F m) (h : f_House_digest_231 Q m K231 v1 v3) : gh_T E (gh_yHouse_digest.cls, prog_1_method_32_code, 5, false, 1) (d + 7) 231 [(0, 2, 2), (1, 1, v1), (3, 0, v3)] [] m (fun r m1 => gh_F m1 ∧ Q r m1) := by
  have hK231 := hK
  unfold f_House_digest_231 at h
  refine gh_iload_n gd_House_digest_231 2 rfl ?_
  refine gh_aload_n gd_House_digest_232 0 rfl (by decide) ?_
  refine gf_2_8 gd_House_digest_233 gh_k641 hF ?_
  refine gf_47_4 gd_House_digest_236 gh_k537 hF rfl ?_
  obtain ⟨hA, hB⟩ := h
  refine gh_jge (tgt := 263) gd_House_digest_239 (by decide) (fun c2303 => ?_) (fun c2303 => ?_)
  · have h := hA c2303
    refine gh_lload_n gd_House_digest_242 1 rfl ?_
    refine gh_aload_n gd_House_digest_243 0 rfl (by decide) ?_
    refine gf_2_8 gd_House_digest_244 gh_k641 hF ?_
    refine gf_47_3 gd_House_digest_247 gh_k535 hF ?_
    refine gh_iload_n gd_House_digest_250 2 rfl ?_
    obtain ⟨q2304, h⟩ := h
    obtain ⟨q2305, h⟩ := h
    refine la_48 gd_House_digest_251 hF q2304 q2305 rfl ?_
    refine gh_i2l gd_House_digest_252 ?_
    refine cv_House_mix (d := d + 6) gd_House_digest_253 gh_k1352 (Nat.le_of_ble_eq_true rfl) (gh_C.pe (e_House_mix (d + 6) v1 (m 48 v3)) ?_)
    refine gh_name (fun v1' hn => ?_)
    have h := h v1' hn
    refine gh_lstore_n (L2 := [(1, 1, v1'), (0, 2, 2), (3, 0, v3)]) gd_House_digest_256 (by decide) rfl ?_
    obtain ⟨q2306, h⟩ := h
    refine gh_iinc (L2 := [(3, 0, v3 + 1), (1, 1, v1'), (0, 2, 2)]) gd_House_digest_257 2 rfl q2306 (by decide) rfl ?_
    refine gh_goto (tgt := 231) gd_House_digest_260 (by decide) ?_
    refine gh_pick (L2 := [(0, 2, 2), (1, 1, v1'), (3, 0, v3 + 1)]) [2, 1, 0] rfl ?_
    exact hK231 v1' (v3 + 1) hF h
  · have h := hB c2303
    refine gh_iconst gd_House_digest_263 (gh_r0 rfl) ?_
    refine gh_istore_n (L2 := [(3, 0, 0), (0, 2, 2), (1, 1, v1)]) gd_House_digest_264 (by decide) rfl ?_
    refine gh_pick (L2 := [(0, 2, 2), (1, 1, v1), (3, 0, 0)]) [1, 2, 0] rfl ?_
    exact gh_M2_sound (T := fun v1 v3 m => gh_T E (gh_yHouse_digest.cls, prog_1_method_32_code, 5, false, 1) (d + 7) 265 [(0, 2, 2), (1, 1, v1), (3, 0, v3)] [] m (fun r m1 => gh_F m1 ∧ Q r m1)) (fun _ _ m => gh_F m) (fun K265 v1 v3 m hK hF h => b_House_digest_265 d hK v1 v3 m hF h) v1 0 m hF h
theorem b_House_digest_183 {E : gh_E} {Q : Int → gh_M → Prop} {K183 : Int → Int → gh_M → Prop} (d : Nat) (hK : ∀ (v1 : Int) (v3 : Int) (m : gh_M), gh_F m → K183 v1 v3 m → gh_T E (gh_yHouse_digest.cls, prog_1_method_32_code, 5, false, 1) (d + 7) 183 [(0, 2, 2), (1, 1, v1), (3, 0, v3)] [] m (fun r m1 => gh_F m1 ∧ Q r m1)) (v1 : Int) (v3 : Int) (m : gh_M) (hF : gh_F m) (h : f_House_digest_183 Q K183 v1 v3 m) : gh_T E (gh_yHouse_digest.cls, prog_1_method_32_code, 5, false, 1) (d + 7) 183 [(0, 2, 2), (1, 1, v1), (3, 0, v3)] [] m (fun r m1 => gh_F m1 ∧ Q r m1) := by
  have hK183 := hK
  unfold f_House_digest_183 at h
  refine gh_iload_n gd_House_digest_183 2 rfl ?_
  refine gh_aload_n gd_House_digest_184 0 rfl (by decide) ?_
  refine gf_2_4 gd_House_digest_185 gh_k637 hF ?_
  refine gf_26_3 gd_House_digest_188 gh_k381 hF rfl ?_
  obtain ⟨hA, hB⟩ := h
  refine gh_jgt (tgt := 229) gd_House_digest_191 (by decide) (fun c2295 => ?_) (fun c2295 => ?_)
  · have h := hA c2295
    refine gh_lload_n gd_House_digest_194 1 rfl ?_
    refine gh_aload_n gd_House_digest_195 0 rfl (by decide) ?_
    refine gh_iload_n gd_House_digest_196 2 rfl ?_
    refine cv_House_next (d := d + 6) gd_House_digest_197 gh_k1358 hF (Nat.le_of_ble_eq_true rfl) (gh_C.mono (s_House_next d v3 hF h) (fun r2296 m2297 hq => ?_))
    obtain ⟨hF, h⟩ := hq
    refine gh_i2l gd_House_digest_200 ?_
    refine cv_House_mix (d := d + 6) gd_House_digest_201 gh_k1352 (Nat.le_of_ble_eq_true rfl) (gh_C.pe (e_House_mix (d + 6) v1 r2296) ?_)
    refine gh_aload_n gd_House_digest_204 0 rfl (by decide) ?_
    refine gh_iload_n gd_House_digest_205 2 rfl ?_
    refine cv_House_items (d := d + 6) gd_House_digest_206 gh_k1359 hF (Nat.le_of_ble_eq_true rfl) (gh_C.mono (s_House_items d v3 hF h) (fun r2298 m2299 hq => ?_))
    obtain ⟨hF, h⟩ := hq
    refine gh_i2l gd_House_digest_209 ?_
    refine cv_House_mix (d := d + 6) gd_House_digest_210 gh_k1352 (Nat.le_of_ble_eq_true rfl) (gh_C.pe (e_House_mix (d + 6) (x_House_mix v1 r2296) r2298) ?_)
    refine gh_aload_n gd_House_digest_213 0 rfl (by decide) ?_
    refine gh_iload_n gd_House_digest_214 2 rfl ?_
    refine cv_House_end (d := d + 6) gd_House_digest_215 gh_k1360 hF (Nat.le_of_ble_eq_true rfl) (gh_C.mono (s_House_end d v3 hF h) (fun r2300 m2301 hq => ?_))
    obtain ⟨hF, h⟩ := hq
    refine gh_i2l gd_House_digest_218 ?_
    refine cv_House_mix (d := d + 6) gd_House_digest_219 gh_k1352 (Nat.le_of_ble_eq_true rfl) (gh_C.pe (e_House_mix (d + 6) (x_House_mix (x_House_mix v1 r2296) r2298) r2300) ?_)
    refine gh_name (fun v1' hn => ?_)
    have h := h v1' hn
    refine gh_lstore_n (L2 := [(1, 1, v1'), (0, 2, 2), (3, 0, v3)]) gd_House_digest_222 (by decide) rfl ?_
    obtain ⟨q2302, h⟩ := h
    refine gh_iinc (L2 := [(3, 0, v3 + 1), (1, 1, v1'), (0, 2, 2)]) gd_House_digest_223 2 rfl q2302 (by decide) rfl ?_
    refine gh_goto (tgt := 183) gd_House_digest_226 (by decide) ?_
    refine gh_pick (L2 := [(0, 2, 2), (1, 1, v1'), (3, 0, v3 + 1)]) [2, 1, 0] rfl ?_
    exact hK183 v1' (v3 + 1) m2301 hF h
  · have h := hB c2295
    refine gh_iconst gd_House_digest_229 (gh_r0 rfl) ?_
    refine gh_istore_n (L2 := [(3, 0, 0), (0, 2, 2), (1, 1, v1)]) gd_House_digest_230 (by decide) rfl ?_
    refine gh_pick (L2 := [(0, 2, 2), (1, 1, v1), (3, 0, 0)]) [1, 2, 0] rfl ?_
    exact gh_L2_sound (T := fun v1 v3 => gh_T E (gh_yHouse_digest.cls, prog_1_method_32_code, 5, false, 1) (d + 7) 231 [(0, 2, 2), (1, 1, v1), (3, 0, v3)] [] m (fun r m1 => gh_F m1 ∧ Q r m1)) (fun _ _ => gh_F m) (fun K231 v1 v3 hK hF h => b_House_digest_231 d hK v1 v3 hF h) v1 0 hF h
theorem b_House_digest_149 {E : gh_E} {Q : Int → gh_M → Prop} {K149 : Int → Int → Prop} (d : Nat) {m : gh_M} (hK : ∀ (v1 : Int) (v3 : Int), gh_F m → K149 v1 v3 → gh_T E (gh_yHouse_digest.cls, prog_1_method_32_code, 5, false, 1) (d + 7) 149 [(0, 2, 2), (1, 1, v1), (3, 0, v3)] [] m (fun r m1 => gh_F m1 ∧ Q r m1)) (v1 : Int) (v3 : Int) (hF : gh_F m) (h : f_House_digest_149 Q m K149 v1 v3) : gh_T E (gh_yHouse_digest.cls, prog_1_method_32_code, 5, false, 1) (d + 7) 149 [(0, 2, 2), (1, 1, v1), (3, 0, v3)] [] m (fun r m1 => gh_F m1 ∧ Q r m1) := by
  have hK149 := hK
  unfold f_House_digest_149 at h
  refine gh_iload_n gd_House_digest_149 2 rfl ?_
  refine gh_aload_n gd_House_digest_150 0 rfl (by decide) ?_
  refine gf_2_4 gd_House_digest_151 gh_k637 hF ?_
  refine gf_26_3 gd_House_digest_154 gh_k381 hF rfl ?_
  obtain ⟨hA, hB⟩ := h
  refine gh_jge (tgt := 181) gd_House_digest_157 (by decide) (fun c2291 => ?_) (fun c2291 => ?_)
  · have h := hA c2291
    refine gh_lload_n gd_House_digest_160 1 rfl ?_
    refine gh_aload_n gd_House_digest_161 0 rfl (by decide) ?_
    refine gf_2_4 gd_House_digest_162 gh_k637 hF ?_
    refine gf_26_2 gd_House_digest_165 gh_k377 hF ?_
    refine gh_iload_n gd_House_digest_168 2 rfl ?_
    obtain ⟨q2292, h⟩ := h
    obtain ⟨q2293, h⟩ := h
    refine la_27 gd_House_digest_169 hF q2292 q2293 rfl ?_
    refine gh_i2l gd_House_digest_170 ?_
    refine cv_House_mix (d := d + 6) gd_House_digest_171 gh_k1352 (Nat.le_of_ble_eq_true rfl) (gh_C.pe (e_House_mix (d + 6) v1 (m 27 v3)) ?_)
    refine gh_name (fun v1' hn => ?_)
    have h := h v1' hn
    refine gh_lstore_n (L2 := [(1, 1, v1'), (0, 2, 2), (3, 0, v3)]) gd_House_digest_174 (by decide) rfl ?_
    obtain ⟨q2294, h⟩ := h
    refine gh_iinc (L2 := [(3, 0, v3 + 1), (1, 1, v1'), (0, 2, 2)]) gd_House_digest_175 2 rfl q2294 (by decide) rfl ?_
    refine gh_goto (tgt := 149) gd_House_digest_178 (by decide) ?_
    refine gh_pick (L2 := [(0, 2, 2), (1, 1, v1'), (3, 0, v3 + 1)]) [2, 1, 0] rfl ?_
    exact hK149 v1' (v3 + 1) hF h
  · have h := hB c2291
    refine gh_iconst gd_House_digest_181 (gh_r0 rfl) ?_
    refine gh_istore_n (L2 := [(3, 0, 0), (0, 2, 2), (1, 1, v1)]) gd_House_digest_182 (by decide) rfl ?_
    refine gh_pick (L2 := [(0, 2, 2), (1, 1, v1), (3, 0, 0)]) [1, 2, 0] rfl ?_
    exact gh_M2_sound (T := fun v1 v3 m => gh_T E (gh_yHouse_digest.cls, prog_1_method_32_code, 5, false, 1) (d + 7) 183 [(0, 2, 2), (1, 1, v1), (3, 0, v3)] [] m (fun r m1 => gh_F m1 ∧ Q r m1)) (fun _ _ m => gh_F m) (fun K183 v1 v3 m hK hF h => b_House_digest_183 d hK v1 v3 m hF h) v1 0 m hF h
theorem b_House_digest_73 {E : gh_E} {Q : Int → gh_M → Prop} {K73 : Int → Int → Prop} (d : Nat) {m : gh_M} (hK : ∀ (v1 : Int) (v3 : Int), gh_F m → K73 v1 v3 → gh_T E (gh_yHouse_digest.cls, prog_1_method_32_code, 5, false, 1) (d + 7) 73 [(0, 2, 2), (1, 1, v1), (3, 0, v3)] [] m (fun r m1 => gh_F m1 ∧ Q r m1)) (v1 : Int) (v3 : Int) (hF : gh_F m) (h : f_House_digest_73 Q m K73 v1 v3) : gh_T E (gh_yHouse_digest.cls, prog_1_method_32_code, 5, false, 1) (d + 7) 73 [(0, 2, 2), (1, 1, v1), (3, 0, v3)] [] m (fun r m1 => gh_F m1 ∧ Q r m1) := by
  have hK73 := hK
  unfold f_House_digest_73 at h
  refine gh_iload_n gd_House_digest_73 2 rfl ?_
  refine gh_aload_n gd_House_digest_74 0 rfl (by decide) ?_
  refine gf_2_2 gd_House_digest_75 gh_k635 hF ?_
  refine gf_13_1 gd_House_digest_78 gh_k262 hF rfl ?_
  obtain ⟨hA, hB⟩ := h
  refine gh_jge (tgt := 147) gd_House_digest_81 (by decide) (fun c2281 => ?_) (fun c2281 => ?_)
  · have h := hA c2281
    refine gh_iconst gd_House_digest_84 (gh_r0 rfl) ?_
    refine gh_istore (L2 := [(4, 0, 0), (0, 2, 2), (1, 1, v1), (3, 0, v3)]) gd_House_digest_85 (by decide) rfl ?_
    refine gh_pick (L2 := [(0, 2, 2), (1, 1, v1), (3, 0, v3), (4, 0, 0)]) [1, 2, 3, 0] rfl ?_
    exact gh_L2_sound (T := fun v1 v4 => gh_T E (gh_yHouse_digest.cls, prog_1_method_32_code, 5, false, 1) (d + 7) 87 [(0, 2, 2), (1, 1, v1), (3, 0, v3), (4, 0, v4)] [] m (fun r m1 => gh_F m1 ∧ Q r m1)) (fun _ _ => gh_F m) (fun K87 v1 v4 hK hF h => b_House_digest_87 d hK73 hK v1 v4 hF h) v1 0 hF h
  · have h := hB c2281
    refine gh_iconst gd_House_digest_147 (gh_r0 rfl) ?_
    refine gh_istore_n (L2 := [(3, 0, 0), (0, 2, 2), (1, 1, v1)]) gd_House_digest_148 (by decide) rfl ?_
    refine gh_pick (L2 := [(0, 2, 2), (1, 1, v1), (3, 0, 0)]) [1, 2, 0] rfl ?_
    exact gh_L2_sound (T := fun v1 v3 => gh_T E (gh_yHouse_digest.cls, prog_1_method_32_code, 5, false, 1) (d + 7) 149 [(0, 2, 2), (1, 1, v1), (3, 0, v3)] [] m (fun r m1 => gh_F m1 ∧ Q r m1)) (fun _ _ => gh_F m) (fun K149 v1 v3 hK hF h => b_House_digest_149 d hK v1 v3 hF h) v1 0 hF h
theorem b_House_digest_48 {E : gh_E} {Q : Int → gh_M → Prop} {K48 : Int → Int → Prop} (d : Nat) {m : gh_M} (hK : ∀ (v1 : Int) (v3 : Int), gh_F m → K48 v1 v3 → gh_T E (gh_yHouse_digest.cls, prog_1_method_32_code, 5, false, 1) (d + 7) 48 [(0, 2, 2), (1, 1, v1), (3, 0, v3)] [] m (fun r m1 => gh_F m1 ∧ Q r m1)) (v1 : Int) (v3 : Int) (hF : gh_F m) (h : f_House_digest_48 Q m K48 v1 v3) : gh_T E (gh_yHouse_digest.cls, prog_1_method_32_code, 5, false, 1) (d + 7) 48 [(0, 2, 2), (1, 1, v1), (3, 0, v3)] [] m (fun r m1 => gh_F m1 ∧ Q r m1) := by
  have hK48 := hK
  unfold f_House_digest_48 at h
  refine gh_iload_n gd_House_digest_48 2 rfl ?_
  refine gh_bipush gd_House_digest_49 (by decide) (gh_r0 rfl) ?_
  obtain ⟨hA, hB⟩ := h
  refine gh_jgt (tgt := 71) gd_House_digest_51 (by decide) (fun c2277 => ?_) (fun c2277 => ?_)
  · have h := hA c2277
    refine gh_lload_n gd_House_digest_54 1 rfl ?_
    refine gh_aload_n gd_House_digest_55 0 rfl (by decide) ?_
    refine gh_iload_n gd_House_digest_56 2 rfl ?_
    refine cv_House_sum (d := d + 6) gd_House_digest_57 gh_k1356 hF (Nat.le_of_ble_eq_true rfl) (gh_C.pw (s_House_sum (d + 4) v3 hF h) (fun r2278 h => ?_))
    refine gh_i2l gd_House_digest_60 ?_
    refine cv_House_mix (d := d + 6) gd_House_digest_61 gh_k1352 (Nat.le_of_ble_eq_true rfl) (gh_C.pe (e_House_mix (d + 6) v1 r2278) ?_)
    refine gh_name (fun v1' hn => ?_)
    have h := h v1' hn
    refine gh_lstore_n (L2 := [(1, 1, v1'), (0, 2, 2), (3, 0, v3)]) gd_House_digest_64 (by decide) rfl ?_
    obtain ⟨q2280, h⟩ := h
    refine gh_iinc (L2 := [(3, 0, v3 + 1), (1, 1, v1'), (0, 2, 2)]) gd_House_digest_65 2 rfl q2280 (by decide) rfl ?_
    refine gh_goto (tgt := 48) gd_House_digest_68 (by decide) ?_
    refine gh_pick (L2 := [(0, 2, 2), (1, 1, v1'), (3, 0, v3 + 1)]) [2, 1, 0] rfl ?_
    exact hK48 v1' (v3 + 1) hF h
  · have h := hB c2277
    refine gh_iconst gd_House_digest_71 (gh_r0 rfl) ?_
    refine gh_istore_n (L2 := [(3, 0, 0), (0, 2, 2), (1, 1, v1)]) gd_House_digest_72 (by decide) rfl ?_
    refine gh_pick (L2 := [(0, 2, 2), (1, 1, v1), (3, 0, 0)]) [1, 2, 0] rfl ?_
    exact gh_L2_sound (T := fun v1 v3 => gh_T E (gh_yHouse_digest.cls, prog_1_method_32_code, 5, false, 1) (d + 7) 73 [(0, 2, 2), (1, 1, v1), (3, 0, v3)] [] m (fun r m1 => gh_F m1 ∧ Q r m1)) (fun _ _ => gh_F m) (fun K73 v1 v3 hK hF h => b_House_digest_73 d hK v1 v3 hF h) v1 0 hF h
theorem s_House_digest {E : gh_E} {m : gh_M} {Q : Int → gh_M → Prop} (d : Nat) (hF : gh_F m) (h : w_House_digest m Q) : gh_C E gh_yHouse_digest prog_1_method_32_code 5 (some .long) 1 (d + 7) [(2, 2)] m (fun r m1 => gh_F m1 ∧ Q r m1) := by
  refine gh_enter2 (L := [(0, 2, 2)]) (by decide +kernel) gh_rt1 (Nat.le_of_ble_eq_true rfl) rfl rfl ?_
  unfold w_House_digest at h
  refine gh_ldc2 (n := 17) gd_House_digest_0 gh_k1351 (by decide) (gh_r1 rfl) ?_
  refine gh_aload_n gd_House_digest_3 0 rfl (by decide) ?_
  refine gf_2_0 gd_House_digest_4 gh_k633 hF ?_
  refine gf_3_1 gd_House_digest_7 gh_k162 hF rfl ?_
  refine gh_i2l gd_House_digest_10 ?_
  refine cv_House_mix (d := d + 6) gd_House_digest_11 gh_k1352 (Nat.le_of_ble_eq_true rfl) (gh_C.pe (e_House_mix (d + 6) 17 (m 3 1)) ?_)
  refine gh_aload_n gd_House_digest_14 0 rfl (by decide) ?_
  refine gf_2_1 gd_House_digest_15 gh_k634 hF ?_
  refine gf_5_1 gd_House_digest_18 gh_k220 hF rfl ?_
  refine gh_i2l gd_House_digest_21 ?_
  refine cv_House_mix (d := d + 6) gd_House_digest_22 gh_k1352 (Nat.le_of_ble_eq_true rfl) (gh_C.pe (e_House_mix (d + 6) (x_House_mix 17 (m 3 1)) (m 5 1)) ?_)
  refine gh_aload_n gd_House_digest_25 0 rfl (by decide) ?_
  refine gf_2_1 gd_House_digest_26 gh_k634 hF ?_
  refine gf_5_2 gd_House_digest_29 gh_k222 hF rfl ?_
  refine gh_i2l gd_House_digest_32 ?_
  refine cv_House_mix (d := d + 6) gd_House_digest_33 gh_k1352 (Nat.le_of_ble_eq_true rfl) (gh_C.pe (e_House_mix (d + 6) (x_House_mix (x_House_mix 17 (m 3 1)) (m 5 1)) (m 5 2)) ?_)
  refine gh_name (fun v1 hn => ?_)
  have h := h v1 hn
  refine gh_lstore_n (L2 := [(1, 1, v1), (0, 2, 2)]) gd_House_digest_36 (by decide) rfl ?_
  refine gh_aload_n gd_House_digest_37 1 rfl (by decide) ?_
  refine gf_2_10 gd_House_digest_38 gh_k643 hF rfl ?_
  obtain ⟨hA, hB⟩ := h
  refine gh_zne (tgt := 46) gd_House_digest_41 (by decide) (fun c2276 => ?_) (fun c2276 => ?_)
  · have h := hA c2276
    refine gh_lload_n gd_House_digest_44 0 rfl ?_
    exact gh_ret1 rfl gd_House_digest_45 ⟨hF, h⟩
  · have h := hB c2276
    refine gh_iconst gd_House_digest_46 (gh_r0 rfl) ?_
    refine gh_istore_n (L2 := [(3, 0, 0), (1, 1, v1), (0, 2, 2)]) gd_House_digest_47 (by decide) rfl ?_
    refine gh_pick (L2 := [(0, 2, 2), (1, 1, v1), (3, 0, 0)]) [2, 1, 0] rfl ?_
    exact gh_L2_sound (T := fun v1 v3 => gh_T E (gh_yHouse_digest.cls, prog_1_method_32_code, 5, false, 1) (d + 7) 48 [(0, 2, 2), (1, 1, v1), (3, 0, v3)] [] m (fun r m1 => gh_F m1 ∧ Q r m1)) (fun _ _ => gh_F m) (fun K48 v1 v3 hK hF h => b_House_digest_48 d hK v1 v3 hF h) v1 0 hF h
