def f_Chart_await_32_63 (v2 : Int) (v3 : Int) (v4 : Int) (v5 : Int) (v6 : Int) (v4' : Int) (K28 : Int → Int → gh_M → Prop) (K63 : Int → gh_M → Prop) (v7 : Int) (m : gh_M) : Prop := ((v7 < (m 13 2) → 0 ≤ v7 ∧ v7 < 20 ∧ ∃ J131 : gh_M → Prop, (∀ (m : gh_M), J131 m → gh_i (v7 + 1) ∧ K63 (v7 + 1) m) ∧ (((gh_iand_f (gh_ishr_f v6 (m 16 v7)) 1) = 0 → J131 m) ∧ (¬ ((gh_iand_f (gh_ishr_f v6 (m 16 v7)) 1) = 0) → ((v2 = 0 → w_Chart_goThrough_32 v7 v3 m (fun _ m1370 => J131 m1370)) ∧ (¬ (v2 = 0) → ((p_Facts_isUsefulRule v7 m → w_Chart_lookAhead_32 v7 v3 m (fun _ m1402 => J131 m1402)) ∧ (¬ (p_Facts_isUsefulRule v7 m) → J131 m))))))) ∧ (¬ (v7 < (m 13 2)) → gh_i (v5 + 1) ∧ K28 v4' (v5 + 1) m))
def f_Chart_await_32_28 (v2 : Int) (v3 : Int) (K11 : Int → gh_M → Prop) (K28 : Int → Int → gh_M → Prop) (v4 : Int) (v5 : Int) (m : gh_M) : Prop := ∃ J143 : gh_M → Prop, (∀ (m : gh_M), J143 m → gh_i (v3 + 1) ∧ K11 (v3 + 1) m) ∧ (((v5 ≤ 8) → (0 ≤ v3 ∧ v3 < 9))) ∧ (((¬ (v5 ≤ 8) ∨ ((m 32 v3) = v4)) → J143 m) ∧ (¬ (¬ (v5 ≤ 8) ∨ ((m 32 v3) = v4)) → 0 ≤ v3 ∧ v3 < 9 ∧ ∀ v6 : Int, v6 = gh_iand_f (m 32 v3) (gh_ixor_f v4 (-1)) → ∀ v4' : Int, v4' = gh_ior_f v4 v6 → gh_M1 (fun K63 v7 m => f_Chart_await_32_63 v2 v3 v4 v5 v6 v4' K28 K63 v7 m) 0 m))
def f_Chart_await_32_11 (v2 : Int) (Q : Int → gh_M → Prop) (K11 : Int → gh_M → Prop) (v3 : Int) (m : gh_M) : Prop := ((v3 ≤ (m 26 3) → gh_M2 (fun K28 v4 v5 m => f_Chart_await_32_28 v2 v3 K11 K28 v4 v5 m) 0 0 m) ∧ (¬ (v3 ≤ (m 26 3)) → Q 0 m))
def w_Chart_await_32 (v2 : Int) (m : gh_M) (Q : Int → gh_M → Prop) : Prop := gh_M1 (fun K11 v3 m => f_Chart_await_32_11 v2 Q K11 v3 m) 0 (gh_u (gh_fil m 32 9 0) 32 0 1)
theorem b_Chart_await_32_63 {E : gh_E} {v2 : Int} {v3 : Int} {v4 : Int} {v5 : Int} {v6 : Int} {v4' : Int} {K28 : Int → Int → gh_M → Prop} {Q : Int → gh_M → Prop} {K63 : Int → gh_M → Prop} (d : Nat) (hK28 : ∀ (v4 : Int) (v5 : Int) (m : gh_M), gh_F m → K28 v4 v5 m → gh_T E (gh_yChart_await.cls, prog_2_method_8_code, 8, false, 9) (d + 4) 28 [(0, 2, 30), (1, 2, 32), (2, 0, v2), (3, 0, v3), (4, 0, v4), (5, 0, v5)] [] m (fun r m1 => gh_F m1 ∧ Q r m1)) (hK : ∀ (v7 : Int) (m : gh_M), gh_F m → K63 v7 m → gh_T E (gh_yChart_await.cls, prog_2_method_8_code, 8, false, 9) (d + 4) 63 [(0, 2, 30), (1, 2, 32), (2, 0, v2), (3, 0, v3), (4, 0, v4'), (5, 0, v5), (6, 0, v6), (7, 0, v7)] [] m (fun r m1 => gh_F m1 ∧ Q r m1)) (v7 : Int) (m : gh_M) (hF : gh_F m) (h : f_Chart_await_32_63 v2 v3 v4 v5 v6 v4' K28 K63 v7 m) : gh_T E (gh_yChart_await.cls, prog_2_method_8_code, 8, false, 9) (d + 4) 63 [(0, 2, 30), (1, 2, 32), (2, 0, v2), (3, 0, v3), (4, 0, v4'), (5, 0, v5), (6, 0, v6), (7, 0, v7)] [] m (fun r m1 => gh_F m1 ∧ Q r m1) := by
  have hK63 := hK
  unfold f_Chart_await_32_63 at h
  refine gh_iload gd_Chart_await_63 7 rfl ?_
  refine gh_aload_n gd_Chart_await_65 0 rfl (by decide) ?_
  refine gf_30_0 gd_Chart_await_66 gh_k413 hF ?_
  refine gf_13_2 gd_Chart_await_69 gh_k267 hF rfl ?_
  obtain ⟨hA, hB⟩ := h
  refine gh_jge (tgt := 137) gd_Chart_await_72 (by decide) (fun c1363 => ?_) (fun c1363 => ?_)
  · have h := hA c1363
    refine gh_iload gd_Chart_await_75 6 rfl ?_
    refine gh_aload_n gd_Chart_await_77 0 rfl (by decide) ?_
    refine gf_30_0 gd_Chart_await_78 gh_k413 hF ?_
    refine gf_13_5 gd_Chart_await_81 gh_k279 hF ?_
    refine gh_iload gd_Chart_await_84 7 rfl ?_
    obtain ⟨q1364, h⟩ := h
    obtain ⟨q1365, h⟩ := h
    refine la_16 gd_Chart_await_86 hF q1364 q1365 rfl ?_
    refine gh_ishr gd_Chart_await_87 ?_
    refine gh_iconst gd_Chart_await_88 (gh_r0 rfl) ?_
    refine gh_iand gd_Chart_await_89 ?_
    obtain ⟨J131, hJ131, h⟩ := h
    have hJ131 : ∀ (m : gh_M), gh_F m → J131 m → gh_T E (gh_yChart_await.cls, prog_2_method_8_code, 8, false, 9) (d + 4) 131 [(0, 2, 30), (1, 2, 32), (2, 0, v2), (3, 0, v3), (4, 0, v4'), (5, 0, v5), (6, 0, v6), (7, 0, v7)] [] m (fun r m1 => gh_F m1 ∧ Q r m1) := by
      intro m hF hj
      have h := hJ131 m hj
      obtain ⟨q1366, h⟩ := h
      refine gh_iinc (L2 := [(7, 0, v7 + 1), (0, 2, 30), (1, 2, 32), (2, 0, v2), (3, 0, v3), (4, 0, v4'), (5, 0, v5), (6, 0, v6)]) gd_Chart_await_131 7 rfl q1366 (by decide) rfl ?_
      refine gh_goto (tgt := 63) gd_Chart_await_134 (by decide) ?_
      refine gh_pick (L2 := [(0, 2, 30), (1, 2, 32), (2, 0, v2), (3, 0, v3), (4, 0, v4'), (5, 0, v5), (6, 0, v6), (7, 0, v7 + 1)]) [1, 2, 3, 4, 5, 6, 7, 0] rfl ?_
      exact hK63 (v7 + 1) m hF h
    obtain ⟨hA, hB⟩ := h
    refine gh_zne (tgt := 96) gd_Chart_await_90 (by decide) (fun c1367 => ?_) (fun c1367 => ?_)
    · have h := hA c1367
      refine gh_goto (tgt := 131) gd_Chart_await_93 (by decide) ?_
      exact hJ131 m hF h
    · have h := hB c1367
      refine gh_iload_n gd_Chart_await_96 2 rfl ?_
      obtain ⟨hA, hB⟩ := h
      refine gh_zne (tgt := 111) gd_Chart_await_97 (by decide) (fun c1368 => ?_) (fun c1368 => ?_)
      · have h := hA c1368
        refine gh_aload_n gd_Chart_await_100 0 rfl (by decide) ?_
        refine gh_iload gd_Chart_await_101 7 rfl ?_
        refine gh_iload_n gd_Chart_await_103 3 rfl ?_
        refine gh_aload_n gd_Chart_await_104 1 rfl (by decide) ?_
        refine cv_Chart_goThrough (d := d + 3) gd_Chart_await_105 gh_k1104 hF (Nat.le_of_ble_eq_true rfl) (gh_C.mono (s_Chart_goThrough_32 d v7 v3 hF h) (fun r1369 m1370 hq => ?_))
        obtain ⟨hF, h⟩ := hq
        refine gh_goto (tgt := 131) gd_Chart_await_108 (by decide) ?_
        exact hJ131 m1370 hF h
      · have h := hB c1368
        refine gh_aload_n gd_Chart_await_111 0 rfl (by decide) ?_
        refine gf_30_1 gd_Chart_await_112 gh_k414 hF ?_
        refine gh_iload gd_Chart_await_115 7 rfl ?_
        refine cv_Facts_isUsefulRule (d := d + 3) gd_Chart_await_117 gh_k1112 hF (Nat.le_of_ble_eq_true rfl) (gh_C.pe (e_Facts_isUsefulRule (d + 3) v7 hF) ?_)
        obtain ⟨hA, hB⟩ := h
        refine gh_beq (tgt := 131) gd_Chart_await_120 (by decide) (fun c1400 => ?_) (fun c1400 => ?_)
        · have h := hA c1400
          refine gh_aload_n gd_Chart_await_123 0 rfl (by decide) ?_
          refine gh_iload gd_Chart_await_124 7 rfl ?_
          refine gh_iload_n gd_Chart_await_126 3 rfl ?_
          refine gh_aload_n gd_Chart_await_127 1 rfl (by decide) ?_
          refine cv_Chart_lookAhead (d := d + 3) gd_Chart_await_128 gh_k1113 hF (Nat.le_of_ble_eq_true rfl) (gh_C.mono (s_Chart_lookAhead_32 d v7 v3 hF h) (fun r1401 m1402 hq => ?_))
          obtain ⟨hF, h⟩ := hq
          exact hJ131 m1402 hF h
        · have h := hB c1400
          exact hJ131 m hF h
  · have h := hB c1363
    obtain ⟨q1422, h⟩ := h
    refine gh_iinc (L2 := [(5, 0, v5 + 1), (0, 2, 30), (1, 2, 32), (2, 0, v2), (3, 0, v3), (4, 0, v4'), (6, 0, v6), (7, 0, v7)]) gd_Chart_await_137 5 rfl q1422 (by decide) rfl ?_
    refine gh_goto (tgt := 28) gd_Chart_await_140 (by decide) ?_
    refine gh_pick (L2 := [(0, 2, 30), (1, 2, 32), (2, 0, v2), (3, 0, v3), (4, 0, v4'), (5, 0, v5 + 1)]) [1, 2, 3, 4, 5, 0] rfl ?_
    exact hK28 v4' (v5 + 1) m hF h
theorem b_Chart_await_32_28 {E : gh_E} {v2 : Int} {v3 : Int} {K11 : Int → gh_M → Prop} {Q : Int → gh_M → Prop} {K28 : Int → Int → gh_M → Prop} (d : Nat) (hK11 : ∀ (v3 : Int) (m : gh_M), gh_F m → K11 v3 m → gh_T E (gh_yChart_await.cls, prog_2_method_8_code, 8, false, 9) (d + 4) 11 [(0, 2, 30), (1, 2, 32), (2, 0, v2), (3, 0, v3)] [] m (fun r m1 => gh_F m1 ∧ Q r m1)) (hK : ∀ (v4 : Int) (v5 : Int) (m : gh_M), gh_F m → K28 v4 v5 m → gh_T E (gh_yChart_await.cls, prog_2_method_8_code, 8, false, 9) (d + 4) 28 [(0, 2, 30), (1, 2, 32), (2, 0, v2), (3, 0, v3), (4, 0, v4), (5, 0, v5)] [] m (fun r m1 => gh_F m1 ∧ Q r m1)) (v4 : Int) (v5 : Int) (m : gh_M) (hF : gh_F m) (h : f_Chart_await_32_28 v2 v3 K11 K28 v4 v5 m) : gh_T E (gh_yChart_await.cls, prog_2_method_8_code, 8, false, 9) (d + 4) 28 [(0, 2, 30), (1, 2, 32), (2, 0, v2), (3, 0, v3), (4, 0, v4), (5, 0, v5)] [] m (fun r m1 => gh_F m1 ∧ Q r m1) := by
  have hK28 := hK
  unfold f_Chart_await_32_28 at h
  refine gh_iload gd_Chart_await_28 5 rfl ?_
  refine gh_bipush gd_Chart_await_30 (by decide) (gh_r0 rfl) ?_
  obtain ⟨J143, hJ143, h⟩ := h
  have hJ143 : ∀ (m : gh_M), gh_F m → J143 m → gh_T E (gh_yChart_await.cls, prog_2_method_8_code, 8, false, 9) (d + 4) 143 [(0, 2, 30), (1, 2, 32), (2, 0, v2), (3, 0, v3)] [] m (fun r m1 => gh_F m1 ∧ Q r m1) := by
    intro m hF hj
    have h := hJ143 m hj
    obtain ⟨q1356, h⟩ := h
    refine gh_iinc (L2 := [(3, 0, v3 + 1), (0, 2, 30), (1, 2, 32), (2, 0, v2)]) gd_Chart_await_143 3 rfl q1356 (by decide) rfl ?_
    refine gh_goto (tgt := 11) gd_Chart_await_146 (by decide) ?_
    refine gh_pick (L2 := [(0, 2, 30), (1, 2, 32), (2, 0, v2), (3, 0, v3 + 1)]) [1, 2, 3, 0] rfl ?_
    exact hK11 (v3 + 1) m hF h
  obtain ⟨hk, hA, hB⟩ := h
  have k1359 : (¬ (v5 ≤ 8) ∨ ((m 32 v3) = v4)) → gh_T E (gh_yChart_await.cls, prog_2_method_8_code, 8, false, 9) (d + 4) 143 [(0, 2, 30), (1, 2, 32), (2, 0, v2), (3, 0, v3), (4, 0, v4), (5, 0, v5)] [] m (fun r m1 => gh_F m1 ∧ Q r m1) := by
    intro c
    have h := hA c
    refine gh_pick (L2 := [(0, 2, 30), (1, 2, 32), (2, 0, v2), (3, 0, v3)]) [0, 1, 2, 3] rfl ?_
    exact hJ143 m hF h
  have k1360 : ¬ (¬ (v5 ≤ 8) ∨ ((m 32 v3) = v4)) → gh_T E (gh_yChart_await.cls, prog_2_method_8_code, 8, false, 9) (d + 4) 43 [(0, 2, 30), (1, 2, 32), (2, 0, v2), (3, 0, v3), (4, 0, v4), (5, 0, v5)] [] m (fun r m1 => gh_F m1 ∧ Q r m1) := by
    intro c
    have h := hB c
    refine gh_aload_n gd_Chart_await_43 1 rfl (by decide) ?_
    refine gh_iload_n gd_Chart_await_44 3 rfl ?_
    obtain ⟨q1361, h⟩ := h
    obtain ⟨q1362, h⟩ := h
    refine la_32 gd_Chart_await_45 hF q1361 q1362 rfl ?_
    refine gh_iload gd_Chart_await_46 4 rfl ?_
    refine gh_iconst gd_Chart_await_48 (gh_r0 rfl) ?_
    refine gh_ixor gd_Chart_await_49 ?_
    refine gh_iand gd_Chart_await_50 ?_
    refine gh_name (fun v6 hn => ?_)
    have h := h v6 hn
    refine gh_istore (L2 := [(6, 0, v6), (0, 2, 30), (1, 2, 32), (2, 0, v2), (3, 0, v3), (4, 0, v4), (5, 0, v5)]) gd_Chart_await_51 (by decide) rfl ?_
    refine gh_iload gd_Chart_await_53 5 rfl ?_
    refine gh_iload gd_Chart_await_55 0 rfl ?_
    refine gh_ior gd_Chart_await_57 ?_
    refine gh_name (fun v4' hn => ?_)
    have h := h v4' hn
    refine gh_istore (L2 := [(4, 0, v4'), (6, 0, v6), (0, 2, 30), (1, 2, 32), (2, 0, v2), (3, 0, v3), (5, 0, v5)]) gd_Chart_await_58 (by decide) rfl ?_
    refine gh_iconst gd_Chart_await_60 (gh_r0 rfl) ?_
    refine gh_istore (L2 := [(7, 0, 0), (4, 0, v4'), (6, 0, v6), (0, 2, 30), (1, 2, 32), (2, 0, v2), (3, 0, v3), (5, 0, v5)]) gd_Chart_await_61 (by decide) rfl ?_
    refine gh_pick (L2 := [(0, 2, 30), (1, 2, 32), (2, 0, v2), (3, 0, v3), (4, 0, v4'), (5, 0, v5), (6, 0, v6), (7, 0, 0)]) [3, 4, 5, 6, 1, 7, 2, 0] rfl ?_
    exact gh_M1_sound (T := fun v7 m => gh_T E (gh_yChart_await.cls, prog_2_method_8_code, 8, false, 9) (d + 4) 63 [(0, 2, 30), (1, 2, 32), (2, 0, v2), (3, 0, v3), (4, 0, v4'), (5, 0, v5), (6, 0, v6), (7, 0, v7)] [] m (fun r m1 => gh_F m1 ∧ Q r m1)) (fun _ m => gh_F m) (fun K63 v7 m hK hF h => b_Chart_await_32_63 d hK28 hK v7 m hF h) 0 m hF h
  refine gh_jgt (tgt := 143) gd_Chart_await_32 (by decide) (fun c1423 => ?_) (fun c1423 => ?_)
  · have hz : True := trivial
    have hk := hk c1423
    refine gh_aload_n gd_Chart_await_35 1 rfl (by decide) ?_
    refine gh_iload_n gd_Chart_await_36 3 rfl ?_
    obtain ⟨q1357, hk⟩ := hk
    have q1358 := hk
    refine la_32 gd_Chart_await_37 hF q1357 q1358 rfl ?_
    refine gh_iload gd_Chart_await_38 4 rfl ?_
    refine gh_jeq (tgt := 143) gd_Chart_await_40 (by decide) (fun c1424 => ?_) (fun c1424 => ?_)
    · have hz : True := trivial
      exact k1359 (Or.inr c1424)
    · have hz : True := trivial
      exact k1360 (fun z => z.elim (fun w => w c1423) c1424)
  · have hz : True := trivial
    exact k1359 (Or.inl c1423)
theorem b_Chart_await_32_11 {E : gh_E} {v2 : Int} {Q : Int → gh_M → Prop} {K11 : Int → gh_M → Prop} (d : Nat) (hK : ∀ (v3 : Int) (m : gh_M), gh_F m → K11 v3 m → gh_T E (gh_yChart_await.cls, prog_2_method_8_code, 8, false, 9) (d + 4) 11 [(0, 2, 30), (1, 2, 32), (2, 0, v2), (3, 0, v3)] [] m (fun r m1 => gh_F m1 ∧ Q r m1)) (v3 : Int) (m : gh_M) (hF : gh_F m) (h : f_Chart_await_32_11 v2 Q K11 v3 m) : gh_T E (gh_yChart_await.cls, prog_2_method_8_code, 8, false, 9) (d + 4) 11 [(0, 2, 30), (1, 2, 32), (2, 0, v2), (3, 0, v3)] [] m (fun r m1 => gh_F m1 ∧ Q r m1) := by
  have hK11 := hK
  unfold f_Chart_await_32_11 at h
  refine gh_iload_n gd_Chart_await_11 3 rfl ?_
  refine gh_aload_n gd_Chart_await_12 0 rfl (by decide) ?_
  refine gf_30_2 gd_Chart_await_13 gh_k415 hF ?_
  refine gf_26_3 gd_Chart_await_16 gh_k380 hF rfl ?_
  obtain ⟨hA, hB⟩ := h
  refine gh_jgt (tgt := 149) gd_Chart_await_19 (by decide) (fun c1355 => ?_) (fun c1355 => ?_)
  · have h := hA c1355
    refine gh_iconst gd_Chart_await_22 (gh_r0 rfl) ?_
    refine gh_istore (L2 := [(4, 0, 0), (0, 2, 30), (1, 2, 32), (2, 0, v2), (3, 0, v3)]) gd_Chart_await_23 (by decide) rfl ?_
    refine gh_iconst gd_Chart_await_25 (gh_r0 rfl) ?_
    refine gh_istore (L2 := [(5, 0, 0), (4, 0, 0), (0, 2, 30), (1, 2, 32), (2, 0, v2), (3, 0, v3)]) gd_Chart_await_26 (by decide) rfl ?_
    refine gh_pick (L2 := [(0, 2, 30), (1, 2, 32), (2, 0, v2), (3, 0, v3), (4, 0, 0), (5, 0, 0)]) [2, 3, 4, 5, 1, 0] rfl ?_
    exact gh_M2_sound (T := fun v4 v5 m => gh_T E (gh_yChart_await.cls, prog_2_method_8_code, 8, false, 9) (d + 4) 28 [(0, 2, 30), (1, 2, 32), (2, 0, v2), (3, 0, v3), (4, 0, v4), (5, 0, v5)] [] m (fun r m1 => gh_F m1 ∧ Q r m1)) (fun _ _ m => gh_F m) (fun K28 v4 v5 m hK hF h => b_Chart_await_32_28 d hK11 hK v4 v5 m hF h) 0 0 m hF h
  · have h := hB c1355
    exact gh_ret9 rfl gd_Chart_await_149 ⟨hF, h⟩
theorem s_Chart_await_32 {E : gh_E} {m : gh_M} {Q : Int → gh_M → Prop} (d : Nat) (v2 : Int) (hF : gh_F m) (h : w_Chart_await_32 v2 m Q) : gh_C E gh_yChart_await prog_2_method_8_code 8 none 9 (d + 4) [(2, 30), (2, 32), (0, v2)] m (fun r m1 => gh_F m1 ∧ Q r m1) := by
  refine gh_enter2 (L := [(0, 2, 30), (1, 2, 32), (2, 0, v2)]) (by decide +kernel) gh_rt9 (Nat.le_of_ble_eq_true rfl) rfl rfl ?_
  unfold w_Chart_await_32 at h
  refine gh_aload_n gd_Chart_await_0 1 rfl (by decide) ?_
  refine gh_iconst gd_Chart_await_1 (gh_r0 rfl) ?_
  refine gh_fillF (d := d + 3) gd_Chart_await_2 gh_k1081 (ga_32 hF) (Nat.le_of_ble_eq_true rfl) hF gn_32 (by decide) (fun hF => ?_)
  refine gh_aload_n gd_Chart_await_5 1 rfl (by decide) ?_
  refine gh_iconst gd_Chart_await_6 (gh_r0 rfl) ?_
  refine gh_iconst gd_Chart_await_7 (gh_r0 rfl) ?_
  refine sa_32 gd_Chart_await_8 hF (by decide) (by decide) (fun hF => ?_)
  refine gh_iconst gd_Chart_await_9 (gh_r0 rfl) ?_
  refine gh_istore_n (L2 := [(3, 0, 0), (0, 2, 30), (1, 2, 32), (2, 0, v2)]) gd_Chart_await_10 (by decide) rfl ?_
  refine gh_pick (L2 := [(0, 2, 30), (1, 2, 32), (2, 0, v2), (3, 0, 0)]) [1, 2, 3, 0] rfl ?_
  exact gh_M1_sound (T := fun v3 m => gh_T E (gh_yChart_await.cls, prog_2_method_8_code, 8, false, 9) (d + 4) 11 [(0, 2, 30), (1, 2, 32), (2, 0, v2), (3, 0, v3)] [] m (fun r m1 => gh_F m1 ∧ Q r m1)) (fun _ m => gh_F m) (fun K11 v3 m hK hF h => b_Chart_await_32_11 d hK v3 m hF h) 0 (gh_u (gh_fil m 32 9 0) 32 0 1) hF h
def f_Chart_enter_33_13 (v1 : Int) (v2 : Int) (v4 : Int) (Q : Int → gh_M → Prop) (K13 : Int → gh_M → Prop) (v5 : Int) (m : gh_M) : Prop := ∃ J53 : gh_M → Prop, (∀ (m : gh_M), J53 m → w_Chart_beyond v1 v2 m (fun r1461 => Q r1461 m)) ∧ (((¬ (v5 ≤ (m 26 3)) ∨ (v4 = (-1))) → J53 m) ∧ (¬ (¬ (v5 ≤ (m 26 3)) ∨ (v4 = (-1))) → 0 ≤ v5 ∧ v5 < 9 ∧ 0 ≤ v5 ∧ v5 < 9 ∧ gh_i (v5 + 1) ∧ K13 (v5 + 1) (gh_u m 33 v5 (gh_ior_f (m 33 v5) (gh_ishl_f (gh_iand_f (gh_ishr_f v2 v5) 1) v4)))))
def w_Chart_enter_33 (v1 : Int) (v2 : Int) (m : gh_M) (Q : Int → gh_M → Prop) : Prop := k_Grammar_nameOf v1 m ∧ ∀ v4 : Int, v4 = x_Grammar_nameOf v1 m → gh_M1 (fun K13 v5 m => f_Chart_enter_33_13 v1 v2 v4 Q K13 v5 m) 0 m
theorem b_Chart_enter_33_13 {E : gh_E} {v1 : Int} {v2 : Int} {v4 : Int} {Q : Int → gh_M → Prop} {K13 : Int → gh_M → Prop} (d : Nat) (hK : ∀ (v5 : Int) (m : gh_M), gh_F m → K13 v5 m → gh_T E (gh_yChart_enter.cls, prog_2_method_11_code, 6, false, 0) (d + 2) 13 [(0, 2, 30), (1, 0, v1), (2, 0, v2), (3, 2, 33), (4, 0, v4), (5, 0, v5)] [] m (fun r m1 => gh_F m1 ∧ Q r m1)) (v5 : Int) (m : gh_M) (hF : gh_F m) (h : f_Chart_enter_33_13 v1 v2 v4 Q K13 v5 m) : gh_T E (gh_yChart_enter.cls, prog_2_method_11_code, 6, false, 0) (d + 2) 13 [(0, 2, 30), (1, 0, v1), (2, 0, v2), (3, 2, 33), (4, 0, v4), (5, 0, v5)] [] m (fun r m1 => gh_F m1 ∧ Q r m1) := by
  have hK13 := hK
  unfold f_Chart_enter_33_13 at h
  refine gh_iload gd_Chart_enter_13 5 rfl ?_
  refine gh_aload_n gd_Chart_enter_15 0 rfl (by decide) ?_
  refine gf_30_2 gd_Chart_enter_16 gh_k415 hF ?_
  refine gf_26_3 gd_Chart_enter_19 gh_k380 hF rfl ?_
  obtain ⟨J53, hJ53, h⟩ := h
  have hJ53 : ∀ (m : gh_M), gh_F m → J53 m → gh_T E (gh_yChart_enter.cls, prog_2_method_11_code, 6, false, 0) (d + 2) 53 [(0, 2, 30), (1, 0, v1), (2, 0, v2)] [] m (fun r m1 => gh_F m1 ∧ Q r m1) := by
    intro m hF hj
    have h := hJ53 m hj
    refine gh_aload_n gd_Chart_enter_53 0 rfl (by decide) ?_
    refine gh_iload_n gd_Chart_enter_54 1 rfl ?_
    refine gh_iload_n gd_Chart_enter_55 2 rfl ?_
    refine cv_Chart_beyond (d := d + 1) gd_Chart_enter_56 gh_k1091 hF (Nat.le_of_ble_eq_true rfl) (gh_C.pw (s_Chart_beyond d v1 v2 hF h) (fun r1461 h => ?_))
    exact gh_ret0 rfl gd_Chart_enter_59 ⟨hF, h⟩
  obtain ⟨hA, hB⟩ := h
  have k1463 : (¬ (v5 ≤ (m 26 3)) ∨ (v4 = (-1))) → gh_T E (gh_yChart_enter.cls, prog_2_method_11_code, 6, false, 0) (d + 2) 53 [(0, 2, 30), (1, 0, v1), (2, 0, v2), (3, 2, 33), (4, 0, v4), (5, 0, v5)] [] m (fun r m1 => gh_F m1 ∧ Q r m1) := by
    intro c
    have h := hA c
    refine gh_pick (L2 := [(0, 2, 30), (1, 0, v1), (2, 0, v2)]) [0, 1, 2] rfl ?_
    exact hJ53 m hF h
  have k1464 : ¬ (¬ (v5 ≤ (m 26 3)) ∨ (v4 = (-1))) → gh_T E (gh_yChart_enter.cls, prog_2_method_11_code, 6, false, 0) (d + 2) 31 [(0, 2, 30), (1, 0, v1), (2, 0, v2), (3, 2, 33), (4, 0, v4), (5, 0, v5)] [] m (fun r m1 => gh_F m1 ∧ Q r m1) := by
    intro c
    have h := hB c
    refine gh_aload_n gd_Chart_enter_31 3 rfl (by decide) ?_
    refine gh_iload gd_Chart_enter_32 5 rfl ?_
    refine gh_dup2 gd_Chart_enter_34 (by decide) (by decide) ?_
    obtain ⟨q1465, h⟩ := h
    obtain ⟨q1466, h⟩ := h
    refine la_33 gd_Chart_enter_35 hF q1465 q1466 rfl ?_
    refine gh_iload_n gd_Chart_enter_36 2 rfl ?_
    refine gh_iload gd_Chart_enter_37 5 rfl ?_
    refine gh_ishr gd_Chart_enter_39 ?_
    refine gh_iconst gd_Chart_enter_40 (gh_r0 rfl) ?_
    refine gh_iand gd_Chart_enter_41 ?_
    refine gh_iload gd_Chart_enter_42 4 rfl ?_
    refine gh_ishl gd_Chart_enter_44 ?_
    refine gh_ior gd_Chart_enter_45 ?_
    obtain ⟨q1467, h⟩ := h
    obtain ⟨q1468, h⟩ := h
    refine sa_33 gd_Chart_enter_46 hF q1467 q1468 (fun hF => ?_)
    obtain ⟨q1469, h⟩ := h
    refine gh_iinc (L2 := [(5, 0, v5 + 1), (0, 2, 30), (1, 0, v1), (2, 0, v2), (3, 2, 33), (4, 0, v4)]) gd_Chart_enter_47 5 rfl q1469 (by decide) rfl ?_
    refine gh_goto (tgt := 13) gd_Chart_enter_50 (by decide) ?_
    refine gh_pick (L2 := [(0, 2, 30), (1, 0, v1), (2, 0, v2), (3, 2, 33), (4, 0, v4), (5, 0, v5 + 1)]) [1, 2, 3, 4, 5, 0] rfl ?_
    exact hK13 (v5 + 1) (gh_u m 33 v5 (gh_ior_f (m 33 v5) (gh_ishl_f (gh_iand_f (gh_ishr_f v2 v5) 1) v4))) hF h
  refine gh_jgt (tgt := 53) gd_Chart_enter_22 (by decide) (fun c1470 => ?_) (fun c1470 => ?_)
  · have hz : True := trivial
    refine gh_iload gd_Chart_enter_25 4 rfl ?_
    refine gh_iconst gd_Chart_enter_27 (gh_r0 rfl) ?_
    refine gh_jeq (tgt := 53) gd_Chart_enter_28 (by decide) (fun c1471 => ?_) (fun c1471 => ?_)
    · have hz : True := trivial
      exact k1463 (Or.inr c1471)
    · have hz : True := trivial
      exact k1464 (fun z => z.elim (fun w => w c1470) c1471)
  · have hz : True := trivial
    exact k1463 (Or.inl c1470)
theorem s_Chart_enter_33 {E : gh_E} {m : gh_M} {Q : Int → gh_M → Prop} (d : Nat) (v1 : Int) (v2 : Int) (hF : gh_F m) (h : w_Chart_enter_33 v1 v2 m Q) : gh_C E gh_yChart_enter prog_2_method_11_code 6 (some .int) 0 (d + 2) [(2, 30), (0, v1), (0, v2), (2, 33)] m (fun r m1 => gh_F m1 ∧ Q r m1) := by
  refine gh_enter2 (L := [(0, 2, 30), (1, 0, v1), (2, 0, v2), (3, 2, 33)]) (by decide +kernel) gh_rt0 (Nat.le_of_ble_eq_true rfl) rfl rfl ?_
  unfold w_Chart_enter_33 at h
  refine gh_aload_n gd_Chart_enter_0 0 rfl (by decide) ?_
  refine gf_30_0 gd_Chart_enter_1 gh_k413 hF ?_
  refine gh_iload_n gd_Chart_enter_4 1 rfl ?_
  obtain ⟨q1460, h⟩ := h
  refine cv_Grammar_nameOf (d := d + 1) gd_Chart_enter_5 gh_k1095 hF (Nat.le_of_ble_eq_true rfl) (gh_C.pe (e_Grammar_nameOf (d + 1) v1 hF q1460) ?_)
  refine gh_name (fun v4 hn => ?_)
  have h := h v4 hn
  refine gh_istore (L2 := [(4, 0, v4), (0, 2, 30), (1, 0, v1), (2, 0, v2), (3, 2, 33)]) gd_Chart_enter_8 (by decide) rfl ?_
  refine gh_iconst gd_Chart_enter_10 (gh_r0 rfl) ?_
  refine gh_istore (L2 := [(5, 0, 0), (4, 0, v4), (0, 2, 30), (1, 0, v1), (2, 0, v2), (3, 2, 33)]) gd_Chart_enter_11 (by decide) rfl ?_
  refine gh_pick (L2 := [(0, 2, 30), (1, 0, v1), (2, 0, v2), (3, 2, 33), (4, 0, v4), (5, 0, 0)]) [2, 3, 4, 5, 1, 0] rfl ?_
  exact gh_M1_sound (T := fun v5 m => gh_T E (gh_yChart_enter.cls, prog_2_method_11_code, 6, false, 0) (d + 2) 13 [(0, 2, 30), (1, 0, v1), (2, 0, v2), (3, 2, 33), (4, 0, v4), (5, 0, v5)] [] m (fun r m1 => gh_F m1 ∧ Q r m1)) (fun _ m => gh_F m) (fun K13 v5 m hK hF h => b_Chart_enter_33_13 d hK v5 m hF h) 0 m hF h
def f_Chart_goThrough_33_25 (v1 : Int) (v2 : Int) (v4 : Int) (v5 : Int) (K8 : Int → Int → gh_M → Prop) (K25 : Int → gh_M → Prop) (v6 : Int) (m : gh_M) : Prop := ((v6 ≤ (m 26 3) → 0 ≤ v6 ∧ v6 < 9 ∧ gh_i ((m 34 v6) + (gh_iand_f (gh_ishr_f v4 v6) 1)) ∧ 0 ≤ v6 ∧ v6 < 9 ∧ gh_i (v6 + 1) ∧ K25 (v6 + 1) (gh_u m 34 v6 ((m 34 v6) + (gh_iand_f (gh_ishr_f v4 v6) 1)))) ∧ (¬ (v6 ≤ (m 26 3)) → 0 ≤ v1 ∧ v1 < 20 ∧ ∃ J93 : Int → gh_M → Prop, (∀ (v4' : Int) (m : gh_M), J93 v4' m → gh_i (v5 + 1) ∧ K8 v4' (v5 + 1) m) ∧ ((v5 < (m 17 v1) → k_Grammar_partAt v1 v5 m ∧ w_Chart_enter_33 (x_Grammar_partAt v1 v5 m) v4 m (fun r1458 m1459 => J93 r1458 m1459)) ∧ (¬ (v5 < (m 17 v1)) → J93 v4 m))))
def f_Chart_goThrough_33_8 (v1 : Int) (v2 : Int) (Q : Int → gh_M → Prop) (K8 : Int → Int → gh_M → Prop) (v4 : Int) (v5 : Int) (m : gh_M) : Prop := 0 ≤ v1 ∧ v1 < 20 ∧ ((v5 ≤ (m 17 v1) → gh_M1 (fun K25 v6 m => f_Chart_goThrough_33_25 v1 v2 v4 v5 K8 K25 v6 m) v2 m) ∧ (¬ (v5 ≤ (m 17 v1)) → Q 0 m))
def w_Chart_goThrough_33 (v1 : Int) (v2 : Int) (m : gh_M) (Q : Int → gh_M → Prop) : Prop := ∀ v4 : Int, v4 = gh_ishl_f 1 v2 → gh_M2 (fun K8 v4 v5 m => f_Chart_goThrough_33_8 v1 v2 Q K8 v4 v5 m) v4 0 m
theorem b_Chart_goThrough_33_25 {E : gh_E} {v1 : Int} {v2 : Int} {v4 : Int} {v5 : Int} {K8 : Int → Int → gh_M → Prop} {Q : Int → gh_M → Prop} {K25 : Int → gh_M → Prop} (d : Nat) (hK8 : ∀ (v4 : Int) (v5 : Int) (m : gh_M), gh_F m → K8 v4 v5 m → gh_T E (gh_yChart_goThrough.cls, prog_2_method_9_code, 7, false, 9) (d + 3) 8 [(0, 2, 30), (1, 0, v1), (2, 0, v2), (3, 2, 33), (4, 0, v4), (5, 0, v5)] [] m (fun r m1 => gh_F m1 ∧ Q r m1)) (hK : ∀ (v6 : Int) (m : gh_M), gh_F m → K25 v6 m → gh_T E (gh_yChart_goThrough.cls, prog_2_method_9_code, 7, false, 9) (d + 3) 25 [(0, 2, 30), (1, 0, v1), (2, 0, v2), (3, 2, 33), (4, 0, v4), (5, 0, v5), (6, 0, v6)] [] m (fun r m1 => gh_F m1 ∧ Q r m1)) (v6 : Int) (m : gh_M) (hF : gh_F m) (h : f_Chart_goThrough_33_25 v1 v2 v4 v5 K8 K25 v6 m) : gh_T E (gh_yChart_goThrough.cls, prog_2_method_9_code, 7, false, 9) (d + 3) 25 [(0, 2, 30), (1, 0, v1), (2, 0, v2), (3, 2, 33), (4, 0, v4), (5, 0, v5), (6, 0, v6)] [] m (fun r m1 => gh_F m1 ∧ Q r m1) := by
  have hK25 := hK
  unfold f_Chart_goThrough_33_25 at h
  refine gh_iload gd_Chart_goThrough_25 6 rfl ?_
  refine gh_aload_n gd_Chart_goThrough_27 0 rfl (by decide) ?_
  refine gf_30_2 gd_Chart_goThrough_28 gh_k415 hF ?_
  refine gf_26_3 gd_Chart_goThrough_31 gh_k380 hF rfl ?_
  obtain ⟨hA, hB⟩ := h
  refine gh_jgt (tgt := 60) gd_Chart_goThrough_34 (by decide) (fun c1446 => ?_) (fun c1446 => ?_)
  · have h := hA c1446
    refine gh_aload_n gd_Chart_goThrough_37 0 rfl (by decide) ?_
    refine gf_30_7 gd_Chart_goThrough_38 gh_k421 hF ?_
    refine gh_iload gd_Chart_goThrough_41 6 rfl ?_
    refine gh_dup2 gd_Chart_goThrough_43 (by decide) (by decide) ?_
    obtain ⟨q1447, h⟩ := h
    obtain ⟨q1448, h⟩ := h
    refine la_34 gd_Chart_goThrough_44 hF q1447 q1448 rfl ?_
    refine gh_iload gd_Chart_goThrough_45 4 rfl ?_
    refine gh_iload gd_Chart_goThrough_47 6 rfl ?_
    refine gh_ishr gd_Chart_goThrough_49 ?_
    refine gh_iconst gd_Chart_goThrough_50 (gh_r0 rfl) ?_
    refine gh_iand gd_Chart_goThrough_51 ?_
    obtain ⟨q1449, h⟩ := h
    refine gh_iadd gd_Chart_goThrough_52 q1449 ?_
    obtain ⟨q1450, h⟩ := h
    obtain ⟨q1451, h⟩ := h
    refine sa_34 gd_Chart_goThrough_53 hF q1450 q1451 (fun hF => ?_)
    obtain ⟨q1452, h⟩ := h
    refine gh_iinc (L2 := [(6, 0, v6 + 1), (0, 2, 30), (1, 0, v1), (2, 0, v2), (3, 2, 33), (4, 0, v4), (5, 0, v5)]) gd_Chart_goThrough_54 6 rfl q1452 (by decide) rfl ?_
    refine gh_goto (tgt := 25) gd_Chart_goThrough_57 (by decide) ?_
    refine gh_pick (L2 := [(0, 2, 30), (1, 0, v1), (2, 0, v2), (3, 2, 33), (4, 0, v4), (5, 0, v5), (6, 0, v6 + 1)]) [1, 2, 3, 4, 5, 6, 0] rfl ?_
    exact hK25 (v6 + 1) (gh_u m 34 v6 ((m 34 v6) + (gh_iand_f (gh_ishr_f v4 v6) 1))) hF h
  · have h := hB c1446
    refine gh_iload gd_Chart_goThrough_60 5 rfl ?_
    refine gh_aload_n gd_Chart_goThrough_62 0 rfl (by decide) ?_
    refine gf_30_0 gd_Chart_goThrough_63 gh_k413 hF ?_
    refine gf_13_6 gd_Chart_goThrough_66 gh_k288 hF ?_
    refine gh_iload_n gd_Chart_goThrough_69 1 rfl ?_
    obtain ⟨q1453, h⟩ := h
    obtain ⟨q1454, h⟩ := h
    refine la_17 gd_Chart_goThrough_70 hF q1453 q1454 rfl ?_
    obtain ⟨J93, hJ93, h⟩ := h
    have hJ93 : ∀ (v4' : Int) (m : gh_M), gh_F m → J93 v4' m → gh_T E (gh_yChart_goThrough.cls, prog_2_method_9_code, 7, false, 9) (d + 3) 93 [(0, 2, 30), (1, 0, v1), (2, 0, v2), (3, 2, 33), (4, 0, v4'), (5, 0, v5)] [] m (fun r m1 => gh_F m1 ∧ Q r m1) := by
      intro v4' m hF hj
      have h := hJ93 v4' m hj
      obtain ⟨q1455, h⟩ := h
      refine gh_iinc (L2 := [(5, 0, v5 + 1), (0, 2, 30), (1, 0, v1), (2, 0, v2), (3, 2, 33), (4, 0, v4')]) gd_Chart_goThrough_93 5 rfl q1455 (by decide) rfl ?_
      refine gh_goto (tgt := 8) gd_Chart_goThrough_96 (by decide) ?_
      refine gh_pick (L2 := [(0, 2, 30), (1, 0, v1), (2, 0, v2), (3, 2, 33), (4, 0, v4'), (5, 0, v5 + 1)]) [1, 2, 3, 4, 5, 0] rfl ?_
      exact hK8 v4' (v5 + 1) m hF h
    obtain ⟨hA, hB⟩ := h
    refine gh_jge (tgt := 93) gd_Chart_goThrough_71 (by decide) (fun c1456 => ?_) (fun c1456 => ?_)
    · have h := hA c1456
      refine gh_aload_n gd_Chart_goThrough_74 0 rfl (by decide) ?_
      refine gh_aload_n gd_Chart_goThrough_75 0 rfl (by decide) ?_
      refine gf_30_0 gd_Chart_goThrough_76 gh_k413 hF ?_
      refine gh_iload_n gd_Chart_goThrough_79 1 rfl ?_
      refine gh_iload gd_Chart_goThrough_80 5 rfl ?_
      obtain ⟨q1457, h⟩ := h
      refine cv_Grammar_partAt (d := d + 2) gd_Chart_goThrough_82 gh_k1090 hF (Nat.le_of_ble_eq_true rfl) (gh_C.pe (e_Grammar_partAt (d + 2) v1 v5 hF q1457) ?_)
      refine gh_iload gd_Chart_goThrough_85 4 rfl ?_
      refine gh_aload_n gd_Chart_goThrough_87 3 rfl (by decide) ?_
      refine cv_Chart_enter (d := d + 2) gd_Chart_goThrough_88 gh_k1108 hF (Nat.le_of_ble_eq_true rfl) (gh_C.mono (s_Chart_enter_33 d (x_Grammar_partAt v1 v5 m) v4 hF h) (fun r1458 m1459 hq => ?_))
      obtain ⟨hF, h⟩ := hq
      refine gh_istore (L2 := [(4, 0, r1458), (0, 2, 30), (1, 0, v1), (2, 0, v2), (3, 2, 33), (5, 0, v5), (6, 0, v6)]) gd_Chart_goThrough_91 (by decide) rfl ?_
      refine gh_pick (L2 := [(0, 2, 30), (1, 0, v1), (2, 0, v2), (3, 2, 33), (4, 0, r1458), (5, 0, v5)]) [1, 2, 3, 4, 0, 5] rfl ?_
      exact hJ93 r1458 m1459 hF h
    · have h := hB c1456
      refine gh_pick (L2 := [(0, 2, 30), (1, 0, v1), (2, 0, v2), (3, 2, 33), (4, 0, v4), (5, 0, v5)]) [0, 1, 2, 3, 4, 5] rfl ?_
      exact hJ93 v4 m hF h
theorem b_Chart_goThrough_33_8 {E : gh_E} {v1 : Int} {v2 : Int} {Q : Int → gh_M → Prop} {K8 : Int → Int → gh_M → Prop} (d : Nat) (hK : ∀ (v4 : Int) (v5 : Int) (m : gh_M), gh_F m → K8 v4 v5 m → gh_T E (gh_yChart_goThrough.cls, prog_2_method_9_code, 7, false, 9) (d + 3) 8 [(0, 2, 30), (1, 0, v1), (2, 0, v2), (3, 2, 33), (4, 0, v4), (5, 0, v5)] [] m (fun r m1 => gh_F m1 ∧ Q r m1)) (v4 : Int) (v5 : Int) (m : gh_M) (hF : gh_F m) (h : f_Chart_goThrough_33_8 v1 v2 Q K8 v4 v5 m) : gh_T E (gh_yChart_goThrough.cls, prog_2_method_9_code, 7, false, 9) (d + 3) 8 [(0, 2, 30), (1, 0, v1), (2, 0, v2), (3, 2, 33), (4, 0, v4), (5, 0, v5)] [] m (fun r m1 => gh_F m1 ∧ Q r m1) := by
  have hK8 := hK
  unfold f_Chart_goThrough_33_8 at h
  refine gh_iload gd_Chart_goThrough_8 5 rfl ?_
  refine gh_aload_n gd_Chart_goThrough_10 0 rfl (by decide) ?_
  refine gf_30_0 gd_Chart_goThrough_11 gh_k413 hF ?_
  refine gf_13_6 gd_Chart_goThrough_14 gh_k288 hF ?_
  refine gh_iload_n gd_Chart_goThrough_17 1 rfl ?_
  obtain ⟨q1443, h⟩ := h
  obtain ⟨q1444, h⟩ := h
  refine la_17 gd_Chart_goThrough_18 hF q1443 q1444 rfl ?_
  obtain ⟨hA, hB⟩ := h
  refine gh_jgt (tgt := 99) gd_Chart_goThrough_19 (by decide) (fun c1445 => ?_) (fun c1445 => ?_)
  · have h := hA c1445
    refine gh_iload_n gd_Chart_goThrough_22 2 rfl ?_
    refine gh_istore (L2 := [(6, 0, v2), (0, 2, 30), (1, 0, v1), (2, 0, v2), (3, 2, 33), (4, 0, v4), (5, 0, v5)]) gd_Chart_goThrough_23 (by decide) rfl ?_
    refine gh_pick (L2 := [(0, 2, 30), (1, 0, v1), (2, 0, v2), (3, 2, 33), (4, 0, v4), (5, 0, v5), (6, 0, v2)]) [1, 2, 3, 4, 5, 6, 0] rfl ?_
    exact gh_M1_sound (T := fun v6 m => gh_T E (gh_yChart_goThrough.cls, prog_2_method_9_code, 7, false, 9) (d + 3) 25 [(0, 2, 30), (1, 0, v1), (2, 0, v2), (3, 2, 33), (4, 0, v4), (5, 0, v5), (6, 0, v6)] [] m (fun r m1 => gh_F m1 ∧ Q r m1)) (fun _ m => gh_F m) (fun K25 v6 m hK hF h => b_Chart_goThrough_33_25 d hK8 hK v6 m hF h) v2 m hF h
  · have h := hB c1445
    exact gh_ret9 rfl gd_Chart_goThrough_99 ⟨hF, h⟩
theorem s_Chart_goThrough_33 {E : gh_E} {m : gh_M} {Q : Int → gh_M → Prop} (d : Nat) (v1 : Int) (v2 : Int) (hF : gh_F m) (h : w_Chart_goThrough_33 v1 v2 m Q) : gh_C E gh_yChart_goThrough prog_2_method_9_code 7 none 9 (d + 3) [(2, 30), (0, v1), (0, v2), (2, 33)] m (fun r m1 => gh_F m1 ∧ Q r m1) := by
  refine gh_enter2 (L := [(0, 2, 30), (1, 0, v1), (2, 0, v2), (3, 2, 33)]) (by decide +kernel) gh_rt9 (Nat.le_of_ble_eq_true rfl) rfl rfl ?_
  unfold w_Chart_goThrough_33 at h
  refine gh_iconst gd_Chart_goThrough_0 (gh_r0 rfl) ?_
  refine gh_iload_n gd_Chart_goThrough_1 2 rfl ?_
  refine gh_ishl gd_Chart_goThrough_2 ?_
  refine gh_name (fun v4 hn => ?_)
  have h := h v4 hn
  refine gh_istore (L2 := [(4, 0, v4), (0, 2, 30), (1, 0, v1), (2, 0, v2), (3, 2, 33)]) gd_Chart_goThrough_3 (by decide) rfl ?_
  refine gh_iconst gd_Chart_goThrough_5 (gh_r0 rfl) ?_
  refine gh_istore (L2 := [(5, 0, 0), (4, 0, v4), (0, 2, 30), (1, 0, v1), (2, 0, v2), (3, 2, 33)]) gd_Chart_goThrough_6 (by decide) rfl ?_
  refine gh_pick (L2 := [(0, 2, 30), (1, 0, v1), (2, 0, v2), (3, 2, 33), (4, 0, v4), (5, 0, 0)]) [2, 3, 4, 5, 1, 0] rfl ?_
  exact gh_M2_sound (T := fun v4 v5 m => gh_T E (gh_yChart_goThrough.cls, prog_2_method_9_code, 7, false, 9) (d + 3) 8 [(0, 2, 30), (1, 0, v1), (2, 0, v2), (3, 2, 33), (4, 0, v4), (5, 0, v5)] [] m (fun r m1 => gh_F m1 ∧ Q r m1)) (fun _ _ m => gh_F m) (fun K8 v4 v5 m hK hF h => b_Chart_goThrough_33_8 d hK v4 v5 m hF h) v4 0 m hF h
def f_Chart_lookAhead_33_37 (v1 : Int) (v2 : Int) (v4 : Int) (v5 : Int) (v6 : Int) (K8 : Int → Int → gh_M → Prop) (K37 : Int → gh_M → Prop) (v7 : Int) (m : gh_M) : Prop := ∃ J86 : gh_M → Prop, (∀ (m : gh_M), J86 m → w_Chart_enter_33 v6 v4 m (fun r1479 m1480 => gh_i (v5 + 1) ∧ K8 r1479 (v5 + 1) m1480)) ∧ (((¬ (v7 ≤ (m 26 3)) ∨ (v6 ≤ 0)) → J86 m) ∧ (¬ (¬ (v7 ≤ (m 26 3)) ∨ (v6 ≤ 0)) → 0 ≤ v7 ∧ v7 < 9 ∧ 0 ≤ v7 ∧ v7 < 9 ∧ gh_i (v7 + 1) ∧ K37 (v7 + 1) (gh_u m 35 v7 (gh_ior_f (m 35 v7) (if (gh_iand_f (gh_ishr_f v4 v7) 1) = 0 then 0 else v6)))))
def f_Chart_lookAhead_33_8 (v1 : Int) (v2 : Int) (Q : Int → gh_M → Prop) (K8 : Int → Int → gh_M → Prop) (v4 : Int) (v5 : Int) (m : gh_M) : Prop := 0 ≤ v1 ∧ v1 < 20 ∧ ((v5 < (m 17 v1) → k_Grammar_partAt v1 v5 m ∧ ∀ v6 : Int, v6 = x_Grammar_partAt v1 v5 m → gh_M1 (fun K37 v7 m => f_Chart_lookAhead_33_37 v1 v2 v4 v5 v6 K8 K37 v7 m) v2 m) ∧ (¬ (v5 < (m 17 v1)) → Q 0 m))
def w_Chart_lookAhead_33 (v1 : Int) (v2 : Int) (m : gh_M) (Q : Int → gh_M → Prop) : Prop := ∀ v4 : Int, v4 = gh_ishl_f 1 v2 → gh_M2 (fun K8 v4 v5 m => f_Chart_lookAhead_33_8 v1 v2 Q K8 v4 v5 m) v4 0 m
theorem b_Chart_lookAhead_33_37 {E : gh_E} {v1 : Int} {v2 : Int} {v4 : Int} {v5 : Int} {v6 : Int} {K8 : Int → Int → gh_M → Prop} {Q : Int → gh_M → Prop} {K37 : Int → gh_M → Prop} (d : Nat) (hK8 : ∀ (v4 : Int) (v5 : Int) (m : gh_M), gh_F m → K8 v4 v5 m → gh_T E (gh_yChart_lookAhead.cls, prog_2_method_10_code, 8, false, 9) (d + 3) 8 [(0, 2, 30), (1, 0, v1), (2, 0, v2), (3, 2, 33), (4, 0, v4), (5, 0, v5)] [] m (fun r m1 => gh_F m1 ∧ Q r m1)) (hK : ∀ (v7 : Int) (m : gh_M), gh_F m → K37 v7 m → gh_T E (gh_yChart_lookAhead.cls, prog_2_method_10_code, 8, false, 9) (d + 3) 37 [(0, 2, 30), (1, 0, v1), (2, 0, v2), (3, 2, 33), (4, 0, v4), (5, 0, v5), (6, 0, v6), (7, 0, v7)] [] m (fun r m1 => gh_F m1 ∧ Q r m1)) (v7 : Int) (m : gh_M) (hF : gh_F m) (h : f_Chart_lookAhead_33_37 v1 v2 v4 v5 v6 K8 K37 v7 m) : gh_T E (gh_yChart_lookAhead.cls, prog_2_method_10_code, 8, false, 9) (d + 3) 37 [(0, 2, 30), (1, 0, v1), (2, 0, v2), (3, 2, 33), (4, 0, v4), (5, 0, v5), (6, 0, v6), (7, 0, v7)] [] m (fun r m1 => gh_F m1 ∧ Q r m1) := by
  have hK37 := hK
  unfold f_Chart_lookAhead_33_37 at h
  refine gh_iload gd_Chart_lookAhead_37 7 rfl ?_
  refine gh_aload_n gd_Chart_lookAhead_39 0 rfl (by decide) ?_
  refine gf_30_2 gd_Chart_lookAhead_40 gh_k415 hF ?_
  refine gf_26_3 gd_Chart_lookAhead_43 gh_k380 hF rfl ?_
  obtain ⟨J86, hJ86, h⟩ := h
  have hJ86 : ∀ (m : gh_M), gh_F m → J86 m → gh_T E (gh_yChart_lookAhead.cls, prog_2_method_10_code, 8, false, 9) (d + 3) 86 [(0, 2, 30), (1, 0, v1), (2, 0, v2), (3, 2, 33), (4, 0, v4), (5, 0, v5), (6, 0, v6)] [] m (fun r m1 => gh_F m1 ∧ Q r m1) := by
    intro m hF hj
    have h := hJ86 m hj
    refine gh_aload_n gd_Chart_lookAhead_86 0 rfl (by decide) ?_
    refine gh_iload gd_Chart_lookAhead_87 6 rfl ?_
    refine gh_iload gd_Chart_lookAhead_89 4 rfl ?_
    refine gh_aload_n gd_Chart_lookAhead_91 3 rfl (by decide) ?_
    refine cv_Chart_enter (d := d + 2) gd_Chart_lookAhead_92 gh_k1108 hF (Nat.le_of_ble_eq_true rfl) (gh_C.mono (s_Chart_enter_33 d v6 v4 hF h) (fun r1479 m1480 hq => ?_))
    obtain ⟨hF, h⟩ := hq
    refine gh_istore (L2 := [(4, 0, r1479), (0, 2, 30), (1, 0, v1), (2, 0, v2), (3, 2, 33), (5, 0, v5), (6, 0, v6)]) gd_Chart_lookAhead_95 (by decide) rfl ?_
    obtain ⟨q1481, h⟩ := h
    refine gh_iinc (L2 := [(5, 0, v5 + 1), (4, 0, r1479), (0, 2, 30), (1, 0, v1), (2, 0, v2), (3, 2, 33), (6, 0, v6)]) gd_Chart_lookAhead_97 5 rfl q1481 (by decide) rfl ?_
    refine gh_goto (tgt := 8) gd_Chart_lookAhead_100 (by decide) ?_
    refine gh_pick (L2 := [(0, 2, 30), (1, 0, v1), (2, 0, v2), (3, 2, 33), (4, 0, r1479), (5, 0, v5 + 1)]) [2, 3, 4, 5, 1, 0] rfl ?_
    exact hK8 r1479 (v5 + 1) m1480 hF h
  obtain ⟨hA, hB⟩ := h
  have k1482 : (¬ (v7 ≤ (m 26 3)) ∨ (v6 ≤ 0)) → gh_T E (gh_yChart_lookAhead.cls, prog_2_method_10_code, 8, false, 9) (d + 3) 86 [(0, 2, 30), (1, 0, v1), (2, 0, v2), (3, 2, 33), (4, 0, v4), (5, 0, v5), (6, 0, v6), (7, 0, v7)] [] m (fun r m1 => gh_F m1 ∧ Q r m1) := by
    intro c
    have h := hA c
    refine gh_pick (L2 := [(0, 2, 30), (1, 0, v1), (2, 0, v2), (3, 2, 33), (4, 0, v4), (5, 0, v5), (6, 0, v6)]) [0, 1, 2, 3, 4, 5, 6] rfl ?_
    exact hJ86 m hF h
  have k1483 : ¬ (¬ (v7 ≤ (m 26 3)) ∨ (v6 ≤ 0)) → gh_T E (gh_yChart_lookAhead.cls, prog_2_method_10_code, 8, false, 9) (d + 3) 54 [(0, 2, 30), (1, 0, v1), (2, 0, v2), (3, 2, 33), (4, 0, v4), (5, 0, v5), (6, 0, v6), (7, 0, v7)] [] m (fun r m1 => gh_F m1 ∧ Q r m1) := by
    intro c
    have h := hB c
    refine gh_aload_n gd_Chart_lookAhead_54 0 rfl (by decide) ?_
    refine gf_30_8 gd_Chart_lookAhead_55 gh_k423 hF ?_
    refine gh_iload gd_Chart_lookAhead_58 7 rfl ?_
    refine gh_dup2 gd_Chart_lookAhead_60 (by decide) (by decide) ?_
    obtain ⟨q1484, h⟩ := h
    obtain ⟨q1485, h⟩ := h
    refine la_35 gd_Chart_lookAhead_61 hF q1484 q1485 rfl ?_
    refine gh_iload gd_Chart_lookAhead_62 4 rfl ?_
    refine gh_iload gd_Chart_lookAhead_64 7 rfl ?_
    refine gh_ishr gd_Chart_lookAhead_66 ?_
    refine gh_iconst gd_Chart_lookAhead_67 (gh_r0 rfl) ?_
    refine gh_iand gd_Chart_lookAhead_68 ?_
    have k1486 : ∀ x1487 : Int, x1487 = (if (gh_iand_f (gh_ishr_f v4 v7) 1) = 0 then 0 else v6) → gh_T E (gh_yChart_lookAhead.cls, prog_2_method_10_code, 8, false, 9) (d + 3) 78 [(0, 2, 30), (1, 0, v1), (2, 0, v2), (3, 2, 33), (4, 0, v4), (5, 0, v5), (6, 0, v6), (7, 0, v7)] [(0, x1487), (0, m 35 v7), (0, v7), (2, 35)] m (fun r m1 => gh_F m1 ∧ Q r m1) := by
      rintro _ rfl
      refine gh_ior gd_Chart_lookAhead_78 ?_
      obtain ⟨q1488, h⟩ := h
      obtain ⟨q1489, h⟩ := h
      refine sa_35 gd_Chart_lookAhead_79 hF q1488 q1489 (fun hF => ?_)
      obtain ⟨q1490, h⟩ := h
      refine gh_iinc (L2 := [(7, 0, v7 + 1), (0, 2, 30), (1, 0, v1), (2, 0, v2), (3, 2, 33), (4, 0, v4), (5, 0, v5), (6, 0, v6)]) gd_Chart_lookAhead_80 7 rfl q1490 (by decide) rfl ?_
      refine gh_goto (tgt := 37) gd_Chart_lookAhead_83 (by decide) ?_
      refine gh_pick (L2 := [(0, 2, 30), (1, 0, v1), (2, 0, v2), (3, 2, 33), (4, 0, v4), (5, 0, v5), (6, 0, v6), (7, 0, v7 + 1)]) [1, 2, 3, 4, 5, 6, 7, 0] rfl ?_
      exact hK37 (v7 + 1) (gh_u m 35 v7 (gh_ior_f (m 35 v7) (if (gh_iand_f (gh_ishr_f v4 v7) 1) = 0 then 0 else v6))) hF h
    refine gh_zne (tgt := 76) gd_Chart_lookAhead_69 (by decide) (fun c1491 => ?_) (fun c1491 => ?_)
    · have hz : True := trivial
      refine gh_iconst gd_Chart_lookAhead_72 (gh_r0 rfl) ?_
      refine gh_goto (tgt := 78) gd_Chart_lookAhead_73 (by decide) ?_
      exact k1486 _ (by rw [if_pos c1491])
    · have hz : True := trivial
      refine gh_iload gd_Chart_lookAhead_76 6 rfl ?_
      exact k1486 _ (by rw [if_neg c1491])
  refine gh_jgt (tgt := 86) gd_Chart_lookAhead_46 (by decide) (fun c1492 => ?_) (fun c1492 => ?_)
  · have hz : True := trivial
    refine gh_iload gd_Chart_lookAhead_49 6 rfl ?_
    refine gh_zle (tgt := 86) gd_Chart_lookAhead_51 (by decide) (fun c1493 => ?_) (fun c1493 => ?_)
    · have hz : True := trivial
      exact k1482 (Or.inr c1493)
    · have hz : True := trivial
      exact k1483 (fun z => z.elim (fun w => w c1492) c1493)
  · have hz : True := trivial
    exact k1482 (Or.inl c1492)
theorem b_Chart_lookAhead_33_8 {E : gh_E} {v1 : Int} {v2 : Int} {Q : Int → gh_M → Prop} {K8 : Int → Int → gh_M → Prop} (d : Nat) (hK : ∀ (v4 : Int) (v5 : Int) (m : gh_M), gh_F m → K8 v4 v5 m → gh_T E (gh_yChart_lookAhead.cls, prog_2_method_10_code, 8, false, 9) (d + 3) 8 [(0, 2, 30), (1, 0, v1), (2, 0, v2), (3, 2, 33), (4, 0, v4), (5, 0, v5)] [] m (fun r m1 => gh_F m1 ∧ Q r m1)) (v4 : Int) (v5 : Int) (m : gh_M) (hF : gh_F m) (h : f_Chart_lookAhead_33_8 v1 v2 Q K8 v4 v5 m) : gh_T E (gh_yChart_lookAhead.cls, prog_2_method_10_code, 8, false, 9) (d + 3) 8 [(0, 2, 30), (1, 0, v1), (2, 0, v2), (3, 2, 33), (4, 0, v4), (5, 0, v5)] [] m (fun r m1 => gh_F m1 ∧ Q r m1) := by
  have hK8 := hK
  unfold f_Chart_lookAhead_33_8 at h
  refine gh_iload gd_Chart_lookAhead_8 5 rfl ?_
  refine gh_aload_n gd_Chart_lookAhead_10 0 rfl (by decide) ?_
  refine gf_30_0 gd_Chart_lookAhead_11 gh_k413 hF ?_
  refine gf_13_6 gd_Chart_lookAhead_14 gh_k288 hF ?_
  refine gh_iload_n gd_Chart_lookAhead_17 1 rfl ?_
  obtain ⟨q1475, h⟩ := h
  obtain ⟨q1476, h⟩ := h
  refine la_17 gd_Chart_lookAhead_18 hF q1475 q1476 rfl ?_
  obtain ⟨hA, hB⟩ := h
  refine gh_jge (tgt := 103) gd_Chart_lookAhead_19 (by decide) (fun c1477 => ?_) (fun c1477 => ?_)
  · have h := hA c1477
    refine gh_aload_n gd_Chart_lookAhead_22 0 rfl (by decide) ?_
    refine gf_30_0 gd_Chart_lookAhead_23 gh_k413 hF ?_
    refine gh_iload_n gd_Chart_lookAhead_26 1 rfl ?_
    refine gh_iload gd_Chart_lookAhead_27 5 rfl ?_
    obtain ⟨q1478, h⟩ := h
    refine cv_Grammar_partAt (d := d + 2) gd_Chart_lookAhead_29 gh_k1090 hF (Nat.le_of_ble_eq_true rfl) (gh_C.pe (e_Grammar_partAt (d + 2) v1 v5 hF q1478) ?_)
    refine gh_name (fun v6 hn => ?_)
    have h := h v6 hn
    refine gh_istore (L2 := [(6, 0, v6), (0, 2, 30), (1, 0, v1), (2, 0, v2), (3, 2, 33), (4, 0, v4), (5, 0, v5)]) gd_Chart_lookAhead_32 (by decide) rfl ?_
    refine gh_iload_n gd_Chart_lookAhead_34 3 rfl ?_
    refine gh_istore (L2 := [(7, 0, v2), (6, 0, v6), (0, 2, 30), (1, 0, v1), (2, 0, v2), (3, 2, 33), (4, 0, v4), (5, 0, v5)]) gd_Chart_lookAhead_35 (by decide) rfl ?_
    refine gh_pick (L2 := [(0, 2, 30), (1, 0, v1), (2, 0, v2), (3, 2, 33), (4, 0, v4), (5, 0, v5), (6, 0, v6), (7, 0, v2)]) [2, 3, 4, 5, 6, 7, 1, 0] rfl ?_
    exact gh_M1_sound (T := fun v7 m => gh_T E (gh_yChart_lookAhead.cls, prog_2_method_10_code, 8, false, 9) (d + 3) 37 [(0, 2, 30), (1, 0, v1), (2, 0, v2), (3, 2, 33), (4, 0, v4), (5, 0, v5), (6, 0, v6), (7, 0, v7)] [] m (fun r m1 => gh_F m1 ∧ Q r m1)) (fun _ m => gh_F m) (fun K37 v7 m hK hF h => b_Chart_lookAhead_33_37 d hK8 hK v7 m hF h) v2 m hF h
  · have h := hB c1477
    exact gh_ret9 rfl gd_Chart_lookAhead_103 ⟨hF, h⟩
theorem s_Chart_lookAhead_33 {E : gh_E} {m : gh_M} {Q : Int → gh_M → Prop} (d : Nat) (v1 : Int) (v2 : Int) (hF : gh_F m) (h : w_Chart_lookAhead_33 v1 v2 m Q) : gh_C E gh_yChart_lookAhead prog_2_method_10_code 8 none 9 (d + 3) [(2, 30), (0, v1), (0, v2), (2, 33)] m (fun r m1 => gh_F m1 ∧ Q r m1) := by
  refine gh_enter2 (L := [(0, 2, 30), (1, 0, v1), (2, 0, v2), (3, 2, 33)]) (by decide +kernel) gh_rt9 (Nat.le_of_ble_eq_true rfl) rfl rfl ?_
  unfold w_Chart_lookAhead_33 at h
  refine gh_iconst gd_Chart_lookAhead_0 (gh_r0 rfl) ?_
  refine gh_iload_n gd_Chart_lookAhead_1 2 rfl ?_
  refine gh_ishl gd_Chart_lookAhead_2 ?_
  refine gh_name (fun v4 hn => ?_)
  have h := h v4 hn
  refine gh_istore (L2 := [(4, 0, v4), (0, 2, 30), (1, 0, v1), (2, 0, v2), (3, 2, 33)]) gd_Chart_lookAhead_3 (by decide) rfl ?_
  refine gh_iconst gd_Chart_lookAhead_5 (gh_r0 rfl) ?_
  refine gh_istore (L2 := [(5, 0, 0), (4, 0, v4), (0, 2, 30), (1, 0, v1), (2, 0, v2), (3, 2, 33)]) gd_Chart_lookAhead_6 (by decide) rfl ?_
  refine gh_pick (L2 := [(0, 2, 30), (1, 0, v1), (2, 0, v2), (3, 2, 33), (4, 0, v4), (5, 0, 0)]) [2, 3, 4, 5, 1, 0] rfl ?_
  exact gh_M2_sound (T := fun v4 v5 m => gh_T E (gh_yChart_lookAhead.cls, prog_2_method_10_code, 8, false, 9) (d + 3) 8 [(0, 2, 30), (1, 0, v1), (2, 0, v2), (3, 2, 33), (4, 0, v4), (5, 0, v5)] [] m (fun r m1 => gh_F m1 ∧ Q r m1)) (fun _ _ m => gh_F m) (fun K8 v4 v5 m hK hF h => b_Chart_lookAhead_33_8 d hK v4 v5 m hF h) v4 0 m hF h
def f_Chart_await_33_63 (v2 : Int) (v3 : Int) (v4 : Int) (v5 : Int) (v6 : Int) (v4' : Int) (K28 : Int → Int → gh_M → Prop) (K63 : Int → gh_M → Prop) (v7 : Int) (m : gh_M) : Prop := ((v7 < (m 13 2) → 0 ≤ v7 ∧ v7 < 20 ∧ ∃ J131 : gh_M → Prop, (∀ (m : gh_M), J131 m → gh_i (v7 + 1) ∧ K63 (v7 + 1) m) ∧ (((gh_iand_f (gh_ishr_f v6 (m 16 v7)) 1) = 0 → J131 m) ∧ (¬ ((gh_iand_f (gh_ishr_f v6 (m 16 v7)) 1) = 0) → ((v2 = 0 → w_Chart_goThrough_33 v7 v3 m (fun _ m1442 => J131 m1442)) ∧ (¬ (v2 = 0) → ((p_Facts_isUsefulRule v7 m → w_Chart_lookAhead_33 v7 v3 m (fun _ m1474 => J131 m1474)) ∧ (¬ (p_Facts_isUsefulRule v7 m) → J131 m))))))) ∧ (¬ (v7 < (m 13 2)) → gh_i (v5 + 1) ∧ K28 v4' (v5 + 1) m))
def f_Chart_await_33_28 (v2 : Int) (v3 : Int) (K11 : Int → gh_M → Prop) (K28 : Int → Int → gh_M → Prop) (v4 : Int) (v5 : Int) (m : gh_M) : Prop := ∃ J143 : gh_M → Prop, (∀ (m : gh_M), J143 m → gh_i (v3 + 1) ∧ K11 (v3 + 1) m) ∧ (((v5 ≤ 8) → (0 ≤ v3 ∧ v3 < 9))) ∧ (((¬ (v5 ≤ 8) ∨ ((m 33 v3) = v4)) → J143 m) ∧ (¬ (¬ (v5 ≤ 8) ∨ ((m 33 v3) = v4)) → 0 ≤ v3 ∧ v3 < 9 ∧ ∀ v6 : Int, v6 = gh_iand_f (m 33 v3) (gh_ixor_f v4 (-1)) → ∀ v4' : Int, v4' = gh_ior_f v4 v6 → gh_M1 (fun K63 v7 m => f_Chart_await_33_63 v2 v3 v4 v5 v6 v4' K28 K63 v7 m) 0 m))
def f_Chart_await_33_11 (v2 : Int) (Q : Int → gh_M → Prop) (K11 : Int → gh_M → Prop) (v3 : Int) (m : gh_M) : Prop := ((v3 ≤ (m 26 3) → gh_M2 (fun K28 v4 v5 m => f_Chart_await_33_28 v2 v3 K11 K28 v4 v5 m) 0 0 m) ∧ (¬ (v3 ≤ (m 26 3)) → Q 0 m))
def w_Chart_await_33 (v2 : Int) (m : gh_M) (Q : Int → gh_M → Prop) : Prop := gh_M1 (fun K11 v3 m => f_Chart_await_33_11 v2 Q K11 v3 m) 0 (gh_u (gh_fil m 33 9 0) 33 0 1)
theorem b_Chart_await_33_63 {E : gh_E} {v2 : Int} {v3 : Int} {v4 : Int} {v5 : Int} {v6 : Int} {v4' : Int} {K28 : Int → Int → gh_M → Prop} {Q : Int → gh_M → Prop} {K63 : Int → gh_M → Prop} (d : Nat) (hK28 : ∀ (v4 : Int) (v5 : Int) (m : gh_M), gh_F m → K28 v4 v5 m → gh_T E (gh_yChart_await.cls, prog_2_method_8_code, 8, false, 9) (d + 4) 28 [(0, 2, 30), (1, 2, 33), (2, 0, v2), (3, 0, v3), (4, 0, v4), (5, 0, v5)] [] m (fun r m1 => gh_F m1 ∧ Q r m1)) (hK : ∀ (v7 : Int) (m : gh_M), gh_F m → K63 v7 m → gh_T E (gh_yChart_await.cls, prog_2_method_8_code, 8, false, 9) (d + 4) 63 [(0, 2, 30), (1, 2, 33), (2, 0, v2), (3, 0, v3), (4, 0, v4'), (5, 0, v5), (6, 0, v6), (7, 0, v7)] [] m (fun r m1 => gh_F m1 ∧ Q r m1)) (v7 : Int) (m : gh_M) (hF : gh_F m) (h : f_Chart_await_33_63 v2 v3 v4 v5 v6 v4' K28 K63 v7 m) : gh_T E (gh_yChart_await.cls, prog_2_method_8_code, 8, false, 9) (d + 4) 63 [(0, 2, 30), (1, 2, 33), (2, 0, v2), (3, 0, v3), (4, 0, v4'), (5, 0, v5), (6, 0, v6), (7, 0, v7)] [] m (fun r m1 => gh_F m1 ∧ Q r m1) := by
  have hK63 := hK
  unfold f_Chart_await_33_63 at h
  refine gh_iload gd_Chart_await_63 7 rfl ?_
  refine gh_aload_n gd_Chart_await_65 0 rfl (by decide) ?_
  refine gf_30_0 gd_Chart_await_66 gh_k413 hF ?_
  refine gf_13_2 gd_Chart_await_69 gh_k267 hF rfl ?_
  obtain ⟨hA, hB⟩ := h
  refine gh_jge (tgt := 137) gd_Chart_await_72 (by decide) (fun c1435 => ?_) (fun c1435 => ?_)
  · have h := hA c1435
    refine gh_iload gd_Chart_await_75 6 rfl ?_
    refine gh_aload_n gd_Chart_await_77 0 rfl (by decide) ?_
    refine gf_30_0 gd_Chart_await_78 gh_k413 hF ?_
    refine gf_13_5 gd_Chart_await_81 gh_k279 hF ?_
    refine gh_iload gd_Chart_await_84 7 rfl ?_
    obtain ⟨q1436, h⟩ := h
    obtain ⟨q1437, h⟩ := h
    refine la_16 gd_Chart_await_86 hF q1436 q1437 rfl ?_
    refine gh_ishr gd_Chart_await_87 ?_
    refine gh_iconst gd_Chart_await_88 (gh_r0 rfl) ?_
    refine gh_iand gd_Chart_await_89 ?_
    obtain ⟨J131, hJ131, h⟩ := h
    have hJ131 : ∀ (m : gh_M), gh_F m → J131 m → gh_T E (gh_yChart_await.cls, prog_2_method_8_code, 8, false, 9) (d + 4) 131 [(0, 2, 30), (1, 2, 33), (2, 0, v2), (3, 0, v3), (4, 0, v4'), (5, 0, v5), (6, 0, v6), (7, 0, v7)] [] m (fun r m1 => gh_F m1 ∧ Q r m1) := by
      intro m hF hj
      have h := hJ131 m hj
      obtain ⟨q1438, h⟩ := h
      refine gh_iinc (L2 := [(7, 0, v7 + 1), (0, 2, 30), (1, 2, 33), (2, 0, v2), (3, 0, v3), (4, 0, v4'), (5, 0, v5), (6, 0, v6)]) gd_Chart_await_131 7 rfl q1438 (by decide) rfl ?_
      refine gh_goto (tgt := 63) gd_Chart_await_134 (by decide) ?_
      refine gh_pick (L2 := [(0, 2, 30), (1, 2, 33), (2, 0, v2), (3, 0, v3), (4, 0, v4'), (5, 0, v5), (6, 0, v6), (7, 0, v7 + 1)]) [1, 2, 3, 4, 5, 6, 7, 0] rfl ?_
      exact hK63 (v7 + 1) m hF h
    obtain ⟨hA, hB⟩ := h
    refine gh_zne (tgt := 96) gd_Chart_await_90 (by decide) (fun c1439 => ?_) (fun c1439 => ?_)
    · have h := hA c1439
      refine gh_goto (tgt := 131) gd_Chart_await_93 (by decide) ?_
      exact hJ131 m hF h
    · have h := hB c1439
      refine gh_iload_n gd_Chart_await_96 2 rfl ?_
      obtain ⟨hA, hB⟩ := h
      refine gh_zne (tgt := 111) gd_Chart_await_97 (by decide) (fun c1440 => ?_) (fun c1440 => ?_)
      · have h := hA c1440
        refine gh_aload_n gd_Chart_await_100 0 rfl (by decide) ?_
        refine gh_iload gd_Chart_await_101 7 rfl ?_
        refine gh_iload_n gd_Chart_await_103 3 rfl ?_
        refine gh_aload_n gd_Chart_await_104 1 rfl (by decide) ?_
        refine cv_Chart_goThrough (d := d + 3) gd_Chart_await_105 gh_k1104 hF (Nat.le_of_ble_eq_true rfl) (gh_C.mono (s_Chart_goThrough_33 d v7 v3 hF h) (fun r1441 m1442 hq => ?_))
        obtain ⟨hF, h⟩ := hq
        refine gh_goto (tgt := 131) gd_Chart_await_108 (by decide) ?_
        exact hJ131 m1442 hF h
      · have h := hB c1440
        refine gh_aload_n gd_Chart_await_111 0 rfl (by decide) ?_
        refine gf_30_1 gd_Chart_await_112 gh_k414 hF ?_
        refine gh_iload gd_Chart_await_115 7 rfl ?_
        refine cv_Facts_isUsefulRule (d := d + 3) gd_Chart_await_117 gh_k1112 hF (Nat.le_of_ble_eq_true rfl) (gh_C.pe (e_Facts_isUsefulRule (d + 3) v7 hF) ?_)
        obtain ⟨hA, hB⟩ := h
        refine gh_beq (tgt := 131) gd_Chart_await_120 (by decide) (fun c1472 => ?_) (fun c1472 => ?_)
        · have h := hA c1472
          refine gh_aload_n gd_Chart_await_123 0 rfl (by decide) ?_
          refine gh_iload gd_Chart_await_124 7 rfl ?_
          refine gh_iload_n gd_Chart_await_126 3 rfl ?_
          refine gh_aload_n gd_Chart_await_127 1 rfl (by decide) ?_
          refine cv_Chart_lookAhead (d := d + 3) gd_Chart_await_128 gh_k1113 hF (Nat.le_of_ble_eq_true rfl) (gh_C.mono (s_Chart_lookAhead_33 d v7 v3 hF h) (fun r1473 m1474 hq => ?_))
          obtain ⟨hF, h⟩ := hq
          exact hJ131 m1474 hF h
        · have h := hB c1472
          exact hJ131 m hF h
  · have h := hB c1435
    obtain ⟨q1494, h⟩ := h
    refine gh_iinc (L2 := [(5, 0, v5 + 1), (0, 2, 30), (1, 2, 33), (2, 0, v2), (3, 0, v3), (4, 0, v4'), (6, 0, v6), (7, 0, v7)]) gd_Chart_await_137 5 rfl q1494 (by decide) rfl ?_
    refine gh_goto (tgt := 28) gd_Chart_await_140 (by decide) ?_
    refine gh_pick (L2 := [(0, 2, 30), (1, 2, 33), (2, 0, v2), (3, 0, v3), (4, 0, v4'), (5, 0, v5 + 1)]) [1, 2, 3, 4, 5, 0] rfl ?_
    exact hK28 v4' (v5 + 1) m hF h
theorem b_Chart_await_33_28 {E : gh_E} {v2 : Int} {v3 : Int} {K11 : Int → gh_M → Prop} {Q : Int → gh_M → Prop} {K28 : Int → Int → gh_M → Prop} (d : Nat) (hK11 : ∀ (v3 : Int) (m : gh_M), gh_F m → K11 v3 m → gh_T E (gh_yChart_await.cls, prog_2_method_8_code, 8, false, 9) (d + 4) 11 [(0, 2, 30), (1, 2, 33), (2, 0, v2), (3, 0, v3)] [] m (fun r m1 => gh_F m1 ∧ Q r m1)) (hK : ∀ (v4 : Int) (v5 : Int) (m : gh_M), gh_F m → K28 v4 v5 m → gh_T E (gh_yChart_await.cls, prog_2_method_8_code, 8, false, 9) (d + 4) 28 [(0, 2, 30), (1, 2, 33), (2, 0, v2), (3, 0, v3), (4, 0, v4), (5, 0, v5)] [] m (fun r m1 => gh_F m1 ∧ Q r m1)) (v4 : Int) (v5 : Int) (m : gh_M) (hF : gh_F m) (h : f_Chart_await_33_28 v2 v3 K11 K28 v4 v5 m) : gh_T E (gh_yChart_await.cls, prog_2_method_8_code, 8, false, 9) (d + 4) 28 [(0, 2, 30), (1, 2, 33), (2, 0, v2), (3, 0, v3), (4, 0, v4), (5, 0, v5)] [] m (fun r m1 => gh_F m1 ∧ Q r m1) := by
  have hK28 := hK
  unfold f_Chart_await_33_28 at h
  refine gh_iload gd_Chart_await_28 5 rfl ?_
  refine gh_bipush gd_Chart_await_30 (by decide) (gh_r0 rfl) ?_
  obtain ⟨J143, hJ143, h⟩ := h
  have hJ143 : ∀ (m : gh_M), gh_F m → J143 m → gh_T E (gh_yChart_await.cls, prog_2_method_8_code, 8, false, 9) (d + 4) 143 [(0, 2, 30), (1, 2, 33), (2, 0, v2), (3, 0, v3)] [] m (fun r m1 => gh_F m1 ∧ Q r m1) := by
    intro m hF hj
    have h := hJ143 m hj
    obtain ⟨q1428, h⟩ := h
    refine gh_iinc (L2 := [(3, 0, v3 + 1), (0, 2, 30), (1, 2, 33), (2, 0, v2)]) gd_Chart_await_143 3 rfl q1428 (by decide) rfl ?_
    refine gh_goto (tgt := 11) gd_Chart_await_146 (by decide) ?_
    refine gh_pick (L2 := [(0, 2, 30), (1, 2, 33), (2, 0, v2), (3, 0, v3 + 1)]) [1, 2, 3, 0] rfl ?_
    exact hK11 (v3 + 1) m hF h
  obtain ⟨hk, hA, hB⟩ := h
  have k1431 : (¬ (v5 ≤ 8) ∨ ((m 33 v3) = v4)) → gh_T E (gh_yChart_await.cls, prog_2_method_8_code, 8, false, 9) (d + 4) 143 [(0, 2, 30), (1, 2, 33), (2, 0, v2), (3, 0, v3), (4, 0, v4), (5, 0, v5)] [] m (fun r m1 => gh_F m1 ∧ Q r m1) := by
    intro c
    have h := hA c
    refine gh_pick (L2 := [(0, 2, 30), (1, 2, 33), (2, 0, v2), (3, 0, v3)]) [0, 1, 2, 3] rfl ?_
    exact hJ143 m hF h
  have k1432 : ¬ (¬ (v5 ≤ 8) ∨ ((m 33 v3) = v4)) → gh_T E (gh_yChart_await.cls, prog_2_method_8_code, 8, false, 9) (d + 4) 43 [(0, 2, 30), (1, 2, 33), (2, 0, v2), (3, 0, v3), (4, 0, v4), (5, 0, v5)] [] m (fun r m1 => gh_F m1 ∧ Q r m1) := by
    intro c
    have h := hB c
    refine gh_aload_n gd_Chart_await_43 1 rfl (by decide) ?_
    refine gh_iload_n gd_Chart_await_44 3 rfl ?_
    obtain ⟨q1433, h⟩ := h
    obtain ⟨q1434, h⟩ := h
    refine la_33 gd_Chart_await_45 hF q1433 q1434 rfl ?_
    refine gh_iload gd_Chart_await_46 4 rfl ?_
    refine gh_iconst gd_Chart_await_48 (gh_r0 rfl) ?_
    refine gh_ixor gd_Chart_await_49 ?_
    refine gh_iand gd_Chart_await_50 ?_
    refine gh_name (fun v6 hn => ?_)
    have h := h v6 hn
    refine gh_istore (L2 := [(6, 0, v6), (0, 2, 30), (1, 2, 33), (2, 0, v2), (3, 0, v3), (4, 0, v4), (5, 0, v5)]) gd_Chart_await_51 (by decide) rfl ?_
    refine gh_iload gd_Chart_await_53 5 rfl ?_
    refine gh_iload gd_Chart_await_55 0 rfl ?_
    refine gh_ior gd_Chart_await_57 ?_
    refine gh_name (fun v4' hn => ?_)
    have h := h v4' hn
    refine gh_istore (L2 := [(4, 0, v4'), (6, 0, v6), (0, 2, 30), (1, 2, 33), (2, 0, v2), (3, 0, v3), (5, 0, v5)]) gd_Chart_await_58 (by decide) rfl ?_
    refine gh_iconst gd_Chart_await_60 (gh_r0 rfl) ?_
    refine gh_istore (L2 := [(7, 0, 0), (4, 0, v4'), (6, 0, v6), (0, 2, 30), (1, 2, 33), (2, 0, v2), (3, 0, v3), (5, 0, v5)]) gd_Chart_await_61 (by decide) rfl ?_
    refine gh_pick (L2 := [(0, 2, 30), (1, 2, 33), (2, 0, v2), (3, 0, v3), (4, 0, v4'), (5, 0, v5), (6, 0, v6), (7, 0, 0)]) [3, 4, 5, 6, 1, 7, 2, 0] rfl ?_
    exact gh_M1_sound (T := fun v7 m => gh_T E (gh_yChart_await.cls, prog_2_method_8_code, 8, false, 9) (d + 4) 63 [(0, 2, 30), (1, 2, 33), (2, 0, v2), (3, 0, v3), (4, 0, v4'), (5, 0, v5), (6, 0, v6), (7, 0, v7)] [] m (fun r m1 => gh_F m1 ∧ Q r m1)) (fun _ m => gh_F m) (fun K63 v7 m hK hF h => b_Chart_await_33_63 d hK28 hK v7 m hF h) 0 m hF h
  refine gh_jgt (tgt := 143) gd_Chart_await_32 (by decide) (fun c1495 => ?_) (fun c1495 => ?_)
  · have hz : True := trivial
    have hk := hk c1495
    refine gh_aload_n gd_Chart_await_35 1 rfl (by decide) ?_
    refine gh_iload_n gd_Chart_await_36 3 rfl ?_
    obtain ⟨q1429, hk⟩ := hk
    have q1430 := hk
    refine la_33 gd_Chart_await_37 hF q1429 q1430 rfl ?_
    refine gh_iload gd_Chart_await_38 4 rfl ?_
    refine gh_jeq (tgt := 143) gd_Chart_await_40 (by decide) (fun c1496 => ?_) (fun c1496 => ?_)
    · have hz : True := trivial
      exact k1431 (Or.inr c1496)
    · have hz : True := trivial
      exact k1432 (fun z => z.elim (fun w => w c1495) c1496)
  · have hz : True := trivial
    exact k1431 (Or.inl c1495)
theorem b_Chart_await_33_11 {E : gh_E} {v2 : Int} {Q : Int → gh_M → Prop} {K11 : Int → gh_M → Prop} (d : Nat) (hK : ∀ (v3 : Int) (m : gh_M), gh_F m → K11 v3 m → gh_T E (gh_yChart_await.cls, prog_2_method_8_code, 8, false, 9) (d + 4) 11 [(0, 2, 30), (1, 2, 33), (2, 0, v2), (3, 0, v3)] [] m (fun r m1 => gh_F m1 ∧ Q r m1)) (v3 : Int) (m : gh_M) (hF : gh_F m) (h : f_Chart_await_33_11 v2 Q K11 v3 m) : gh_T E (gh_yChart_await.cls, prog_2_method_8_code, 8, false, 9) (d + 4) 11 [(0, 2, 30), (1, 2, 33), (2, 0, v2), (3, 0, v3)] [] m (fun r m1 => gh_F m1 ∧ Q r m1) := by
  have hK11 := hK
  unfold f_Chart_await_33_11 at h
  refine gh_iload_n gd_Chart_await_11 3 rfl ?_
  refine gh_aload_n gd_Chart_await_12 0 rfl (by decide) ?_
  refine gf_30_2 gd_Chart_await_13 gh_k415 hF ?_
  refine gf_26_3 gd_Chart_await_16 gh_k380 hF rfl ?_
  obtain ⟨hA, hB⟩ := h
  refine gh_jgt (tgt := 149) gd_Chart_await_19 (by decide) (fun c1427 => ?_) (fun c1427 => ?_)
  · have h := hA c1427
    refine gh_iconst gd_Chart_await_22 (gh_r0 rfl) ?_
    refine gh_istore (L2 := [(4, 0, 0), (0, 2, 30), (1, 2, 33), (2, 0, v2), (3, 0, v3)]) gd_Chart_await_23 (by decide) rfl ?_
    refine gh_iconst gd_Chart_await_25 (gh_r0 rfl) ?_
    refine gh_istore (L2 := [(5, 0, 0), (4, 0, 0), (0, 2, 30), (1, 2, 33), (2, 0, v2), (3, 0, v3)]) gd_Chart_await_26 (by decide) rfl ?_
    refine gh_pick (L2 := [(0, 2, 30), (1, 2, 33), (2, 0, v2), (3, 0, v3), (4, 0, 0), (5, 0, 0)]) [2, 3, 4, 5, 1, 0] rfl ?_
    exact gh_M2_sound (T := fun v4 v5 m => gh_T E (gh_yChart_await.cls, prog_2_method_8_code, 8, false, 9) (d + 4) 28 [(0, 2, 30), (1, 2, 33), (2, 0, v2), (3, 0, v3), (4, 0, v4), (5, 0, v5)] [] m (fun r m1 => gh_F m1 ∧ Q r m1)) (fun _ _ m => gh_F m) (fun K28 v4 v5 m hK hF h => b_Chart_await_33_28 d hK11 hK v4 v5 m hF h) 0 0 m hF h
  · have h := hB c1427
    exact gh_ret9 rfl gd_Chart_await_149 ⟨hF, h⟩
theorem s_Chart_await_33 {E : gh_E} {m : gh_M} {Q : Int → gh_M → Prop} (d : Nat) (v2 : Int) (hF : gh_F m) (h : w_Chart_await_33 v2 m Q) : gh_C E gh_yChart_await prog_2_method_8_code 8 none 9 (d + 4) [(2, 30), (2, 33), (0, v2)] m (fun r m1 => gh_F m1 ∧ Q r m1) := by
  refine gh_enter2 (L := [(0, 2, 30), (1, 2, 33), (2, 0, v2)]) (by decide +kernel) gh_rt9 (Nat.le_of_ble_eq_true rfl) rfl rfl ?_
  unfold w_Chart_await_33 at h
  refine gh_aload_n gd_Chart_await_0 1 rfl (by decide) ?_
  refine gh_iconst gd_Chart_await_1 (gh_r0 rfl) ?_
  refine gh_fillF (d := d + 3) gd_Chart_await_2 gh_k1081 (ga_33 hF) (Nat.le_of_ble_eq_true rfl) hF gn_33 (by decide) (fun hF => ?_)
  refine gh_aload_n gd_Chart_await_5 1 rfl (by decide) ?_
  refine gh_iconst gd_Chart_await_6 (gh_r0 rfl) ?_
  refine gh_iconst gd_Chart_await_7 (gh_r0 rfl) ?_
  refine sa_33 gd_Chart_await_8 hF (by decide) (by decide) (fun hF => ?_)
  refine gh_iconst gd_Chart_await_9 (gh_r0 rfl) ?_
  refine gh_istore_n (L2 := [(3, 0, 0), (0, 2, 30), (1, 2, 33), (2, 0, v2)]) gd_Chart_await_10 (by decide) rfl ?_
  refine gh_pick (L2 := [(0, 2, 30), (1, 2, 33), (2, 0, v2), (3, 0, 0)]) [1, 2, 3, 0] rfl ?_
  exact gh_M1_sound (T := fun v3 m => gh_T E (gh_yChart_await.cls, prog_2_method_8_code, 8, false, 9) (d + 4) 11 [(0, 2, 30), (1, 2, 33), (2, 0, v2), (3, 0, v3)] [] m (fun r m1 => gh_F m1 ∧ Q r m1)) (fun _ m => gh_F m) (fun K11 v3 m hK hF h => b_Chart_await_33_11 d hK v3 m hF h) 0 (gh_u (gh_fil m 33 9 0) 33 0 1) hF h
def f_Chart_refresh_80 (Q : Int → gh_M → Prop) (K80 : Int → gh_M → Prop) (v1 : Int) (m : gh_M) : Prop := ((v1 ≤ (m 26 3) → 0 ≤ v1 ∧ v1 < 9 ∧ 0 ≤ v1 ∧ v1 < 9 ∧ gh_i (v1 + 1) ∧ K80 (v1 + 1) (gh_u m 35 v1 (gh_ior_f (m 35 v1) (gh_ishl_f (gh_iand_f (gh_ishr_f (m 31 0) v1) 1) 26)))) ∧ (¬ (v1 ≤ (m 26 3)) → Q 0 m))
def f_Chart_refresh_29 (Q : Int → gh_M → Prop) (K29 : Int → gh_M → Prop) (v1 : Int) (m : gh_M) : Prop := ((v1 < 0 → w_Chart_await_32 0 (gh_fil (gh_fil m 34 9 0) 35 9 0) (fun _ m1354 => w_Chart_await_33 1 m1354 (fun _ m1426 => gh_M1 (fun K80 v1 m => f_Chart_refresh_80 Q K80 v1 m) 0 m1426))) ∧ (¬ (v1 < 0) → w_Chart_findEnds v1 m (fun _ m1504 => gh_i (v1 + (-1)) ∧ K29 (v1 + (-1)) m1504)))
def w_Chart_refresh (m : gh_M) (Q : Int → gh_M → Prop) : Prop := (((m 30 3) = 0 → ∀ v1 : Int, v1 = (gh_fil (gh_u m 30 3 1) 31 72 0) 26 3 → gh_M1 (fun K29 v1 m => f_Chart_refresh_29 Q K29 v1 m) v1 (gh_fil (gh_u m 30 3 1) 31 72 0)) ∧ (¬ ((m 30 3) = 0) → Q 0 m))
theorem b_Chart_refresh_80 {E : gh_E} {Q : Int → gh_M → Prop} {K80 : Int → gh_M → Prop} (d : Nat) (hK : ∀ (v1 : Int) (m : gh_M), gh_F m → K80 v1 m → gh_T E (gh_yChart_refresh.cls, prog_2_method_4_code, 2, false, 9) (d + 5) 80 [(0, 2, 30), (1, 0, v1)] [] m (fun r m1 => gh_F m1 ∧ Q r m1)) (v1 : Int) (m : gh_M) (hF : gh_F m) (h : f_Chart_refresh_80 Q K80 v1 m) : gh_T E (gh_yChart_refresh.cls, prog_2_method_4_code, 2, false, 9) (d + 5) 80 [(0, 2, 30), (1, 0, v1)] [] m (fun r m1 => gh_F m1 ∧ Q r m1) := by
  have hK80 := hK
  unfold f_Chart_refresh_80 at h
  refine gh_iload_n gd_Chart_refresh_80 1 rfl ?_
  refine gh_aload_n gd_Chart_refresh_81 0 rfl (by decide) ?_
  refine gf_30_2 gd_Chart_refresh_82 gh_k415 hF ?_
  refine gf_26_3 gd_Chart_refresh_85 gh_k380 hF rfl ?_
  obtain ⟨hA, hB⟩ := h
  refine gh_jgt (tgt := 119) gd_Chart_refresh_88 (by decide) (fun c1497 => ?_) (fun c1497 => ?_)
  · have h := hA c1497
    refine gh_aload_n gd_Chart_refresh_91 0 rfl (by decide) ?_
    refine gf_30_8 gd_Chart_refresh_92 gh_k423 hF ?_
    refine gh_iload_n gd_Chart_refresh_95 1 rfl ?_
    refine gh_dup2 gd_Chart_refresh_96 (by decide) (by decide) ?_
    obtain ⟨q1498, h⟩ := h
    obtain ⟨q1499, h⟩ := h
    refine la_35 gd_Chart_refresh_97 hF q1498 q1499 rfl ?_
    refine gh_aload_n gd_Chart_refresh_98 0 rfl (by decide) ?_
    refine gf_30_4 gd_Chart_refresh_99 gh_k418 hF ?_
    refine gh_iconst gd_Chart_refresh_102 (gh_r0 rfl) ?_
    refine la_31 gd_Chart_refresh_103 hF (by decide) (by decide) rfl ?_
    refine gh_iload_n gd_Chart_refresh_104 1 rfl ?_
    refine gh_ishr gd_Chart_refresh_105 ?_
    refine gh_iconst gd_Chart_refresh_106 (gh_r0 rfl) ?_
    refine gh_iand gd_Chart_refresh_107 ?_
    refine gh_bipush gd_Chart_refresh_108 (by decide) (gh_r0 rfl) ?_
    refine gh_ishl gd_Chart_refresh_110 ?_
    refine gh_ior gd_Chart_refresh_111 ?_
    obtain ⟨q1500, h⟩ := h
    obtain ⟨q1501, h⟩ := h
    refine sa_35 gd_Chart_refresh_112 hF q1500 q1501 (fun hF => ?_)
    obtain ⟨q1502, h⟩ := h
    refine gh_iinc (L2 := [(1, 0, v1 + 1), (0, 2, 30)]) gd_Chart_refresh_113 1 rfl q1502 (by decide) rfl ?_
    refine gh_goto (tgt := 80) gd_Chart_refresh_116 (by decide) ?_
    refine gh_pick (L2 := [(0, 2, 30), (1, 0, v1 + 1)]) [1, 0] rfl ?_
    exact hK80 (v1 + 1) (gh_u m 35 v1 (gh_ior_f (m 35 v1) (gh_ishl_f (gh_iand_f (gh_ishr_f (m 31 0) v1) 1) 26))) hF h
  · have h := hB c1497
    exact gh_ret9 rfl gd_Chart_refresh_119 ⟨hF, h⟩
theorem b_Chart_refresh_29 {E : gh_E} {Q : Int → gh_M → Prop} {K29 : Int → gh_M → Prop} (d : Nat) (hK : ∀ (v1 : Int) (m : gh_M), gh_F m → K29 v1 m → gh_T E (gh_yChart_refresh.cls, prog_2_method_4_code, 2, false, 9) (d + 5) 29 [(0, 2, 30), (1, 0, v1)] [] m (fun r m1 => gh_F m1 ∧ Q r m1)) (v1 : Int) (m : gh_M) (hF : gh_F m) (h : f_Chart_refresh_29 Q K29 v1 m) : gh_T E (gh_yChart_refresh.cls, prog_2_method_4_code, 2, false, 9) (d + 5) 29 [(0, 2, 30), (1, 0, v1)] [] m (fun r m1 => gh_F m1 ∧ Q r m1) := by
  have hK29 := hK
  unfold f_Chart_refresh_29 at h
  refine gh_iload_n gd_Chart_refresh_29 1 rfl ?_
  obtain ⟨hA, hB⟩ := h
  refine gh_zlt (tgt := 44) gd_Chart_refresh_30 (by decide) (fun c1352 => ?_) (fun c1352 => ?_)
  · have h := hA c1352
    refine gh_aload_n gd_Chart_refresh_44 0 rfl (by decide) ?_
    refine gf_30_7 gd_Chart_refresh_45 gh_k421 hF ?_
    refine gh_iconst gd_Chart_refresh_48 (gh_r0 rfl) ?_
    refine gh_fillF (d := d + 4) gd_Chart_refresh_49 gh_k1081 (ga_34 hF) (Nat.le_of_ble_eq_true rfl) hF gn_34 (by decide) (fun hF => ?_)
    refine gh_aload_n gd_Chart_refresh_52 0 rfl (by decide) ?_
    refine gf_30_8 gd_Chart_refresh_53 gh_k423 hF ?_
    refine gh_iconst gd_Chart_refresh_56 (gh_r0 rfl) ?_
    refine gh_fillF (d := d + 4) gd_Chart_refresh_57 gh_k1081 (ga_35 hF) (Nat.le_of_ble_eq_true rfl) hF gn_35 (by decide) (fun hF => ?_)
    refine gh_aload_n gd_Chart_refresh_60 0 rfl (by decide) ?_
    refine gh_aload_n gd_Chart_refresh_61 0 rfl (by decide) ?_
    refine gf_30_5 gd_Chart_refresh_62 gh_k419 hF ?_
    refine gh_iconst gd_Chart_refresh_65 (gh_r0 rfl) ?_
    refine cv_Chart_await (d := d + 4) gd_Chart_refresh_66 gh_k1100 hF (Nat.le_of_ble_eq_true rfl) (gh_C.mono (s_Chart_await_32 d 0 hF h) (fun r1353 m1354 hq => ?_))
    obtain ⟨hF, h⟩ := hq
    refine gh_aload_n gd_Chart_refresh_69 0 rfl (by decide) ?_
    refine gh_aload_n gd_Chart_refresh_70 0 rfl (by decide) ?_
    refine gf_30_6 gd_Chart_refresh_71 gh_k420 hF ?_
    refine gh_iconst gd_Chart_refresh_74 (gh_r0 rfl) ?_
    refine cv_Chart_await (d := d + 4) gd_Chart_refresh_75 gh_k1100 hF (Nat.le_of_ble_eq_true rfl) (gh_C.mono (s_Chart_await_33 d 1 hF h) (fun r1425 m1426 hq => ?_))
    obtain ⟨hF, h⟩ := hq
    refine gh_iconst gd_Chart_refresh_78 (gh_r0 rfl) ?_
    refine gh_istore_n (L2 := [(1, 0, 0), (0, 2, 30)]) gd_Chart_refresh_79 (by decide) rfl ?_
    refine gh_pick (L2 := [(0, 2, 30), (1, 0, 0)]) [1, 0] rfl ?_
    exact gh_M1_sound (T := fun v1 m => gh_T E (gh_yChart_refresh.cls, prog_2_method_4_code, 2, false, 9) (d + 5) 80 [(0, 2, 30), (1, 0, v1)] [] m (fun r m1 => gh_F m1 ∧ Q r m1)) (fun _ m => gh_F m) (fun K80 v1 m hK hF h => b_Chart_refresh_80 d hK v1 m hF h) 0 m1426 hF h
  · have h := hB c1352
    refine gh_aload_n gd_Chart_refresh_33 0 rfl (by decide) ?_
    refine gh_iload_n gd_Chart_refresh_34 1 rfl ?_
    refine cv_Chart_findEnds (d := d + 4) gd_Chart_refresh_35 gh_k1082 hF (Nat.le_of_ble_eq_true rfl) (gh_C.mono (s_Chart_findEnds (d + 1) v1 hF h) (fun r1503 m1504 hq => ?_))
    obtain ⟨hF, h⟩ := hq
    obtain ⟨q1505, h⟩ := h
    refine gh_iinc (L2 := [(1, 0, v1 + (-1)), (0, 2, 30)]) gd_Chart_refresh_38 1 rfl q1505 (by decide) rfl ?_
    refine gh_goto (tgt := 29) gd_Chart_refresh_41 (by decide) ?_
    refine gh_pick (L2 := [(0, 2, 30), (1, 0, v1 + (-1))]) [1, 0] rfl ?_
    exact hK29 (v1 + (-1)) m1504 hF h
theorem s_Chart_refresh {E : gh_E} {m : gh_M} {Q : Int → gh_M → Prop} (d : Nat) (hF : gh_F m) (h : w_Chart_refresh m Q) : gh_C E gh_yChart_refresh prog_2_method_4_code 2 none 9 (d + 5) [(2, 30)] m (fun r m1 => gh_F m1 ∧ Q r m1) := by
  refine gh_enter2 (L := [(0, 2, 30)]) (by decide +kernel) gh_rt9 (Nat.le_of_ble_eq_true rfl) rfl rfl ?_
  unfold w_Chart_refresh at h
  refine gh_aload_n gd_Chart_refresh_0 0 rfl (by decide) ?_
  refine gf_30_3 gd_Chart_refresh_1 gh_k416 hF rfl ?_
  obtain ⟨hA, hB⟩ := h
  refine gh_zeq (tgt := 8) gd_Chart_refresh_4 (by decide) (fun c1351 => ?_) (fun c1351 => ?_)
  · have h := hA c1351
    refine gh_aload_n gd_Chart_refresh_8 0 rfl (by decide) ?_
    refine gh_iconst gd_Chart_refresh_9 (gh_r0 rfl) ?_
    refine pf_30_3 gd_Chart_refresh_10 gh_k416 hF (by decide) (fun hF => ?_)
    refine gh_aload_n gd_Chart_refresh_13 0 rfl (by decide) ?_
    refine gf_30_4 gd_Chart_refresh_14 gh_k418 hF ?_
    refine gh_iconst gd_Chart_refresh_17 (gh_r0 rfl) ?_
    refine gh_fillF (d := d + 4) gd_Chart_refresh_18 gh_k1081 (ga_31 hF) (Nat.le_of_ble_eq_true rfl) hF gn_31 (by decide) (fun hF => ?_)
    refine gh_aload_n gd_Chart_refresh_21 0 rfl (by decide) ?_
    refine gf_30_2 gd_Chart_refresh_22 gh_k415 hF ?_
    refine gf_26_3 gd_Chart_refresh_25 gh_k380 hF rfl ?_
    refine gh_name (fun v1 hn => ?_)
    have h := h v1 hn
    refine gh_istore_n (L2 := [(1, 0, v1), (0, 2, 30)]) gd_Chart_refresh_28 (by decide) rfl ?_
    refine gh_pick (L2 := [(0, 2, 30), (1, 0, v1)]) [1, 0] rfl ?_
    exact gh_M1_sound (T := fun v1 m => gh_T E (gh_yChart_refresh.cls, prog_2_method_4_code, 2, false, 9) (d + 5) 29 [(0, 2, 30), (1, 0, v1)] [] m (fun r m1 => gh_F m1 ∧ Q r m1)) (fun _ m => gh_F m) (fun K29 v1 m hK hF h => b_Chart_refresh_29 d hK v1 m hF h) v1 (gh_fil (gh_u m 30 3 1) 31 72 0) hF h
  · have h := hB c1351
    exact gh_ret9 rfl gd_Chart_refresh_7 ⟨hF, h⟩
def w_House_accepts (v1 : Int) (m : gh_M) (Q : Int → gh_M → Prop) : Prop := (((m 2 10) = 0 → Q (-1003) m) ∧ (¬ ((m 2 10) = 0) → ((p_House_isPlace v1 m → w_Chart_refresh m (fun _ m1509 => k_Chart_covers 0 0 v1 ∧ Q (if (p_Chart_covers 0 0 v1 m1509) then (1:Int) else 0) m1509)) ∧ (¬ (p_House_isPlace v1 m) → Q (-1001) m))))
theorem s_House_accepts {E : gh_E} {m : gh_M} {Q : Int → gh_M → Prop} (d : Nat) (v1 : Int) (hF : gh_F m) (h : w_House_accepts v1 m Q) : gh_C E gh_yHouse_accepts prog_1_method_19_code 2 (some .int) 0 (d + 6) [(2, 2), (0, v1)] m (fun r m1 => gh_F m1 ∧ Q r m1) := by
  refine gh_enter2 (L := [(0, 2, 2), (1, 0, v1)]) (by decide +kernel) gh_rt0 (Nat.le_of_ble_eq_true rfl) rfl rfl ?_
  unfold w_House_accepts at h
  refine gh_aload_n gd_House_accepts_0 0 rfl (by decide) ?_
  refine gf_2_10 gd_House_accepts_1 gh_k643 hF rfl ?_
  obtain ⟨hA, hB⟩ := h
  refine gh_zne (tgt := 11) gd_House_accepts_4 (by decide) (fun c1506 => ?_) (fun c1506 => ?_)
  · have h := hA c1506
    refine gh_sipush gd_House_accepts_7 (by decide) (gh_r0 rfl) ?_
    exact gh_ret0 rfl gd_House_accepts_10 ⟨hF, h⟩
  · have h := hB c1506
    refine gh_aload_n gd_House_accepts_11 0 rfl (by decide) ?_
    refine gh_iload_n gd_House_accepts_12 1 rfl ?_
    refine cv_House_isPlace (d := d + 5) gd_House_accepts_13 gh_k1073 hF (Nat.le_of_ble_eq_true rfl) (gh_C.pe (e_House_isPlace (d + 5) v1 hF) ?_)
    obtain ⟨hA, hB⟩ := h
    refine gh_bne (tgt := 23) gd_House_accepts_16 (by decide) (fun c1507 => ?_) (fun c1507 => ?_)
    · have h := hA c1507
      refine gh_aload_n gd_House_accepts_23 0 rfl (by decide) ?_
      refine gf_2_5 gd_House_accepts_24 gh_k638 hF ?_
      refine cv_Chart_refresh (d := d + 5) gd_House_accepts_27 gh_k1077 hF (Nat.le_of_ble_eq_true rfl) (gh_C.mono (s_Chart_refresh d hF h) (fun r1508 m1509 hq => ?_))
      obtain ⟨hF, h⟩ := hq
      refine gh_aload_n gd_House_accepts_30 0 rfl (by decide) ?_
      refine gf_2_5 gd_House_accepts_31 gh_k638 hF ?_
      refine gh_iconst gd_House_accepts_34 (gh_r0 rfl) ?_
      refine gh_iconst gd_House_accepts_35 (gh_r0 rfl) ?_
      refine gh_iload_n gd_House_accepts_36 1 rfl ?_
      obtain ⟨q1510, h⟩ := h
      refine cv_Chart_covers (d := d + 5) gd_House_accepts_37 gh_k1117 hF (Nat.le_of_ble_eq_true rfl) (gh_C.pe (e_Chart_covers (d + 5) 0 0 v1 hF q1510) ?_)
      have k1511 : ∀ x1512 : Int, x1512 = (if (p_Chart_covers 0 0 v1 m1509) then (1:Int) else 0) → gh_T E (gh_yHouse_accepts.cls, prog_1_method_19_code, 2, false, 0) (d + 6) 48 [(0, 2, 2), (1, 0, v1)] [(0, x1512)] m1509 (fun r m1 => gh_F m1 ∧ Q r m1) := by
        rintro _ rfl
        exact gh_ret0 rfl gd_House_accepts_48 ⟨hF, h⟩
      refine gh_beq (tgt := 47) gd_House_accepts_40 (by decide) (fun c1513 => ?_) (fun c1513 => ?_)
      · have hz : True := trivial
        refine gh_iconst gd_House_accepts_43 (gh_r0 rfl) ?_
        refine gh_goto (tgt := 48) gd_House_accepts_44 (by decide) ?_
        exact k1511 _ (if_pos (c := (p_Chart_covers 0 0 v1 m1509)) c1513).symm
      · have hz : True := trivial
        refine gh_iconst gd_House_accepts_47 (gh_r0 rfl) ?_
        exact k1511 _ (if_neg (c := (p_Chart_covers 0 0 v1 m1509)) c1513).symm
    · have h := hB c1507
      refine gh_sipush gd_House_accepts_19 (by decide) (gh_r0 rfl) ?_
      exact gh_ret0 rfl gd_House_accepts_22 ⟨hF, h⟩
def w_House_next (v1 : Int) (m : gh_M) (Q : Int → gh_M → Prop) : Prop := (((m 2 10) = 0 → Q (-1003) m) ∧ (¬ ((m 2 10) = 0) → ((p_House_isPlace v1 m → w_Chart_refresh m (fun _ m1517 => 0 ≤ v1 ∧ v1 < 9 ∧ Q (m1517 35 v1) m1517)) ∧ (¬ (p_House_isPlace v1 m) → Q (-1001) m))))
theorem s_House_next {E : gh_E} {m : gh_M} {Q : Int → gh_M → Prop} (d : Nat) (v1 : Int) (hF : gh_F m) (h : w_House_next v1 m Q) : gh_C E gh_yHouse_next prog_1_method_20_code 2 (some .int) 0 (d + 6) [(2, 2), (0, v1)] m (fun r m1 => gh_F m1 ∧ Q r m1) := by
  refine gh_enter2 (L := [(0, 2, 2), (1, 0, v1)]) (by decide +kernel) gh_rt0 (Nat.le_of_ble_eq_true rfl) rfl rfl ?_
  unfold w_House_next at h
  refine gh_aload_n gd_House_next_0 0 rfl (by decide) ?_
  refine gf_2_10 gd_House_next_1 gh_k643 hF rfl ?_
  obtain ⟨hA, hB⟩ := h
  refine gh_zne (tgt := 11) gd_House_next_4 (by decide) (fun c1514 => ?_) (fun c1514 => ?_)
  · have h := hA c1514
    refine gh_sipush gd_House_next_7 (by decide) (gh_r0 rfl) ?_
    exact gh_ret0 rfl gd_House_next_10 ⟨hF, h⟩
  · have h := hB c1514
    refine gh_aload_n gd_House_next_11 0 rfl (by decide) ?_
    refine gh_iload_n gd_House_next_12 1 rfl ?_
    refine cv_House_isPlace (d := d + 5) gd_House_next_13 gh_k1073 hF (Nat.le_of_ble_eq_true rfl) (gh_C.pe (e_House_isPlace (d + 5) v1 hF) ?_)
    obtain ⟨hA, hB⟩ := h
    refine gh_bne (tgt := 23) gd_House_next_16 (by decide) (fun c1515 => ?_) (fun c1515 => ?_)
    · have h := hA c1515
      refine gh_aload_n gd_House_next_23 0 rfl (by decide) ?_
      refine gf_2_5 gd_House_next_24 gh_k638 hF ?_
      refine cv_Chart_refresh (d := d + 5) gd_House_next_27 gh_k1077 hF (Nat.le_of_ble_eq_true rfl) (gh_C.mono (s_Chart_refresh d hF h) (fun r1516 m1517 hq => ?_))
      obtain ⟨hF, h⟩ := hq
      refine gh_aload_n gd_House_next_30 0 rfl (by decide) ?_
      refine gf_2_5 gd_House_next_31 gh_k638 hF ?_
      refine gf_30_8 gd_House_next_34 gh_k424 hF ?_
      refine gh_iload_n gd_House_next_37 1 rfl ?_
      obtain ⟨q1518, h⟩ := h
      obtain ⟨q1519, h⟩ := h
      refine la_35 gd_House_next_38 hF q1518 q1519 rfl ?_
      exact gh_ret0 rfl gd_House_next_39 ⟨hF, h⟩
    · have h := hB c1515
      refine gh_sipush gd_House_next_19 (by decide) (gh_r0 rfl) ?_
      exact gh_ret0 rfl gd_House_next_22 ⟨hF, h⟩
def w_House_items (v1 : Int) (m : gh_M) (Q : Int → gh_M → Prop) : Prop := (((m 2 10) = 0 → Q (-1003) m) ∧ (¬ ((m 2 10) = 0) → ((p_House_isPlace v1 m → w_Chart_refresh m (fun _ m1523 => 0 ≤ v1 ∧ v1 < 9 ∧ Q (m1523 34 v1) m1523)) ∧ (¬ (p_House_isPlace v1 m) → Q (-1001) m))))
theorem s_House_items {E : gh_E} {m : gh_M} {Q : Int → gh_M → Prop} (d : Nat) (v1 : Int) (hF : gh_F m) (h : w_House_items v1 m Q) : gh_C E gh_yHouse_items prog_1_method_21_code 2 (some .int) 0 (d + 6) [(2, 2), (0, v1)] m (fun r m1 => gh_F m1 ∧ Q r m1) := by
  refine gh_enter2 (L := [(0, 2, 2), (1, 0, v1)]) (by decide +kernel) gh_rt0 (Nat.le_of_ble_eq_true rfl) rfl rfl ?_
  unfold w_House_items at h
  refine gh_aload_n gd_House_items_0 0 rfl (by decide) ?_
  refine gf_2_10 gd_House_items_1 gh_k643 hF rfl ?_
  obtain ⟨hA, hB⟩ := h
  refine gh_zne (tgt := 11) gd_House_items_4 (by decide) (fun c1520 => ?_) (fun c1520 => ?_)
  · have h := hA c1520
    refine gh_sipush gd_House_items_7 (by decide) (gh_r0 rfl) ?_
    exact gh_ret0 rfl gd_House_items_10 ⟨hF, h⟩
  · have h := hB c1520
    refine gh_aload_n gd_House_items_11 0 rfl (by decide) ?_
    refine gh_iload_n gd_House_items_12 1 rfl ?_
    refine cv_House_isPlace (d := d + 5) gd_House_items_13 gh_k1073 hF (Nat.le_of_ble_eq_true rfl) (gh_C.pe (e_House_isPlace (d + 5) v1 hF) ?_)
    obtain ⟨hA, hB⟩ := h
    refine gh_bne (tgt := 23) gd_House_items_16 (by decide) (fun c1521 => ?_) (fun c1521 => ?_)
    · have h := hA c1521
      refine gh_aload_n gd_House_items_23 0 rfl (by decide) ?_
      refine gf_2_5 gd_House_items_24 gh_k638 hF ?_
      refine cv_Chart_refresh (d := d + 5) gd_House_items_27 gh_k1077 hF (Nat.le_of_ble_eq_true rfl) (gh_C.mono (s_Chart_refresh d hF h) (fun r1522 m1523 hq => ?_))
      obtain ⟨hF, h⟩ := hq
      refine gh_aload_n gd_House_items_30 0 rfl (by decide) ?_
      refine gf_2_5 gd_House_items_31 gh_k638 hF ?_
      refine gf_30_7 gd_House_items_34 gh_k422 hF ?_
      refine gh_iload_n gd_House_items_37 1 rfl ?_
      obtain ⟨q1524, h⟩ := h
      obtain ⟨q1525, h⟩ := h
      refine la_34 gd_House_items_38 hF q1524 q1525 rfl ?_
      exact gh_ret0 rfl gd_House_items_39 ⟨hF, h⟩
    · have h := hB c1521
      refine gh_sipush gd_House_items_19 (by decide) (gh_r0 rfl) ?_
      exact gh_ret0 rfl gd_House_items_22 ⟨hF, h⟩
def w_Chart_hasItem (v1 : Int) (v2 : Int) (v3 : Int) (v4 : Int) (m : gh_M) (Q : Int → Prop) : Prop := 0 ≤ v3 ∧ v3 < 9 ∧ 0 ≤ v1 ∧ v1 < 20 ∧ ∃ J40 : Prop, (J40 → Q 0) ∧ (((gh_iand_f (gh_ishr_f (m 32 v3) (m 16 v1)) 1) = 0 → J40) ∧ (¬ ((gh_iand_f (gh_ishr_f (m 32 v3) (m 16 v1)) 1) = 0) → w_Chart_endsOfRow v1 v2 v3 m (fun r1531 => (((gh_iand_f (gh_ishr_f r1531 v4) 1) = 0 → J40) ∧ (¬ ((gh_iand_f (gh_ishr_f r1531 v4) 1) = 0) → Q 1)))))
theorem s_Chart_hasItem {E : gh_E} {m : gh_M} {Q : Int → Prop} (d : Nat) (v1 : Int) (v2 : Int) (v3 : Int) (v4 : Int) (hF : gh_F m) (h : w_Chart_hasItem v1 v2 v3 v4 m Q) : gh_C E gh_yChart_hasItem prog_2_method_3_code 5 (some .boolean) 8 (d + 3) [(2, 30), (0, v1), (0, v2), (0, v3), (0, v4)] m (fun r m1 => m1 = m ∧ Q r) := by
  refine gh_enter2 (L := [(0, 2, 30), (1, 0, v1), (2, 0, v2), (3, 0, v3), (4, 0, v4)]) (by decide +kernel) gh_rt8 (Nat.le_of_ble_eq_true rfl) rfl rfl ?_
  unfold w_Chart_hasItem at h
  refine gh_aload_n gd_Chart_hasItem_0 0 rfl (by decide) ?_
  refine gf_30_5 gd_Chart_hasItem_1 gh_k419 hF ?_
  refine gh_iload_n gd_Chart_hasItem_4 3 rfl ?_
  obtain ⟨q1526, h⟩ := h
  obtain ⟨q1527, h⟩ := h
  refine la_32 gd_Chart_hasItem_5 hF q1526 q1527 rfl ?_
  refine gh_aload_n gd_Chart_hasItem_6 0 rfl (by decide) ?_
  refine gf_30_0 gd_Chart_hasItem_7 gh_k413 hF ?_
  refine gf_13_5 gd_Chart_hasItem_10 gh_k279 hF ?_
  refine gh_iload_n gd_Chart_hasItem_13 1 rfl ?_
  obtain ⟨q1528, h⟩ := h
  obtain ⟨q1529, h⟩ := h
  refine la_16 gd_Chart_hasItem_14 hF q1528 q1529 rfl ?_
  refine gh_ishr gd_Chart_hasItem_15 ?_
  refine gh_iconst gd_Chart_hasItem_16 (gh_r0 rfl) ?_
  refine gh_iand gd_Chart_hasItem_17 ?_
  obtain ⟨J40, hJ40, h⟩ := h
  have hJ40 : gh_F m → J40 → gh_T E (gh_yChart_hasItem.cls, prog_2_method_3_code, 5, false, 8) (d + 3) 40 [] [] m (fun r m1 => m1 = m ∧ Q r) := by
    intro hF hj
    have h := hJ40 hj
    refine gh_iconst gd_Chart_hasItem_40 (gh_r0 rfl) ?_
    exact gh_ret8 rfl gd_Chart_hasItem_41 (by decide) ⟨rfl, h⟩
  obtain ⟨hA, hB⟩ := h
  refine gh_zeq (tgt := 40) gd_Chart_hasItem_18 (by decide) (fun c1530 => ?_) (fun c1530 => ?_)
  · have h := hA c1530
    refine gh_pick (L2 := []) [] rfl ?_
    exact hJ40 hF h
  · have h := hB c1530
    refine gh_aload_n gd_Chart_hasItem_21 0 rfl (by decide) ?_
    refine gh_iload_n gd_Chart_hasItem_22 1 rfl ?_
    refine gh_iload_n gd_Chart_hasItem_23 2 rfl ?_
    refine gh_iload_n gd_Chart_hasItem_24 3 rfl ?_
    refine cv_Chart_endsOfRow (d := d + 2) gd_Chart_hasItem_25 gh_k1086 hF (Nat.le_of_ble_eq_true rfl) (gh_C.pw (s_Chart_endsOfRow d v1 v2 v3 hF h) (fun r1531 h => ?_))
    refine gh_iload gd_Chart_hasItem_28 4 rfl ?_
    refine gh_ishr gd_Chart_hasItem_30 ?_
    refine gh_iconst gd_Chart_hasItem_31 (gh_r0 rfl) ?_
    refine gh_iand gd_Chart_hasItem_32 ?_
    obtain ⟨hA, hB⟩ := h
    refine gh_zeq (tgt := 40) gd_Chart_hasItem_33 (by decide) (fun c1533 => ?_) (fun c1533 => ?_)
    · have h := hA c1533
      refine gh_pick (L2 := []) [] rfl ?_
      exact hJ40 hF h
    · have h := hB c1533
      refine gh_iconst gd_Chart_hasItem_36 (gh_r0 rfl) ?_
      refine gh_goto (tgt := 41) gd_Chart_hasItem_37 (by decide) ?_
      exact gh_ret8 rfl gd_Chart_hasItem_41 (by decide) ⟨rfl, h⟩
def w_House_isItem (v1 : Int) (v2 : Int) (v3 : Int) (v4 : Int) (m : gh_M) (Q : Int → gh_M → Prop) : Prop := ∃ J36 : Prop, (J36 → ((¬ (v2 < 0) → ((¬ ((m 2 10) = 0) → (0 ≤ v1 ∧ v1 < 20))))) ∧ (((¬ (v2 < 0) ∧ (((m 2 10) = 0) ∨ (v2 ≤ (m 17 v1)))) → (((m 2 10) = 0 → Q (-1003) m) ∧ (¬ ((m 2 10) = 0) → w_Chart_refresh m (fun _ m1540 => w_Chart_hasItem v1 v2 v3 v4 m1540 (fun r1541 => Q (if (¬ (r1541 = 0)) then (1:Int) else 0) m1540))))) ∧ (¬ (¬ (v2 < 0) ∧ (((m 2 10) = 0) ∨ (v2 ≤ (m 17 v1)))) → Q (-1002) m))) ∧ (((((m 2 10) = 0) ∨ ((p_House_isRule v1 m) ∧ ((p_House_isPlace v3 m) ∧ (p_House_isPlace v4 m)))) → J36) ∧ (¬ (((m 2 10) = 0) ∨ ((p_House_isRule v1 m) ∧ ((p_House_isPlace v3 m) ∧ (p_House_isPlace v4 m)))) → Q (-1001) m))
theorem s_House_isItem {E : gh_E} {m : gh_M} {Q : Int → gh_M → Prop} (d : Nat) (v1 : Int) (v2 : Int) (v3 : Int) (v4 : Int) (hF : gh_F m) (h : w_House_isItem v1 v2 v3 v4 m Q) : gh_C E gh_yHouse_isItem prog_1_method_22_code 5 (some .int) 0 (d + 6) [(2, 2), (0, v1), (0, v2), (0, v3), (0, v4)] m (fun r m1 => gh_F m1 ∧ Q r m1) := by
  refine gh_enter2 (L := [(0, 2, 2), (1, 0, v1), (2, 0, v2), (3, 0, v3), (4, 0, v4)]) (by decide +kernel) gh_rt0 (Nat.le_of_ble_eq_true rfl) rfl rfl ?_
  unfold w_House_isItem at h
  refine gh_aload_n gd_House_isItem_0 0 rfl (by decide) ?_
  refine gf_2_10 gd_House_isItem_1 gh_k643 hF rfl ?_
  obtain ⟨J36, hJ36, h⟩ := h
  have hJ36 : gh_F m → J36 → gh_T E (gh_yHouse_isItem.cls, prog_1_method_22_code, 5, false, 0) (d + 6) 36 [(0, 2, 2), (1, 0, v1), (2, 0, v2), (3, 0, v3), (4, 0, v4)] [] m (fun r m1 => gh_F m1 ∧ Q r m1) := by
    intro hF hj
    have h := hJ36 hj
    refine gh_iload_n gd_House_isItem_36 2 rfl ?_
    obtain ⟨hk, hA, hB⟩ := h
    have k1536 : (¬ (v2 < 0) ∧ (((m 2 10) = 0) ∨ (v2 ≤ (m 17 v1)))) → gh_T E (gh_yHouse_isItem.cls, prog_1_method_22_code, 5, false, 0) (d + 6) 64 [(0, 2, 2), (1, 0, v1), (2, 0, v2), (3, 0, v3), (4, 0, v4)] [] m (fun r m1 => gh_F m1 ∧ Q r m1) := by
      intro c
      have h := hA c
      refine gh_aload_n gd_House_isItem_64 0 rfl (by decide) ?_
      refine gf_2_10 gd_House_isItem_65 gh_k643 hF rfl ?_
      obtain ⟨hA, hB⟩ := h
      refine gh_zne (tgt := 75) gd_House_isItem_68 (by decide) (fun c1538 => ?_) (fun c1538 => ?_)
      · have h := hA c1538
        refine gh_sipush gd_House_isItem_71 (by decide) (gh_r0 rfl) ?_
        exact gh_ret0 rfl gd_House_isItem_74 ⟨hF, h⟩
      · have h := hB c1538
        refine gh_aload_n gd_House_isItem_75 0 rfl (by decide) ?_
        refine gf_2_5 gd_House_isItem_76 gh_k638 hF ?_
        refine cv_Chart_refresh (d := d + 5) gd_House_isItem_79 gh_k1077 hF (Nat.le_of_ble_eq_true rfl) (gh_C.mono (s_Chart_refresh d hF h) (fun r1539 m1540 hq => ?_))
        obtain ⟨hF, h⟩ := hq
        refine gh_aload_n gd_House_isItem_82 0 rfl (by decide) ?_
        refine gf_2_5 gd_House_isItem_83 gh_k638 hF ?_
        refine gh_iload_n gd_House_isItem_86 1 rfl ?_
        refine gh_iload_n gd_House_isItem_87 2 rfl ?_
        refine gh_iload_n gd_House_isItem_88 3 rfl ?_
        refine gh_iload gd_House_isItem_89 4 rfl ?_
        refine cv_Chart_hasItem (d := d + 5) gd_House_isItem_91 gh_k1133 hF (Nat.le_of_ble_eq_true rfl) (gh_C.pw (s_Chart_hasItem (d + 2) v1 v2 v3 v4 hF h) (fun r1541 h => ?_))
        have k1543 : ∀ x1544 : Int, x1544 = (if (¬ (r1541 = 0)) then (1:Int) else 0) → gh_T E (gh_yHouse_isItem.cls, prog_1_method_22_code, 5, false, 0) (d + 6) 102 [(0, 2, 2), (1, 0, v1), (2, 0, v2), (3, 0, v3), (4, 0, v4)] [(0, x1544)] m1540 (fun r m1 => gh_F m1 ∧ Q r m1) := by
          rintro _ rfl
          exact gh_ret0 rfl gd_House_isItem_102 ⟨hF, h⟩
        refine gh_zeq (tgt := 101) gd_House_isItem_94 (by decide) (fun c1545 => ?_) (fun c1545 => ?_)
        · have hz : True := trivial
          refine gh_iconst gd_House_isItem_101 (gh_r0 rfl) ?_
          exact k1543 _ (if_neg (c := (¬ (r1541 = 0))) (not_not_intro c1545)).symm
        · have hz : True := trivial
          refine gh_iconst gd_House_isItem_97 (gh_r0 rfl) ?_
          refine gh_goto (tgt := 102) gd_House_isItem_98 (by decide) ?_
          exact k1543 _ (if_pos (c := (¬ (r1541 = 0))) c1545).symm
    have k1537 : ¬ (¬ (v2 < 0) ∧ (((m 2 10) = 0) ∨ (v2 ≤ (m 17 v1)))) → gh_T E (gh_yHouse_isItem.cls, prog_1_method_22_code, 5, false, 0) (d + 6) 60 [(0, 2, 2), (1, 0, v1), (2, 0, v2), (3, 0, v3), (4, 0, v4)] [] m (fun r m1 => gh_F m1 ∧ Q r m1) := by
      intro c
      have h := hB c
      refine gh_sipush gd_House_isItem_60 (by decide) (gh_r0 rfl) ?_
      exact gh_ret0 rfl gd_House_isItem_63 ⟨hF, h⟩
    refine gh_zlt (tgt := 60) gd_House_isItem_37 (by decide) (fun c1546 => ?_) (fun c1546 => ?_)
    · have hz : True := trivial
      exact k1537 (fun z => z.1 c1546)
    · have hz : True := trivial
      have hk := hk c1546
      refine gh_aload_n gd_House_isItem_40 0 rfl (by decide) ?_
      refine gf_2_10 gd_House_isItem_41 gh_k643 hF rfl ?_
      refine gh_zeq (tgt := 64) gd_House_isItem_44 (by decide) (fun c1547 => ?_) (fun c1547 => ?_)
      · have hz : True := trivial
        exact k1536 ⟨c1546, (Or.inl c1547)⟩
      · have hz : True := trivial
        have hk := hk c1547
        refine gh_iload_n gd_House_isItem_47 2 rfl ?_
        refine gh_aload_n gd_House_isItem_48 0 rfl (by decide) ?_
        refine gf_2_2 gd_House_isItem_49 gh_k635 hF ?_
        refine gf_13_6 gd_House_isItem_52 gh_k290 hF ?_
        refine gh_iload_n gd_House_isItem_55 1 rfl ?_
        obtain ⟨q1534, hk⟩ := hk
        have q1535 := hk
        refine la_17 gd_House_isItem_56 hF q1534 q1535 rfl ?_
        refine gh_jle (tgt := 64) gd_House_isItem_57 (by decide) (fun c1548 => ?_) (fun c1548 => ?_)
        · have hz : True := trivial
          exact k1536 ⟨c1546, (Or.inr c1548)⟩
        · have hz : True := trivial
          exact k1537 (fun z => (fun z => z.elim c1547 c1548) z.2)
  obtain ⟨hA, hB⟩ := h
  have k1549 : (((m 2 10) = 0) ∨ ((p_House_isRule v1 m) ∧ ((p_House_isPlace v3 m) ∧ (p_House_isPlace v4 m)))) → gh_T E (gh_yHouse_isItem.cls, prog_1_method_22_code, 5, false, 0) (d + 6) 36 [(0, 2, 2), (1, 0, v1), (2, 0, v2), (3, 0, v3), (4, 0, v4)] [] m (fun r m1 => gh_F m1 ∧ Q r m1) := by
    intro c
    have h := hA c
    exact hJ36 hF h
  have k1550 : ¬ (((m 2 10) = 0) ∨ ((p_House_isRule v1 m) ∧ ((p_House_isPlace v3 m) ∧ (p_House_isPlace v4 m)))) → gh_T E (gh_yHouse_isItem.cls, prog_1_method_22_code, 5, false, 0) (d + 6) 32 [(0, 2, 2), (1, 0, v1), (2, 0, v2), (3, 0, v3), (4, 0, v4)] [] m (fun r m1 => gh_F m1 ∧ Q r m1) := by
    intro c
    have h := hB c
    refine gh_sipush gd_House_isItem_32 (by decide) (gh_r0 rfl) ?_
    exact gh_ret0 rfl gd_House_isItem_35 ⟨hF, h⟩
  refine gh_zeq (tgt := 36) gd_House_isItem_4 (by decide) (fun c1551 => ?_) (fun c1551 => ?_)
  · have hz : True := trivial
    exact k1549 (Or.inl c1551)
  · have hz : True := trivial
    refine gh_aload_n gd_House_isItem_7 0 rfl (by decide) ?_
    refine gh_iload_n gd_House_isItem_8 1 rfl ?_
    refine cv_House_isRule (d := d + 5) gd_House_isItem_9 gh_k1000 hF (Nat.le_of_ble_eq_true rfl) (gh_C.pe (e_House_isRule (d + 5) v1 hF) ?_)
    refine gh_beq (tgt := 32) gd_House_isItem_12 (by decide) (fun c1552 => ?_) (fun c1552 => ?_)
    · have hz : True := trivial
      refine gh_aload_n gd_House_isItem_15 0 rfl (by decide) ?_
      refine gh_iload_n gd_House_isItem_16 3 rfl ?_
      refine cv_House_isPlace (d := d + 5) gd_House_isItem_17 gh_k1073 hF (Nat.le_of_ble_eq_true rfl) (gh_C.pe (e_House_isPlace (d + 5) v3 hF) ?_)
      refine gh_beq (tgt := 32) gd_House_isItem_20 (by decide) (fun c1553 => ?_) (fun c1553 => ?_)
      · have hz : True := trivial
        refine gh_aload_n gd_House_isItem_23 0 rfl (by decide) ?_
        refine gh_iload gd_House_isItem_24 4 rfl ?_
        refine cv_House_isPlace (d := d + 5) gd_House_isItem_26 gh_k1073 hF (Nat.le_of_ble_eq_true rfl) (gh_C.pe (e_House_isPlace (d + 5) v4 hF) ?_)
        refine gh_bne (tgt := 36) gd_House_isItem_29 (by decide) (fun c1554 => ?_) (fun c1554 => ?_)
        · have hz : True := trivial
          exact k1549 (Or.inr ⟨c1552, ⟨c1553, c1554⟩⟩)
        · have hz : True := trivial
          exact k1550 (fun z => z.elim c1551 (fun z => (fun z => c1554 z.2) z.2))
      · have hz : True := trivial
        exact k1550 (fun z => z.elim c1551 (fun z => (fun z => c1553 z.1) z.2))
    · have hz : True := trivial
      exact k1550 (fun z => z.elim c1551 (fun z => c1552 z.1))
def w_House_makes (v1 : Int) (v2 : Int) (v3 : Int) (m : gh_M) (Q : Int → gh_M → Prop) : Prop := ∃ J35 : Prop, (J35 → ((v2 ≤ v3 → (((m 2 10) = 0 → Q (-1003) m) ∧ (¬ ((m 2 10) = 0) → w_Chart_refresh m (fun _ m1558 => k_Chart_covers v1 v2 v3 ∧ Q (if (p_Chart_covers v1 v2 v3 m1558) then (1:Int) else 0) m1558)))) ∧ (¬ (v2 ≤ v3) → Q (-1002) m))) ∧ (((((m 2 10) = 0) ∨ ((p_House_isName v1 m) ∧ ((p_House_isPlace v2 m) ∧ (p_House_isPlace v3 m)))) → J35) ∧ (¬ (((m 2 10) = 0) ∨ ((p_House_isName v1 m) ∧ ((p_House_isPlace v2 m) ∧ (p_House_isPlace v3 m)))) → Q (-1001) m))
theorem s_House_makes {E : gh_E} {m : gh_M} {Q : Int → gh_M → Prop} (d : Nat) (v1 : Int) (v2 : Int) (v3 : Int) (hF : gh_F m) (h : w_House_makes v1 v2 v3 m Q) : gh_C E gh_yHouse_makes prog_1_method_23_code 4 (some .int) 0 (d + 6) [(2, 2), (0, v1), (0, v2), (0, v3)] m (fun r m1 => gh_F m1 ∧ Q r m1) := by
  refine gh_enter2 (L := [(0, 2, 2), (1, 0, v1), (2, 0, v2), (3, 0, v3)]) (by decide +kernel) gh_rt0 (Nat.le_of_ble_eq_true rfl) rfl rfl ?_
  unfold w_House_makes at h
  refine gh_aload_n gd_House_makes_0 0 rfl (by decide) ?_
  refine gf_2_10 gd_House_makes_1 gh_k643 hF rfl ?_
  obtain ⟨J35, hJ35, h⟩ := h
  have hJ35 : gh_F m → J35 → gh_T E (gh_yHouse_makes.cls, prog_1_method_23_code, 4, false, 0) (d + 6) 35 [(0, 2, 2), (1, 0, v1), (2, 0, v2), (3, 0, v3)] [] m (fun r m1 => gh_F m1 ∧ Q r m1) := by
    intro hF hj
    have h := hJ35 hj
    refine gh_iload_n gd_House_makes_35 2 rfl ?_
    refine gh_iload_n gd_House_makes_36 3 rfl ?_
    obtain ⟨hA, hB⟩ := h
    refine gh_jle (tgt := 44) gd_House_makes_37 (by decide) (fun c1555 => ?_) (fun c1555 => ?_)
    · have h := hA c1555
      refine gh_aload_n gd_House_makes_44 0 rfl (by decide) ?_
      refine gf_2_10 gd_House_makes_45 gh_k643 hF rfl ?_
      obtain ⟨hA, hB⟩ := h
      refine gh_zne (tgt := 55) gd_House_makes_48 (by decide) (fun c1556 => ?_) (fun c1556 => ?_)
      · have h := hA c1556
        refine gh_sipush gd_House_makes_51 (by decide) (gh_r0 rfl) ?_
        exact gh_ret0 rfl gd_House_makes_54 ⟨hF, h⟩
      · have h := hB c1556
        refine gh_aload_n gd_House_makes_55 0 rfl (by decide) ?_
        refine gf_2_5 gd_House_makes_56 gh_k638 hF ?_
        refine cv_Chart_refresh (d := d + 5) gd_House_makes_59 gh_k1077 hF (Nat.le_of_ble_eq_true rfl) (gh_C.mono (s_Chart_refresh d hF h) (fun r1557 m1558 hq => ?_))
        obtain ⟨hF, h⟩ := hq
        refine gh_aload_n gd_House_makes_62 0 rfl (by decide) ?_
        refine gf_2_5 gd_House_makes_63 gh_k638 hF ?_
        refine gh_iload_n gd_House_makes_66 1 rfl ?_
        refine gh_iload_n gd_House_makes_67 2 rfl ?_
        refine gh_iload_n gd_House_makes_68 3 rfl ?_
        obtain ⟨q1559, h⟩ := h
        refine cv_Chart_covers (d := d + 5) gd_House_makes_69 gh_k1117 hF (Nat.le_of_ble_eq_true rfl) (gh_C.pe (e_Chart_covers (d + 5) v1 v2 v3 hF q1559) ?_)
        have k1560 : ∀ x1561 : Int, x1561 = (if (p_Chart_covers v1 v2 v3 m1558) then (1:Int) else 0) → gh_T E (gh_yHouse_makes.cls, prog_1_method_23_code, 4, false, 0) (d + 6) 80 [(0, 2, 2), (1, 0, v1), (2, 0, v2), (3, 0, v3)] [(0, x1561)] m1558 (fun r m1 => gh_F m1 ∧ Q r m1) := by
          rintro _ rfl
          exact gh_ret0 rfl gd_House_makes_80 ⟨hF, h⟩
        refine gh_beq (tgt := 79) gd_House_makes_72 (by decide) (fun c1562 => ?_) (fun c1562 => ?_)
        · have hz : True := trivial
          refine gh_iconst gd_House_makes_75 (gh_r0 rfl) ?_
          refine gh_goto (tgt := 80) gd_House_makes_76 (by decide) ?_
          exact k1560 _ (if_pos (c := (p_Chart_covers v1 v2 v3 m1558)) c1562).symm
        · have hz : True := trivial
          refine gh_iconst gd_House_makes_79 (gh_r0 rfl) ?_
          exact k1560 _ (if_neg (c := (p_Chart_covers v1 v2 v3 m1558)) c1562).symm
    · have h := hB c1555
      refine gh_sipush gd_House_makes_40 (by decide) (gh_r0 rfl) ?_
      exact gh_ret0 rfl gd_House_makes_43 ⟨hF, h⟩
  obtain ⟨hA, hB⟩ := h
  have k1563 : (((m 2 10) = 0) ∨ ((p_House_isName v1 m) ∧ ((p_House_isPlace v2 m) ∧ (p_House_isPlace v3 m)))) → gh_T E (gh_yHouse_makes.cls, prog_1_method_23_code, 4, false, 0) (d + 6) 35 [(0, 2, 2), (1, 0, v1), (2, 0, v2), (3, 0, v3)] [] m (fun r m1 => gh_F m1 ∧ Q r m1) := by
    intro c
    have h := hA c
    exact hJ35 hF h
  have k1564 : ¬ (((m 2 10) = 0) ∨ ((p_House_isName v1 m) ∧ ((p_House_isPlace v2 m) ∧ (p_House_isPlace v3 m)))) → gh_T E (gh_yHouse_makes.cls, prog_1_method_23_code, 4, false, 0) (d + 6) 31 [(0, 2, 2), (1, 0, v1), (2, 0, v2), (3, 0, v3)] [] m (fun r m1 => gh_F m1 ∧ Q r m1) := by
    intro c
    have h := hB c
    refine gh_sipush gd_House_makes_31 (by decide) (gh_r0 rfl) ?_
    exact gh_ret0 rfl gd_House_makes_34 ⟨hF, h⟩
  refine gh_zeq (tgt := 35) gd_House_makes_4 (by decide) (fun c1565 => ?_) (fun c1565 => ?_)
  · have hz : True := trivial
    exact k1563 (Or.inl c1565)
  · have hz : True := trivial
    refine gh_aload_n gd_House_makes_7 0 rfl (by decide) ?_
    refine gh_iload_n gd_House_makes_8 1 rfl ?_
    refine cv_House_isName (d := d + 5) gd_House_makes_9 gh_k983 hF (Nat.le_of_ble_eq_true rfl) (gh_C.pe (e_House_isName (d + 5) v1 hF) ?_)
    refine gh_beq (tgt := 31) gd_House_makes_12 (by decide) (fun c1566 => ?_) (fun c1566 => ?_)
    · have hz : True := trivial
      refine gh_aload_n gd_House_makes_15 0 rfl (by decide) ?_
      refine gh_iload_n gd_House_makes_16 2 rfl ?_
      refine cv_House_isPlace (d := d + 5) gd_House_makes_17 gh_k1073 hF (Nat.le_of_ble_eq_true rfl) (gh_C.pe (e_House_isPlace (d + 5) v2 hF) ?_)
      refine gh_beq (tgt := 31) gd_House_makes_20 (by decide) (fun c1567 => ?_) (fun c1567 => ?_)
      · have hz : True := trivial
        refine gh_aload_n gd_House_makes_23 0 rfl (by decide) ?_
        refine gh_iload_n gd_House_makes_24 3 rfl ?_
        refine cv_House_isPlace (d := d + 5) gd_House_makes_25 gh_k1073 hF (Nat.le_of_ble_eq_true rfl) (gh_C.pe (e_House_isPlace (d + 5) v3 hF) ?_)
        refine gh_bne (tgt := 35) gd_House_makes_28 (by decide) (fun c1568 => ?_) (fun c1568 => ?_)
        · have hz : True := trivial
          exact k1563 (Or.inr ⟨c1566, ⟨c1567, c1568⟩⟩)
        · have hz : True := trivial
          exact k1564 (fun z => z.elim c1565 (fun z => (fun z => c1568 z.2) z.2))
      · have hz : True := trivial
        exact k1564 (fun z => z.elim c1565 (fun z => (fun z => c1567 z.1) z.2))
    · have hz : True := trivial
      exact k1564 (fun z => z.elim c1565 (fun z => c1566 z.1))
def f_Wants_wantedByRow_60 (v1 : Int) (v2 : Int) (v3 : Int) (v5 : Int) (v6 : Int) (v7 : Int) (r1575 : Int) (K12 : Int → Int → Int → Prop) (m : gh_M) (K60 : Int → Int → Prop) (v4 : Int) (v9 : Int) : Prop := ∃ J111 : Int → Prop, (∀ (v4' : Int), J111 v4' → k_Grammar_partAt v1 v6 m ∧ w_Chart_beyond (x_Grammar_partAt v1 v6 m) v5 m (fun r1578 => ∃ J150 : Int → Prop, (∀ (v4'' : Int), J150 v4'' → gh_i (v6 + 1) ∧ K12 v4'' r1578 (v6 + 1)) ∧ (((gh_iand_f (gh_ishr_f r1578 v3) 1) = 0 → J150 v4') ∧ (¬ ((gh_iand_f (gh_ishr_f r1578 v3) 1) = 0) → ∀ v4'' : Int, v4'' = min v4' r1575 → J150 v4'')))) ∧ (((¬ (v9 < v3) ∨ (v7 = (-1))) → J111 v4) ∧ (¬ (¬ (v9 < v3) ∨ (v7 = (-1))) → ∃ J105 : Int → Prop, (∀ (v4' : Int), J105 v4' → gh_i (v9 + 1) ∧ K60 v4' (v9 + 1)) ∧ (((gh_iand_f (gh_ishr_f v5 v9) 1) = 0 → J105 v4) ∧ (¬ ((gh_iand_f (gh_ishr_f v5 v9) 1) = 0) → gh_i (v7 * 9) ∧ gh_i ((v7 * 9) + v9) ∧ 0 ≤ (v7 * 9) + v9 ∧ ((v7 * 9) + v9) < 72 ∧ gh_i ((m 38 ((v7 * 9) + v9)) + r1575) ∧ ∀ v4' : Int, v4' = min v4 ((m 38 ((v7 * 9) + v9)) + r1575) → J105 v4'))))
def f_Wants_wantedByRow_12 (v1 : Int) (v2 : Int) (v3 : Int) (Q : Int → Prop) (m : gh_M) (K12 : Int → Int → Int → Prop) (v4 : Int) (v5 : Int) (v6 : Int) : Prop := 0 ≤ v1 ∧ v1 < 20 ∧ (((¬ (v6 < (m 17 v1)) ∨ (v5 = 0)) → Q v4) ∧ (¬ (¬ (v6 < (m 17 v1)) ∨ (v5 = 0)) → k_Grammar_nameAt v1 v6 m ∧ ∀ v7 : Int, v7 = x_Grammar_nameAt v1 v6 m → gh_i (v6 + 1) ∧ w_Facts_leastOfRow v1 (v6 + 1) m (fun r1575 => gh_L2 (fun K60 v4 v9 => f_Wants_wantedByRow_60 v1 v2 v3 v5 v6 v7 r1575 K12 m K60 v4 v9) v4 v2)))
def w_Wants_wantedByRow (v1 : Int) (v2 : Int) (v3 : Int) (m : gh_M) (Q : Int → Prop) : Prop := ∀ v5 : Int, v5 = gh_ishl_f 1 v2 → gh_L3 (fun K12 v4 v5 v6 => f_Wants_wantedByRow_12 v1 v2 v3 Q m K12 v4 v5 v6) 16777216 v5 0
theorem b_Wants_wantedByRow_60 {E : gh_E} {v1 : Int} {v2 : Int} {v3 : Int} {v5 : Int} {v6 : Int} {v7 : Int} {r1575 : Int} {K12 : Int → Int → Int → Prop} {Q : Int → Prop} {K60 : Int → Int → Prop} (d : Nat) {m : gh_M} (hK12 : ∀ (v4 : Int) (v5 : Int) (v6 : Int), gh_F m → K12 v4 v5 v6 → gh_T E (gh_yWants_wantedByRow.cls, prog_12_method_5_code, 10, false, 0) (d + 3) 12 [(0, 2, 36), (1, 0, v1), (2, 0, v2), (3, 0, v3), (4, 0, v4), (5, 0, v5), (6, 0, v6)] [] m (fun r m1 => m1 = m ∧ Q r)) (hK : ∀ (v4 : Int) (v9 : Int), gh_F m → K60 v4 v9 → gh_T E (gh_yWants_wantedByRow.cls, prog_12_method_5_code, 10, false, 0) (d + 3) 60 [(0, 2, 36), (1, 0, v1), (2, 0, v2), (3, 0, v3), (4, 0, v4), (5, 0, v5), (6, 0, v6), (7, 0, v7), (8, 0, r1575), (9, 0, v9)] [] m (fun r m1 => m1 = m ∧ Q r)) (v4 : Int) (v9 : Int) (hF : gh_F m) (h : f_Wants_wantedByRow_60 v1 v2 v3 v5 v6 v7 r1575 K12 m K60 v4 v9) : gh_T E (gh_yWants_wantedByRow.cls, prog_12_method_5_code, 10, false, 0) (d + 3) 60 [(0, 2, 36), (1, 0, v1), (2, 0, v2), (3, 0, v3), (4, 0, v4), (5, 0, v5), (6, 0, v6), (7, 0, v7), (8, 0, r1575), (9, 0, v9)] [] m (fun r m1 => m1 = m ∧ Q r) := by
  have hK60 := hK
  unfold f_Wants_wantedByRow_60 at h
  refine gh_iload gd_Wants_wantedByRow_60 9 rfl ?_
  refine gh_iload_n gd_Wants_wantedByRow_62 3 rfl ?_
  obtain ⟨J111, hJ111, h⟩ := h
  have hJ111 : ∀ (v4' : Int), gh_F m → J111 v4' → gh_T E (gh_yWants_wantedByRow.cls, prog_12_method_5_code, 10, false, 0) (d + 3) 111 [(0, 2, 36), (1, 0, v1), (2, 0, v2), (3, 0, v3), (4, 0, v4'), (5, 0, v5), (6, 0, v6), (8, 0, r1575)] [] m (fun r m1 => m1 = m ∧ Q r) := by
    intro v4' hF hj
    have h := hJ111 v4' hj
    refine gh_aload_n gd_Wants_wantedByRow_111 0 rfl (by decide) ?_
    refine gf_36_3 gd_Wants_wantedByRow_112 gh_k453 hF ?_
    refine gh_aload_n gd_Wants_wantedByRow_115 0 rfl (by decide) ?_
    refine gf_36_0 gd_Wants_wantedByRow_116 gh_k450 hF ?_
    refine gh_iload_n gd_Wants_wantedByRow_119 1 rfl ?_
    refine gh_iload gd_Wants_wantedByRow_120 6 rfl ?_
    obtain ⟨q1577, h⟩ := h
    refine cv_Grammar_partAt (d := d + 2) gd_Wants_wantedByRow_122 gh_k1161 hF (Nat.le_of_ble_eq_true rfl) (gh_C.pe (e_Grammar_partAt (d + 2) v1 v6 hF q1577) ?_)
    refine gh_iload gd_Wants_wantedByRow_125 5 rfl ?_
    refine cv_Chart_beyond (d := d + 2) gd_Wants_wantedByRow_127 gh_k1162 hF (Nat.le_of_ble_eq_true rfl) (gh_C.pw (s_Chart_beyond (d + 1) (x_Grammar_partAt v1 v6 m) v5 hF h) (fun r1578 h => ?_))
    refine gh_istore (L2 := [(5, 0, r1578), (0, 2, 36), (1, 0, v1), (2, 0, v2), (3, 0, v3), (4, 0, v4'), (6, 0, v6), (8, 0, r1575)]) gd_Wants_wantedByRow_130 (by decide) rfl ?_
    refine gh_iload gd_Wants_wantedByRow_132 0 rfl ?_
    refine gh_iload_n gd_Wants_wantedByRow_134 4 rfl ?_
    refine gh_ishr gd_Wants_wantedByRow_135 ?_
    refine gh_iconst gd_Wants_wantedByRow_136 (gh_r0 rfl) ?_
    refine gh_iand gd_Wants_wantedByRow_137 ?_
    obtain ⟨J150, hJ150, h⟩ := h
    have hJ150 : ∀ (v4'' : Int), gh_F m → J150 v4'' → gh_T E (gh_yWants_wantedByRow.cls, prog_12_method_5_code, 10, false, 0) (d + 3) 150 [(0, 2, 36), (1, 0, v1), (2, 0, v2), (3, 0, v3), (4, 0, v4''), (5, 0, r1578), (6, 0, v6)] [] m (fun r m1 => m1 = m ∧ Q r) := by
      intro v4'' hF hj
      have h := hJ150 v4'' hj
      obtain ⟨q1580, h⟩ := h
      refine gh_iinc (L2 := [(6, 0, v6 + 1), (0, 2, 36), (1, 0, v1), (2, 0, v2), (3, 0, v3), (4, 0, v4''), (5, 0, r1578)]) gd_Wants_wantedByRow_150 6 rfl q1580 (by decide) rfl ?_
      refine gh_goto (tgt := 12) gd_Wants_wantedByRow_153 (by decide) ?_
      refine gh_pick (L2 := [(0, 2, 36), (1, 0, v1), (2, 0, v2), (3, 0, v3), (4, 0, v4''), (5, 0, r1578), (6, 0, v6 + 1)]) [1, 2, 3, 4, 5, 6, 0] rfl ?_
      exact hK12 v4'' r1578 (v6 + 1) hF h
    obtain ⟨hA, hB⟩ := h
    refine gh_zeq (tgt := 150) gd_Wants_wantedByRow_138 (by decide) (fun c1581 => ?_) (fun c1581 => ?_)
    · have h := hA c1581
      refine gh_pick (L2 := [(0, 2, 36), (1, 0, v1), (2, 0, v2), (3, 0, v3), (4, 0, v4'), (5, 0, r1578), (6, 0, v6)]) [1, 2, 3, 4, 5, 0, 6] rfl ?_
      exact hJ150 v4' hF h
    · have h := hB c1581
      refine gh_iload gd_Wants_wantedByRow_141 5 rfl ?_
      refine gh_iload gd_Wants_wantedByRow_143 7 rfl ?_
      refine gh_pr_min gd_Wants_wantedByRow_145 gh_k947 (Nat.le_of_ble_eq_true rfl) ?_
      refine gh_name (fun v4'' hn => ?_)
      have h := h v4'' hn
      refine gh_istore (L2 := [(4, 0, v4''), (5, 0, r1578), (0, 2, 36), (1, 0, v1), (2, 0, v2), (3, 0, v3), (6, 0, v6), (8, 0, r1575)]) gd_Wants_wantedByRow_148 (by decide) rfl ?_
      refine gh_pick (L2 := [(0, 2, 36), (1, 0, v1), (2, 0, v2), (3, 0, v3), (4, 0, v4''), (5, 0, r1578), (6, 0, v6)]) [2, 3, 4, 5, 0, 1, 6] rfl ?_
      exact hJ150 v4'' hF h
  obtain ⟨hA, hB⟩ := h
  have k1582 : (¬ (v9 < v3) ∨ (v7 = (-1))) → gh_T E (gh_yWants_wantedByRow.cls, prog_12_method_5_code, 10, false, 0) (d + 3) 111 [(0, 2, 36), (1, 0, v1), (2, 0, v2), (3, 0, v3), (4, 0, v4), (5, 0, v5), (6, 0, v6), (7, 0, v7), (8, 0, r1575), (9, 0, v9)] [] m (fun r m1 => m1 = m ∧ Q r) := by
    intro c
    have h := hA c
    refine gh_pick (L2 := [(0, 2, 36), (1, 0, v1), (2, 0, v2), (3, 0, v3), (4, 0, v4), (5, 0, v5), (6, 0, v6), (8, 0, r1575)]) [0, 1, 2, 3, 4, 5, 6, 8] rfl ?_
    exact hJ111 v4 hF h
  have k1583 : ¬ (¬ (v9 < v3) ∨ (v7 = (-1))) → gh_T E (gh_yWants_wantedByRow.cls, prog_12_method_5_code, 10, false, 0) (d + 3) 72 [(0, 2, 36), (1, 0, v1), (2, 0, v2), (3, 0, v3), (4, 0, v4), (5, 0, v5), (6, 0, v6), (7, 0, v7), (8, 0, r1575), (9, 0, v9)] [] m (fun r m1 => m1 = m ∧ Q r) := by
    intro c
    have h := hB c
    refine gh_iload gd_Wants_wantedByRow_72 5 rfl ?_
    refine gh_iload gd_Wants_wantedByRow_74 9 rfl ?_
    refine gh_ishr gd_Wants_wantedByRow_76 ?_
    refine gh_iconst gd_Wants_wantedByRow_77 (gh_r0 rfl) ?_
    refine gh_iand gd_Wants_wantedByRow_78 ?_
    obtain ⟨J105, hJ105, h⟩ := h
    have hJ105 : ∀ (v4' : Int), gh_F m → J105 v4' → gh_T E (gh_yWants_wantedByRow.cls, prog_12_method_5_code, 10, false, 0) (d + 3) 105 [(0, 2, 36), (1, 0, v1), (2, 0, v2), (3, 0, v3), (4, 0, v4'), (5, 0, v5), (6, 0, v6), (7, 0, v7), (8, 0, r1575), (9, 0, v9)] [] m (fun r m1 => m1 = m ∧ Q r) := by
      intro v4' hF hj
      have h := hJ105 v4' hj
      obtain ⟨q1584, h⟩ := h
      refine gh_iinc (L2 := [(9, 0, v9 + 1), (0, 2, 36), (1, 0, v1), (2, 0, v2), (3, 0, v3), (4, 0, v4'), (5, 0, v5), (6, 0, v6), (7, 0, v7), (8, 0, r1575)]) gd_Wants_wantedByRow_105 9 rfl q1584 (by decide) rfl ?_
      refine gh_goto (tgt := 60) gd_Wants_wantedByRow_108 (by decide) ?_
      refine gh_pick (L2 := [(0, 2, 36), (1, 0, v1), (2, 0, v2), (3, 0, v3), (4, 0, v4'), (5, 0, v5), (6, 0, v6), (7, 0, v7), (8, 0, r1575), (9, 0, v9 + 1)]) [1, 2, 3, 4, 5, 6, 7, 8, 9, 0] rfl ?_
      exact hK60 v4' (v9 + 1) hF h
    obtain ⟨hA, hB⟩ := h
    refine gh_zeq (tgt := 105) gd_Wants_wantedByRow_79 (by decide) (fun c1585 => ?_) (fun c1585 => ?_)
    · have h := hA c1585
      exact hJ105 v4 hF h
    · have h := hB c1585
      refine gh_iload gd_Wants_wantedByRow_82 4 rfl ?_
      refine gh_aload_n gd_Wants_wantedByRow_84 0 rfl (by decide) ?_
      refine gf_36_6 gd_Wants_wantedByRow_85 gh_k456 hF ?_
      refine gh_iload gd_Wants_wantedByRow_88 7 rfl ?_
      refine gh_bipush gd_Wants_wantedByRow_90 (by decide) (gh_r0 rfl) ?_
      obtain ⟨q1586, h⟩ := h
      refine gh_imul gd_Wants_wantedByRow_92 q1586 ?_
      refine gh_iload gd_Wants_wantedByRow_93 9 rfl ?_
      obtain ⟨q1587, h⟩ := h
      refine gh_iadd gd_Wants_wantedByRow_95 q1587 ?_
      obtain ⟨q1588, h⟩ := h
      obtain ⟨q1589, h⟩ := h
      refine la_38 gd_Wants_wantedByRow_96 hF q1588 q1589 rfl ?_
      refine gh_iload gd_Wants_wantedByRow_97 8 rfl ?_
      obtain ⟨q1590, h⟩ := h
      refine gh_iadd gd_Wants_wantedByRow_99 q1590 ?_
      refine gh_pr_min gd_Wants_wantedByRow_100 gh_k947 (Nat.le_of_ble_eq_true rfl) ?_
      refine gh_name (fun v4' hn => ?_)
      have h := h v4' hn
      refine gh_istore (L2 := [(4, 0, v4'), (0, 2, 36), (1, 0, v1), (2, 0, v2), (3, 0, v3), (5, 0, v5), (6, 0, v6), (7, 0, v7), (8, 0, r1575), (9, 0, v9)]) gd_Wants_wantedByRow_103 (by decide) rfl ?_
      refine gh_pick (L2 := [(0, 2, 36), (1, 0, v1), (2, 0, v2), (3, 0, v3), (4, 0, v4'), (5, 0, v5), (6, 0, v6), (7, 0, v7), (8, 0, r1575), (9, 0, v9)]) [1, 2, 3, 4, 0, 5, 6, 7, 8, 9] rfl ?_
      exact hJ105 v4' hF h
  refine gh_jge (tgt := 111) gd_Wants_wantedByRow_63 (by decide) (fun c1591 => ?_) (fun c1591 => ?_)
  · have hz : True := trivial
    refine gh_iload gd_Wants_wantedByRow_66 7 rfl ?_
    refine gh_iconst gd_Wants_wantedByRow_68 (gh_r0 rfl) ?_
    refine gh_jeq (tgt := 111) gd_Wants_wantedByRow_69 (by decide) (fun c1592 => ?_) (fun c1592 => ?_)
    · have hz : True := trivial
      exact k1582 (Or.inr c1592)
    · have hz : True := trivial
      exact k1583 (fun z => z.elim (fun w => w c1591) c1592)
  · have hz : True := trivial
    exact k1582 (Or.inl c1591)
theorem b_Wants_wantedByRow_12 {E : gh_E} {v1 : Int} {v2 : Int} {v3 : Int} {Q : Int → Prop} {K12 : Int → Int → Int → Prop} (d : Nat) {m : gh_M} (hK : ∀ (v4 : Int) (v5 : Int) (v6 : Int), gh_F m → K12 v4 v5 v6 → gh_T E (gh_yWants_wantedByRow.cls, prog_12_method_5_code, 10, false, 0) (d + 3) 12 [(0, 2, 36), (1, 0, v1), (2, 0, v2), (3, 0, v3), (4, 0, v4), (5, 0, v5), (6, 0, v6)] [] m (fun r m1 => m1 = m ∧ Q r)) (v4 : Int) (v5 : Int) (v6 : Int) (hF : gh_F m) (h : f_Wants_wantedByRow_12 v1 v2 v3 Q m K12 v4 v5 v6) : gh_T E (gh_yWants_wantedByRow.cls, prog_12_method_5_code, 10, false, 0) (d + 3) 12 [(0, 2, 36), (1, 0, v1), (2, 0, v2), (3, 0, v3), (4, 0, v4), (5, 0, v5), (6, 0, v6)] [] m (fun r m1 => m1 = m ∧ Q r) := by
  have hK12 := hK
  unfold f_Wants_wantedByRow_12 at h
  refine gh_iload gd_Wants_wantedByRow_12 6 rfl ?_
  refine gh_aload_n gd_Wants_wantedByRow_14 0 rfl (by decide) ?_
  refine gf_36_0 gd_Wants_wantedByRow_15 gh_k450 hF ?_
  refine gf_13_6 gd_Wants_wantedByRow_18 gh_k286 hF ?_
  refine gh_iload_n gd_Wants_wantedByRow_21 1 rfl ?_
  obtain ⟨q1569, h⟩ := h
  obtain ⟨q1570, h⟩ := h
  refine la_17 gd_Wants_wantedByRow_22 hF q1569 q1570 rfl ?_
  obtain ⟨hA, hB⟩ := h
  have k1571 : (¬ (v6 < (m 17 v1)) ∨ (v5 = 0)) → gh_T E (gh_yWants_wantedByRow.cls, prog_12_method_5_code, 10, false, 0) (d + 3) 156 [(0, 2, 36), (1, 0, v1), (2, 0, v2), (3, 0, v3), (4, 0, v4), (5, 0, v5), (6, 0, v6)] [] m (fun r m1 => m1 = m ∧ Q r) := by
    intro c
    have h := hA c
    refine gh_iload gd_Wants_wantedByRow_156 4 rfl ?_
    exact gh_ret0 rfl gd_Wants_wantedByRow_158 ⟨rfl, h⟩
  have k1572 : ¬ (¬ (v6 < (m 17 v1)) ∨ (v5 = 0)) → gh_T E (gh_yWants_wantedByRow.cls, prog_12_method_5_code, 10, false, 0) (d + 3) 31 [(0, 2, 36), (1, 0, v1), (2, 0, v2), (3, 0, v3), (4, 0, v4), (5, 0, v5), (6, 0, v6)] [] m (fun r m1 => m1 = m ∧ Q r) := by
    intro c
    have h := hB c
    refine gh_aload_n gd_Wants_wantedByRow_31 0 rfl (by decide) ?_
    refine gf_36_0 gd_Wants_wantedByRow_32 gh_k450 hF ?_
    refine gh_iload_n gd_Wants_wantedByRow_35 1 rfl ?_
    refine gh_iload gd_Wants_wantedByRow_36 6 rfl ?_
    obtain ⟨q1573, h⟩ := h
    refine cv_Grammar_nameAt (d := d + 2) gd_Wants_wantedByRow_38 gh_k1159 hF (Nat.le_of_ble_eq_true rfl) (gh_C.pe (e_Grammar_nameAt (d + 1) v1 v6 hF q1573) ?_)
    refine gh_name (fun v7 hn => ?_)
    have h := h v7 hn
    refine gh_istore (L2 := [(7, 0, v7), (0, 2, 36), (1, 0, v1), (2, 0, v2), (3, 0, v3), (4, 0, v4), (5, 0, v5), (6, 0, v6)]) gd_Wants_wantedByRow_41 (by decide) rfl ?_
    refine gh_aload_n gd_Wants_wantedByRow_43 1 rfl (by decide) ?_
    refine gf_36_1 gd_Wants_wantedByRow_44 gh_k451 hF ?_
    refine gh_iload_n gd_Wants_wantedByRow_47 2 rfl ?_
    refine gh_iload gd_Wants_wantedByRow_48 7 rfl ?_
    refine gh_iconst gd_Wants_wantedByRow_50 (gh_r0 rfl) ?_
    obtain ⟨q1574, h⟩ := h
    refine gh_iadd gd_Wants_wantedByRow_51 q1574 ?_
    refine cv_Facts_leastOfRow (d := d + 2) gd_Wants_wantedByRow_52 gh_k1160 hF (Nat.le_of_ble_eq_true rfl) (gh_C.pw (s_Facts_leastOfRow d v1 (v6 + 1) hF h) (fun r1575 h => ?_))
    refine gh_istore (L2 := [(8, 0, r1575), (7, 0, v7), (0, 2, 36), (1, 0, v1), (2, 0, v2), (3, 0, v3), (4, 0, v4), (5, 0, v5), (6, 0, v6)]) gd_Wants_wantedByRow_55 (by decide) rfl ?_
    refine gh_iload_n gd_Wants_wantedByRow_57 4 rfl ?_
    refine gh_istore (L2 := [(9, 0, v2), (8, 0, r1575), (7, 0, v7), (0, 2, 36), (1, 0, v1), (2, 0, v2), (3, 0, v3), (4, 0, v4), (5, 0, v5), (6, 0, v6)]) gd_Wants_wantedByRow_58 (by decide) rfl ?_
    refine gh_pick (L2 := [(0, 2, 36), (1, 0, v1), (2, 0, v2), (3, 0, v3), (4, 0, v4), (5, 0, v5), (6, 0, v6), (7, 0, v7), (8, 0, r1575), (9, 0, v2)]) [3, 4, 5, 6, 7, 8, 9, 2, 1, 0] rfl ?_
    exact gh_L2_sound (T := fun v4 v9 => gh_T E (gh_yWants_wantedByRow.cls, prog_12_method_5_code, 10, false, 0) (d + 3) 60 [(0, 2, 36), (1, 0, v1), (2, 0, v2), (3, 0, v3), (4, 0, v4), (5, 0, v5), (6, 0, v6), (7, 0, v7), (8, 0, r1575), (9, 0, v9)] [] m (fun r m1 => m1 = m ∧ Q r)) (fun _ _ => gh_F m) (fun K60 v4 v9 hK hF h => b_Wants_wantedByRow_60 d hK12 hK v4 v9 hF h) v4 v2 hF h
  refine gh_jge (tgt := 156) gd_Wants_wantedByRow_23 (by decide) (fun c1593 => ?_) (fun c1593 => ?_)
  · have hz : True := trivial
    refine gh_iload gd_Wants_wantedByRow_26 5 rfl ?_
    refine gh_zeq (tgt := 156) gd_Wants_wantedByRow_28 (by decide) (fun c1594 => ?_) (fun c1594 => ?_)
    · have hz : True := trivial
      exact k1571 (Or.inr c1594)
    · have hz : True := trivial
      exact k1572 (fun z => z.elim (fun w => w c1593) c1594)
  · have hz : True := trivial
    exact k1571 (Or.inl c1593)
theorem s_Wants_wantedByRow {E : gh_E} {m : gh_M} {Q : Int → Prop} (d : Nat) (v1 : Int) (v2 : Int) (v3 : Int) (hF : gh_F m) (h : w_Wants_wantedByRow v1 v2 v3 m Q) : gh_C E gh_yWants_wantedByRow prog_12_method_5_code 10 (some .int) 0 (d + 3) [(2, 36), (0, v1), (0, v2), (0, v3)] m (fun r m1 => m1 = m ∧ Q r) := by
  refine gh_enter2 (L := [(0, 2, 36), (1, 0, v1), (2, 0, v2), (3, 0, v3)]) (by decide +kernel) gh_rt0 (Nat.le_of_ble_eq_true rfl) rfl rfl ?_
  unfold w_Wants_wantedByRow at h
  refine gh_ldc (n := 16777216) gd_Wants_wantedByRow_0 gh_k1153 (by decide) (gh_r0 rfl) ?_
  refine gh_istore (L2 := [(4, 0, 16777216), (0, 2, 36), (1, 0, v1), (2, 0, v2), (3, 0, v3)]) gd_Wants_wantedByRow_2 (by decide) rfl ?_
  refine gh_iconst gd_Wants_wantedByRow_4 (gh_r0 rfl) ?_
  refine gh_iload_n gd_Wants_wantedByRow_5 3 rfl ?_
  refine gh_ishl gd_Wants_wantedByRow_6 ?_
  refine gh_name (fun v5 hn => ?_)
  have h := h v5 hn
  refine gh_istore (L2 := [(5, 0, v5), (4, 0, 16777216), (0, 2, 36), (1, 0, v1), (2, 0, v2), (3, 0, v3)]) gd_Wants_wantedByRow_7 (by decide) rfl ?_
  refine gh_iconst gd_Wants_wantedByRow_9 (gh_r0 rfl) ?_
  refine gh_istore (L2 := [(6, 0, 0), (5, 0, v5), (4, 0, 16777216), (0, 2, 36), (1, 0, v1), (2, 0, v2), (3, 0, v3)]) gd_Wants_wantedByRow_10 (by decide) rfl ?_
  refine gh_pick (L2 := [(0, 2, 36), (1, 0, v1), (2, 0, v2), (3, 0, v3), (4, 0, 16777216), (5, 0, v5), (6, 0, 0)]) [3, 4, 5, 6, 2, 1, 0] rfl ?_
  exact gh_L3_sound (T := fun v4 v5 v6 => gh_T E (gh_yWants_wantedByRow.cls, prog_12_method_5_code, 10, false, 0) (d + 3) 12 [(0, 2, 36), (1, 0, v1), (2, 0, v2), (3, 0, v3), (4, 0, v4), (5, 0, v5), (6, 0, v6)] [] m (fun r m1 => m1 = m ∧ Q r)) (fun _ _ _ => gh_F m) (fun K12 v4 v5 v6 hK hF h => b_Wants_wantedByRow_12 d hK v4 v5 v6 hF h) 16777216 v5 0 hF h
def f_Wants_findWanted_72 (v1 : Int) (v2 : Int) (v3 : Int) (K58 : Int → gh_M → Prop) (K72 : Int → gh_M → Prop) (v4 : Int) (m : gh_M) : Prop := ((v4 < (m 13 2) → 0 ≤ v4 ∧ v4 < 20 ∧ gh_i ((m 16 v4) * 9) ∧ gh_i (((m 16 v4) * 9) + v2) ∧ ∀ v5 : Int, v5 = ((m 16 v4) * 9) + v2 → 0 ≤ v5 ∧ v5 < 72 ∧ w_Wants_wantedByRow v4 v2 v1 m (fun r1616 => 0 ≤ v5 ∧ v5 < 72 ∧ gh_i (v4 + 1) ∧ K72 (v4 + 1) (gh_u m 38 v5 (min (m 38 v5) r1616)))) ∧ (¬ (v4 < (m 13 2)) → gh_i (v3 + 1) ∧ K58 (v3 + 1) m))
def f_Wants_findWanted_58 (v1 : Int) (v2 : Int) (K52 : Int → gh_M → Prop) (K58 : Int → gh_M → Prop) (v3 : Int) (m : gh_M) : Prop := ((v3 < (m 13 1) → gh_M1 (fun K72 v4 m => f_Wants_findWanted_72 v1 v2 v3 K58 K72 v4 m) 0 m) ∧ (¬ (v3 < (m 13 1)) → gh_i (v2 + (-1)) ∧ K52 (v2 + (-1)) m))
def f_Wants_findWanted_52 (v1 : Int) (Q : Int → gh_M → Prop) (K52 : Int → gh_M → Prop) (v2 : Int) (m : gh_M) : Prop := ((v2 < 0 → Q (if (m 38 0) < 16777216 then (m 38 0) else (-1)) m) ∧ (¬ (v2 < 0) → gh_M1 (fun K58 v3 m => f_Wants_findWanted_58 v1 v2 K52 K58 v3 m) 0 m))
def f_Wants_findWanted_11 (v1 : Int) (Q : Int → gh_M → Prop) (K11 : Int → gh_M → Prop) (v2 : Int) (m : gh_M) : Prop := ((v2 < (m 13 1) → gh_i (v2 * 9) ∧ gh_i ((v2 * 9) + v1) ∧ 0 ≤ v2 ∧ v2 < 8 ∧ 0 ≤ (v2 * 9) + v1 ∧ ((v2 * 9) + v1) < 72 ∧ gh_i (v2 + 1) ∧ K11 (v2 + 1) (gh_u m 38 ((v2 * 9) + v1) (m 21 v2))) ∧ (¬ (v2 < (m 13 1)) → gh_i (v1 - 1) ∧ ∀ v2' : Int, v2' = v1 - 1 → gh_M1 (fun K52 v2 m => f_Wants_findWanted_52 v1 Q K52 v2 m) v2' m))
def w_Wants_findWanted (v1 : Int) (m : gh_M) (Q : Int → gh_M → Prop) : Prop := gh_M1 (fun K11 v2 m => f_Wants_findWanted_11 v1 Q K11 v2 m) 0 (gh_fil m 38 72 16777216)
theorem b_Wants_findWanted_72 {E : gh_E} {v1 : Int} {v2 : Int} {v3 : Int} {K58 : Int → gh_M → Prop} {Q : Int → gh_M → Prop} {K72 : Int → gh_M → Prop} (d : Nat) (hK58 : ∀ (v3 : Int) (m : gh_M), gh_F m → K58 v3 m → gh_T E (gh_yWants_findWanted.cls, prog_12_method_4_code, 6, false, 0) (d + 4) 58 [(0, 2, 36), (1, 0, v1), (2, 0, v2), (3, 0, v3)] [] m (fun r m1 => gh_F m1 ∧ Q r m1)) (hK : ∀ (v4 : Int) (m : gh_M), gh_F m → K72 v4 m → gh_T E (gh_yWants_findWanted.cls, prog_12_method_4_code, 6, false, 0) (d + 4) 72 [(0, 2, 36), (1, 0, v1), (2, 0, v2), (3, 0, v3), (4, 0, v4)] [] m (fun r m1 => gh_F m1 ∧ Q r m1)) (v4 : Int) (m : gh_M) (hF : gh_F m) (h : f_Wants_findWanted_72 v1 v2 v3 K58 K72 v4 m) : gh_T E (gh_yWants_findWanted.cls, prog_12_method_4_code, 6, false, 0) (d + 4) 72 [(0, 2, 36), (1, 0, v1), (2, 0, v2), (3, 0, v3), (4, 0, v4)] [] m (fun r m1 => gh_F m1 ∧ Q r m1) := by
  have hK72 := hK
  unfold f_Wants_findWanted_72 at h
  refine gh_iload gd_Wants_findWanted_72 4 rfl ?_
  refine gh_aload_n gd_Wants_findWanted_74 0 rfl (by decide) ?_
  refine gf_36_0 gd_Wants_findWanted_75 gh_k450 hF ?_
  refine gf_13_2 gd_Wants_findWanted_78 gh_k266 hF rfl ?_
  obtain ⟨hA, hB⟩ := h
  refine gh_jge (tgt := 132) gd_Wants_findWanted_81 (by decide) (fun c1609 => ?_) (fun c1609 => ?_)
  · have h := hA c1609
    refine gh_aload_n gd_Wants_findWanted_84 0 rfl (by decide) ?_
    refine gf_36_0 gd_Wants_findWanted_85 gh_k450 hF ?_
    refine gf_13_5 gd_Wants_findWanted_88 gh_k281 hF ?_
    refine gh_iload gd_Wants_findWanted_91 4 rfl ?_
    obtain ⟨q1610, h⟩ := h
    obtain ⟨q1611, h⟩ := h
    refine la_16 gd_Wants_findWanted_93 hF q1610 q1611 rfl ?_
    refine gh_bipush gd_Wants_findWanted_94 (by decide) (gh_r0 rfl) ?_
    obtain ⟨q1612, h⟩ := h
    refine gh_imul gd_Wants_findWanted_96 q1612 ?_
    refine gh_iload_n gd_Wants_findWanted_97 2 rfl ?_
    obtain ⟨q1613, h⟩ := h
    refine gh_iadd gd_Wants_findWanted_98 q1613 ?_
    refine gh_name (fun v5 hn => ?_)
    have h := h v5 hn
    refine gh_istore (L2 := [(5, 0, v5), (0, 2, 36), (1, 0, v1), (2, 0, v2), (3, 0, v3), (4, 0, v4)]) gd_Wants_findWanted_99 (by decide) rfl ?_
    refine gh_aload_n gd_Wants_findWanted_101 1 rfl (by decide) ?_
    refine gf_36_6 gd_Wants_findWanted_102 gh_k456 hF ?_
    refine gh_iload gd_Wants_findWanted_105 0 rfl ?_
    refine gh_aload_n gd_Wants_findWanted_107 1 rfl (by decide) ?_
    refine gf_36_6 gd_Wants_findWanted_108 gh_k456 hF ?_
    refine gh_iload gd_Wants_findWanted_111 0 rfl ?_
    obtain ⟨q1614, h⟩ := h
    obtain ⟨q1615, h⟩ := h
    refine la_38 gd_Wants_findWanted_113 hF q1614 q1615 rfl ?_
    refine gh_aload_n gd_Wants_findWanted_114 1 rfl (by decide) ?_
    refine gh_iload gd_Wants_findWanted_115 5 rfl ?_
    refine gh_iload_n gd_Wants_findWanted_117 3 rfl ?_
    refine gh_iload_n gd_Wants_findWanted_118 2 rfl ?_
    refine cv_Wants_wantedByRow (d := d + 3) gd_Wants_findWanted_119 gh_k1155 hF (Nat.le_of_ble_eq_true rfl) (gh_C.pw (s_Wants_wantedByRow d v4 v2 v1 hF h) (fun r1616 h => ?_))
    refine gh_pr_min gd_Wants_findWanted_122 gh_k947 (Nat.le_of_ble_eq_true rfl) ?_
    obtain ⟨q1618, h⟩ := h
    obtain ⟨q1619, h⟩ := h
    refine sa_38 gd_Wants_findWanted_125 hF q1618 q1619 (fun hF => ?_)
    obtain ⟨q1620, h⟩ := h
    refine gh_iinc (L2 := [(4, 0, v4 + 1), (5, 0, v5), (0, 2, 36), (1, 0, v1), (2, 0, v2), (3, 0, v3)]) gd_Wants_findWanted_126 5 rfl q1620 (by decide) rfl ?_
    refine gh_goto (tgt := 72) gd_Wants_findWanted_129 (by decide) ?_
    refine gh_pick (L2 := [(0, 2, 36), (1, 0, v1), (2, 0, v2), (3, 0, v3), (4, 0, v4 + 1)]) [2, 3, 4, 5, 0] rfl ?_
    exact hK72 (v4 + 1) (gh_u m 38 v5 (min (m 38 v5) r1616)) hF h
  · have h := hB c1609
    obtain ⟨q1621, h⟩ := h
    refine gh_iinc (L2 := [(3, 0, v3 + 1), (0, 2, 36), (1, 0, v1), (2, 0, v2), (4, 0, v4)]) gd_Wants_findWanted_132 3 rfl q1621 (by decide) rfl ?_
    refine gh_goto (tgt := 58) gd_Wants_findWanted_135 (by decide) ?_
    refine gh_pick (L2 := [(0, 2, 36), (1, 0, v1), (2, 0, v2), (3, 0, v3 + 1)]) [1, 2, 3, 0] rfl ?_
    exact hK58 (v3 + 1) m hF h
theorem b_Wants_findWanted_58 {E : gh_E} {v1 : Int} {v2 : Int} {K52 : Int → gh_M → Prop} {Q : Int → gh_M → Prop} {K58 : Int → gh_M → Prop} (d : Nat) (hK52 : ∀ (v2 : Int) (m : gh_M), gh_F m → K52 v2 m → gh_T E (gh_yWants_findWanted.cls, prog_12_method_4_code, 6, false, 0) (d + 4) 52 [(0, 2, 36), (1, 0, v1), (2, 0, v2)] [] m (fun r m1 => gh_F m1 ∧ Q r m1)) (hK : ∀ (v3 : Int) (m : gh_M), gh_F m → K58 v3 m → gh_T E (gh_yWants_findWanted.cls, prog_12_method_4_code, 6, false, 0) (d + 4) 58 [(0, 2, 36), (1, 0, v1), (2, 0, v2), (3, 0, v3)] [] m (fun r m1 => gh_F m1 ∧ Q r m1)) (v3 : Int) (m : gh_M) (hF : gh_F m) (h : f_Wants_findWanted_58 v1 v2 K52 K58 v3 m) : gh_T E (gh_yWants_findWanted.cls, prog_12_method_4_code, 6, false, 0) (d + 4) 58 [(0, 2, 36), (1, 0, v1), (2, 0, v2), (3, 0, v3)] [] m (fun r m1 => gh_F m1 ∧ Q r m1) := by
  have hK58 := hK
  unfold f_Wants_findWanted_58 at h
  refine gh_iload_n gd_Wants_findWanted_58 3 rfl ?_
  refine gh_aload_n gd_Wants_findWanted_59 0 rfl (by decide) ?_
  refine gf_36_0 gd_Wants_findWanted_60 gh_k450 hF ?_
  refine gf_13_1 gd_Wants_findWanted_63 gh_k259 hF rfl ?_
  obtain ⟨hA, hB⟩ := h
  refine gh_jge (tgt := 138) gd_Wants_findWanted_66 (by decide) (fun c1608 => ?_) (fun c1608 => ?_)
  · have h := hA c1608
    refine gh_iconst gd_Wants_findWanted_69 (gh_r0 rfl) ?_
    refine gh_istore (L2 := [(4, 0, 0), (0, 2, 36), (1, 0, v1), (2, 0, v2), (3, 0, v3)]) gd_Wants_findWanted_70 (by decide) rfl ?_
    refine gh_pick (L2 := [(0, 2, 36), (1, 0, v1), (2, 0, v2), (3, 0, v3), (4, 0, 0)]) [1, 2, 3, 4, 0] rfl ?_
    exact gh_M1_sound (T := fun v4 m => gh_T E (gh_yWants_findWanted.cls, prog_12_method_4_code, 6, false, 0) (d + 4) 72 [(0, 2, 36), (1, 0, v1), (2, 0, v2), (3, 0, v3), (4, 0, v4)] [] m (fun r m1 => gh_F m1 ∧ Q r m1)) (fun _ m => gh_F m) (fun K72 v4 m hK hF h => b_Wants_findWanted_72 d hK58 hK v4 m hF h) 0 m hF h
  · have h := hB c1608
    obtain ⟨q1622, h⟩ := h
    refine gh_iinc (L2 := [(2, 0, v2 + (-1)), (0, 2, 36), (1, 0, v1), (3, 0, v3)]) gd_Wants_findWanted_138 2 rfl q1622 (by decide) rfl ?_
    refine gh_goto (tgt := 52) gd_Wants_findWanted_141 (by decide) ?_
    refine gh_pick (L2 := [(0, 2, 36), (1, 0, v1), (2, 0, v2 + (-1))]) [1, 2, 0] rfl ?_
    exact hK52 (v2 + (-1)) m hF h
theorem b_Wants_findWanted_52 {E : gh_E} {v1 : Int} {Q : Int → gh_M → Prop} {K52 : Int → gh_M → Prop} (d : Nat) (hK : ∀ (v2 : Int) (m : gh_M), gh_F m → K52 v2 m → gh_T E (gh_yWants_findWanted.cls, prog_12_method_4_code, 6, false, 0) (d + 4) 52 [(0, 2, 36), (1, 0, v1), (2, 0, v2)] [] m (fun r m1 => gh_F m1 ∧ Q r m1)) (v2 : Int) (m : gh_M) (hF : gh_F m) (h : f_Wants_findWanted_52 v1 Q K52 v2 m) : gh_T E (gh_yWants_findWanted.cls, prog_12_method_4_code, 6, false, 0) (d + 4) 52 [(0, 2, 36), (1, 0, v1), (2, 0, v2)] [] m (fun r m1 => gh_F m1 ∧ Q r m1) := by
  have hK52 := hK
  unfold f_Wants_findWanted_52 at h
  refine gh_iload_n gd_Wants_findWanted_52 2 rfl ?_
  obtain ⟨hA, hB⟩ := h
  refine gh_zlt (tgt := 144) gd_Wants_findWanted_53 (by decide) (fun c1604 => ?_) (fun c1604 => ?_)
  · have h := hA c1604
    refine gh_aload_n gd_Wants_findWanted_144 0 rfl (by decide) ?_
    refine gf_36_6 gd_Wants_findWanted_145 gh_k456 hF ?_
    refine gh_iconst gd_Wants_findWanted_148 (gh_r0 rfl) ?_
    refine la_38 gd_Wants_findWanted_149 hF (by decide) (by decide) rfl ?_
    refine gh_ldc (n := 16777216) gd_Wants_findWanted_150 gh_k1153 (by decide) (gh_r0 rfl) ?_
    have k1605 : ∀ x1606 : Int, x1606 = (if (m 38 0) < 16777216 then (m 38 0) else (-1)) → gh_T E (gh_yWants_findWanted.cls, prog_12_method_4_code, 6, false, 0) (d + 4) 165 [(0, 2, 36), (1, 0, v1), (2, 0, v2)] [(0, x1606)] m (fun r m1 => gh_F m1 ∧ Q r m1) := by
      rintro _ rfl
      exact gh_ret0 rfl gd_Wants_findWanted_165 ⟨hF, h⟩
    refine gh_jge (tgt := 164) gd_Wants_findWanted_152 (by decide) (fun c1607 => ?_) (fun c1607 => ?_)
    · have hz : True := trivial
      refine gh_aload_n gd_Wants_findWanted_155 0 rfl (by decide) ?_
      refine gf_36_6 gd_Wants_findWanted_156 gh_k456 hF ?_
      refine gh_iconst gd_Wants_findWanted_159 (gh_r0 rfl) ?_
      refine la_38 gd_Wants_findWanted_160 hF (by decide) (by decide) rfl ?_
      refine gh_goto (tgt := 165) gd_Wants_findWanted_161 (by decide) ?_
      exact k1605 _ (by rw [if_pos c1607])
    · have hz : True := trivial
      refine gh_iconst gd_Wants_findWanted_164 (gh_r0 rfl) ?_
      exact k1605 _ (by rw [if_neg c1607])
  · have h := hB c1604
    refine gh_iconst gd_Wants_findWanted_56 (gh_r0 rfl) ?_
    refine gh_istore_n (L2 := [(3, 0, 0), (0, 2, 36), (1, 0, v1), (2, 0, v2)]) gd_Wants_findWanted_57 (by decide) rfl ?_
    refine gh_pick (L2 := [(0, 2, 36), (1, 0, v1), (2, 0, v2), (3, 0, 0)]) [1, 2, 3, 0] rfl ?_
    exact gh_M1_sound (T := fun v3 m => gh_T E (gh_yWants_findWanted.cls, prog_12_method_4_code, 6, false, 0) (d + 4) 58 [(0, 2, 36), (1, 0, v1), (2, 0, v2), (3, 0, v3)] [] m (fun r m1 => gh_F m1 ∧ Q r m1)) (fun _ m => gh_F m) (fun K58 v3 m hK hF h => b_Wants_findWanted_58 d hK52 hK v3 m hF h) 0 m hF h
theorem b_Wants_findWanted_11 {E : gh_E} {v1 : Int} {Q : Int → gh_M → Prop} {K11 : Int → gh_M → Prop} (d : Nat) (hK : ∀ (v2 : Int) (m : gh_M), gh_F m → K11 v2 m → gh_T E (gh_yWants_findWanted.cls, prog_12_method_4_code, 6, false, 0) (d + 4) 11 [(0, 2, 36), (1, 0, v1), (2, 0, v2)] [] m (fun r m1 => gh_F m1 ∧ Q r m1)) (v2 : Int) (m : gh_M) (hF : gh_F m) (h : f_Wants_findWanted_11 v1 Q K11 v2 m) : gh_T E (gh_yWants_findWanted.cls, prog_12_method_4_code, 6, false, 0) (d + 4) 11 [(0, 2, 36), (1, 0, v1), (2, 0, v2)] [] m (fun r m1 => gh_F m1 ∧ Q r m1) := by
  have hK11 := hK
  unfold f_Wants_findWanted_11 at h
  refine gh_iload_n gd_Wants_findWanted_11 2 rfl ?_
  refine gh_aload_n gd_Wants_findWanted_12 0 rfl (by decide) ?_
  refine gf_36_0 gd_Wants_findWanted_13 gh_k450 hF ?_
  refine gf_13_1 gd_Wants_findWanted_16 gh_k259 hF rfl ?_
  obtain ⟨hA, hB⟩ := h
  refine gh_jge (tgt := 48) gd_Wants_findWanted_19 (by decide) (fun c1595 => ?_) (fun c1595 => ?_)
  · have h := hA c1595
    refine gh_aload_n gd_Wants_findWanted_22 0 rfl (by decide) ?_
    refine gf_36_6 gd_Wants_findWanted_23 gh_k456 hF ?_
    refine gh_iload_n gd_Wants_findWanted_26 2 rfl ?_
    refine gh_bipush gd_Wants_findWanted_27 (by decide) (gh_r0 rfl) ?_
    obtain ⟨q1596, h⟩ := h
    refine gh_imul gd_Wants_findWanted_29 q1596 ?_
    refine gh_iload_n gd_Wants_findWanted_30 1 rfl ?_
    obtain ⟨q1597, h⟩ := h
    refine gh_iadd gd_Wants_findWanted_31 q1597 ?_
    refine gh_aload_n gd_Wants_findWanted_32 0 rfl (by decide) ?_
    refine gf_36_1 gd_Wants_findWanted_33 gh_k451 hF ?_
    refine gf_20_6 gd_Wants_findWanted_36 gh_k335 hF ?_
    refine gh_iload_n gd_Wants_findWanted_39 2 rfl ?_
    obtain ⟨q1598, h⟩ := h
    obtain ⟨q1599, h⟩ := h
    refine la_21 gd_Wants_findWanted_40 hF q1598 q1599 rfl ?_
    obtain ⟨q1600, h⟩ := h
    obtain ⟨q1601, h⟩ := h
    refine sa_38 gd_Wants_findWanted_41 hF q1600 q1601 (fun hF => ?_)
    obtain ⟨q1602, h⟩ := h
    refine gh_iinc (L2 := [(2, 0, v2 + 1), (0, 2, 36), (1, 0, v1)]) gd_Wants_findWanted_42 2 rfl q1602 (by decide) rfl ?_
    refine gh_goto (tgt := 11) gd_Wants_findWanted_45 (by decide) ?_
    refine gh_pick (L2 := [(0, 2, 36), (1, 0, v1), (2, 0, v2 + 1)]) [1, 2, 0] rfl ?_
    exact hK11 (v2 + 1) (gh_u m 38 ((v2 * 9) + v1) (m 21 v2)) hF h
  · have h := hB c1595
    refine gh_iload_n gd_Wants_findWanted_48 1 rfl ?_
    refine gh_iconst gd_Wants_findWanted_49 (gh_r0 rfl) ?_
    obtain ⟨q1603, h⟩ := h
    refine gh_isub gd_Wants_findWanted_50 q1603 ?_
    refine gh_name (fun v2' hn => ?_)
    have h := h v2' hn
    refine gh_istore_n (L2 := [(2, 0, v2'), (0, 2, 36), (1, 0, v1)]) gd_Wants_findWanted_51 (by decide) rfl ?_
    refine gh_pick (L2 := [(0, 2, 36), (1, 0, v1), (2, 0, v2')]) [1, 2, 0] rfl ?_
    exact gh_M1_sound (T := fun v2 m => gh_T E (gh_yWants_findWanted.cls, prog_12_method_4_code, 6, false, 0) (d + 4) 52 [(0, 2, 36), (1, 0, v1), (2, 0, v2)] [] m (fun r m1 => gh_F m1 ∧ Q r m1)) (fun _ m => gh_F m) (fun K52 v2 m hK hF h => b_Wants_findWanted_52 d hK v2 m hF h) v2' m hF h
theorem s_Wants_findWanted {E : gh_E} {m : gh_M} {Q : Int → gh_M → Prop} (d : Nat) (v1 : Int) (hF : gh_F m) (h : w_Wants_findWanted v1 m Q) : gh_C E gh_yWants_findWanted prog_12_method_4_code 6 (some .int) 0 (d + 4) [(2, 36), (0, v1)] m (fun r m1 => gh_F m1 ∧ Q r m1) := by
  refine gh_enter2 (L := [(0, 2, 36), (1, 0, v1)]) (by decide +kernel) gh_rt0 (Nat.le_of_ble_eq_true rfl) rfl rfl ?_
  unfold w_Wants_findWanted at h
  refine gh_aload_n gd_Wants_findWanted_0 0 rfl (by decide) ?_
  refine gf_36_6 gd_Wants_findWanted_1 gh_k456 hF ?_
  refine gh_ldc (n := 16777216) gd_Wants_findWanted_4 gh_k1153 (by decide) (gh_r0 rfl) ?_
  refine gh_fillF (d := d + 3) gd_Wants_findWanted_6 gh_k1154 (ga_38 hF) (Nat.le_of_ble_eq_true rfl) hF gn_38 (by decide) (fun hF => ?_)
  refine gh_iconst gd_Wants_findWanted_9 (gh_r0 rfl) ?_
  refine gh_istore_n (L2 := [(2, 0, 0), (0, 2, 36), (1, 0, v1)]) gd_Wants_findWanted_10 (by decide) rfl ?_
  refine gh_pick (L2 := [(0, 2, 36), (1, 0, v1), (2, 0, 0)]) [1, 2, 0] rfl ?_
  exact gh_M1_sound (T := fun v2 m => gh_T E (gh_yWants_findWanted.cls, prog_12_method_4_code, 6, false, 0) (d + 4) 11 [(0, 2, 36), (1, 0, v1), (2, 0, v2)] [] m (fun r m1 => gh_F m1 ∧ Q r m1)) (fun _ m => gh_F m) (fun K11 v2 m hK hF h => b_Wants_findWanted_11 d hK v2 m hF h) 0 (gh_fil m 38 72 16777216) hF h
def w_Wants_behind (v1 : Int) (m : gh_M) (Q : Int → gh_M → Prop) : Prop := ∃ J34 : gh_M → Prop, (∀ (m : gh_M), J34 m → 0 ≤ v1 ∧ v1 < 9 ∧ Q (m 37 v1) m) ∧ (((gh_iand_f (gh_ishr_f (m 36 4) v1) 1) = 0 → w_Wants_findWanted v1 (gh_u m 36 4 (gh_ior_f (m 36 4) (gh_ishl_f 1 v1))) (fun r1626 m1627 => 0 ≤ v1 ∧ v1 < 9 ∧ J34 (gh_u m1627 37 v1 r1626))) ∧ (¬ ((gh_iand_f (gh_ishr_f (m 36 4) v1) 1) = 0) → J34 m))
theorem s_Wants_behind {E : gh_E} {m : gh_M} {Q : Int → gh_M → Prop} (d : Nat) (v1 : Int) (hF : gh_F m) (h : w_Wants_behind v1 m Q) : gh_C E gh_yWants_behind prog_12_method_3_code 2 (some .int) 0 (d + 5) [(2, 36), (0, v1)] m (fun r m1 => gh_F m1 ∧ Q r m1) := by
  refine gh_enter2 (L := [(0, 2, 36), (1, 0, v1)]) (by decide +kernel) gh_rt0 (Nat.le_of_ble_eq_true rfl) rfl rfl ?_
  unfold w_Wants_behind at h
  refine gh_aload_n gd_Wants_behind_0 0 rfl (by decide) ?_
  refine gf_36_4 gd_Wants_behind_1 gh_k454 hF rfl ?_
  refine gh_iload_n gd_Wants_behind_4 1 rfl ?_
  refine gh_ishr gd_Wants_behind_5 ?_
  refine gh_iconst gd_Wants_behind_6 (gh_r0 rfl) ?_
  refine gh_iand gd_Wants_behind_7 ?_
  obtain ⟨J34, hJ34, h⟩ := h
  have hJ34 : ∀ (m : gh_M), gh_F m → J34 m → gh_T E (gh_yWants_behind.cls, prog_12_method_3_code, 2, false, 0) (d + 5) 34 [(0, 2, 36), (1, 0, v1)] [] m (fun r m1 => gh_F m1 ∧ Q r m1) := by
    intro m hF hj
    have h := hJ34 m hj
    refine gh_aload_n gd_Wants_behind_34 0 rfl (by decide) ?_
    refine gf_36_5 gd_Wants_behind_35 gh_k455 hF ?_
    refine gh_iload_n gd_Wants_behind_38 1 rfl ?_
    obtain ⟨q1623, h⟩ := h
    obtain ⟨q1624, h⟩ := h
    refine la_37 gd_Wants_behind_39 hF q1623 q1624 rfl ?_
    exact gh_ret0 rfl gd_Wants_behind_40 ⟨hF, h⟩
  obtain ⟨hA, hB⟩ := h
  refine gh_zne (tgt := 34) gd_Wants_behind_8 (by decide) (fun c1625 => ?_) (fun c1625 => ?_)
  · have h := hA c1625
    refine gh_aload_n gd_Wants_behind_11 0 rfl (by decide) ?_
    refine gh_dup gd_Wants_behind_12 (by decide) ?_
    refine gf_36_4 gd_Wants_behind_13 gh_k454 hF rfl ?_
    refine gh_iconst gd_Wants_behind_16 (gh_r0 rfl) ?_
    refine gh_iload_n gd_Wants_behind_17 1 rfl ?_
    refine gh_ishl gd_Wants_behind_18 ?_
    refine gh_ior gd_Wants_behind_19 ?_
    refine pf_36_4 gd_Wants_behind_20 gh_k454 hF (fun hF => ?_)
    refine gh_aload_n gd_Wants_behind_23 0 rfl (by decide) ?_
    refine gf_36_5 gd_Wants_behind_24 gh_k455 hF ?_
    refine gh_iload_n gd_Wants_behind_27 1 rfl ?_
    refine gh_aload_n gd_Wants_behind_28 0 rfl (by decide) ?_
    refine gh_iload_n gd_Wants_behind_29 1 rfl ?_
    refine cv_Wants_findWanted (d := d + 4) gd_Wants_behind_30 gh_k1149 hF (Nat.le_of_ble_eq_true rfl) (gh_C.mono (s_Wants_findWanted d v1 hF h) (fun r1626 m1627 hq => ?_))
    obtain ⟨hF, h⟩ := hq
    obtain ⟨q1628, h⟩ := h
    obtain ⟨q1629, h⟩ := h
    refine sa_37 gd_Wants_behind_33 hF q1628 q1629 (fun hF => ?_)
    exact hJ34 (gh_u m1627 37 v1 r1626) hF h
  · have h := hB c1625
    exact hJ34 m hF h
def w_House_end (v1 : Int) (m : gh_M) (Q : Int → gh_M → Prop) : Prop := (((m 2 10) = 0 → Q (-1003) m) ∧ (¬ ((m 2 10) = 0) → ((p_House_isPlace v1 m → w_Chart_refresh m (fun _ m1633 => w_Wants_behind v1 m1633 (fun r1634 m1635 => Q r1634 m1635))) ∧ (¬ (p_House_isPlace v1 m) → Q (-1001) m))))
theorem s_House_end {E : gh_E} {m : gh_M} {Q : Int → gh_M → Prop} (d : Nat) (v1 : Int) (hF : gh_F m) (h : w_House_end v1 m Q) : gh_C E gh_yHouse_end prog_1_method_24_code 2 (some .int) 0 (d + 6) [(2, 2), (0, v1)] m (fun r m1 => gh_F m1 ∧ Q r m1) := by
  refine gh_enter2 (L := [(0, 2, 2), (1, 0, v1)]) (by decide +kernel) gh_rt0 (Nat.le_of_ble_eq_true rfl) rfl rfl ?_
  unfold w_House_end at h
  refine gh_aload_n gd_House_end_0 0 rfl (by decide) ?_
  refine gf_2_10 gd_House_end_1 gh_k643 hF rfl ?_
  obtain ⟨hA, hB⟩ := h
  refine gh_zne (tgt := 11) gd_House_end_4 (by decide) (fun c1630 => ?_) (fun c1630 => ?_)
  · have h := hA c1630
    refine gh_sipush gd_House_end_7 (by decide) (gh_r0 rfl) ?_
    exact gh_ret0 rfl gd_House_end_10 ⟨hF, h⟩
  · have h := hB c1630
    refine gh_aload_n gd_House_end_11 0 rfl (by decide) ?_
    refine gh_iload_n gd_House_end_12 1 rfl ?_
    refine cv_House_isPlace (d := d + 5) gd_House_end_13 gh_k1073 hF (Nat.le_of_ble_eq_true rfl) (gh_C.pe (e_House_isPlace (d + 5) v1 hF) ?_)
    obtain ⟨hA, hB⟩ := h
    refine gh_bne (tgt := 23) gd_House_end_16 (by decide) (fun c1631 => ?_) (fun c1631 => ?_)
    · have h := hA c1631
      refine gh_aload_n gd_House_end_23 0 rfl (by decide) ?_
      refine gf_2_5 gd_House_end_24 gh_k638 hF ?_
      refine cv_Chart_refresh (d := d + 5) gd_House_end_27 gh_k1077 hF (Nat.le_of_ble_eq_true rfl) (gh_C.mono (s_Chart_refresh d hF h) (fun r1632 m1633 hq => ?_))
      obtain ⟨hF, h⟩ := hq
      refine gh_aload_n gd_House_end_30 0 rfl (by decide) ?_
      refine gf_2_6 gd_House_end_31 gh_k639 hF ?_
      refine gh_iload_n gd_House_end_34 1 rfl ?_
      refine cv_Wants_behind (d := d + 5) gd_House_end_35 gh_k1145 hF (Nat.le_of_ble_eq_true rfl) (gh_C.mono (s_Wants_behind d v1 hF h) (fun r1634 m1635 hq => ?_))
      obtain ⟨hF, h⟩ := hq
      exact gh_ret0 rfl gd_House_end_38 ⟨hF, h⟩
    · have h := hB c1631
      refine gh_sipush gd_House_end_19 (by decide) (gh_r0 rfl) ?_
      exact gh_ret0 rfl gd_House_end_22 ⟨hF, h⟩
def f_Wants_costUpTo_20 (v1 : Int) (v2 : Int) (v3 : Int) (v4 : Int) (Q : Int → Prop) (m : gh_M) (K20 : Int → Int → Int → Prop) (v5 : Int) (v6 : Int) (v7 : Int) : Prop := ((v7 < v2 → Q v5) ∧ (¬ (v7 < v2) → gh_i (v3 - v7) ∧ ∀ v8 : Int, v8 = v3 - v7 → ((¬ (v8 ≤ 0) → (((v4 = (-1)) → (k_Text_fits v1 v7 m))))) ∧ ∀ v6' : Int, v6' = gh_ior_f v6 (if (¬ (v8 ≤ 0) ∧ ((v4 = (-1)) ∧ (p_Text_fits v1 v7 m))) then (1:Int) else 0) → 0 ≤ v7 ∧ v7 < 9 ∧ ∃ J128 : Int → Prop, (∀ (v5' : Int), J128 v5' → gh_i (v7 + (-1)) ∧ K20 v5' v6' (v7 + (-1))) ∧ (((m 40 v7) < v5 → (((v4 = (-1)) → (gh_i ((max v8 1) - v6'))) ∧ (¬ (v4 = (-1)) → ((gh_i (v4 * 9) ∧ gh_i ((v4 * 9) + v7) ∧ gh_i (((v4 * 9) + v7) * 9) ∧ gh_i ((((v4 * 9) + v7) * 9) + v3)) ∧ 0 ≤ ((((v4 * 9) + v7) * 9) + v3) ∧ (((((v4 * 9) + v7) * 9) + v3)) < 648))) ∧ ∀ v9 : Int, v9 = (if v4 = (-1) then ((max v8 1) - v6') else (m 39 (((((v4 * 9) + v7) * 9) + v3)))) → 0 ≤ v7 ∧ v7 < 9 ∧ gh_i ((m 40 v7) + v9) ∧ ∀ v5' : Int, v5' = min v5 ((m 40 v7) + v9) → J128 v5') ∧ (¬ ((m 40 v7) < v5) → J128 v5))))
def w_Wants_costUpTo (v1 : Int) (v2 : Int) (v3 : Int) (m : gh_M) (Q : Int → Prop) : Prop := k_Grammar_nameOf v1 m ∧ ∀ v4 : Int, v4 = x_Grammar_nameOf v1 m → gh_L3 (fun K20 v5 v6 v7 => f_Wants_costUpTo_20 v1 v2 v3 v4 Q m K20 v5 v6 v7) 16777216 0 v3
theorem b_Wants_costUpTo_20 {E : gh_E} {v1 : Int} {v2 : Int} {v3 : Int} {v4 : Int} {Q : Int → Prop} {K20 : Int → Int → Int → Prop} (d : Nat) {m : gh_M} (hK : ∀ (v5 : Int) (v6 : Int) (v7 : Int), gh_F m → K20 v5 v6 v7 → gh_T E (gh_yWants_costUpTo.cls, prog_12_method_10_code, 10, false, 0) (d + 1) 20 [(0, 2, 36), (1, 0, v1), (2, 0, v2), (3, 0, v3), (4, 0, v4), (5, 0, v5), (6, 0, v6), (7, 0, v7)] [] m (fun r m1 => m1 = m ∧ Q r)) (v5 : Int) (v6 : Int) (v7 : Int) (hF : gh_F m) (h : f_Wants_costUpTo_20 v1 v2 v3 v4 Q m K20 v5 v6 v7) : gh_T E (gh_yWants_costUpTo.cls, prog_12_method_10_code, 10, false, 0) (d + 1) 20 [(0, 2, 36), (1, 0, v1), (2, 0, v2), (3, 0, v3), (4, 0, v4), (5, 0, v5), (6, 0, v6), (7, 0, v7)] [] m (fun r m1 => m1 = m ∧ Q r) := by
  have hK20 := hK
  unfold f_Wants_costUpTo_20 at h
  refine gh_iload gd_Wants_costUpTo_20 7 rfl ?_
  refine gh_iload_n gd_Wants_costUpTo_22 2 rfl ?_
  obtain ⟨hA, hB⟩ := h
  refine gh_jlt (tgt := 134) gd_Wants_costUpTo_23 (by decide) (fun c1637 => ?_) (fun c1637 => ?_)
  · have h := hA c1637
    refine gh_iload gd_Wants_costUpTo_134 5 rfl ?_
    exact gh_ret0 rfl gd_Wants_costUpTo_136 ⟨rfl, h⟩
  · have h := hB c1637
    refine gh_iload_n gd_Wants_costUpTo_26 3 rfl ?_
    refine gh_iload gd_Wants_costUpTo_27 7 rfl ?_
    obtain ⟨q1638, h⟩ := h
    refine gh_isub gd_Wants_costUpTo_29 q1638 ?_
    refine gh_name (fun v8 hn => ?_)
    have h := h v8 hn
    refine gh_istore (L2 := [(8, 0, v8), (0, 2, 36), (1, 0, v1), (2, 0, v2), (3, 0, v3), (4, 0, v4), (5, 0, v5), (6, 0, v6), (7, 0, v7)]) gd_Wants_costUpTo_30 (by decide) rfl ?_
    refine gh_iload gd_Wants_costUpTo_32 7 rfl ?_
    refine gh_iload gd_Wants_costUpTo_34 0 rfl ?_
    obtain ⟨hk, h⟩ := h
    have k1640 : ∀ x1641 : Int, x1641 = (if (¬ (v8 ≤ 0) ∧ ((v4 = (-1)) ∧ (p_Text_fits v1 v7 m))) then (1:Int) else 0) → gh_T E (gh_yWants_costUpTo.cls, prog_12_method_10_code, 10, false, 0) (d + 1) 63 [(8, 0, v8), (0, 2, 36), (1, 0, v1), (2, 0, v2), (3, 0, v3), (4, 0, v4), (5, 0, v5), (6, 0, v6), (7, 0, v7)] [(0, x1641), (0, v6)] m (fun r m1 => m1 = m ∧ Q r) := by
      rintro _ rfl
      refine gh_ior gd_Wants_costUpTo_63 ?_
      refine gh_name (fun v6' hn => ?_)
      have h := h v6' hn
      refine gh_istore (L2 := [(6, 0, v6'), (8, 0, v8), (0, 2, 36), (1, 0, v1), (2, 0, v2), (3, 0, v3), (4, 0, v4), (5, 0, v5), (7, 0, v7)]) gd_Wants_costUpTo_64 (by decide) rfl ?_
      refine gh_aload_n gd_Wants_costUpTo_66 2 rfl (by decide) ?_
      refine gf_36_9 gd_Wants_costUpTo_67 gh_k459 hF ?_
      refine gh_iload gd_Wants_costUpTo_70 8 rfl ?_
      obtain ⟨q1642, h⟩ := h
      obtain ⟨q1643, h⟩ := h
      refine la_40 gd_Wants_costUpTo_72 hF q1642 q1643 rfl ?_
      refine gh_iload gd_Wants_costUpTo_73 7 rfl ?_
      obtain ⟨J128, hJ128, h⟩ := h
      have hJ128 : ∀ (v5' : Int), gh_F m → J128 v5' → gh_T E (gh_yWants_costUpTo.cls, prog_12_method_10_code, 10, false, 0) (d + 1) 128 [(0, 2, 36), (1, 0, v1), (2, 0, v2), (3, 0, v3), (4, 0, v4), (5, 0, v5'), (6, 0, v6'), (7, 0, v7)] [] m (fun r m1 => m1 = m ∧ Q r) := by
        intro v5' hF hj
        have h := hJ128 v5' hj
        obtain ⟨q1644, h⟩ := h
        refine gh_iinc (L2 := [(7, 0, v7 + (-1)), (0, 2, 36), (1, 0, v1), (2, 0, v2), (3, 0, v3), (4, 0, v4), (5, 0, v5'), (6, 0, v6')]) gd_Wants_costUpTo_128 7 rfl q1644 (by decide) rfl ?_
        refine gh_goto (tgt := 20) gd_Wants_costUpTo_131 (by decide) ?_
        refine gh_pick (L2 := [(0, 2, 36), (1, 0, v1), (2, 0, v2), (3, 0, v3), (4, 0, v4), (5, 0, v5'), (6, 0, v6'), (7, 0, v7 + (-1))]) [1, 2, 3, 4, 5, 6, 7, 0] rfl ?_
        exact hK20 v5' v6' (v7 + (-1)) hF h
      obtain ⟨hA, hB⟩ := h
      refine gh_jge (tgt := 128) gd_Wants_costUpTo_75 (by decide) (fun c1645 => ?_) (fun c1645 => ?_)
      · have h := hA c1645
        refine gh_iload gd_Wants_costUpTo_78 6 rfl ?_
        refine gh_iconst gd_Wants_costUpTo_80 (gh_r0 rfl) ?_
        obtain ⟨hk, h⟩ := h
        have k1650 : ∀ x1651 : Int, x1651 = (if v4 = (-1) then ((max v8 1) - v6') else (m 39 (((((v4 * 9) + v7) * 9) + v3)))) → gh_T E (gh_yWants_costUpTo.cls, prog_12_method_10_code, 10, false, 0) (d + 1) 109 [(6, 0, v6'), (8, 0, v8), (0, 2, 36), (1, 0, v1), (2, 0, v2), (3, 0, v3), (4, 0, v4), (5, 0, v5), (7, 0, v7)] [(0, x1651)] m (fun r m1 => m1 = m ∧ Q r) := by
          rintro _ rfl
          refine gh_name (fun v9 hn => ?_)
          have h := h v9 hn
          refine gh_istore (L2 := [(9, 0, v9), (6, 0, v6'), (8, 0, v8), (0, 2, 36), (1, 0, v1), (2, 0, v2), (3, 0, v3), (4, 0, v4), (5, 0, v5), (7, 0, v7)]) gd_Wants_costUpTo_109 (by decide) rfl ?_
          refine gh_iload gd_Wants_costUpTo_111 8 rfl ?_
          refine gh_aload_n gd_Wants_costUpTo_113 3 rfl (by decide) ?_
          refine gf_36_9 gd_Wants_costUpTo_114 gh_k459 hF ?_
          refine gh_iload gd_Wants_costUpTo_117 9 rfl ?_
          obtain ⟨q1652, h⟩ := h
          obtain ⟨q1653, h⟩ := h
          refine la_40 gd_Wants_costUpTo_119 hF q1652 q1653 rfl ?_
          refine gh_iload gd_Wants_costUpTo_120 0 rfl ?_
          obtain ⟨q1654, h⟩ := h
          refine gh_iadd gd_Wants_costUpTo_122 q1654 ?_
          refine gh_pr_min gd_Wants_costUpTo_123 gh_k947 (Nat.le_of_ble_eq_true rfl) ?_
          refine gh_name (fun v5' hn => ?_)
          have h := h v5' hn
          refine gh_istore (L2 := [(5, 0, v5'), (9, 0, v9), (6, 0, v6'), (8, 0, v8), (0, 2, 36), (1, 0, v1), (2, 0, v2), (3, 0, v3), (4, 0, v4), (7, 0, v7)]) gd_Wants_costUpTo_126 (by decide) rfl ?_
          refine gh_pick (L2 := [(0, 2, 36), (1, 0, v1), (2, 0, v2), (3, 0, v3), (4, 0, v4), (5, 0, v5'), (6, 0, v6'), (7, 0, v7)]) [4, 5, 6, 7, 8, 0, 2, 9] rfl ?_
          exact hJ128 v5' hF h
        refine gh_jeq (tgt := 100) gd_Wants_costUpTo_81 (by decide) (fun c1655 => ?_) (fun c1655 => ?_)
        · have hz : True := trivial
          have hk := hk.1 c1655
          refine gh_iload gd_Wants_costUpTo_100 1 rfl ?_
          refine gh_iconst gd_Wants_costUpTo_102 (gh_r0 rfl) ?_
          refine gh_pr_max gd_Wants_costUpTo_103 gh_k1189 (Nat.le_of_ble_eq_true rfl) ?_
          refine gh_iload gd_Wants_costUpTo_106 0 rfl ?_
          have q1646 := hk
          refine gh_isub gd_Wants_costUpTo_108 q1646 ?_
          exact k1650 _ (by rw [if_pos c1655])
        · have hz : True := trivial
          have hk := hk.2 c1655
          refine gh_aload_n gd_Wants_costUpTo_84 2 rfl (by decide) ?_
          refine gf_36_8 gd_Wants_costUpTo_85 gh_k458 hF ?_
          refine gh_iload gd_Wants_costUpTo_88 6 rfl ?_
          refine gh_iload gd_Wants_costUpTo_90 8 rfl ?_
          refine gh_iload_n gd_Wants_costUpTo_92 5 rfl ?_
          obtain ⟨q1647, hk⟩ := hk
          refine cv_Wants_costAt (d := d) gd_Wants_costUpTo_93 gh_k1175 (Nat.le_of_ble_eq_true rfl) (gh_C.pe (e_Wants_costAt d v4 v7 v3 q1647) ?_)
          obtain ⟨q1648, hk⟩ := hk
          have q1649 := hk
          refine la_39 gd_Wants_costUpTo_96 hF q1648 q1649 rfl ?_
          refine gh_goto (tgt := 109) gd_Wants_costUpTo_97 (by decide) ?_
          exact k1650 _ (by rw [if_neg c1655])
      · have h := hB c1645
        refine gh_pick (L2 := [(0, 2, 36), (1, 0, v1), (2, 0, v2), (3, 0, v3), (4, 0, v4), (5, 0, v5), (6, 0, v6'), (7, 0, v7)]) [2, 3, 4, 5, 6, 7, 0, 8] rfl ?_
        exact hJ128 v5 hF h
    refine gh_zle (tgt := 62) gd_Wants_costUpTo_36 (by decide) (fun c1656 => ?_) (fun c1656 => ?_)
    · have hz : True := trivial
      refine gh_iconst gd_Wants_costUpTo_62 (gh_r0 rfl) ?_
      exact k1640 _ (if_neg (c := (¬ (v8 ≤ 0) ∧ ((v4 = (-1)) ∧ (p_Text_fits v1 v7 m)))) (fun z => z.1 c1656)).symm
    · have hz : True := trivial
      have hk := hk c1656
      refine gh_iload gd_Wants_costUpTo_39 5 rfl ?_
      refine gh_iconst gd_Wants_costUpTo_41 (gh_r0 rfl) ?_
      refine gh_jne (tgt := 62) gd_Wants_costUpTo_42 (by decide) (fun c1657 => ?_) (fun c1657 => ?_)
      · have hz : True := trivial
        have hk := hk c1657
        refine gh_aload_n gd_Wants_costUpTo_45 1 rfl (by decide) ?_
        refine gf_36_2 gd_Wants_costUpTo_46 gh_k452 hF ?_
        refine gh_iload_n gd_Wants_costUpTo_49 2 rfl ?_
        refine gh_iload gd_Wants_costUpTo_50 8 rfl ?_
        have q1639 := hk
        refine cv_Text_fits (d := d) gd_Wants_costUpTo_52 gh_k1188 hF (Nat.le_of_ble_eq_true rfl) (gh_C.pe (e_Text_fits d v1 v7 hF q1639) ?_)
        refine gh_beq (tgt := 62) gd_Wants_costUpTo_55 (by decide) (fun c1658 => ?_) (fun c1658 => ?_)
        · have hz : True := trivial
          refine gh_iconst gd_Wants_costUpTo_58 (gh_r0 rfl) ?_
          refine gh_goto (tgt := 63) gd_Wants_costUpTo_59 (by decide) ?_
          exact k1640 _ (if_pos (c := (¬ (v8 ≤ 0) ∧ ((v4 = (-1)) ∧ (p_Text_fits v1 v7 m)))) ⟨c1656, ⟨c1657, c1658⟩⟩).symm
        · have hz : True := trivial
          refine gh_iconst gd_Wants_costUpTo_62 (gh_r0 rfl) ?_
          exact k1640 _ (if_neg (c := (¬ (v8 ≤ 0) ∧ ((v4 = (-1)) ∧ (p_Text_fits v1 v7 m)))) (fun z => (fun z => c1658 z.2) z.2)).symm
      · have hz : True := trivial
        refine gh_iconst gd_Wants_costUpTo_62 (gh_r0 rfl) ?_
        exact k1640 _ (if_neg (c := (¬ (v8 ≤ 0) ∧ ((v4 = (-1)) ∧ (p_Text_fits v1 v7 m)))) (fun z => (fun z => c1657 z.1) z.2)).symm
theorem s_Wants_costUpTo {E : gh_E} {m : gh_M} {Q : Int → Prop} (d : Nat) (v1 : Int) (v2 : Int) (v3 : Int) (hF : gh_F m) (h : w_Wants_costUpTo v1 v2 v3 m Q) : gh_C E gh_yWants_costUpTo prog_12_method_10_code 10 (some .int) 0 (d + 1) [(2, 36), (0, v1), (0, v2), (0, v3)] m (fun r m1 => m1 = m ∧ Q r) := by
  refine gh_enter2 (L := [(0, 2, 36), (1, 0, v1), (2, 0, v2), (3, 0, v3)]) (by decide +kernel) gh_rt0 (Nat.le_of_ble_eq_true rfl) rfl rfl ?_
  unfold w_Wants_costUpTo at h
  refine gh_aload_n gd_Wants_costUpTo_0 0 rfl (by decide) ?_
  refine gf_36_0 gd_Wants_costUpTo_1 gh_k450 hF ?_
  refine gh_iload_n gd_Wants_costUpTo_4 1 rfl ?_
  obtain ⟨q1636, h⟩ := h
  refine cv_Grammar_nameOf (d := d) gd_Wants_costUpTo_5 gh_k1187 hF (Nat.le_of_ble_eq_true rfl) (gh_C.pe (e_Grammar_nameOf d v1 hF q1636) ?_)
  refine gh_name (fun v4 hn => ?_)
  have h := h v4 hn
  refine gh_istore (L2 := [(4, 0, v4), (0, 2, 36), (1, 0, v1), (2, 0, v2), (3, 0, v3)]) gd_Wants_costUpTo_8 (by decide) rfl ?_
  refine gh_ldc (n := 16777216) gd_Wants_costUpTo_10 gh_k1153 (by decide) (gh_r0 rfl) ?_
  refine gh_istore (L2 := [(5, 0, 16777216), (4, 0, v4), (0, 2, 36), (1, 0, v1), (2, 0, v2), (3, 0, v3)]) gd_Wants_costUpTo_12 (by decide) rfl ?_
  refine gh_iconst gd_Wants_costUpTo_14 (gh_r0 rfl) ?_
  refine gh_istore (L2 := [(6, 0, 0), (5, 0, 16777216), (4, 0, v4), (0, 2, 36), (1, 0, v1), (2, 0, v2), (3, 0, v3)]) gd_Wants_costUpTo_15 (by decide) rfl ?_
  refine gh_iload_n gd_Wants_costUpTo_17 6 rfl ?_
  refine gh_istore (L2 := [(7, 0, v3), (6, 0, 0), (5, 0, 16777216), (4, 0, v4), (0, 2, 36), (1, 0, v1), (2, 0, v2), (3, 0, v3)]) gd_Wants_costUpTo_18 (by decide) rfl ?_
  refine gh_pick (L2 := [(0, 2, 36), (1, 0, v1), (2, 0, v2), (3, 0, v3), (4, 0, v4), (5, 0, 16777216), (6, 0, 0), (7, 0, v3)]) [4, 5, 6, 7, 3, 2, 1, 0] rfl ?_
  exact gh_L3_sound (T := fun v5 v6 v7 => gh_T E (gh_yWants_costUpTo.cls, prog_12_method_10_code, 10, false, 0) (d + 1) 20 [(0, 2, 36), (1, 0, v1), (2, 0, v2), (3, 0, v3), (4, 0, v4), (5, 0, v5), (6, 0, v6), (7, 0, v7)] [] m (fun r m1 => m1 = m ∧ Q r)) (fun _ _ _ => gh_F m) (fun K20 v5 v6 v7 hK hF h => b_Wants_costUpTo_20 d hK v5 v6 v7 hF h) 16777216 0 v3 hF h
def f_Wants_costOfRow_87 (v1 : Int) (v2 : Int) (v3 : Int) (v4 : Int) (v5 : Int) (v6 : Int) (K35 : Int → gh_M → Prop) (K87 : Int → gh_M → Prop) (v7 : Int) (m : gh_M) : Prop := ((v7 < v6 → gh_i (v4 + 1) ∧ K35 (v4 + 1) m) ∧ (¬ (v7 < v6) → w_Wants_costUpTo v5 v2 v7 m (fun r1676 => 0 ≤ v7 ∧ v7 < 9 ∧ gh_i (v7 + (-1)) ∧ K87 (v7 + (-1)) (gh_u m 40 v7 r1676))))
def f_Wants_costOfRow_35 (v1 : Int) (v2 : Int) (v3 : Int) (Q : Int → gh_M → Prop) (K35 : Int → gh_M → Prop) (v4 : Int) (m : gh_M) : Prop := 0 ≤ v1 ∧ v1 < 20 ∧ ((v4 < (m 17 v1) → k_Grammar_partAt v1 v4 m ∧ ∀ v5 : Int, v5 = x_Grammar_partAt v1 v4 m → 0 ≤ v1 ∧ v1 < 20 ∧ gh_i ((m 17 v1) - 1) ∧ ∀ v6 : Int, v6 = (if v4 = ((m 17 v1) - 1) then v3 else v2) → gh_M1 (fun K87 v7 m => f_Wants_costOfRow_87 v1 v2 v3 v4 v5 v6 K35 K87 v7 m) v3 m) ∧ (¬ (v4 < (m 17 v1)) → 0 ≤ v3 ∧ v3 < 9 ∧ Q (m 40 v3) m))
def w_Wants_costOfRow (v1 : Int) (v2 : Int) (v3 : Int) (m : gh_M) (Q : Int → gh_M → Prop) : Prop := 0 ≤ v1 ∧ v1 < 20 ∧ (((m 17 v1) = 0 → gh_i (v3 - v2) ∧ Q (v3 - v2) m) ∧ (¬ ((m 17 v1) = 0) → 0 ≤ v2 ∧ v2 < 9 ∧ gh_M1 (fun K35 v4 m => f_Wants_costOfRow_35 v1 v2 v3 Q K35 v4 m) 0 (gh_u (gh_fil m 40 9 16777216) 40 v2 0)))
theorem b_Wants_costOfRow_87 {E : gh_E} {v1 : Int} {v2 : Int} {v3 : Int} {v4 : Int} {v5 : Int} {v6 : Int} {K35 : Int → gh_M → Prop} {Q : Int → gh_M → Prop} {K87 : Int → gh_M → Prop} (d : Nat) (hK35 : ∀ (v4 : Int) (m : gh_M), gh_F m → K35 v4 m → gh_T E (gh_yWants_costOfRow.cls, prog_12_method_9_code, 8, false, 0) (d + 2) 35 [(0, 2, 36), (1, 0, v1), (2, 0, v2), (3, 0, v3), (4, 0, v4)] [] m (fun r m1 => gh_F m1 ∧ Q r m1)) (hK : ∀ (v7 : Int) (m : gh_M), gh_F m → K87 v7 m → gh_T E (gh_yWants_costOfRow.cls, prog_12_method_9_code, 8, false, 0) (d + 2) 87 [(0, 2, 36), (1, 0, v1), (2, 0, v2), (3, 0, v3), (4, 0, v4), (5, 0, v5), (6, 0, v6), (7, 0, v7)] [] m (fun r m1 => gh_F m1 ∧ Q r m1)) (v7 : Int) (m : gh_M) (hF : gh_F m) (h : f_Wants_costOfRow_87 v1 v2 v3 v4 v5 v6 K35 K87 v7 m) : gh_T E (gh_yWants_costOfRow.cls, prog_12_method_9_code, 8, false, 0) (d + 2) 87 [(0, 2, 36), (1, 0, v1), (2, 0, v2), (3, 0, v3), (4, 0, v4), (5, 0, v5), (6, 0, v6), (7, 0, v7)] [] m (fun r m1 => gh_F m1 ∧ Q r m1) := by
  have hK87 := hK
  unfold f_Wants_costOfRow_87 at h
  refine gh_iload gd_Wants_costOfRow_87 7 rfl ?_
  refine gh_iload gd_Wants_costOfRow_89 6 rfl ?_
  obtain ⟨hA, hB⟩ := h
  refine gh_jlt (tgt := 116) gd_Wants_costOfRow_91 (by decide) (fun c1674 => ?_) (fun c1674 => ?_)
  · have h := hA c1674
    obtain ⟨q1675, h⟩ := h
    refine gh_iinc (L2 := [(4, 0, v4 + 1), (0, 2, 36), (1, 0, v1), (2, 0, v2), (3, 0, v3), (5, 0, v5), (6, 0, v6), (7, 0, v7)]) gd_Wants_costOfRow_116 4 rfl q1675 (by decide) rfl ?_
    refine gh_goto (tgt := 35) gd_Wants_costOfRow_119 (by decide) ?_
    refine gh_pick (L2 := [(0, 2, 36), (1, 0, v1), (2, 0, v2), (3, 0, v3), (4, 0, v4 + 1)]) [1, 2, 3, 4, 0] rfl ?_
    exact hK35 (v4 + 1) m hF h
  · have h := hB c1674
    refine gh_aload_n gd_Wants_costOfRow_94 0 rfl (by decide) ?_
    refine gf_36_9 gd_Wants_costOfRow_95 gh_k459 hF ?_
    refine gh_iload gd_Wants_costOfRow_98 7 rfl ?_
    refine gh_aload_n gd_Wants_costOfRow_100 0 rfl (by decide) ?_
    refine gh_iload gd_Wants_costOfRow_101 5 rfl ?_
    refine gh_iload_n gd_Wants_costOfRow_103 2 rfl ?_
    refine gh_iload gd_Wants_costOfRow_104 7 rfl ?_
    refine cv_Wants_costUpTo (d := d + 1) gd_Wants_costOfRow_106 gh_k1183 hF (Nat.le_of_ble_eq_true rfl) (gh_C.pw (s_Wants_costUpTo d v5 v2 v7 hF h) (fun r1676 h => ?_))
    obtain ⟨q1678, h⟩ := h
    obtain ⟨q1679, h⟩ := h
    refine sa_40 gd_Wants_costOfRow_109 hF q1678 q1679 (fun hF => ?_)
    obtain ⟨q1680, h⟩ := h
    refine gh_iinc (L2 := [(7, 0, v7 + (-1)), (0, 2, 36), (1, 0, v1), (2, 0, v2), (3, 0, v3), (4, 0, v4), (5, 0, v5), (6, 0, v6)]) gd_Wants_costOfRow_110 7 rfl q1680 (by decide) rfl ?_
    refine gh_goto (tgt := 87) gd_Wants_costOfRow_113 (by decide) ?_
    refine gh_pick (L2 := [(0, 2, 36), (1, 0, v1), (2, 0, v2), (3, 0, v3), (4, 0, v4), (5, 0, v5), (6, 0, v6), (7, 0, v7 + (-1))]) [1, 2, 3, 4, 5, 6, 7, 0] rfl ?_
    exact hK87 (v7 + (-1)) (gh_u m 40 v7 r1676) hF h
theorem b_Wants_costOfRow_35 {E : gh_E} {v1 : Int} {v2 : Int} {v3 : Int} {Q : Int → gh_M → Prop} {K35 : Int → gh_M → Prop} (d : Nat) (hK : ∀ (v4 : Int) (m : gh_M), gh_F m → K35 v4 m → gh_T E (gh_yWants_costOfRow.cls, prog_12_method_9_code, 8, false, 0) (d + 2) 35 [(0, 2, 36), (1, 0, v1), (2, 0, v2), (3, 0, v3), (4, 0, v4)] [] m (fun r m1 => gh_F m1 ∧ Q r m1)) (v4 : Int) (m : gh_M) (hF : gh_F m) (h : f_Wants_costOfRow_35 v1 v2 v3 Q K35 v4 m) : gh_T E (gh_yWants_costOfRow.cls, prog_12_method_9_code, 8, false, 0) (d + 2) 35 [(0, 2, 36), (1, 0, v1), (2, 0, v2), (3, 0, v3), (4, 0, v4)] [] m (fun r m1 => gh_F m1 ∧ Q r m1) := by
  have hK35 := hK
  unfold f_Wants_costOfRow_35 at h
  refine gh_iload gd_Wants_costOfRow_35 4 rfl ?_
  refine gh_aload_n gd_Wants_costOfRow_37 0 rfl (by decide) ?_
  refine gf_36_0 gd_Wants_costOfRow_38 gh_k450 hF ?_
  refine gf_13_6 gd_Wants_costOfRow_41 gh_k286 hF ?_
  refine gh_iload_n gd_Wants_costOfRow_44 1 rfl ?_
  obtain ⟨q1665, h⟩ := h
  obtain ⟨q1666, h⟩ := h
  refine la_17 gd_Wants_costOfRow_45 hF q1665 q1666 rfl ?_
  obtain ⟨hA, hB⟩ := h
  refine gh_jge (tgt := 122) gd_Wants_costOfRow_46 (by decide) (fun c1667 => ?_) (fun c1667 => ?_)
  · have h := hA c1667
    refine gh_aload_n gd_Wants_costOfRow_49 0 rfl (by decide) ?_
    refine gf_36_0 gd_Wants_costOfRow_50 gh_k450 hF ?_
    refine gh_iload_n gd_Wants_costOfRow_53 1 rfl ?_
    refine gh_iload gd_Wants_costOfRow_54 4 rfl ?_
    obtain ⟨q1668, h⟩ := h
    refine cv_Grammar_partAt (d := d + 1) gd_Wants_costOfRow_56 gh_k1161 hF (Nat.le_of_ble_eq_true rfl) (gh_C.pe (e_Grammar_partAt (d + 1) v1 v4 hF q1668) ?_)
    refine gh_name (fun v5 hn => ?_)
    have h := h v5 hn
    refine gh_istore (L2 := [(5, 0, v5), (0, 2, 36), (1, 0, v1), (2, 0, v2), (3, 0, v3), (4, 0, v4)]) gd_Wants_costOfRow_59 (by decide) rfl ?_
    refine gh_iload gd_Wants_costOfRow_61 5 rfl ?_
    refine gh_aload_n gd_Wants_costOfRow_63 1 rfl (by decide) ?_
    refine gf_36_0 gd_Wants_costOfRow_64 gh_k450 hF ?_
    refine gf_13_6 gd_Wants_costOfRow_67 gh_k286 hF ?_
    refine gh_iload_n gd_Wants_costOfRow_70 2 rfl ?_
    obtain ⟨q1669, h⟩ := h
    obtain ⟨q1670, h⟩ := h
    refine la_17 gd_Wants_costOfRow_71 hF q1669 q1670 rfl ?_
    refine gh_iconst gd_Wants_costOfRow_72 (gh_r0 rfl) ?_
    obtain ⟨q1671, h⟩ := h
    refine gh_isub gd_Wants_costOfRow_73 q1671 ?_
    have k1672 : ∀ x1673 : Int, x1673 = (if v4 = ((m 17 v1) - 1) then v3 else v2) → gh_T E (gh_yWants_costOfRow.cls, prog_12_method_9_code, 8, false, 0) (d + 2) 82 [(5, 0, v5), (0, 2, 36), (1, 0, v1), (2, 0, v2), (3, 0, v3), (4, 0, v4)] [(0, x1673)] m (fun r m1 => gh_F m1 ∧ Q r m1) := by
      rintro _ rfl
      refine gh_name (fun v6 hn => ?_)
      have h := h v6 hn
      refine gh_istore (L2 := [(6, 0, v6), (5, 0, v5), (0, 2, 36), (1, 0, v1), (2, 0, v2), (3, 0, v3), (4, 0, v4)]) gd_Wants_costOfRow_82 (by decide) rfl ?_
      refine gh_iload_n gd_Wants_costOfRow_84 5 rfl ?_
      refine gh_istore (L2 := [(7, 0, v3), (6, 0, v6), (5, 0, v5), (0, 2, 36), (1, 0, v1), (2, 0, v2), (3, 0, v3), (4, 0, v4)]) gd_Wants_costOfRow_85 (by decide) rfl ?_
      refine gh_pick (L2 := [(0, 2, 36), (1, 0, v1), (2, 0, v2), (3, 0, v3), (4, 0, v4), (5, 0, v5), (6, 0, v6), (7, 0, v3)]) [3, 4, 5, 6, 7, 2, 1, 0] rfl ?_
      exact gh_M1_sound (T := fun v7 m => gh_T E (gh_yWants_costOfRow.cls, prog_12_method_9_code, 8, false, 0) (d + 2) 87 [(0, 2, 36), (1, 0, v1), (2, 0, v2), (3, 0, v3), (4, 0, v4), (5, 0, v5), (6, 0, v6), (7, 0, v7)] [] m (fun r m1 => gh_F m1 ∧ Q r m1)) (fun _ m => gh_F m) (fun K87 v7 m hK hF h => b_Wants_costOfRow_87 d hK35 hK v7 m hF h) v3 m hF h
    refine gh_jne (tgt := 81) gd_Wants_costOfRow_74 (by decide) (fun c1681 => ?_) (fun c1681 => ?_)
    · have hz : True := trivial
      refine gh_iload_n gd_Wants_costOfRow_77 4 rfl ?_
      refine gh_goto (tgt := 82) gd_Wants_costOfRow_78 (by decide) ?_
      exact k1672 _ (by rw [if_pos c1681])
    · have hz : True := trivial
      refine gh_iload_n gd_Wants_costOfRow_81 3 rfl ?_
      exact k1672 _ (by rw [if_neg c1681])
  · have h := hB c1667
    refine gh_aload_n gd_Wants_costOfRow_122 0 rfl (by decide) ?_
    refine gf_36_9 gd_Wants_costOfRow_123 gh_k459 hF ?_
    refine gh_iload_n gd_Wants_costOfRow_126 3 rfl ?_
    obtain ⟨q1682, h⟩ := h
    obtain ⟨q1683, h⟩ := h
    refine la_40 gd_Wants_costOfRow_127 hF q1682 q1683 rfl ?_
    exact gh_ret0 rfl gd_Wants_costOfRow_128 ⟨hF, h⟩
theorem s_Wants_costOfRow {E : gh_E} {m : gh_M} {Q : Int → gh_M → Prop} (d : Nat) (v1 : Int) (v2 : Int) (v3 : Int) (hF : gh_F m) (h : w_Wants_costOfRow v1 v2 v3 m Q) : gh_C E gh_yWants_costOfRow prog_12_method_9_code 8 (some .int) 0 (d + 2) [(2, 36), (0, v1), (0, v2), (0, v3)] m (fun r m1 => gh_F m1 ∧ Q r m1) := by
  refine gh_enter2 (L := [(0, 2, 36), (1, 0, v1), (2, 0, v2), (3, 0, v3)]) (by decide +kernel) gh_rt0 (Nat.le_of_ble_eq_true rfl) rfl rfl ?_
  unfold w_Wants_costOfRow at h
  refine gh_aload_n gd_Wants_costOfRow_0 0 rfl (by decide) ?_
  refine gf_36_0 gd_Wants_costOfRow_1 gh_k450 hF ?_
  refine gf_13_6 gd_Wants_costOfRow_4 gh_k286 hF ?_
  refine gh_iload_n gd_Wants_costOfRow_7 1 rfl ?_
  obtain ⟨q1659, h⟩ := h
  obtain ⟨q1660, h⟩ := h
  refine la_17 gd_Wants_costOfRow_8 hF q1659 q1660 rfl ?_
  obtain ⟨hA, hB⟩ := h
  refine gh_zne (tgt := 16) gd_Wants_costOfRow_9 (by decide) (fun c1661 => ?_) (fun c1661 => ?_)
  · have h := hA c1661
    refine gh_iload_n gd_Wants_costOfRow_12 3 rfl ?_
    refine gh_iload_n gd_Wants_costOfRow_13 2 rfl ?_
    obtain ⟨q1662, h⟩ := h
    refine gh_isub gd_Wants_costOfRow_14 q1662 ?_
    exact gh_ret0 rfl gd_Wants_costOfRow_15 ⟨hF, h⟩
  · have h := hB c1661
    refine gh_aload_n gd_Wants_costOfRow_16 0 rfl (by decide) ?_
    refine gf_36_9 gd_Wants_costOfRow_17 gh_k459 hF ?_
    refine gh_ldc (n := 16777216) gd_Wants_costOfRow_20 gh_k1153 (by decide) (gh_r0 rfl) ?_
    refine gh_fillF (d := d + 1) gd_Wants_costOfRow_22 gh_k1154 (ga_40 hF) (Nat.le_of_ble_eq_true rfl) hF gn_40 (by decide) (fun hF => ?_)
    refine gh_aload_n gd_Wants_costOfRow_25 0 rfl (by decide) ?_
    refine gf_36_9 gd_Wants_costOfRow_26 gh_k459 hF ?_
    refine gh_iload_n gd_Wants_costOfRow_29 2 rfl ?_
    refine gh_iconst gd_Wants_costOfRow_30 (gh_r0 rfl) ?_
    obtain ⟨q1663, h⟩ := h
    obtain ⟨q1664, h⟩ := h
    refine sa_40 gd_Wants_costOfRow_31 hF q1663 q1664 (fun hF => ?_)
    refine gh_iconst gd_Wants_costOfRow_32 (gh_r0 rfl) ?_
    refine gh_istore (L2 := [(4, 0, 0), (0, 2, 36), (1, 0, v1), (2, 0, v2), (3, 0, v3)]) gd_Wants_costOfRow_33 (by decide) rfl ?_
    refine gh_pick (L2 := [(0, 2, 36), (1, 0, v1), (2, 0, v2), (3, 0, v3), (4, 0, 0)]) [1, 2, 3, 4, 0] rfl ?_
    exact gh_M1_sound (T := fun v4 m => gh_T E (gh_yWants_costOfRow.cls, prog_12_method_9_code, 8, false, 0) (d + 2) 35 [(0, 2, 36), (1, 0, v1), (2, 0, v2), (3, 0, v3), (4, 0, v4)] [] m (fun r m1 => gh_F m1 ∧ Q r m1)) (fun _ m => gh_F m) (fun K35 v4 m hK hF h => b_Wants_costOfRow_35 d hK v4 m hF h) 0 (gh_u (gh_fil m 40 9 16777216) 40 v2 0) hF h
def f_Wants_findCosts_105 (v1 : Int) (v2 : Int) (v4 : Int) (K84 : Int → Int → gh_M → Prop) (K105 : Int → Int → gh_M → Prop) (v3 : Int) (v5 : Int) (m : gh_M) : Prop := ((v5 < (m 13 2) → 0 ≤ v5 ∧ v5 < 20 ∧ (gh_i ((m 16 v5) * 9) ∧ gh_i (((m 16 v5) * 9) + v2) ∧ gh_i ((((m 16 v5) * 9) + v2) * 9) ∧ gh_i (((((m 16 v5) * 9) + v2) * 9) + v1)) ∧ ∀ v6 : Int, v6 = (((((m 16 v5) * 9) + v2) * 9) + v1) → ∃ J159 : Int → gh_M → Prop, (∀ (y0 : Int) (m : gh_M), J159 y0 m → (((v3 = 0) → (0 ≤ v6 ∧ v6 < 648))) ∧ ∀ v3' : Int, v3' = (if (¬ (v3 = 0) ∨ (y0 < (m 39 v6))) then (1:Int) else 0) → 0 ≤ v6 ∧ v6 < 648 ∧ 0 ≤ v6 ∧ v6 < 648 ∧ gh_i (v5 + 1) ∧ K105 v3' (v5 + 1) (gh_u m 39 v6 (min (m 39 v6) y0))) ∧ ((p_Facts_isUsefulRule v5 m → w_Wants_costOfRow v5 v2 v1 m (fun r1717 m1718 => J159 r1717 m1718)) ∧ (¬ (p_Facts_isUsefulRule v5 m) → J159 16777216 m))) ∧ (¬ (v5 < (m 13 2)) → gh_i (v4 + 1) ∧ K84 v3 (v4 + 1) m))
def f_Wants_findCosts_84 (v1 : Int) (v2 : Int) (K43 : Int → gh_M → Prop) (K84 : Int → Int → gh_M → Prop) (v3 : Int) (v4 : Int) (m : gh_M) : Prop := ∃ J214 : gh_M → Prop, (∀ (m : gh_M), J214 m → gh_i (v2 + (-1)) ∧ K43 (v2 + (-1)) m) ∧ (((¬ (v3 = 0) ∧ (v4 < (m 13 1))) → gh_M2 (fun K105 v3 v5 m => f_Wants_findCosts_105 v1 v2 v4 K84 K105 v3 v5 m) 0 0 m) ∧ (¬ (¬ (v3 = 0) ∧ (v4 < (m 13 1))) → J214 m))
def f_Wants_findCosts_49 (v1 : Int) (v2 : Int) (K43 : Int → gh_M → Prop) (K49 : Int → gh_M → Prop) (v3 : Int) (m : gh_M) : Prop := ((v3 < (m 13 1) → (gh_i (v3 * 9) ∧ gh_i ((v3 * 9) + v2) ∧ gh_i (((v3 * 9) + v2) * 9) ∧ gh_i ((((v3 * 9) + v2) * 9) + v1)) ∧ 0 ≤ ((((v3 * 9) + v2) * 9) + v1) ∧ (((((v3 * 9) + v2) * 9) + v1)) < 648 ∧ gh_i (v3 + 1) ∧ K49 (v3 + 1) (gh_u m 39 (((((v3 * 9) + v2) * 9) + v1)) 16777216)) ∧ (¬ (v3 < (m 13 1)) → gh_M2 (fun K84 v3 v4 m => f_Wants_findCosts_84 v1 v2 K43 K84 v3 v4 m) 1 0 m))
def f_Wants_findCosts_43 (v1 : Int) (Q : Int → gh_M → Prop) (K43 : Int → gh_M → Prop) (v2 : Int) (m : gh_M) : Prop := ((v2 < 0 → Q 0 m) ∧ (¬ (v2 < 0) → gh_M1 (fun K49 v3 m => f_Wants_findCosts_49 v1 v2 K43 K49 v3 m) 0 m))
def f_Wants_findCosts_2 (v1 : Int) (Q : Int → gh_M → Prop) (K2 : Int → gh_M → Prop) (v2 : Int) (m : gh_M) : Prop := ((v2 < (m 13 1) → (gh_i (v2 * 9) ∧ gh_i ((v2 * 9) + v1) ∧ gh_i (((v2 * 9) + v1) * 9) ∧ gh_i ((((v2 * 9) + v1) * 9) + v1)) ∧ 0 ≤ v2 ∧ v2 < 8 ∧ 0 ≤ ((((v2 * 9) + v1) * 9) + v1) ∧ (((((v2 * 9) + v1) * 9) + v1)) < 648 ∧ gh_i (v2 + 1) ∧ K2 (v2 + 1) (gh_u m 39 (((((v2 * 9) + v1) * 9) + v1)) (m 21 v2))) ∧ (¬ (v2 < (m 13 1)) → gh_i (v1 - 1) ∧ ∀ v2' : Int, v2' = v1 - 1 → gh_M1 (fun K43 v2 m => f_Wants_findCosts_43 v1 Q K43 v2 m) v2' m))
def w_Wants_findCosts (v1 : Int) (m : gh_M) (Q : Int → gh_M → Prop) : Prop := gh_M1 (fun K2 v2 m => f_Wants_findCosts_2 v1 Q K2 v2 m) 0 m
theorem b_Wants_findCosts_105 {E : gh_E} {v1 : Int} {v2 : Int} {v4 : Int} {K84 : Int → Int → gh_M → Prop} {Q : Int → gh_M → Prop} {K105 : Int → Int → gh_M → Prop} (d : Nat) (hK84 : ∀ (v3 : Int) (v4 : Int) (m : gh_M), gh_F m → K84 v3 v4 m → gh_T E (gh_yWants_findCosts.cls, prog_12_method_7_code, 8, false, 9) (d + 3) 84 [(0, 2, 36), (1, 0, v1), (2, 0, v2), (3, 0, v3), (4, 0, v4)] [] m (fun r m1 => gh_F m1 ∧ Q r m1)) (hK : ∀ (v3 : Int) (v5 : Int) (m : gh_M), gh_F m → K105 v3 v5 m → gh_T E (gh_yWants_findCosts.cls, prog_12_method_7_code, 8, false, 9) (d + 3) 105 [(0, 2, 36), (1, 0, v1), (2, 0, v2), (3, 0, v3), (4, 0, v4), (5, 0, v5)] [] m (fun r m1 => gh_F m1 ∧ Q r m1)) (v3 : Int) (v5 : Int) (m : gh_M) (hF : gh_F m) (h : f_Wants_findCosts_105 v1 v2 v4 K84 K105 v3 v5 m) : gh_T E (gh_yWants_findCosts.cls, prog_12_method_7_code, 8, false, 9) (d + 3) 105 [(0, 2, 36), (1, 0, v1), (2, 0, v2), (3, 0, v3), (4, 0, v4), (5, 0, v5)] [] m (fun r m1 => gh_F m1 ∧ Q r m1) := by
  have hK105 := hK
  unfold f_Wants_findCosts_105 at h
  refine gh_iload gd_Wants_findCosts_105 5 rfl ?_
  refine gh_aload_n gd_Wants_findCosts_107 0 rfl (by decide) ?_
  refine gf_36_0 gd_Wants_findCosts_108 gh_k450 hF ?_
  refine gf_13_2 gd_Wants_findCosts_111 gh_k266 hF rfl ?_
  obtain ⟨hA, hB⟩ := h
  refine gh_jge (tgt := 208) gd_Wants_findCosts_114 (by decide) (fun c1701 => ?_) (fun c1701 => ?_)
  · have h := hA c1701
    refine gh_aload_n gd_Wants_findCosts_117 0 rfl (by decide) ?_
    refine gf_36_0 gd_Wants_findCosts_118 gh_k450 hF ?_
    refine gf_13_5 gd_Wants_findCosts_121 gh_k281 hF ?_
    refine gh_iload gd_Wants_findCosts_124 5 rfl ?_
    obtain ⟨q1702, h⟩ := h
    obtain ⟨q1703, h⟩ := h
    refine la_16 gd_Wants_findCosts_126 hF q1702 q1703 rfl ?_
    refine gh_iload_n gd_Wants_findCosts_127 2 rfl ?_
    refine gh_iload_n gd_Wants_findCosts_128 1 rfl ?_
    obtain ⟨q1704, h⟩ := h
    refine cv_Wants_costAt (d := d + 2) gd_Wants_findCosts_129 gh_k1175 (Nat.le_of_ble_eq_true rfl) (gh_C.pe (e_Wants_costAt (d + 2) (m 16 v5) v2 v1 q1704) ?_)
    refine gh_name (fun v6 hn => ?_)
    have h := h v6 hn
    refine gh_istore (L2 := [(6, 0, v6), (0, 2, 36), (1, 0, v1), (2, 0, v2), (3, 0, v3), (4, 0, v4), (5, 0, v5)]) gd_Wants_findCosts_132 (by decide) rfl ?_
    refine gh_aload_n gd_Wants_findCosts_134 1 rfl (by decide) ?_
    refine gf_36_1 gd_Wants_findCosts_135 gh_k451 hF ?_
    refine gh_iload gd_Wants_findCosts_138 6 rfl ?_
    refine cv_Facts_isUsefulRule (d := d + 2) gd_Wants_findCosts_140 gh_k1178 hF (Nat.le_of_ble_eq_true rfl) (gh_C.pe (e_Facts_isUsefulRule (d + 2) v5 hF) ?_)
    obtain ⟨J159, hJ159, h⟩ := h
    have hJ159 : ∀ (y0 : Int) (m : gh_M), gh_F m → J159 y0 m → gh_T E (gh_yWants_findCosts.cls, prog_12_method_7_code, 8, false, 9) (d + 3) 159 [(0, 2, 36), (1, 0, v1), (2, 0, v2), (3, 0, v3), (4, 0, v4), (5, 0, v5), (6, 0, v6)] [(0, y0)] m (fun r m1 => gh_F m1 ∧ Q r m1) := by
      intro y0 m hF hj
      have h := hJ159 y0 m hj
      refine gh_istore (L2 := [(7, 0, y0), (0, 2, 36), (1, 0, v1), (2, 0, v2), (3, 0, v3), (4, 0, v4), (5, 0, v5), (6, 0, v6)]) gd_Wants_findCosts_159 (by decide) rfl ?_
      refine gh_iload_n gd_Wants_findCosts_161 4 rfl ?_
      obtain ⟨hk, h⟩ := h
      have k1707 : ∀ x1708 : Int, x1708 = (if (¬ (v3 = 0) ∨ (y0 < (m 39 v6))) then (1:Int) else 0) → gh_T E (gh_yWants_findCosts.cls, prog_12_method_7_code, 8, false, 9) (d + 3) 182 [(7, 0, y0), (0, 2, 36), (1, 0, v1), (2, 0, v2), (3, 0, v3), (4, 0, v4), (5, 0, v5), (6, 0, v6)] [(0, x1708)] m (fun r m1 => gh_F m1 ∧ Q r m1) := by
        rintro _ rfl
        refine gh_name (fun v3' hn => ?_)
        have h := h v3' hn
        refine gh_istore_n (L2 := [(3, 0, v3'), (7, 0, y0), (0, 2, 36), (1, 0, v1), (2, 0, v2), (4, 0, v4), (5, 0, v5), (6, 0, v6)]) gd_Wants_findCosts_182 (by decide) rfl ?_
        refine gh_aload_n gd_Wants_findCosts_183 2 rfl (by decide) ?_
        refine gf_36_8 gd_Wants_findCosts_184 gh_k458 hF ?_
        refine gh_iload gd_Wants_findCosts_187 7 rfl ?_
        refine gh_aload_n gd_Wants_findCosts_189 2 rfl (by decide) ?_
        refine gf_36_8 gd_Wants_findCosts_190 gh_k458 hF ?_
        refine gh_iload gd_Wants_findCosts_193 7 rfl ?_
        obtain ⟨q1709, h⟩ := h
        obtain ⟨q1710, h⟩ := h
        refine la_39 gd_Wants_findCosts_195 hF q1709 q1710 rfl ?_
        refine gh_iload gd_Wants_findCosts_196 1 rfl ?_
        refine gh_pr_min gd_Wants_findCosts_198 gh_k947 (Nat.le_of_ble_eq_true rfl) ?_
        obtain ⟨q1711, h⟩ := h
        obtain ⟨q1712, h⟩ := h
        refine sa_39 gd_Wants_findCosts_201 hF q1711 q1712 (fun hF => ?_)
        obtain ⟨q1713, h⟩ := h
        refine gh_iinc (L2 := [(5, 0, v5 + 1), (3, 0, v3'), (7, 0, y0), (0, 2, 36), (1, 0, v1), (2, 0, v2), (4, 0, v4), (6, 0, v6)]) gd_Wants_findCosts_202 6 rfl q1713 (by decide) rfl ?_
        refine gh_goto (tgt := 105) gd_Wants_findCosts_205 (by decide) ?_
        refine gh_pick (L2 := [(0, 2, 36), (1, 0, v1), (2, 0, v2), (3, 0, v3'), (4, 0, v4), (5, 0, v5 + 1)]) [3, 4, 5, 1, 6, 0] rfl ?_
        exact hK105 v3' (v5 + 1) (gh_u m 39 v6 (min (m 39 v6) y0)) hF h
      refine gh_zne (tgt := 177) gd_Wants_findCosts_162 (by decide) (fun c1714 => ?_) (fun c1714 => ?_)
      · have hz : True := trivial
        have hk := hk c1714
        refine gh_iload gd_Wants_findCosts_165 0 rfl ?_
        refine gh_aload_n gd_Wants_findCosts_167 1 rfl (by decide) ?_
        refine gf_36_8 gd_Wants_findCosts_168 gh_k458 hF ?_
        refine gh_iload gd_Wants_findCosts_171 7 rfl ?_
        obtain ⟨q1705, hk⟩ := hk
        have q1706 := hk
        refine la_39 gd_Wants_findCosts_173 hF q1705 q1706 rfl ?_
        refine gh_jge (tgt := 181) gd_Wants_findCosts_174 (by decide) (fun c1715 => ?_) (fun c1715 => ?_)
        · have hz : True := trivial
          refine gh_iconst gd_Wants_findCosts_177 (gh_r0 rfl) ?_
          refine gh_goto (tgt := 182) gd_Wants_findCosts_178 (by decide) ?_
          exact k1707 _ (if_pos (c := (¬ (v3 = 0) ∨ (y0 < (m 39 v6)))) (Or.inr c1715)).symm
        · have hz : True := trivial
          refine gh_iconst gd_Wants_findCosts_181 (gh_r0 rfl) ?_
          exact k1707 _ (if_neg (c := (¬ (v3 = 0) ∨ (y0 < (m 39 v6)))) (fun z => z.elim (fun w => w c1714) c1715)).symm
      · have hz : True := trivial
        refine gh_iconst gd_Wants_findCosts_177 (gh_r0 rfl) ?_
        refine gh_goto (tgt := 182) gd_Wants_findCosts_178 (by decide) ?_
        exact k1707 _ (if_pos (c := (¬ (v3 = 0) ∨ (y0 < (m 39 v6)))) (Or.inl c1714)).symm
    obtain ⟨hA, hB⟩ := h
    refine gh_beq (tgt := 157) gd_Wants_findCosts_143 (by decide) (fun c1716 => ?_) (fun c1716 => ?_)
    · have h := hA c1716
      refine gh_aload_n gd_Wants_findCosts_146 1 rfl (by decide) ?_
      refine gh_iload gd_Wants_findCosts_147 6 rfl ?_
      refine gh_iload_n gd_Wants_findCosts_149 3 rfl ?_
      refine gh_iload_n gd_Wants_findCosts_150 2 rfl ?_
      refine cv_Wants_costOfRow (d := d + 2) gd_Wants_findCosts_151 gh_k1179 hF (Nat.le_of_ble_eq_true rfl) (gh_C.mono (s_Wants_costOfRow d v5 v2 v1 hF h) (fun r1717 m1718 hq => ?_))
      obtain ⟨hF, h⟩ := hq
      refine gh_goto (tgt := 159) gd_Wants_findCosts_154 (by decide) ?_
      refine gh_pick (L2 := [(0, 2, 36), (1, 0, v1), (2, 0, v2), (3, 0, v3), (4, 0, v4), (5, 0, v5), (6, 0, v6)]) [1, 2, 3, 4, 5, 6, 0] rfl ?_
      exact hJ159 r1717 m1718 hF h
    · have h := hB c1716
      refine gh_ldc (n := 16777216) gd_Wants_findCosts_157 gh_k1153 (by decide) (gh_r0 rfl) ?_
      refine gh_pick (L2 := [(0, 2, 36), (1, 0, v1), (2, 0, v2), (3, 0, v3), (4, 0, v4), (5, 0, v5), (6, 0, v6)]) [1, 2, 3, 4, 5, 6, 0] rfl ?_
      exact hJ159 16777216 m hF h
  · have h := hB c1701
    obtain ⟨q1719, h⟩ := h
    refine gh_iinc (L2 := [(4, 0, v4 + 1), (0, 2, 36), (1, 0, v1), (2, 0, v2), (3, 0, v3), (5, 0, v5)]) gd_Wants_findCosts_208 4 rfl q1719 (by decide) rfl ?_
    refine gh_goto (tgt := 84) gd_Wants_findCosts_211 (by decide) ?_
    refine gh_pick (L2 := [(0, 2, 36), (1, 0, v1), (2, 0, v2), (3, 0, v3), (4, 0, v4 + 1)]) [1, 2, 3, 4, 0] rfl ?_
    exact hK84 v3 (v4 + 1) m hF h
theorem b_Wants_findCosts_84 {E : gh_E} {v1 : Int} {v2 : Int} {K43 : Int → gh_M → Prop} {Q : Int → gh_M → Prop} {K84 : Int → Int → gh_M → Prop} (d : Nat) (hK43 : ∀ (v2 : Int) (m : gh_M), gh_F m → K43 v2 m → gh_T E (gh_yWants_findCosts.cls, prog_12_method_7_code, 8, false, 9) (d + 3) 43 [(0, 2, 36), (1, 0, v1), (2, 0, v2)] [] m (fun r m1 => gh_F m1 ∧ Q r m1)) (hK : ∀ (v3 : Int) (v4 : Int) (m : gh_M), gh_F m → K84 v3 v4 m → gh_T E (gh_yWants_findCosts.cls, prog_12_method_7_code, 8, false, 9) (d + 3) 84 [(0, 2, 36), (1, 0, v1), (2, 0, v2), (3, 0, v3), (4, 0, v4)] [] m (fun r m1 => gh_F m1 ∧ Q r m1)) (v3 : Int) (v4 : Int) (m : gh_M) (hF : gh_F m) (h : f_Wants_findCosts_84 v1 v2 K43 K84 v3 v4 m) : gh_T E (gh_yWants_findCosts.cls, prog_12_method_7_code, 8, false, 9) (d + 3) 84 [(0, 2, 36), (1, 0, v1), (2, 0, v2), (3, 0, v3), (4, 0, v4)] [] m (fun r m1 => gh_F m1 ∧ Q r m1) := by
  have hK84 := hK
  unfold f_Wants_findCosts_84 at h
  refine gh_iload_n gd_Wants_findCosts_84 3 rfl ?_
  obtain ⟨J214, hJ214, h⟩ := h
  have hJ214 : ∀ (m : gh_M), gh_F m → J214 m → gh_T E (gh_yWants_findCosts.cls, prog_12_method_7_code, 8, false, 9) (d + 3) 214 [(0, 2, 36), (1, 0, v1), (2, 0, v2)] [] m (fun r m1 => gh_F m1 ∧ Q r m1) := by
    intro m hF hj
    have h := hJ214 m hj
    obtain ⟨q1698, h⟩ := h
    refine gh_iinc (L2 := [(2, 0, v2 + (-1)), (0, 2, 36), (1, 0, v1)]) gd_Wants_findCosts_214 2 rfl q1698 (by decide) rfl ?_
    refine gh_goto (tgt := 43) gd_Wants_findCosts_217 (by decide) ?_
    refine gh_pick (L2 := [(0, 2, 36), (1, 0, v1), (2, 0, v2 + (-1))]) [1, 2, 0] rfl ?_
    exact hK43 (v2 + (-1)) m hF h
  obtain ⟨hA, hB⟩ := h
  have k1699 : (¬ (v3 = 0) ∧ (v4 < (m 13 1))) → gh_T E (gh_yWants_findCosts.cls, prog_12_method_7_code, 8, false, 9) (d + 3) 100 [(0, 2, 36), (1, 0, v1), (2, 0, v2), (3, 0, v3), (4, 0, v4)] [] m (fun r m1 => gh_F m1 ∧ Q r m1) := by
    intro c
    have h := hA c
    refine gh_iconst gd_Wants_findCosts_100 (gh_r0 rfl) ?_
    refine gh_istore_n (L2 := [(3, 0, 0), (0, 2, 36), (1, 0, v1), (2, 0, v2), (4, 0, v4)]) gd_Wants_findCosts_101 (by decide) rfl ?_
    refine gh_iconst gd_Wants_findCosts_102 (gh_r0 rfl) ?_
    refine gh_istore (L2 := [(5, 0, 0), (3, 0, 0), (0, 2, 36), (1, 0, v1), (2, 0, v2), (4, 0, v4)]) gd_Wants_findCosts_103 (by decide) rfl ?_
    refine gh_pick (L2 := [(0, 2, 36), (1, 0, v1), (2, 0, v2), (3, 0, 0), (4, 0, v4), (5, 0, 0)]) [2, 3, 4, 1, 5, 0] rfl ?_
    exact gh_M2_sound (T := fun v3 v5 m => gh_T E (gh_yWants_findCosts.cls, prog_12_method_7_code, 8, false, 9) (d + 3) 105 [(0, 2, 36), (1, 0, v1), (2, 0, v2), (3, 0, v3), (4, 0, v4), (5, 0, v5)] [] m (fun r m1 => gh_F m1 ∧ Q r m1)) (fun _ _ m => gh_F m) (fun K105 v3 v5 m hK hF h => b_Wants_findCosts_105 d hK84 hK v3 v5 m hF h) 0 0 m hF h
  have k1700 : ¬ (¬ (v3 = 0) ∧ (v4 < (m 13 1))) → gh_T E (gh_yWants_findCosts.cls, prog_12_method_7_code, 8, false, 9) (d + 3) 214 [(0, 2, 36), (1, 0, v1), (2, 0, v2), (3, 0, v3), (4, 0, v4)] [] m (fun r m1 => gh_F m1 ∧ Q r m1) := by
    intro c
    have h := hB c
    refine gh_pick (L2 := [(0, 2, 36), (1, 0, v1), (2, 0, v2)]) [0, 1, 2] rfl ?_
    exact hJ214 m hF h
  refine gh_zeq (tgt := 214) gd_Wants_findCosts_85 (by decide) (fun c1720 => ?_) (fun c1720 => ?_)
  · have hz : True := trivial
    exact k1700 (fun z => z.1 c1720)
  · have hz : True := trivial
    refine gh_iload gd_Wants_findCosts_88 4 rfl ?_
    refine gh_aload_n gd_Wants_findCosts_90 0 rfl (by decide) ?_
    refine gf_36_0 gd_Wants_findCosts_91 gh_k450 hF ?_
    refine gf_13_1 gd_Wants_findCosts_94 gh_k259 hF rfl ?_
    refine gh_jge (tgt := 214) gd_Wants_findCosts_97 (by decide) (fun c1721 => ?_) (fun c1721 => ?_)
    · have hz : True := trivial
      exact k1699 ⟨c1720, c1721⟩
    · have hz : True := trivial
      exact k1700 (fun z => c1721 z.2)
theorem b_Wants_findCosts_49 {E : gh_E} {v1 : Int} {v2 : Int} {K43 : Int → gh_M → Prop} {Q : Int → gh_M → Prop} {K49 : Int → gh_M → Prop} (d : Nat) (hK43 : ∀ (v2 : Int) (m : gh_M), gh_F m → K43 v2 m → gh_T E (gh_yWants_findCosts.cls, prog_12_method_7_code, 8, false, 9) (d + 3) 43 [(0, 2, 36), (1, 0, v1), (2, 0, v2)] [] m (fun r m1 => gh_F m1 ∧ Q r m1)) (hK : ∀ (v3 : Int) (m : gh_M), gh_F m → K49 v3 m → gh_T E (gh_yWants_findCosts.cls, prog_12_method_7_code, 8, false, 9) (d + 3) 49 [(0, 2, 36), (1, 0, v1), (2, 0, v2), (3, 0, v3)] [] m (fun r m1 => gh_F m1 ∧ Q r m1)) (v3 : Int) (m : gh_M) (hF : gh_F m) (h : f_Wants_findCosts_49 v1 v2 K43 K49 v3 m) : gh_T E (gh_yWants_findCosts.cls, prog_12_method_7_code, 8, false, 9) (d + 3) 49 [(0, 2, 36), (1, 0, v1), (2, 0, v2), (3, 0, v3)] [] m (fun r m1 => gh_F m1 ∧ Q r m1) := by
  have hK49 := hK
  unfold f_Wants_findCosts_49 at h
  refine gh_iload_n gd_Wants_findCosts_49 3 rfl ?_
  refine gh_aload_n gd_Wants_findCosts_50 0 rfl (by decide) ?_
  refine gf_36_0 gd_Wants_findCosts_51 gh_k450 hF ?_
  refine gf_13_1 gd_Wants_findCosts_54 gh_k259 hF rfl ?_
  obtain ⟨hA, hB⟩ := h
  refine gh_jge (tgt := 79) gd_Wants_findCosts_57 (by decide) (fun c1693 => ?_) (fun c1693 => ?_)
  · have h := hA c1693
    refine gh_aload_n gd_Wants_findCosts_60 0 rfl (by decide) ?_
    refine gf_36_8 gd_Wants_findCosts_61 gh_k458 hF ?_
    refine gh_iload_n gd_Wants_findCosts_64 3 rfl ?_
    refine gh_iload_n gd_Wants_findCosts_65 2 rfl ?_
    refine gh_iload_n gd_Wants_findCosts_66 1 rfl ?_
    obtain ⟨q1694, h⟩ := h
    refine cv_Wants_costAt (d := d + 2) gd_Wants_findCosts_67 gh_k1175 (Nat.le_of_ble_eq_true rfl) (gh_C.pe (e_Wants_costAt (d + 2) v3 v2 v1 q1694) ?_)
    refine gh_ldc (n := 16777216) gd_Wants_findCosts_70 gh_k1153 (by decide) (gh_r0 rfl) ?_
    obtain ⟨q1695, h⟩ := h
    obtain ⟨q1696, h⟩ := h
    refine sa_39 gd_Wants_findCosts_72 hF q1695 q1696 (fun hF => ?_)
    obtain ⟨q1697, h⟩ := h
    refine gh_iinc (L2 := [(3, 0, v3 + 1), (0, 2, 36), (1, 0, v1), (2, 0, v2)]) gd_Wants_findCosts_73 3 rfl q1697 (by decide) rfl ?_
    refine gh_goto (tgt := 49) gd_Wants_findCosts_76 (by decide) ?_
    refine gh_pick (L2 := [(0, 2, 36), (1, 0, v1), (2, 0, v2), (3, 0, v3 + 1)]) [1, 2, 3, 0] rfl ?_
    exact hK49 (v3 + 1) (gh_u m 39 (((((v3 * 9) + v2) * 9) + v1)) 16777216) hF h
  · have h := hB c1693
    refine gh_iconst gd_Wants_findCosts_79 (gh_r0 rfl) ?_
    refine gh_istore_n (L2 := [(3, 0, 1), (0, 2, 36), (1, 0, v1), (2, 0, v2)]) gd_Wants_findCosts_80 (by decide) rfl ?_
    refine gh_iconst gd_Wants_findCosts_81 (gh_r0 rfl) ?_
    refine gh_istore (L2 := [(4, 0, 0), (3, 0, 1), (0, 2, 36), (1, 0, v1), (2, 0, v2)]) gd_Wants_findCosts_82 (by decide) rfl ?_
    refine gh_pick (L2 := [(0, 2, 36), (1, 0, v1), (2, 0, v2), (3, 0, 1), (4, 0, 0)]) [2, 3, 4, 1, 0] rfl ?_
    exact gh_M2_sound (T := fun v3 v4 m => gh_T E (gh_yWants_findCosts.cls, prog_12_method_7_code, 8, false, 9) (d + 3) 84 [(0, 2, 36), (1, 0, v1), (2, 0, v2), (3, 0, v3), (4, 0, v4)] [] m (fun r m1 => gh_F m1 ∧ Q r m1)) (fun _ _ m => gh_F m) (fun K84 v3 v4 m hK hF h => b_Wants_findCosts_84 d hK43 hK v3 v4 m hF h) 1 0 m hF h
theorem b_Wants_findCosts_43 {E : gh_E} {v1 : Int} {Q : Int → gh_M → Prop} {K43 : Int → gh_M → Prop} (d : Nat) (hK : ∀ (v2 : Int) (m : gh_M), gh_F m → K43 v2 m → gh_T E (gh_yWants_findCosts.cls, prog_12_method_7_code, 8, false, 9) (d + 3) 43 [(0, 2, 36), (1, 0, v1), (2, 0, v2)] [] m (fun r m1 => gh_F m1 ∧ Q r m1)) (v2 : Int) (m : gh_M) (hF : gh_F m) (h : f_Wants_findCosts_43 v1 Q K43 v2 m) : gh_T E (gh_yWants_findCosts.cls, prog_12_method_7_code, 8, false, 9) (d + 3) 43 [(0, 2, 36), (1, 0, v1), (2, 0, v2)] [] m (fun r m1 => gh_F m1 ∧ Q r m1) := by
  have hK43 := hK
  unfold f_Wants_findCosts_43 at h
  refine gh_iload_n gd_Wants_findCosts_43 2 rfl ?_
  obtain ⟨hA, hB⟩ := h
  refine gh_zlt (tgt := 220) gd_Wants_findCosts_44 (by decide) (fun c1692 => ?_) (fun c1692 => ?_)
  · have h := hA c1692
    exact gh_ret9 rfl gd_Wants_findCosts_220 ⟨hF, h⟩
  · have h := hB c1692
    refine gh_iconst gd_Wants_findCosts_47 (gh_r0 rfl) ?_
    refine gh_istore_n (L2 := [(3, 0, 0), (0, 2, 36), (1, 0, v1), (2, 0, v2)]) gd_Wants_findCosts_48 (by decide) rfl ?_
    refine gh_pick (L2 := [(0, 2, 36), (1, 0, v1), (2, 0, v2), (3, 0, 0)]) [1, 2, 3, 0] rfl ?_
    exact gh_M1_sound (T := fun v3 m => gh_T E (gh_yWants_findCosts.cls, prog_12_method_7_code, 8, false, 9) (d + 3) 49 [(0, 2, 36), (1, 0, v1), (2, 0, v2), (3, 0, v3)] [] m (fun r m1 => gh_F m1 ∧ Q r m1)) (fun _ m => gh_F m) (fun K49 v3 m hK hF h => b_Wants_findCosts_49 d hK43 hK v3 m hF h) 0 m hF h
theorem b_Wants_findCosts_2 {E : gh_E} {v1 : Int} {Q : Int → gh_M → Prop} {K2 : Int → gh_M → Prop} (d : Nat) (hK : ∀ (v2 : Int) (m : gh_M), gh_F m → K2 v2 m → gh_T E (gh_yWants_findCosts.cls, prog_12_method_7_code, 8, false, 9) (d + 3) 2 [(0, 2, 36), (1, 0, v1), (2, 0, v2)] [] m (fun r m1 => gh_F m1 ∧ Q r m1)) (v2 : Int) (m : gh_M) (hF : gh_F m) (h : f_Wants_findCosts_2 v1 Q K2 v2 m) : gh_T E (gh_yWants_findCosts.cls, prog_12_method_7_code, 8, false, 9) (d + 3) 2 [(0, 2, 36), (1, 0, v1), (2, 0, v2)] [] m (fun r m1 => gh_F m1 ∧ Q r m1) := by
  have hK2 := hK
  unfold f_Wants_findCosts_2 at h
  refine gh_iload_n gd_Wants_findCosts_2 2 rfl ?_
  refine gh_aload_n gd_Wants_findCosts_3 0 rfl (by decide) ?_
  refine gf_36_0 gd_Wants_findCosts_4 gh_k450 hF ?_
  refine gf_13_1 gd_Wants_findCosts_7 gh_k259 hF rfl ?_
  obtain ⟨hA, hB⟩ := h
  refine gh_jge (tgt := 39) gd_Wants_findCosts_10 (by decide) (fun c1684 => ?_) (fun c1684 => ?_)
  · have h := hA c1684
    refine gh_aload_n gd_Wants_findCosts_13 0 rfl (by decide) ?_
    refine gf_36_8 gd_Wants_findCosts_14 gh_k458 hF ?_
    refine gh_iload_n gd_Wants_findCosts_17 2 rfl ?_
    refine gh_iload_n gd_Wants_findCosts_18 1 rfl ?_
    refine gh_iload_n gd_Wants_findCosts_19 1 rfl ?_
    obtain ⟨q1685, h⟩ := h
    refine cv_Wants_costAt (d := d + 2) gd_Wants_findCosts_20 gh_k1175 (Nat.le_of_ble_eq_true rfl) (gh_C.pe (e_Wants_costAt (d + 2) v2 v1 v1 q1685) ?_)
    refine gh_aload_n gd_Wants_findCosts_23 0 rfl (by decide) ?_
    refine gf_36_1 gd_Wants_findCosts_24 gh_k451 hF ?_
    refine gf_20_6 gd_Wants_findCosts_27 gh_k335 hF ?_
    refine gh_iload_n gd_Wants_findCosts_30 2 rfl ?_
    obtain ⟨q1686, h⟩ := h
    obtain ⟨q1687, h⟩ := h
    refine la_21 gd_Wants_findCosts_31 hF q1686 q1687 rfl ?_
    obtain ⟨q1688, h⟩ := h
    obtain ⟨q1689, h⟩ := h
    refine sa_39 gd_Wants_findCosts_32 hF q1688 q1689 (fun hF => ?_)
    obtain ⟨q1690, h⟩ := h
    refine gh_iinc (L2 := [(2, 0, v2 + 1), (0, 2, 36), (1, 0, v1)]) gd_Wants_findCosts_33 2 rfl q1690 (by decide) rfl ?_
    refine gh_goto (tgt := 2) gd_Wants_findCosts_36 (by decide) ?_
    refine gh_pick (L2 := [(0, 2, 36), (1, 0, v1), (2, 0, v2 + 1)]) [1, 2, 0] rfl ?_
    exact hK2 (v2 + 1) (gh_u m 39 (((((v2 * 9) + v1) * 9) + v1)) (m 21 v2)) hF h
  · have h := hB c1684
    refine gh_iload_n gd_Wants_findCosts_39 1 rfl ?_
    refine gh_iconst gd_Wants_findCosts_40 (gh_r0 rfl) ?_
    obtain ⟨q1691, h⟩ := h
    refine gh_isub gd_Wants_findCosts_41 q1691 ?_
    refine gh_name (fun v2' hn => ?_)
    have h := h v2' hn
    refine gh_istore_n (L2 := [(2, 0, v2'), (0, 2, 36), (1, 0, v1)]) gd_Wants_findCosts_42 (by decide) rfl ?_
    refine gh_pick (L2 := [(0, 2, 36), (1, 0, v1), (2, 0, v2')]) [1, 2, 0] rfl ?_
    exact gh_M1_sound (T := fun v2 m => gh_T E (gh_yWants_findCosts.cls, prog_12_method_7_code, 8, false, 9) (d + 3) 43 [(0, 2, 36), (1, 0, v1), (2, 0, v2)] [] m (fun r m1 => gh_F m1 ∧ Q r m1)) (fun _ m => gh_F m) (fun K43 v2 m hK hF h => b_Wants_findCosts_43 d hK v2 m hF h) v2' m hF h
theorem s_Wants_findCosts {E : gh_E} {m : gh_M} {Q : Int → gh_M → Prop} (d : Nat) (v1 : Int) (hF : gh_F m) (h : w_Wants_findCosts v1 m Q) : gh_C E gh_yWants_findCosts prog_12_method_7_code 8 none 9 (d + 3) [(2, 36), (0, v1)] m (fun r m1 => gh_F m1 ∧ Q r m1) := by
  refine gh_enter2 (L := [(0, 2, 36), (1, 0, v1)]) (by decide +kernel) gh_rt9 (Nat.le_of_ble_eq_true rfl) rfl rfl ?_
  unfold w_Wants_findCosts at h
  refine gh_iconst gd_Wants_findCosts_0 (gh_r0 rfl) ?_
  refine gh_istore_n (L2 := [(2, 0, 0), (0, 2, 36), (1, 0, v1)]) gd_Wants_findCosts_1 (by decide) rfl ?_
  refine gh_pick (L2 := [(0, 2, 36), (1, 0, v1), (2, 0, 0)]) [1, 2, 0] rfl ?_
  exact gh_M1_sound (T := fun v2 m => gh_T E (gh_yWants_findCosts.cls, prog_12_method_7_code, 8, false, 9) (d + 3) 2 [(0, 2, 36), (1, 0, v1), (2, 0, v2)] [] m (fun r m1 => gh_F m1 ∧ Q r m1)) (fun _ m => gh_F m) (fun K2 v2 m hK hF h => b_Wants_findCosts_2 d hK v2 m hF h) 0 m hF h
def f_Wants_changes_21 (Q : Int → gh_M → Prop) (K21 : Int → gh_M → Prop) (v1 : Int) (m : gh_M) : Prop := ((v1 ≤ (m 26 3) → w_Wants_findCosts v1 m (fun _ m1726 => gh_i (v1 + 1) ∧ K21 (v1 + 1) (gh_u m1726 36 7 v1))) ∧ (¬ (v1 ≤ (m 26 3)) → 0 ≤ m 26 3 ∧ (m 26 3) < 648 ∧ Q (m 39 (m 26 3)) m))
def w_Wants_changes (m : gh_M) (Q : Int → gh_M → Prop) : Prop := (((gh_iand_f (m 20 2) 1) = 0 → Q (-1) m) ∧ (¬ ((gh_iand_f (m 20 2) 1) = 0) → gh_i ((m 36 7) + 1) ∧ ∀ v1 : Int, v1 = (m 36 7) + 1 → gh_M1 (fun K21 v1 m => f_Wants_changes_21 Q K21 v1 m) v1 m))
theorem b_Wants_changes_21 {E : gh_E} {Q : Int → gh_M → Prop} {K21 : Int → gh_M → Prop} (d : Nat) (hK : ∀ (v1 : Int) (m : gh_M), gh_F m → K21 v1 m → gh_T E (gh_yWants_changes.cls, prog_12_method_6_code, 2, false, 0) (d + 4) 21 [(0, 2, 36), (1, 0, v1)] [] m (fun r m1 => gh_F m1 ∧ Q r m1)) (v1 : Int) (m : gh_M) (hF : gh_F m) (h : f_Wants_changes_21 Q K21 v1 m) : gh_T E (gh_yWants_changes.cls, prog_12_method_6_code, 2, false, 0) (d + 4) 21 [(0, 2, 36), (1, 0, v1)] [] m (fun r m1 => gh_F m1 ∧ Q r m1) := by
  have hK21 := hK
  unfold f_Wants_changes_21 at h
  refine gh_iload_n gd_Wants_changes_21 1 rfl ?_
  refine gh_aload_n gd_Wants_changes_22 0 rfl (by decide) ?_
  refine gf_36_2 gd_Wants_changes_23 gh_k452 hF ?_
  refine gf_26_3 gd_Wants_changes_26 gh_k382 hF rfl ?_
  obtain ⟨hA, hB⟩ := h
  refine gh_jgt (tgt := 48) gd_Wants_changes_29 (by decide) (fun c1724 => ?_) (fun c1724 => ?_)
  · have h := hA c1724
    refine gh_aload_n gd_Wants_changes_32 0 rfl (by decide) ?_
    refine gh_iload_n gd_Wants_changes_33 1 rfl ?_
    refine cv_Wants_findCosts (d := d + 3) gd_Wants_changes_34 gh_k1171 hF (Nat.le_of_ble_eq_true rfl) (gh_C.mono (s_Wants_findCosts d v1 hF h) (fun r1725 m1726 hq => ?_))
    obtain ⟨hF, h⟩ := hq
    refine gh_aload_n gd_Wants_changes_37 0 rfl (by decide) ?_
    refine gh_iload_n gd_Wants_changes_38 1 rfl ?_
    refine pf_36_7 gd_Wants_changes_39 gh_k457 hF (fun hF => ?_)
    obtain ⟨q1727, h⟩ := h
    refine gh_iinc (L2 := [(1, 0, v1 + 1), (0, 2, 36)]) gd_Wants_changes_42 1 rfl q1727 (by decide) rfl ?_
    refine gh_goto (tgt := 21) gd_Wants_changes_45 (by decide) ?_
    refine gh_pick (L2 := [(0, 2, 36), (1, 0, v1 + 1)]) [1, 0] rfl ?_
    exact hK21 (v1 + 1) (gh_u m1726 36 7 v1) hF h
  · have h := hB c1724
    refine gh_aload_n gd_Wants_changes_48 0 rfl (by decide) ?_
    refine gf_36_8 gd_Wants_changes_49 gh_k458 hF ?_
    refine gh_aload_n gd_Wants_changes_52 0 rfl (by decide) ?_
    refine gf_36_2 gd_Wants_changes_53 gh_k452 hF ?_
    refine gf_26_3 gd_Wants_changes_56 gh_k382 hF rfl ?_
    obtain ⟨q1728, h⟩ := h
    obtain ⟨q1729, h⟩ := h
    refine la_39 gd_Wants_changes_59 hF q1728 q1729 rfl ?_
    exact gh_ret0 rfl gd_Wants_changes_60 ⟨hF, h⟩
theorem s_Wants_changes {E : gh_E} {m : gh_M} {Q : Int → gh_M → Prop} (d : Nat) (hF : gh_F m) (h : w_Wants_changes m Q) : gh_C E gh_yWants_changes prog_12_method_6_code 2 (some .int) 0 (d + 4) [(2, 36)] m (fun r m1 => gh_F m1 ∧ Q r m1) := by
  refine gh_enter2 (L := [(0, 2, 36)]) (by decide +kernel) gh_rt0 (Nat.le_of_ble_eq_true rfl) rfl rfl ?_
  unfold w_Wants_changes at h
  refine gh_aload_n gd_Wants_changes_0 0 rfl (by decide) ?_
  refine gf_36_1 gd_Wants_changes_1 gh_k451 hF ?_
  refine gf_20_2 gd_Wants_changes_4 gh_k325 hF rfl ?_
  refine gh_iconst gd_Wants_changes_7 (gh_r0 rfl) ?_
  refine gh_iand gd_Wants_changes_8 ?_
  obtain ⟨hA, hB⟩ := h
  refine gh_zne (tgt := 14) gd_Wants_changes_9 (by decide) (fun c1722 => ?_) (fun c1722 => ?_)
  · have h := hA c1722
    refine gh_iconst gd_Wants_changes_12 (gh_r0 rfl) ?_
    exact gh_ret0 rfl gd_Wants_changes_13 ⟨hF, h⟩
  · have h := hB c1722
    refine gh_aload_n gd_Wants_changes_14 0 rfl (by decide) ?_
    refine gf_36_7 gd_Wants_changes_15 gh_k457 hF rfl ?_
    refine gh_iconst gd_Wants_changes_18 (gh_r0 rfl) ?_
    obtain ⟨q1723, h⟩ := h
    refine gh_iadd gd_Wants_changes_19 q1723 ?_
    refine gh_name (fun v1 hn => ?_)
    have h := h v1 hn
    refine gh_istore_n (L2 := [(1, 0, v1), (0, 2, 36)]) gd_Wants_changes_20 (by decide) rfl ?_
    refine gh_pick (L2 := [(0, 2, 36), (1, 0, v1)]) [1, 0] rfl ?_
    exact gh_M1_sound (T := fun v1 m => gh_T E (gh_yWants_changes.cls, prog_12_method_6_code, 2, false, 0) (d + 4) 21 [(0, 2, 36), (1, 0, v1)] [] m (fun r m1 => gh_F m1 ∧ Q r m1)) (fun _ m => gh_F m) (fun K21 v1 m hK hF h => b_Wants_changes_21 d hK v1 m hF h) v1 m hF h
def w_House_repair (m : gh_M) (Q : Int → gh_M → Prop) : Prop := (((m 2 10) = 0 → Q (-1003) m) ∧ (¬ ((m 2 10) = 0) → w_Wants_changes m (fun r1731 m1732 => Q r1731 m1732)))
theorem s_House_repair {E : gh_E} {m : gh_M} {Q : Int → gh_M → Prop} (d : Nat) (hF : gh_F m) (h : w_House_repair m Q) : gh_C E gh_yHouse_repair prog_1_method_25_code 1 (some .int) 0 (d + 5) [(2, 2)] m (fun r m1 => gh_F m1 ∧ Q r m1) := by
  refine gh_enter2 (L := [(0, 2, 2)]) (by decide +kernel) gh_rt0 (Nat.le_of_ble_eq_true rfl) rfl rfl ?_
  unfold w_House_repair at h
  refine gh_aload_n gd_House_repair_0 0 rfl (by decide) ?_
  refine gf_2_10 gd_House_repair_1 gh_k643 hF rfl ?_
  obtain ⟨hA, hB⟩ := h
  refine gh_zeq (tgt := 17) gd_House_repair_4 (by decide) (fun c1730 => ?_) (fun c1730 => ?_)
  · have h := hA c1730
    refine gh_sipush gd_House_repair_17 (by decide) (gh_r0 rfl) ?_
    exact gh_ret0 rfl gd_House_repair_20 ⟨hF, h⟩
  · have h := hB c1730
    refine gh_aload_n gd_House_repair_7 0 rfl (by decide) ?_
    refine gf_2_6 gd_House_repair_8 gh_k639 hF ?_
    refine cv_Wants_changes (d := d + 4) gd_House_repair_11 gh_k1167 hF (Nat.le_of_ble_eq_true rfl) (gh_C.mono (s_Wants_changes d hF h) (fun r1731 m1732 hq => ?_))
    obtain ⟨hF, h⟩ := hq
    refine gh_goto (tgt := 20) gd_House_repair_14 (by decide) ?_
    exact gh_ret0 rfl gd_House_repair_20 ⟨hF, h⟩
def w_Forest_recall (v1 : Int) (v2 : Int) (v3 : Int) (v4 : Int) (m : gh_M) (Q : Int → Prop) : Prop := ((v4 = 0 → (gh_i (v1 * 9) ∧ gh_i ((v1 * 9) + v2) ∧ gh_i (((v1 * 9) + v2) * 9) ∧ gh_i ((((v1 * 9) + v2) * 9) + v3)) ∧ 0 ≤ ((((v1 * 9) + v2) * 9) + v3) ∧ (((((v1 * 9) + v2) * 9) + v3)) < 648 ∧ Q (m 42 (((((v1 * 9) + v2) * 9) + v3)))) ∧ (¬ (v4 = 0) → (((v2 = v3) → (gh_i (0 + v1) ∧ gh_i ((0 + v1) * 256) ∧ gh_i (((0 + v1) * 256) + v4))) ∧ (¬ (v2 = v3) → (gh_i (8 + v1) ∧ gh_i ((8 + v1) * 256) ∧ gh_i (((8 + v1) * 256) + v4)))) ∧ ∀ v5 : Int, v5 = (if v2 = v3 then (((0 + v1) * 256) + v4) else (((8 + v1) * 256) + v4)) → gh_isA m (m 41 8) 1 ∧ (((v5 < (m 0 (2 * (m 41 8) + 1))) → (gh_isA m (m 41 8) 1 ∧ 0 ≤ v5 ∧ v5 < m 0 (2 * (m 41 8) + 1) ∧ ((v2 = v3) → ((((m (m 41 8) v5) = (m 41 10)) → (gh_isA m (m 41 7) 3 ∧ 0 ≤ v5 ∧ v5 < m 0 (2 * (m 41 7) + 1))))) ∧ (¬ (v2 = v3) → ((((m (m 41 8) v5) = (m 41 9)) → (gh_isA m (m 41 7) 3 ∧ 0 ≤ v5 ∧ v5 < m 0 (2 * (m 41 7) + 1)))))))) ∧ Q (if v5 < (m 0 (2 * (m 41 8) + 1)) then (if v2 = v3 then (if (m (m 41 8) v5) = (m 41 10) then (m (m 41 7) v5) else (-1)) else (if (m (m 41 8) v5) = (m 41 9) then (m (m 41 7) v5) else (-1))) else (-1))))
theorem s_Forest_recall {E : gh_E} {m : gh_M} {Q : Int → Prop} (d : Nat) (v1 : Int) (v2 : Int) (v3 : Int) (v4 : Int) (hF : gh_F m) (h : w_Forest_recall v1 v2 v3 v4 m Q) : gh_C E gh_yForest_recall prog_5_method_8_code 6 (some .long) 1 (d + 1) [(2, 41), (0, v1), (0, v2), (0, v3), (0, v4)] m (fun r m1 => m1 = m ∧ Q r) := by
  refine gh_enter2 (L := [(0, 2, 41), (1, 0, v1), (2, 0, v2), (3, 0, v3), (4, 0, v4)]) (by decide +kernel) gh_rt1 (Nat.le_of_ble_eq_true rfl) rfl rfl ?_
  unfold w_Forest_recall at h
  refine gh_iload gd_Forest_recall_0 4 rfl ?_
  obtain ⟨hA, hB⟩ := h
  refine gh_zne (tgt := 17) gd_Forest_recall_2 (by decide) (fun c1733 => ?_) (fun c1733 => ?_)
  · have h := hA c1733
    refine gh_aload_n gd_Forest_recall_5 0 rfl (by decide) ?_
    refine gf_41_4 gd_Forest_recall_6 gh_k491 hF ?_
    refine gh_iload_n gd_Forest_recall_9 1 rfl ?_
    refine gh_iload_n gd_Forest_recall_10 2 rfl ?_
    refine gh_iload_n gd_Forest_recall_11 3 rfl ?_
    obtain ⟨q1734, h⟩ := h
    refine cv_Forest_plainAt (d := d) gd_Forest_recall_12 gh_k1205 (Nat.le_of_ble_eq_true rfl) (gh_C.pe (e_Forest_plainAt d v1 v2 v3 q1734) ?_)
    obtain ⟨q1735, h⟩ := h
    obtain ⟨q1736, h⟩ := h
    refine la_42 gd_Forest_recall_15 hF q1735 q1736 rfl ?_
    exact gh_ret1 rfl gd_Forest_recall_16 ⟨rfl, h⟩
  · have h := hB c1733
    refine gh_iload_n gd_Forest_recall_17 1 rfl ?_
    refine gh_iload_n gd_Forest_recall_18 2 rfl ?_
    refine gh_iload_n gd_Forest_recall_19 3 rfl ?_
    refine gh_iload gd_Forest_recall_20 4 rfl ?_
    obtain ⟨q1737, h⟩ := h
    refine cv_Forest_underAt (d := d) gd_Forest_recall_22 gh_k1218 (Nat.le_of_ble_eq_true rfl) (gh_C.pe (e_Forest_underAt d v1 v2 v3 v4 q1737) ?_)
    refine gh_name (fun v5 hn => ?_)
    have h := h v5 hn
    refine gh_istore (L2 := [(5, 0, v5), (0, 2, 41), (1, 0, v1), (2, 0, v2), (3, 0, v3), (4, 0, v4)]) gd_Forest_recall_25 (by decide) rfl ?_
    refine gh_iload gd_Forest_recall_27 0 rfl ?_
    refine gh_aload_n gd_Forest_recall_29 1 rfl (by decide) ?_
    refine gf_41_8 gd_Forest_recall_30 gh_k495 hF rfl ?_
    obtain ⟨q1738, h⟩ := h
    refine gh_alen gd_Forest_recall_33 q1738 (by decide) ?_
    obtain ⟨hk, h⟩ := h
    have k1748 : ∀ x1749 : Int, x1749 = (if v5 < (m 0 (2 * (m 41 8) + 1)) then (if v2 = v3 then (if (m (m 41 8) v5) = (m 41 10) then (m (m 41 7) v5) else (-1)) else (if (m (m 41 8) v5) = (m 41 9) then (m (m 41 7) v5) else (-1))) else (-1)) → gh_T E (gh_yForest_recall.cls, prog_5_method_8_code, 6, false, 1) (d + 1) 76 [(5, 0, v5), (0, 2, 41), (1, 0, v1), (2, 0, v2), (3, 0, v3), (4, 0, v4)] [(1, x1749)] m (fun r m1 => m1 = m ∧ Q r) := by
      rintro _ rfl
      exact gh_ret1 rfl gd_Forest_recall_76 ⟨rfl, h⟩
    refine gh_jge (tgt := 73) gd_Forest_recall_34 (by decide) (fun c1750 => ?_) (fun c1750 => ?_)
    · have hz : True := trivial
      have hk := hk c1750
      refine gh_aload_n gd_Forest_recall_37 1 rfl (by decide) ?_
      refine gf_41_8 gd_Forest_recall_38 gh_k495 hF rfl ?_
      refine gh_iload gd_Forest_recall_41 0 rfl ?_
      obtain ⟨q1739, hk⟩ := hk
      obtain ⟨q1740, hk⟩ := hk
      obtain ⟨q1741, hk⟩ := hk
      refine gh_iald gd_Forest_recall_43 q1739 q1740 q1741 ?_
      refine gh_iload_n gd_Forest_recall_44 3 rfl ?_
      refine gh_iload_n gd_Forest_recall_45 4 rfl ?_
      refine gh_jne (tgt := 56) gd_Forest_recall_46 (by decide) (fun c1751 => ?_) (fun c1751 => ?_)
      · have hz : True := trivial
        have hk := hk.1 c1751
        refine gh_aload_n gd_Forest_recall_49 1 rfl (by decide) ?_
        refine gf_41_10 gd_Forest_recall_50 gh_k497 hF rfl ?_
        refine gh_goto (tgt := 60) gd_Forest_recall_53 (by decide) ?_
        refine gh_jne (tgt := 73) gd_Forest_recall_60 (by decide) (fun c1752 => ?_) (fun c1752 => ?_)
        · have hz : True := trivial
          have hk := hk c1752
          refine gh_aload_n gd_Forest_recall_63 1 rfl (by decide) ?_
          refine gf_41_7 gd_Forest_recall_64 gh_k494 hF rfl ?_
          refine gh_iload gd_Forest_recall_67 0 rfl ?_
          obtain ⟨q1742, hk⟩ := hk
          obtain ⟨q1743, hk⟩ := hk
          have q1744 := hk
          refine gh_lald gd_Forest_recall_69 q1742 q1743 q1744 ?_
          refine gh_goto (tgt := 76) gd_Forest_recall_70 (by decide) ?_
          exact k1748 _ (by rw [if_pos c1750, if_pos c1751, if_pos c1752])
        · have hz : True := trivial
          refine gh_ldc2 (n := (-1)) gd_Forest_recall_73 gh_k1208 (by decide) (gh_r1 rfl) ?_
          exact k1748 _ (by rw [if_pos c1750, if_pos c1751, if_neg c1752])
      · have hz : True := trivial
        have hk := hk.2 c1751
        refine gh_aload_n gd_Forest_recall_56 1 rfl (by decide) ?_
        refine gf_41_9 gd_Forest_recall_57 gh_k496 hF rfl ?_
        refine gh_jne (tgt := 73) gd_Forest_recall_60 (by decide) (fun c1753 => ?_) (fun c1753 => ?_)
        · have hz : True := trivial
          have hk := hk c1753
          refine gh_aload_n gd_Forest_recall_63 1 rfl (by decide) ?_
          refine gf_41_7 gd_Forest_recall_64 gh_k494 hF rfl ?_
          refine gh_iload gd_Forest_recall_67 0 rfl ?_
          obtain ⟨q1745, hk⟩ := hk
          obtain ⟨q1746, hk⟩ := hk
          have q1747 := hk
          refine gh_lald gd_Forest_recall_69 q1745 q1746 q1747 ?_
          refine gh_goto (tgt := 76) gd_Forest_recall_70 (by decide) ?_
          exact k1748 _ (by rw [if_pos c1750, if_neg c1751, if_pos c1753])
        · have hz : True := trivial
          refine gh_ldc2 (n := (-1)) gd_Forest_recall_73 gh_k1208 (by decide) (gh_r1 rfl) ?_
          exact k1748 _ (by rw [if_pos c1750, if_neg c1751, if_neg c1753])
    · have hz : True := trivial
      refine gh_ldc2 (n := (-1)) gd_Forest_recall_73 gh_k1208 (by decide) (gh_r1 rfl) ?_
      exact k1748 _ (by rw [if_neg c1750])
def w_Forest_countOfPart (REC : Int → Int → Int → Int → Int → gh_M → (Int → gh_M → Prop) → Prop) (v1 : Int) (v2 : Int) (v3 : Int) (v4 : Int) (v5 : Int) (v6 : Int) (v7 : Int) (m : gh_M) (Q : Int → gh_M → Prop) : Prop := k_Grammar_nameOf v1 m ∧ ∀ v8 : Int, v8 = x_Grammar_nameOf v1 m → ((v8 = (-1) → gh_i (v2 + 1) ∧ (((v3 = (v2 + 1)) → (k_Text_fits v1 v2 m))) ∧ Q (if ((v3 = (v2 + 1)) ∧ (p_Text_fits v1 v2 m)) then (1:Int) else 0) m) ∧ (¬ (v8 = (-1)) → ∃ J72 : Prop, (J72 → (gh_i (v8 * 9) ∧ gh_i ((v8 * 9) + v2) ∧ gh_i (((v8 * 9) + v2) * 9) ∧ gh_i ((((v8 * 9) + v2) * 9) + v3)) ∧ 0 ≤ ((((v8 * 9) + v2) * 9) + v3) ∧ (((((v8 * 9) + v2) * 9) + v3)) < 648 ∧ Q (m 42 (((((v8 * 9) + v2) * 9) + v3))) m) ∧ ((((v2 = v4) ∧ (v3 = v5)) → gh_i (v7 + 1) ∧ REC v8 v4 v5 v6 (v7 + 1) m (fun r1768 m1769 => Q r1768 m1769)) ∧ (¬ ((v2 = v4) ∧ (v3 = v5)) → J72))))
theorem s_Forest_countOfPart {E : gh_E} {m : gh_M} {Q : Int → gh_M → Prop} (d : Nat) (REC : Int → Int → Int → Int → Int → gh_M → (Int → gh_M → Prop) → Prop) (hrec : ∀ (a b c d0 e0 : Int) (m : gh_M) (Q : Int → gh_M → Prop), gh_F m → REC a b c d0 e0 m Q → gh_C E gh_yForest_countOf prog_5_method_7_code 10 (some .long) 1 (d + 0) [(2, 41), (0, a), (0, b), (0, c), (0, d0), (0, e0)] m (fun r m1 => gh_F m1 ∧ Q r m1)) (v1 : Int) (v2 : Int) (v3 : Int) (v4 : Int) (v5 : Int) (v6 : Int) (v7 : Int) (hF : gh_F m) (h : w_Forest_countOfPart REC v1 v2 v3 v4 v5 v6 v7 m Q) : gh_C E gh_yForest_countOfPart prog_5_method_13_code 9 (some .long) 1 (d + 1) [(2, 41), (0, v1), (0, v2), (0, v3), (0, v4), (0, v5), (0, v6), (0, v7)] m (fun r m1 => gh_F m1 ∧ Q r m1) := by
  refine gh_enter2 (L := [(0, 2, 41), (1, 0, v1), (2, 0, v2), (3, 0, v3), (4, 0, v4), (5, 0, v5), (6, 0, v6), (7, 0, v7)]) (by decide +kernel) gh_rt1 (Nat.le_of_ble_eq_true rfl) rfl rfl ?_
  unfold w_Forest_countOfPart at h
  refine gh_aload_n gd_Forest_countOfPart_0 0 rfl (by decide) ?_
  refine gf_41_0 gd_Forest_countOfPart_1 gh_k487 hF ?_
  refine gh_iload_n gd_Forest_countOfPart_4 1 rfl ?_
  obtain ⟨q1754, h⟩ := h
  refine cv_Grammar_nameOf (d := d) gd_Forest_countOfPart_5 gh_k1232 hF (Nat.le_of_ble_eq_true rfl) (gh_C.pe (e_Grammar_nameOf d v1 hF q1754) ?_)
  refine gh_name (fun v8 hn => ?_)
  have h := h v8 hn
  refine gh_istore (L2 := [(8, 0, v8), (0, 2, 41), (1, 0, v1), (2, 0, v2), (3, 0, v3), (4, 0, v4), (5, 0, v5), (6, 0, v6), (7, 0, v7)]) gd_Forest_countOfPart_8 (by decide) rfl ?_
  refine gh_iload gd_Forest_countOfPart_10 0 rfl ?_
  refine gh_iconst gd_Forest_countOfPart_12 (gh_r0 rfl) ?_
  obtain ⟨hA, hB⟩ := h
  refine gh_jne (tgt := 41) gd_Forest_countOfPart_13 (by decide) (fun c1755 => ?_) (fun c1755 => ?_)
  · have h := hA c1755
    refine gh_iload_n gd_Forest_countOfPart_16 4 rfl ?_
    refine gh_iload_n gd_Forest_countOfPart_17 3 rfl ?_
    refine gh_iconst gd_Forest_countOfPart_18 (gh_r0 rfl) ?_
    obtain ⟨q1756, h⟩ := h
    refine gh_iadd gd_Forest_countOfPart_19 q1756 ?_
    obtain ⟨hk, h⟩ := h
    have k1758 : ∀ x1759 : Int, x1759 = (if ((v3 = (v2 + 1)) ∧ (p_Text_fits v1 v2 m)) then (1:Int) else 0) → gh_T E (gh_yForest_countOfPart.cls, prog_5_method_13_code, 9, false, 1) (d + 1) 40 [(8, 0, v8), (0, 2, 41), (1, 0, v1), (2, 0, v2), (3, 0, v3), (4, 0, v4), (5, 0, v5), (6, 0, v6), (7, 0, v7)] [(1, x1759)] m (fun r m1 => gh_F m1 ∧ Q r m1) := by
      rintro _ rfl
      exact gh_ret1 rfl gd_Forest_countOfPart_40 ⟨hF, h⟩
    refine gh_jne (tgt := 39) gd_Forest_countOfPart_20 (by decide) (fun c1760 => ?_) (fun c1760 => ?_)
    · have hz : True := trivial
      have hk := hk c1760
      refine gh_aload_n gd_Forest_countOfPart_23 1 rfl (by decide) ?_
      refine gf_41_2 gd_Forest_countOfPart_24 gh_k489 hF ?_
      refine gh_iload_n gd_Forest_countOfPart_27 2 rfl ?_
      refine gh_iload_n gd_Forest_countOfPart_28 3 rfl ?_
      have q1757 := hk
      refine cv_Text_fits (d := d) gd_Forest_countOfPart_29 gh_k1233 hF (Nat.le_of_ble_eq_true rfl) (gh_C.pe (e_Text_fits d v1 v2 hF q1757) ?_)
      refine gh_beq (tgt := 39) gd_Forest_countOfPart_32 (by decide) (fun c1761 => ?_) (fun c1761 => ?_)
      · have hz : True := trivial
        refine gh_lconst (n := 1) gd_Forest_countOfPart_35 (by decide) (gh_r1 rfl) ?_
        refine gh_goto (tgt := 40) gd_Forest_countOfPart_36 (by decide) ?_
        exact k1758 _ (if_pos (c := ((v3 = (v2 + 1)) ∧ (p_Text_fits v1 v2 m))) ⟨c1760, c1761⟩).symm
      · have hz : True := trivial
        refine gh_lconst (n := 0) gd_Forest_countOfPart_39 (by decide) (gh_r1 rfl) ?_
        exact k1758 _ (if_neg (c := ((v3 = (v2 + 1)) ∧ (p_Text_fits v1 v2 m))) (fun z => c1761 z.2)).symm
    · have hz : True := trivial
      refine gh_lconst (n := 0) gd_Forest_countOfPart_39 (by decide) (gh_r1 rfl) ?_
      exact k1758 _ (if_neg (c := ((v3 = (v2 + 1)) ∧ (p_Text_fits v1 v2 m))) (fun z => c1760 z.1)).symm
  · have h := hB c1755
    refine gh_iload_n gd_Forest_countOfPart_41 3 rfl ?_
    refine gh_iload gd_Forest_countOfPart_42 5 rfl ?_
    obtain ⟨J72, hJ72, h⟩ := h
    have hJ72 : gh_F m → J72 → gh_T E (gh_yForest_countOfPart.cls, prog_5_method_13_code, 9, false, 1) (d + 1) 72 [(0, 2, 41), (2, 0, v2), (3, 0, v3), (8, 0, v8)] [] m (fun r m1 => gh_F m1 ∧ Q r m1) := by
      intro hF hj
      have h := hJ72 hj
      refine gh_aload_n gd_Forest_countOfPart_72 0 rfl (by decide) ?_
      refine gf_41_4 gd_Forest_countOfPart_73 gh_k491 hF ?_
      refine gh_iload gd_Forest_countOfPart_76 3 rfl ?_
      refine gh_iload_n gd_Forest_countOfPart_78 1 rfl ?_
      refine gh_iload_n gd_Forest_countOfPart_79 2 rfl ?_
      obtain ⟨q1762, h⟩ := h
      refine cv_Forest_plainAt (d := d) gd_Forest_countOfPart_80 gh_k1205 (Nat.le_of_ble_eq_true rfl) (gh_C.pe (e_Forest_plainAt d v8 v2 v3 q1762) ?_)
      obtain ⟨q1763, h⟩ := h
      obtain ⟨q1764, h⟩ := h
      refine la_42 gd_Forest_countOfPart_83 hF q1763 q1764 rfl ?_
      exact gh_ret1 rfl gd_Forest_countOfPart_84 ⟨hF, h⟩
    obtain ⟨hA, hB⟩ := h
    have k1765 : ((v2 = v4) ∧ (v3 = v5)) → gh_T E (gh_yForest_countOfPart.cls, prog_5_method_13_code, 9, false, 1) (d + 1) 53 [(8, 0, v8), (0, 2, 41), (1, 0, v1), (2, 0, v2), (3, 0, v3), (4, 0, v4), (5, 0, v5), (6, 0, v6), (7, 0, v7)] [] m (fun r m1 => gh_F m1 ∧ Q r m1) := by
      intro c
      have h := hA c
      refine gh_aload_n gd_Forest_countOfPart_53 1 rfl (by decide) ?_
      refine gh_iload gd_Forest_countOfPart_54 0 rfl ?_
      refine gh_iload gd_Forest_countOfPart_56 5 rfl ?_
      refine gh_iload gd_Forest_countOfPart_58 6 rfl ?_
      refine gh_iload gd_Forest_countOfPart_60 7 rfl ?_
      refine gh_iload gd_Forest_countOfPart_62 8 rfl ?_
      refine gh_iconst gd_Forest_countOfPart_64 (gh_r0 rfl) ?_
      obtain ⟨q1767, h⟩ := h
      refine gh_iadd gd_Forest_countOfPart_65 q1767 ?_
      refine cv_Forest_countOf (d := d) gd_Forest_countOfPart_66 gh_k1209 hF (Nat.le_of_ble_eq_true rfl) (gh_C.mono (hrec v8 v4 v5 v6 (v7 + 1) _ _ hF h) (fun r1768 m1769 hq => ?_))
      obtain ⟨hF, h⟩ := hq
      refine gh_goto (tgt := 84) gd_Forest_countOfPart_69 (by decide) ?_
      exact gh_ret1 rfl gd_Forest_countOfPart_84 ⟨hF, h⟩
    have k1766 : ¬ ((v2 = v4) ∧ (v3 = v5)) → gh_T E (gh_yForest_countOfPart.cls, prog_5_method_13_code, 9, false, 1) (d + 1) 72 [(8, 0, v8), (0, 2, 41), (1, 0, v1), (2, 0, v2), (3, 0, v3), (4, 0, v4), (5, 0, v5), (6, 0, v6), (7, 0, v7)] [] m (fun r m1 => gh_F m1 ∧ Q r m1) := by
      intro c
      have h := hB c
      refine gh_pick (L2 := [(0, 2, 41), (2, 0, v2), (3, 0, v3), (8, 0, v8)]) [1, 3, 4, 0] rfl ?_
      exact hJ72 hF h
    refine gh_jne (tgt := 72) gd_Forest_countOfPart_44 (by decide) (fun c1770 => ?_) (fun c1770 => ?_)
    · have hz : True := trivial
      refine gh_iload_n gd_Forest_countOfPart_47 4 rfl ?_
      refine gh_iload gd_Forest_countOfPart_48 6 rfl ?_
      refine gh_jne (tgt := 72) gd_Forest_countOfPart_50 (by decide) (fun c1771 => ?_) (fun c1771 => ?_)
      · have hz : True := trivial
        exact k1765 ⟨c1770, c1771⟩
      · have hz : True := trivial
        exact k1766 (fun z => c1771 z.2)
    · have hz : True := trivial
      exact k1766 (fun z => c1770 z.1)
def f_Forest_countByRule_170 (REC : Int → Int → Int → Int → Int → gh_M → (Int → gh_M → Prop) → Prop) (v1 : Int) (v2 : Int) (v3 : Int) (v4 : Int) (v5 : Int) (v6 : Int) (v9 : Int) (v10 : Int) (v13 : Int) (K130 : Int → gh_M → Prop) (K170 : Int → Int → gh_M → Prop) (v11 : Int) (v14 : Int) (m : gh_M) : Prop := ∃ J254 : Int → gh_M → Prop, (∀ (v11' : Int) (m : gh_M), J254 v11' m → gh_i (v9 * 9) ∧ gh_i (v6 + (v9 * 9)) ∧ gh_i ((v6 + (v9 * 9)) + v10) ∧ 0 ≤ (v6 + (v9 * 9)) + v10 ∧ ((v6 + (v9 * 9)) + v10) < 360 ∧ gh_i (v10 + 1) ∧ K130 (v10 + 1) (gh_u m 43 ((v6 + (v9 * 9)) + v10) v11')) ∧ (((¬ (v14 ≤ v3) ∨ (v13 = 0)) → J254 v11 m) ∧ (¬ (¬ (v14 ≤ v3) ∨ (v13 = 0)) → gh_i (v9 + 1) ∧ gh_i ((v9 + 1) * 9) ∧ gh_i (v6 + ((v9 + 1) * 9)) ∧ gh_i ((v6 + ((v9 + 1) * 9)) + v14) ∧ 0 ≤ (v6 + ((v9 + 1) * 9)) + v14 ∧ ((v6 + ((v9 + 1) * 9)) + v14) < 360 ∧ ∀ v15 : Int, v15 = m 43 ((v6 + ((v9 + 1) * 9)) + v14) → ∃ J248 : Int → gh_M → Prop, (∀ (v11' : Int) (m : gh_M), J248 v11' m → gh_i (v14 + 1) ∧ K170 v11' (v14 + 1) m) ∧ ((v15 ≤ 0 → J248 v11 m) ∧ (¬ (v15 ≤ 0) → k_Grammar_partAt v1 v9 m ∧ w_Forest_countOfPart REC (x_Grammar_partAt v1 v9 m) v10 v14 v2 v3 v4 v5 m (fun r1823 m1824 => k_Forest_times r1823 v15 ∧ k_Forest_plus v11 (x_Forest_times r1823 v15) ∧ ∀ v11' : Int, v11' = x_Forest_plus v11 (x_Forest_times r1823 v15) → J248 v11' m1824)))))
def f_Forest_countByRule_130 (REC : Int → Int → Int → Int → Int → gh_M → (Int → gh_M → Prop) → Prop) (v1 : Int) (v2 : Int) (v3 : Int) (v4 : Int) (v5 : Int) (v6 : Int) (v9 : Int) (K122 : Int → gh_M → Prop) (K130 : Int → gh_M → Prop) (v10 : Int) (m : gh_M) : Prop := ((v10 ≤ v3 → gh_i (v5 * 4) ∧ gh_i ((v5 * 4) + v9) ∧ 0 ≤ (v5 * 4) + v9 ∧ ((v5 * 4) + v9) < 32 ∧ ∀ v13 : Int, v13 = (if (¬ ((gh_iand_f (gh_ishr_f (m 44 ((v5 * 4) + v9)) v10) 1) = 0)) then (1:Int) else 0) → gh_M2 (fun K170 v11 v14 m => f_Forest_countByRule_170 REC v1 v2 v3 v4 v5 v6 v9 v10 v13 K130 K170 v11 v14 m) 0 v10 m) ∧ (¬ (v10 ≤ v3) → gh_i (v9 + (-1)) ∧ K122 (v9 + (-1)) m))
def f_Forest_countByRule_122 (REC : Int → Int → Int → Int → Int → gh_M → (Int → gh_M → Prop) → Prop) (v1 : Int) (v2 : Int) (v3 : Int) (v4 : Int) (v5 : Int) (v6 : Int) (Q : Int → gh_M → Prop) (K122 : Int → gh_M → Prop) (v9 : Int) (m : gh_M) : Prop := ((v9 < 0 → gh_i (v6 + v2) ∧ 0 ≤ v6 + v2 ∧ (v6 + v2) < 360 ∧ Q (m 43 (v6 + v2)) m) ∧ (¬ (v9 < 0) → gh_M1 (fun K130 v10 m => f_Forest_countByRule_130 REC v1 v2 v3 v4 v5 v6 v9 K122 K130 v10 m) v2 m))
def f_Forest_countByRule_77 (REC : Int → Int → Int → Int → Int → gh_M → (Int → gh_M → Prop) → Prop) (v1 : Int) (v2 : Int) (v3 : Int) (v4 : Int) (v5 : Int) (v6 : Int) (v7 : Int) (Q : Int → gh_M → Prop) (K77 : Int → gh_M → Prop) (v9 : Int) (m : gh_M) : Prop := ((v9 ≤ v3 → gh_i (v7 * 9) ∧ gh_i (v6 + (v7 * 9)) ∧ gh_i ((v6 + (v7 * 9)) + v9) ∧ 0 ≤ (v6 + (v7 * 9)) + v9 ∧ ((v6 + (v7 * 9)) + v9) < 360 ∧ gh_i (v9 + 1) ∧ K77 (v9 + 1) (gh_u m 43 ((v6 + (v7 * 9)) + v9) (if (v9 = v3) then (1:Int) else 0))) ∧ (¬ (v9 ≤ v3) → gh_i (v7 - 1) ∧ ∀ v9' : Int, v9' = v7 - 1 → gh_M1 (fun K122 v9 m => f_Forest_countByRule_122 REC v1 v2 v3 v4 v5 v6 Q K122 v9 m) v9' m))
def f_Forest_countByRule_26 (REC : Int → Int → Int → Int → Int → gh_M → (Int → gh_M → Prop) → Prop) (v1 : Int) (v2 : Int) (v3 : Int) (v4 : Int) (v5 : Int) (v6 : Int) (v7 : Int) (Q : Int → gh_M → Prop) (K26 : Int → Int → gh_M → Prop) (v8 : Int) (v9 : Int) (m : gh_M) : Prop := ((v9 < v7 → gh_i (v5 * 4) ∧ gh_i ((v5 * 4) + v9) ∧ 0 ≤ (v5 * 4) + v9 ∧ ((v5 * 4) + v9) < 32 ∧ k_Grammar_partAt v1 v9 (gh_u m 44 ((v5 * 4) + v9) v8) ∧ w_Chart_beyond (x_Grammar_partAt v1 v9 (gh_u m 44 ((v5 * 4) + v9) v8)) v8 (gh_u m 44 ((v5 * 4) + v9) v8) (fun r1781 => gh_i (v9 + 1) ∧ K26 r1781 (v9 + 1) (gh_u m 44 ((v5 * 4) + v9) v8))) ∧ (¬ (v9 < v7) → gh_M1 (fun K77 v9 m => f_Forest_countByRule_77 REC v1 v2 v3 v4 v5 v6 v7 Q K77 v9 m) v2 m))
def w_Forest_countByRule (REC : Int → Int → Int → Int → Int → gh_M → (Int → gh_M → Prop) → Prop) (v1 : Int) (v2 : Int) (v3 : Int) (v4 : Int) (v5 : Int) (m : gh_M) (Q : Int → gh_M → Prop) : Prop := gh_i (v5 * 45) ∧ ∀ v6 : Int, v6 = v5 * 45 → 0 ≤ v1 ∧ v1 < 20 ∧ ∀ v7 : Int, v7 = m 17 v1 → ∀ v8 : Int, v8 = gh_ishl_f 1 v2 → gh_M2 (fun K26 v8 v9 m => f_Forest_countByRule_26 REC v1 v2 v3 v4 v5 v6 v7 Q K26 v8 v9 m) v8 0 m
theorem b_Forest_countByRule_170 {E : gh_E} {v1 : Int} {v2 : Int} {v3 : Int} {v4 : Int} {v5 : Int} {v6 : Int} {v9 : Int} {v10 : Int} {v13 : Int} {K130 : Int → gh_M → Prop} {Q : Int → gh_M → Prop} {K170 : Int → Int → gh_M → Prop} (d : Nat) (REC : Int → Int → Int → Int → Int → gh_M → (Int → gh_M → Prop) → Prop) (hrec : ∀ (a b c d0 e0 : Int) (m : gh_M) (Q : Int → gh_M → Prop), gh_F m → REC a b c d0 e0 m Q → gh_C E gh_yForest_countOf prog_5_method_7_code 10 (some .long) 1 (d + 0) [(2, 41), (0, a), (0, b), (0, c), (0, d0), (0, e0)] m (fun r m1 => gh_F m1 ∧ Q r m1)) (hK130 : ∀ (v10 : Int) (m : gh_M), gh_F m → K130 v10 m → gh_T E (gh_yForest_countByRule.cls, prog_5_method_11_code, 19, false, 1) (d + 2) 130 [(0, 2, 41), (1, 0, v1), (2, 0, v2), (3, 0, v3), (4, 0, v4), (5, 0, v5), (6, 0, v6), (9, 0, v9), (10, 0, v10)] [] m (fun r m1 => gh_F m1 ∧ Q r m1)) (hK : ∀ (v11 : Int) (v14 : Int) (m : gh_M), gh_F m → K170 v11 v14 m → gh_T E (gh_yForest_countByRule.cls, prog_5_method_11_code, 19, false, 1) (d + 2) 170 [(0, 2, 41), (1, 0, v1), (2, 0, v2), (3, 0, v3), (4, 0, v4), (5, 0, v5), (6, 0, v6), (9, 0, v9), (10, 0, v10), (11, 1, v11), (13, 0, v13), (14, 0, v14)] [] m (fun r m1 => gh_F m1 ∧ Q r m1)) (v11 : Int) (v14 : Int) (m : gh_M) (hF : gh_F m) (h : f_Forest_countByRule_170 REC v1 v2 v3 v4 v5 v6 v9 v10 v13 K130 K170 v11 v14 m) : gh_T E (gh_yForest_countByRule.cls, prog_5_method_11_code, 19, false, 1) (d + 2) 170 [(0, 2, 41), (1, 0, v1), (2, 0, v2), (3, 0, v3), (4, 0, v4), (5, 0, v5), (6, 0, v6), (9, 0, v9), (10, 0, v10), (11, 1, v11), (13, 0, v13), (14, 0, v14)] [] m (fun r m1 => gh_F m1 ∧ Q r m1) := by
  have hK170 := hK
  unfold f_Forest_countByRule_170 at h
  refine gh_iload gd_Forest_countByRule_170 11 rfl ?_
  refine gh_iload_n gd_Forest_countByRule_172 3 rfl ?_
  obtain ⟨J254, hJ254, h⟩ := h
  have hJ254 : ∀ (v11' : Int) (m : gh_M), gh_F m → J254 v11' m → gh_T E (gh_yForest_countByRule.cls, prog_5_method_11_code, 19, false, 1) (d + 2) 254 [(0, 2, 41), (1, 0, v1), (2, 0, v2), (3, 0, v3), (4, 0, v4), (5, 0, v5), (6, 0, v6), (9, 0, v9), (10, 0, v10), (11, 1, v11')] [] m (fun r m1 => gh_F m1 ∧ Q r m1) := by
    intro v11' m hF hj
    have h := hJ254 v11' m hj
    refine gh_aload_n gd_Forest_countByRule_254 0 rfl (by decide) ?_
    refine gf_41_5 gd_Forest_countByRule_255 gh_k492 hF ?_
    refine gh_iload gd_Forest_countByRule_258 6 rfl ?_
    refine gh_iload gd_Forest_countByRule_260 7 rfl ?_
    refine gh_bipush gd_Forest_countByRule_262 (by decide) (gh_r0 rfl) ?_
    obtain ⟨q1806, h⟩ := h
    refine gh_imul gd_Forest_countByRule_264 q1806 ?_
    obtain ⟨q1807, h⟩ := h
    refine gh_iadd gd_Forest_countByRule_265 q1807 ?_
    refine gh_iload gd_Forest_countByRule_266 8 rfl ?_
    obtain ⟨q1808, h⟩ := h
    refine gh_iadd gd_Forest_countByRule_268 q1808 ?_
    refine gh_lload gd_Forest_countByRule_269 9 rfl ?_
    obtain ⟨q1809, h⟩ := h
    obtain ⟨q1810, h⟩ := h
    refine sa_43 gd_Forest_countByRule_271 hF q1809 q1810 (fun hF => ?_)
    obtain ⟨q1811, h⟩ := h
    refine gh_iinc (L2 := [(10, 0, v10 + 1), (0, 2, 41), (1, 0, v1), (2, 0, v2), (3, 0, v3), (4, 0, v4), (5, 0, v5), (6, 0, v6), (9, 0, v9), (11, 1, v11')]) gd_Forest_countByRule_272 8 rfl q1811 (by decide) rfl ?_
    refine gh_goto (tgt := 130) gd_Forest_countByRule_275 (by decide) ?_
    refine gh_pick (L2 := [(0, 2, 41), (1, 0, v1), (2, 0, v2), (3, 0, v3), (4, 0, v4), (5, 0, v5), (6, 0, v6), (9, 0, v9), (10, 0, v10 + 1)]) [1, 2, 3, 4, 5, 6, 7, 8, 0] rfl ?_
    exact hK130 (v10 + 1) (gh_u m 43 ((v6 + (v9 * 9)) + v10) v11') hF h
  obtain ⟨hA, hB⟩ := h
  have k1812 : (¬ (v14 ≤ v3) ∨ (v13 = 0)) → gh_T E (gh_yForest_countByRule.cls, prog_5_method_11_code, 19, false, 1) (d + 2) 254 [(0, 2, 41), (1, 0, v1), (2, 0, v2), (3, 0, v3), (4, 0, v4), (5, 0, v5), (6, 0, v6), (9, 0, v9), (10, 0, v10), (11, 1, v11), (13, 0, v13), (14, 0, v14)] [] m (fun r m1 => gh_F m1 ∧ Q r m1) := by
    intro c
    have h := hA c
    refine gh_pick (L2 := [(0, 2, 41), (1, 0, v1), (2, 0, v2), (3, 0, v3), (4, 0, v4), (5, 0, v5), (6, 0, v6), (9, 0, v9), (10, 0, v10), (11, 1, v11)]) [0, 1, 2, 3, 4, 5, 6, 7, 8, 9] rfl ?_
    exact hJ254 v11 m hF h
  have k1813 : ¬ (¬ (v14 ≤ v3) ∨ (v13 = 0)) → gh_T E (gh_yForest_countByRule.cls, prog_5_method_11_code, 19, false, 1) (d + 2) 181 [(0, 2, 41), (1, 0, v1), (2, 0, v2), (3, 0, v3), (4, 0, v4), (5, 0, v5), (6, 0, v6), (9, 0, v9), (10, 0, v10), (11, 1, v11), (13, 0, v13), (14, 0, v14)] [] m (fun r m1 => gh_F m1 ∧ Q r m1) := by
    intro c
    have h := hB c
    refine gh_aload_n gd_Forest_countByRule_181 0 rfl (by decide) ?_
    refine gf_41_5 gd_Forest_countByRule_182 gh_k492 hF ?_
    refine gh_iload gd_Forest_countByRule_185 6 rfl ?_
    refine gh_iload gd_Forest_countByRule_187 7 rfl ?_
    refine gh_iconst gd_Forest_countByRule_189 (gh_r0 rfl) ?_
    obtain ⟨q1814, h⟩ := h
    refine gh_iadd gd_Forest_countByRule_190 q1814 ?_
    refine gh_bipush gd_Forest_countByRule_191 (by decide) (gh_r0 rfl) ?_
    obtain ⟨q1815, h⟩ := h
    refine gh_imul gd_Forest_countByRule_193 q1815 ?_
    obtain ⟨q1816, h⟩ := h
    refine gh_iadd gd_Forest_countByRule_194 q1816 ?_
    refine gh_iload gd_Forest_countByRule_195 11 rfl ?_
    obtain ⟨q1817, h⟩ := h
    refine gh_iadd gd_Forest_countByRule_197 q1817 ?_
    obtain ⟨q1818, h⟩ := h
    obtain ⟨q1819, h⟩ := h
    refine la_43 gd_Forest_countByRule_198 hF q1818 q1819 rfl ?_
    refine gh_name (fun v15 hn => ?_)
    have h := h v15 hn
    refine gh_lstore (L2 := [(15, 1, v15), (0, 2, 41), (1, 0, v1), (2, 0, v2), (3, 0, v3), (4, 0, v4), (5, 0, v5), (6, 0, v6), (9, 0, v9), (10, 0, v10), (11, 1, v11), (13, 0, v13), (14, 0, v14)]) gd_Forest_countByRule_199 (by decide) rfl ?_
    refine gh_lload gd_Forest_countByRule_201 0 rfl ?_
    refine gh_lconst (n := 0) gd_Forest_countByRule_203 (by decide) (gh_r1 rfl) ?_
    refine gh_lcmp gd_Forest_countByRule_204 ?_
    obtain ⟨J248, hJ248, h⟩ := h
    have hJ248 : ∀ (v11' : Int) (m : gh_M), gh_F m → J248 v11' m → gh_T E (gh_yForest_countByRule.cls, prog_5_method_11_code, 19, false, 1) (d + 2) 248 [(0, 2, 41), (1, 0, v1), (2, 0, v2), (3, 0, v3), (4, 0, v4), (5, 0, v5), (6, 0, v6), (9, 0, v9), (10, 0, v10), (11, 1, v11'), (13, 0, v13), (14, 0, v14)] [] m (fun r m1 => gh_F m1 ∧ Q r m1) := by
      intro v11' m hF hj
      have h := hJ248 v11' m hj
      obtain ⟨q1820, h⟩ := h
      refine gh_iinc (L2 := [(14, 0, v14 + 1), (0, 2, 41), (1, 0, v1), (2, 0, v2), (3, 0, v3), (4, 0, v4), (5, 0, v5), (6, 0, v6), (9, 0, v9), (10, 0, v10), (11, 1, v11'), (13, 0, v13)]) gd_Forest_countByRule_248 11 rfl q1820 (by decide) rfl ?_
      refine gh_goto (tgt := 170) gd_Forest_countByRule_251 (by decide) ?_
      refine gh_pick (L2 := [(0, 2, 41), (1, 0, v1), (2, 0, v2), (3, 0, v3), (4, 0, v4), (5, 0, v5), (6, 0, v6), (9, 0, v9), (10, 0, v10), (11, 1, v11'), (13, 0, v13), (14, 0, v14 + 1)]) [1, 2, 3, 4, 5, 6, 7, 8, 9, 10, 11, 0] rfl ?_
      exact hK170 v11' (v14 + 1) m hF h
    obtain ⟨hA, hB⟩ := h
    refine gh_cle (tgt := 248) gd_Forest_countByRule_205 (by decide) (fun c1821 => ?_) (fun c1821 => ?_)
    · have h := hA c1821
      refine gh_pick (L2 := [(0, 2, 41), (1, 0, v1), (2, 0, v2), (3, 0, v3), (4, 0, v4), (5, 0, v5), (6, 0, v6), (9, 0, v9), (10, 0, v10), (11, 1, v11), (13, 0, v13), (14, 0, v14)]) [1, 2, 3, 4, 5, 6, 7, 8, 9, 10, 11, 12] rfl ?_
      exact hJ248 v11 m hF h
    · have h := hB c1821
      refine gh_aload_n gd_Forest_countByRule_208 1 rfl (by decide) ?_
      refine gh_aload_n gd_Forest_countByRule_209 1 rfl (by decide) ?_
      refine gf_41_0 gd_Forest_countByRule_210 gh_k487 hF ?_
      refine gh_iload_n gd_Forest_countByRule_213 2 rfl ?_
      refine gh_iload gd_Forest_countByRule_214 8 rfl ?_
      obtain ⟨q1822, h⟩ := h
      refine cv_Grammar_partAt (d := d + 1) gd_Forest_countByRule_216 gh_k1226 hF (Nat.le_of_ble_eq_true rfl) (gh_C.pe (e_Grammar_partAt (d + 1) v1 v9 hF q1822) ?_)
      refine gh_iload gd_Forest_countByRule_219 9 rfl ?_
      refine gh_iload gd_Forest_countByRule_221 12 rfl ?_
      refine gh_iload_n gd_Forest_countByRule_223 3 rfl ?_
      refine gh_iload_n gd_Forest_countByRule_224 4 rfl ?_
      refine gh_iload gd_Forest_countByRule_225 5 rfl ?_
      refine gh_iload gd_Forest_countByRule_227 6 rfl ?_
      refine cv_Forest_countOfPart (d := d + 1) gd_Forest_countByRule_229 gh_k1228 hF (Nat.le_of_ble_eq_true rfl) (gh_C.mono (s_Forest_countOfPart d REC hrec (x_Grammar_partAt v1 v9 m) v10 v14 v2 v3 v4 v5 hF h) (fun r1823 m1824 hq => ?_))
      obtain ⟨hF, h⟩ := hq
      refine gh_lstore (L2 := [(17, 1, r1823), (15, 1, v15), (0, 2, 41), (1, 0, v1), (2, 0, v2), (3, 0, v3), (4, 0, v4), (5, 0, v5), (6, 0, v6), (9, 0, v9), (10, 0, v10), (11, 1, v11), (13, 0, v13), (14, 0, v14)]) gd_Forest_countByRule_232 (by decide) rfl ?_
      refine gh_lload gd_Forest_countByRule_234 11 rfl ?_
      refine gh_lload gd_Forest_countByRule_236 0 rfl ?_
      refine gh_lload gd_Forest_countByRule_238 1 rfl ?_
      obtain ⟨q1825, h⟩ := h
      refine cv_Forest_times (d := d + 1) gd_Forest_countByRule_240 gh_k1234 (Nat.le_of_ble_eq_true rfl) (gh_C.pe (e_Forest_times d r1823 v15 q1825) ?_)
      obtain ⟨q1826, h⟩ := h
      refine cv_Forest_plus (d := d + 1) gd_Forest_countByRule_243 gh_k1241 (Nat.le_of_ble_eq_true rfl) (gh_C.pe (e_Forest_plus d v11 (x_Forest_times r1823 v15) q1826) ?_)
      refine gh_name (fun v11' hn => ?_)
      have h := h v11' hn
      refine gh_lstore (L2 := [(11, 1, v11'), (17, 1, r1823), (15, 1, v15), (0, 2, 41), (1, 0, v1), (2, 0, v2), (3, 0, v3), (4, 0, v4), (5, 0, v5), (6, 0, v6), (9, 0, v9), (10, 0, v10), (13, 0, v13), (14, 0, v14)]) gd_Forest_countByRule_246 (by decide) rfl ?_
      refine gh_pick (L2 := [(0, 2, 41), (1, 0, v1), (2, 0, v2), (3, 0, v3), (4, 0, v4), (5, 0, v5), (6, 0, v6), (9, 0, v9), (10, 0, v10), (11, 1, v11'), (13, 0, v13), (14, 0, v14)]) [3, 4, 5, 6, 7, 8, 9, 10, 11, 0, 12, 13] rfl ?_
      exact hJ248 v11' m1824 hF h
  refine gh_jgt (tgt := 254) gd_Forest_countByRule_173 (by decide) (fun c1827 => ?_) (fun c1827 => ?_)
  · have hz : True := trivial
    refine gh_iload gd_Forest_countByRule_176 10 rfl ?_
    refine gh_zeq (tgt := 254) gd_Forest_countByRule_178 (by decide) (fun c1828 => ?_) (fun c1828 => ?_)
    · have hz : True := trivial
      exact k1812 (Or.inr c1828)
    · have hz : True := trivial
      exact k1813 (fun z => z.elim (fun w => w c1827) c1828)
  · have hz : True := trivial
    exact k1812 (Or.inl c1827)
theorem b_Forest_countByRule_130 {E : gh_E} {v1 : Int} {v2 : Int} {v3 : Int} {v4 : Int} {v5 : Int} {v6 : Int} {v9 : Int} {K122 : Int → gh_M → Prop} {Q : Int → gh_M → Prop} {K130 : Int → gh_M → Prop} (d : Nat) (REC : Int → Int → Int → Int → Int → gh_M → (Int → gh_M → Prop) → Prop) (hrec : ∀ (a b c d0 e0 : Int) (m : gh_M) (Q : Int → gh_M → Prop), gh_F m → REC a b c d0 e0 m Q → gh_C E gh_yForest_countOf prog_5_method_7_code 10 (some .long) 1 (d + 0) [(2, 41), (0, a), (0, b), (0, c), (0, d0), (0, e0)] m (fun r m1 => gh_F m1 ∧ Q r m1)) (hK122 : ∀ (v9 : Int) (m : gh_M), gh_F m → K122 v9 m → gh_T E (gh_yForest_countByRule.cls, prog_5_method_11_code, 19, false, 1) (d + 2) 122 [(0, 2, 41), (1, 0, v1), (2, 0, v2), (3, 0, v3), (4, 0, v4), (5, 0, v5), (6, 0, v6), (9, 0, v9)] [] m (fun r m1 => gh_F m1 ∧ Q r m1)) (hK : ∀ (v10 : Int) (m : gh_M), gh_F m → K130 v10 m → gh_T E (gh_yForest_countByRule.cls, prog_5_method_11_code, 19, false, 1) (d + 2) 130 [(0, 2, 41), (1, 0, v1), (2, 0, v2), (3, 0, v3), (4, 0, v4), (5, 0, v5), (6, 0, v6), (9, 0, v9), (10, 0, v10)] [] m (fun r m1 => gh_F m1 ∧ Q r m1)) (v10 : Int) (m : gh_M) (hF : gh_F m) (h : f_Forest_countByRule_130 REC v1 v2 v3 v4 v5 v6 v9 K122 K130 v10 m) : gh_T E (gh_yForest_countByRule.cls, prog_5_method_11_code, 19, false, 1) (d + 2) 130 [(0, 2, 41), (1, 0, v1), (2, 0, v2), (3, 0, v3), (4, 0, v4), (5, 0, v5), (6, 0, v6), (9, 0, v9), (10, 0, v10)] [] m (fun r m1 => gh_F m1 ∧ Q r m1) := by
  have hK130 := hK
  unfold f_Forest_countByRule_130 at h
  refine gh_iload gd_Forest_countByRule_130 8 rfl ?_
  refine gh_iload_n gd_Forest_countByRule_132 3 rfl ?_
  obtain ⟨hA, hB⟩ := h
  refine gh_jgt (tgt := 278) gd_Forest_countByRule_133 (by decide) (fun c1799 => ?_) (fun c1799 => ?_)
  · have h := hA c1799
    refine gh_lconst (n := 0) gd_Forest_countByRule_136 (by decide) (gh_r1 rfl) ?_
    refine gh_lstore (L2 := [(11, 1, 0), (0, 2, 41), (1, 0, v1), (2, 0, v2), (3, 0, v3), (4, 0, v4), (5, 0, v5), (6, 0, v6), (9, 0, v9), (10, 0, v10)]) gd_Forest_countByRule_137 (by decide) rfl ?_
    refine gh_aload_n gd_Forest_countByRule_139 1 rfl (by decide) ?_
    refine gf_41_6 gd_Forest_countByRule_140 gh_k493 hF ?_
    refine gh_iload gd_Forest_countByRule_143 6 rfl ?_
    refine gh_iconst gd_Forest_countByRule_145 (gh_r0 rfl) ?_
    obtain ⟨q1800, h⟩ := h
    refine gh_imul gd_Forest_countByRule_146 q1800 ?_
    refine gh_iload gd_Forest_countByRule_147 8 rfl ?_
    obtain ⟨q1801, h⟩ := h
    refine gh_iadd gd_Forest_countByRule_149 q1801 ?_
    obtain ⟨q1802, h⟩ := h
    obtain ⟨q1803, h⟩ := h
    refine la_44 gd_Forest_countByRule_150 hF q1802 q1803 rfl ?_
    refine gh_iload gd_Forest_countByRule_151 9 rfl ?_
    refine gh_ishr gd_Forest_countByRule_153 ?_
    refine gh_iconst gd_Forest_countByRule_154 (gh_r0 rfl) ?_
    refine gh_iand gd_Forest_countByRule_155 ?_
    have k1804 : ∀ x1805 : Int, x1805 = (if (¬ ((gh_iand_f (gh_ishr_f (m 44 ((v5 * 4) + v9)) v10) 1) = 0)) then (1:Int) else 0) → gh_T E (gh_yForest_countByRule.cls, prog_5_method_11_code, 19, false, 1) (d + 2) 164 [(11, 1, 0), (0, 2, 41), (1, 0, v1), (2, 0, v2), (3, 0, v3), (4, 0, v4), (5, 0, v5), (6, 0, v6), (9, 0, v9), (10, 0, v10)] [(0, x1805)] m (fun r m1 => gh_F m1 ∧ Q r m1) := by
      rintro _ rfl
      refine gh_name (fun v13 hn => ?_)
      have h := h v13 hn
      refine gh_istore (L2 := [(13, 0, v13), (11, 1, 0), (0, 2, 41), (1, 0, v1), (2, 0, v2), (3, 0, v3), (4, 0, v4), (5, 0, v5), (6, 0, v6), (9, 0, v9), (10, 0, v10)]) gd_Forest_countByRule_164 (by decide) rfl ?_
      refine gh_iload gd_Forest_countByRule_166 10 rfl ?_
      refine gh_istore (L2 := [(14, 0, v10), (13, 0, v13), (11, 1, 0), (0, 2, 41), (1, 0, v1), (2, 0, v2), (3, 0, v3), (4, 0, v4), (5, 0, v5), (6, 0, v6), (9, 0, v9), (10, 0, v10)]) gd_Forest_countByRule_168 (by decide) rfl ?_
      refine gh_pick (L2 := [(0, 2, 41), (1, 0, v1), (2, 0, v2), (3, 0, v3), (4, 0, v4), (5, 0, v5), (6, 0, v6), (9, 0, v9), (10, 0, v10), (11, 1, 0), (13, 0, v13), (14, 0, v10)]) [3, 4, 5, 6, 7, 8, 9, 10, 11, 2, 1, 0] rfl ?_
      exact gh_M2_sound (T := fun v11 v14 m => gh_T E (gh_yForest_countByRule.cls, prog_5_method_11_code, 19, false, 1) (d + 2) 170 [(0, 2, 41), (1, 0, v1), (2, 0, v2), (3, 0, v3), (4, 0, v4), (5, 0, v5), (6, 0, v6), (9, 0, v9), (10, 0, v10), (11, 1, v11), (13, 0, v13), (14, 0, v14)] [] m (fun r m1 => gh_F m1 ∧ Q r m1)) (fun _ _ m => gh_F m) (fun K170 v11 v14 m hK hF h => b_Forest_countByRule_170 d REC hrec hK130 hK v11 v14 m hF h) 0 v10 m hF h
    refine gh_zeq (tgt := 163) gd_Forest_countByRule_156 (by decide) (fun c1829 => ?_) (fun c1829 => ?_)
    · have hz : True := trivial
      refine gh_iconst gd_Forest_countByRule_163 (gh_r0 rfl) ?_
      exact k1804 _ (if_neg (c := (¬ ((gh_iand_f (gh_ishr_f (m 44 ((v5 * 4) + v9)) v10) 1) = 0))) (not_not_intro c1829)).symm
    · have hz : True := trivial
      refine gh_iconst gd_Forest_countByRule_159 (gh_r0 rfl) ?_
      refine gh_goto (tgt := 164) gd_Forest_countByRule_160 (by decide) ?_
      exact k1804 _ (if_pos (c := (¬ ((gh_iand_f (gh_ishr_f (m 44 ((v5 * 4) + v9)) v10) 1) = 0))) c1829).symm
  · have h := hB c1799
    obtain ⟨q1830, h⟩ := h
    refine gh_iinc (L2 := [(9, 0, v9 + (-1)), (0, 2, 41), (1, 0, v1), (2, 0, v2), (3, 0, v3), (4, 0, v4), (5, 0, v5), (6, 0, v6), (10, 0, v10)]) gd_Forest_countByRule_278 7 rfl q1830 (by decide) rfl ?_
    refine gh_goto (tgt := 122) gd_Forest_countByRule_281 (by decide) ?_
    refine gh_pick (L2 := [(0, 2, 41), (1, 0, v1), (2, 0, v2), (3, 0, v3), (4, 0, v4), (5, 0, v5), (6, 0, v6), (9, 0, v9 + (-1))]) [1, 2, 3, 4, 5, 6, 7, 0] rfl ?_
    exact hK122 (v9 + (-1)) m hF h
theorem b_Forest_countByRule_122 {E : gh_E} {v1 : Int} {v2 : Int} {v3 : Int} {v4 : Int} {v5 : Int} {v6 : Int} {Q : Int → gh_M → Prop} {K122 : Int → gh_M → Prop} (d : Nat) (REC : Int → Int → Int → Int → Int → gh_M → (Int → gh_M → Prop) → Prop) (hrec : ∀ (a b c d0 e0 : Int) (m : gh_M) (Q : Int → gh_M → Prop), gh_F m → REC a b c d0 e0 m Q → gh_C E gh_yForest_countOf prog_5_method_7_code 10 (some .long) 1 (d + 0) [(2, 41), (0, a), (0, b), (0, c), (0, d0), (0, e0)] m (fun r m1 => gh_F m1 ∧ Q r m1)) (hK : ∀ (v9 : Int) (m : gh_M), gh_F m → K122 v9 m → gh_T E (gh_yForest_countByRule.cls, prog_5_method_11_code, 19, false, 1) (d + 2) 122 [(0, 2, 41), (1, 0, v1), (2, 0, v2), (3, 0, v3), (4, 0, v4), (5, 0, v5), (6, 0, v6), (9, 0, v9)] [] m (fun r m1 => gh_F m1 ∧ Q r m1)) (v9 : Int) (m : gh_M) (hF : gh_F m) (h : f_Forest_countByRule_122 REC v1 v2 v3 v4 v5 v6 Q K122 v9 m) : gh_T E (gh_yForest_countByRule.cls, prog_5_method_11_code, 19, false, 1) (d + 2) 122 [(0, 2, 41), (1, 0, v1), (2, 0, v2), (3, 0, v3), (4, 0, v4), (5, 0, v5), (6, 0, v6), (9, 0, v9)] [] m (fun r m1 => gh_F m1 ∧ Q r m1) := by
  have hK122 := hK
  unfold f_Forest_countByRule_122 at h
  refine gh_iload gd_Forest_countByRule_122 7 rfl ?_
  obtain ⟨hA, hB⟩ := h
  refine gh_zlt (tgt := 284) gd_Forest_countByRule_124 (by decide) (fun c1795 => ?_) (fun c1795 => ?_)
  · have h := hA c1795
    refine gh_aload_n gd_Forest_countByRule_284 0 rfl (by decide) ?_
    refine gf_41_5 gd_Forest_countByRule_285 gh_k492 hF ?_
    refine gh_iload gd_Forest_countByRule_288 6 rfl ?_
    refine gh_iload_n gd_Forest_countByRule_290 2 rfl ?_
    obtain ⟨q1796, h⟩ := h
    refine gh_iadd gd_Forest_countByRule_291 q1796 ?_
    obtain ⟨q1797, h⟩ := h
    obtain ⟨q1798, h⟩ := h
    refine la_43 gd_Forest_countByRule_292 hF q1797 q1798 rfl ?_
    exact gh_ret1 rfl gd_Forest_countByRule_293 ⟨hF, h⟩
  · have h := hB c1795
    refine gh_iload_n gd_Forest_countByRule_127 2 rfl ?_
    refine gh_istore (L2 := [(10, 0, v2), (0, 2, 41), (1, 0, v1), (2, 0, v2), (3, 0, v3), (4, 0, v4), (5, 0, v5), (6, 0, v6), (9, 0, v9)]) gd_Forest_countByRule_128 (by decide) rfl ?_
    refine gh_pick (L2 := [(0, 2, 41), (1, 0, v1), (2, 0, v2), (3, 0, v3), (4, 0, v4), (5, 0, v5), (6, 0, v6), (9, 0, v9), (10, 0, v2)]) [1, 2, 3, 4, 5, 6, 7, 8, 0] rfl ?_
    exact gh_M1_sound (T := fun v10 m => gh_T E (gh_yForest_countByRule.cls, prog_5_method_11_code, 19, false, 1) (d + 2) 130 [(0, 2, 41), (1, 0, v1), (2, 0, v2), (3, 0, v3), (4, 0, v4), (5, 0, v5), (6, 0, v6), (9, 0, v9), (10, 0, v10)] [] m (fun r m1 => gh_F m1 ∧ Q r m1)) (fun _ m => gh_F m) (fun K130 v10 m hK hF h => b_Forest_countByRule_130 d REC hrec hK122 hK v10 m hF h) v2 m hF h
theorem b_Forest_countByRule_77 {E : gh_E} {v1 : Int} {v2 : Int} {v3 : Int} {v4 : Int} {v5 : Int} {v6 : Int} {v7 : Int} {Q : Int → gh_M → Prop} {K77 : Int → gh_M → Prop} (d : Nat) (REC : Int → Int → Int → Int → Int → gh_M → (Int → gh_M → Prop) → Prop) (hrec : ∀ (a b c d0 e0 : Int) (m : gh_M) (Q : Int → gh_M → Prop), gh_F m → REC a b c d0 e0 m Q → gh_C E gh_yForest_countOf prog_5_method_7_code 10 (some .long) 1 (d + 0) [(2, 41), (0, a), (0, b), (0, c), (0, d0), (0, e0)] m (fun r m1 => gh_F m1 ∧ Q r m1)) (hK : ∀ (v9 : Int) (m : gh_M), gh_F m → K77 v9 m → gh_T E (gh_yForest_countByRule.cls, prog_5_method_11_code, 19, false, 1) (d + 2) 77 [(0, 2, 41), (1, 0, v1), (2, 0, v2), (3, 0, v3), (4, 0, v4), (5, 0, v5), (6, 0, v6), (7, 0, v7), (9, 0, v9)] [] m (fun r m1 => gh_F m1 ∧ Q r m1)) (v9 : Int) (m : gh_M) (hF : gh_F m) (h : f_Forest_countByRule_77 REC v1 v2 v3 v4 v5 v6 v7 Q K77 v9 m) : gh_T E (gh_yForest_countByRule.cls, prog_5_method_11_code, 19, false, 1) (d + 2) 77 [(0, 2, 41), (1, 0, v1), (2, 0, v2), (3, 0, v3), (4, 0, v4), (5, 0, v5), (6, 0, v6), (7, 0, v7), (9, 0, v9)] [] m (fun r m1 => gh_F m1 ∧ Q r m1) := by
  have hK77 := hK
  unfold f_Forest_countByRule_77 at h
  refine gh_iload gd_Forest_countByRule_77 8 rfl ?_
  refine gh_iload_n gd_Forest_countByRule_79 3 rfl ?_
  obtain ⟨hA, hB⟩ := h
  refine gh_jgt (tgt := 116) gd_Forest_countByRule_80 (by decide) (fun c1784 => ?_) (fun c1784 => ?_)
  · have h := hA c1784
    refine gh_aload_n gd_Forest_countByRule_83 0 rfl (by decide) ?_
    refine gf_41_5 gd_Forest_countByRule_84 gh_k492 hF ?_
    refine gh_iload gd_Forest_countByRule_87 6 rfl ?_
    refine gh_iload gd_Forest_countByRule_89 7 rfl ?_
    refine gh_bipush gd_Forest_countByRule_91 (by decide) (gh_r0 rfl) ?_
    obtain ⟨q1785, h⟩ := h
    refine gh_imul gd_Forest_countByRule_93 q1785 ?_
    obtain ⟨q1786, h⟩ := h
    refine gh_iadd gd_Forest_countByRule_94 q1786 ?_
    refine gh_iload gd_Forest_countByRule_95 8 rfl ?_
    obtain ⟨q1787, h⟩ := h
    refine gh_iadd gd_Forest_countByRule_97 q1787 ?_
    refine gh_iload gd_Forest_countByRule_98 8 rfl ?_
    refine gh_iload_n gd_Forest_countByRule_100 3 rfl ?_
    have k1788 : ∀ x1789 : Int, x1789 = (if (v9 = v3) then (1:Int) else 0) → gh_T E (gh_yForest_countByRule.cls, prog_5_method_11_code, 19, false, 1) (d + 2) 109 [(0, 2, 41), (1, 0, v1), (2, 0, v2), (3, 0, v3), (4, 0, v4), (5, 0, v5), (6, 0, v6), (7, 0, v7), (9, 0, v9)] [(1, x1789), (0, (v6 + (v7 * 9)) + v9), (2, 43)] m (fun r m1 => gh_F m1 ∧ Q r m1) := by
      rintro _ rfl
      obtain ⟨q1790, h⟩ := h
      obtain ⟨q1791, h⟩ := h
      refine sa_43 gd_Forest_countByRule_109 hF q1790 q1791 (fun hF => ?_)
      obtain ⟨q1792, h⟩ := h
      refine gh_iinc (L2 := [(9, 0, v9 + 1), (0, 2, 41), (1, 0, v1), (2, 0, v2), (3, 0, v3), (4, 0, v4), (5, 0, v5), (6, 0, v6), (7, 0, v7)]) gd_Forest_countByRule_110 8 rfl q1792 (by decide) rfl ?_
      refine gh_goto (tgt := 77) gd_Forest_countByRule_113 (by decide) ?_
      refine gh_pick (L2 := [(0, 2, 41), (1, 0, v1), (2, 0, v2), (3, 0, v3), (4, 0, v4), (5, 0, v5), (6, 0, v6), (7, 0, v7), (9, 0, v9 + 1)]) [1, 2, 3, 4, 5, 6, 7, 8, 0] rfl ?_
      exact hK77 (v9 + 1) (gh_u m 43 ((v6 + (v7 * 9)) + v9) (if (v9 = v3) then (1:Int) else 0)) hF h
    refine gh_jne (tgt := 108) gd_Forest_countByRule_101 (by decide) (fun c1793 => ?_) (fun c1793 => ?_)
    · have hz : True := trivial
      refine gh_lconst (n := 1) gd_Forest_countByRule_104 (by decide) (gh_r1 rfl) ?_
      refine gh_goto (tgt := 109) gd_Forest_countByRule_105 (by decide) ?_
      exact k1788 _ (if_pos (c := (v9 = v3)) c1793).symm
    · have hz : True := trivial
      refine gh_lconst (n := 0) gd_Forest_countByRule_108 (by decide) (gh_r1 rfl) ?_
      exact k1788 _ (if_neg (c := (v9 = v3)) c1793).symm
  · have h := hB c1784
    refine gh_iload gd_Forest_countByRule_116 7 rfl ?_
    refine gh_iconst gd_Forest_countByRule_118 (gh_r0 rfl) ?_
    obtain ⟨q1794, h⟩ := h
    refine gh_isub gd_Forest_countByRule_119 q1794 ?_
    refine gh_name (fun v9' hn => ?_)
    have h := h v9' hn
    refine gh_istore (L2 := [(9, 0, v9'), (0, 2, 41), (1, 0, v1), (2, 0, v2), (3, 0, v3), (4, 0, v4), (5, 0, v5), (6, 0, v6), (7, 0, v7)]) gd_Forest_countByRule_120 (by decide) rfl ?_
    refine gh_pick (L2 := [(0, 2, 41), (1, 0, v1), (2, 0, v2), (3, 0, v3), (4, 0, v4), (5, 0, v5), (6, 0, v6), (9, 0, v9')]) [1, 2, 3, 4, 5, 6, 7, 0] rfl ?_
    exact gh_M1_sound (T := fun v9 m => gh_T E (gh_yForest_countByRule.cls, prog_5_method_11_code, 19, false, 1) (d + 2) 122 [(0, 2, 41), (1, 0, v1), (2, 0, v2), (3, 0, v3), (4, 0, v4), (5, 0, v5), (6, 0, v6), (9, 0, v9)] [] m (fun r m1 => gh_F m1 ∧ Q r m1)) (fun _ m => gh_F m) (fun K122 v9 m hK hF h => b_Forest_countByRule_122 d REC hrec hK v9 m hF h) v9' m hF h
theorem b_Forest_countByRule_26 {E : gh_E} {v1 : Int} {v2 : Int} {v3 : Int} {v4 : Int} {v5 : Int} {v6 : Int} {v7 : Int} {Q : Int → gh_M → Prop} {K26 : Int → Int → gh_M → Prop} (d : Nat) (REC : Int → Int → Int → Int → Int → gh_M → (Int → gh_M → Prop) → Prop) (hrec : ∀ (a b c d0 e0 : Int) (m : gh_M) (Q : Int → gh_M → Prop), gh_F m → REC a b c d0 e0 m Q → gh_C E gh_yForest_countOf prog_5_method_7_code 10 (some .long) 1 (d + 0) [(2, 41), (0, a), (0, b), (0, c), (0, d0), (0, e0)] m (fun r m1 => gh_F m1 ∧ Q r m1)) (hK : ∀ (v8 : Int) (v9 : Int) (m : gh_M), gh_F m → K26 v8 v9 m → gh_T E (gh_yForest_countByRule.cls, prog_5_method_11_code, 19, false, 1) (d + 2) 26 [(0, 2, 41), (1, 0, v1), (2, 0, v2), (3, 0, v3), (4, 0, v4), (5, 0, v5), (6, 0, v6), (7, 0, v7), (8, 0, v8), (9, 0, v9)] [] m (fun r m1 => gh_F m1 ∧ Q r m1)) (v8 : Int) (v9 : Int) (m : gh_M) (hF : gh_F m) (h : f_Forest_countByRule_26 REC v1 v2 v3 v4 v5 v6 v7 Q K26 v8 v9 m) : gh_T E (gh_yForest_countByRule.cls, prog_5_method_11_code, 19, false, 1) (d + 2) 26 [(0, 2, 41), (1, 0, v1), (2, 0, v2), (3, 0, v3), (4, 0, v4), (5, 0, v5), (6, 0, v6), (7, 0, v7), (8, 0, v8), (9, 0, v9)] [] m (fun r m1 => gh_F m1 ∧ Q r m1) := by
  have hK26 := hK
  unfold f_Forest_countByRule_26 at h
  refine gh_iload gd_Forest_countByRule_26 9 rfl ?_
  refine gh_iload gd_Forest_countByRule_28 7 rfl ?_
  obtain ⟨hA, hB⟩ := h
  refine gh_jge (tgt := 74) gd_Forest_countByRule_30 (by decide) (fun c1775 => ?_) (fun c1775 => ?_)
  · have h := hA c1775
    refine gh_aload_n gd_Forest_countByRule_33 0 rfl (by decide) ?_
    refine gf_41_6 gd_Forest_countByRule_34 gh_k493 hF ?_
    refine gh_iload gd_Forest_countByRule_37 5 rfl ?_
    refine gh_iconst gd_Forest_countByRule_39 (gh_r0 rfl) ?_
    obtain ⟨q1776, h⟩ := h
    refine gh_imul gd_Forest_countByRule_40 q1776 ?_
    refine gh_iload gd_Forest_countByRule_41 9 rfl ?_
    obtain ⟨q1777, h⟩ := h
    refine gh_iadd gd_Forest_countByRule_43 q1777 ?_
    refine gh_iload gd_Forest_countByRule_44 8 rfl ?_
    obtain ⟨q1778, h⟩ := h
    obtain ⟨q1779, h⟩ := h
    refine sa_44 gd_Forest_countByRule_46 hF q1778 q1779 (fun hF => ?_)
    refine gh_aload_n gd_Forest_countByRule_47 0 rfl (by decide) ?_
    refine gf_41_3 gd_Forest_countByRule_48 gh_k490 hF ?_
    refine gh_aload_n gd_Forest_countByRule_51 0 rfl (by decide) ?_
    refine gf_41_0 gd_Forest_countByRule_52 gh_k487 hF ?_
    refine gh_iload_n gd_Forest_countByRule_55 1 rfl ?_
    refine gh_iload gd_Forest_countByRule_56 9 rfl ?_
    obtain ⟨q1780, h⟩ := h
    refine cv_Grammar_partAt (d := d + 1) gd_Forest_countByRule_58 gh_k1226 hF (Nat.le_of_ble_eq_true rfl) (gh_C.pe (e_Grammar_partAt (d + 1) v1 v9 hF q1780) ?_)
    refine gh_iload gd_Forest_countByRule_61 8 rfl ?_
    refine cv_Chart_beyond (d := d + 1) gd_Forest_countByRule_63 gh_k1227 hF (Nat.le_of_ble_eq_true rfl) (gh_C.pw (s_Chart_beyond d (x_Grammar_partAt v1 v9 (gh_u m 44 ((v5 * 4) + v9) v8)) v8 hF h) (fun r1781 h => ?_))
    refine gh_istore (L2 := [(8, 0, r1781), (0, 2, 41), (1, 0, v1), (2, 0, v2), (3, 0, v3), (4, 0, v4), (5, 0, v5), (6, 0, v6), (7, 0, v7), (9, 0, v9)]) gd_Forest_countByRule_66 (by decide) rfl ?_
    obtain ⟨q1783, h⟩ := h
    refine gh_iinc (L2 := [(9, 0, v9 + 1), (8, 0, r1781), (0, 2, 41), (1, 0, v1), (2, 0, v2), (3, 0, v3), (4, 0, v4), (5, 0, v5), (6, 0, v6), (7, 0, v7)]) gd_Forest_countByRule_68 9 rfl q1783 (by decide) rfl ?_
    refine gh_goto (tgt := 26) gd_Forest_countByRule_71 (by decide) ?_
    refine gh_pick (L2 := [(0, 2, 41), (1, 0, v1), (2, 0, v2), (3, 0, v3), (4, 0, v4), (5, 0, v5), (6, 0, v6), (7, 0, v7), (8, 0, r1781), (9, 0, v9 + 1)]) [2, 3, 4, 5, 6, 7, 8, 9, 1, 0] rfl ?_
    exact hK26 r1781 (v9 + 1) (gh_u m 44 ((v5 * 4) + v9) v8) hF h
  · have h := hB c1775
    refine gh_iload_n gd_Forest_countByRule_74 2 rfl ?_
    refine gh_istore (L2 := [(9, 0, v2), (0, 2, 41), (1, 0, v1), (2, 0, v2), (3, 0, v3), (4, 0, v4), (5, 0, v5), (6, 0, v6), (7, 0, v7), (8, 0, v8)]) gd_Forest_countByRule_75 (by decide) rfl ?_
    refine gh_pick (L2 := [(0, 2, 41), (1, 0, v1), (2, 0, v2), (3, 0, v3), (4, 0, v4), (5, 0, v5), (6, 0, v6), (7, 0, v7), (9, 0, v2)]) [1, 2, 3, 4, 5, 6, 7, 8, 0] rfl ?_
    exact gh_M1_sound (T := fun v9 m => gh_T E (gh_yForest_countByRule.cls, prog_5_method_11_code, 19, false, 1) (d + 2) 77 [(0, 2, 41), (1, 0, v1), (2, 0, v2), (3, 0, v3), (4, 0, v4), (5, 0, v5), (6, 0, v6), (7, 0, v7), (9, 0, v9)] [] m (fun r m1 => gh_F m1 ∧ Q r m1)) (fun _ m => gh_F m) (fun K77 v9 m hK hF h => b_Forest_countByRule_77 d REC hrec hK v9 m hF h) v2 m hF h
theorem s_Forest_countByRule {E : gh_E} {m : gh_M} {Q : Int → gh_M → Prop} (d : Nat) (REC : Int → Int → Int → Int → Int → gh_M → (Int → gh_M → Prop) → Prop) (hrec : ∀ (a b c d0 e0 : Int) (m : gh_M) (Q : Int → gh_M → Prop), gh_F m → REC a b c d0 e0 m Q → gh_C E gh_yForest_countOf prog_5_method_7_code 10 (some .long) 1 (d + 0) [(2, 41), (0, a), (0, b), (0, c), (0, d0), (0, e0)] m (fun r m1 => gh_F m1 ∧ Q r m1)) (v1 : Int) (v2 : Int) (v3 : Int) (v4 : Int) (v5 : Int) (hF : gh_F m) (h : w_Forest_countByRule REC v1 v2 v3 v4 v5 m Q) : gh_C E gh_yForest_countByRule prog_5_method_11_code 19 (some .long) 1 (d + 2) [(2, 41), (0, v1), (0, v2), (0, v3), (0, v4), (0, v5)] m (fun r m1 => gh_F m1 ∧ Q r m1) := by
  refine gh_enter2 (L := [(0, 2, 41), (1, 0, v1), (2, 0, v2), (3, 0, v3), (4, 0, v4), (5, 0, v5)]) (by decide +kernel) gh_rt1 (Nat.le_of_ble_eq_true rfl) rfl rfl ?_
  unfold w_Forest_countByRule at h
  refine gh_iload gd_Forest_countByRule_0 5 rfl ?_
  refine gh_bipush gd_Forest_countByRule_2 (by decide) (gh_r0 rfl) ?_
  obtain ⟨q1772, h⟩ := h
  refine gh_imul gd_Forest_countByRule_4 q1772 ?_
  refine gh_name (fun v6 hn => ?_)
  have h := h v6 hn
  refine gh_istore (L2 := [(6, 0, v6), (0, 2, 41), (1, 0, v1), (2, 0, v2), (3, 0, v3), (4, 0, v4), (5, 0, v5)]) gd_Forest_countByRule_5 (by decide) rfl ?_
  refine gh_aload_n gd_Forest_countByRule_7 1 rfl (by decide) ?_
  refine gf_41_0 gd_Forest_countByRule_8 gh_k487 hF ?_
  refine gf_13_6 gd_Forest_countByRule_11 gh_k291 hF ?_
  refine gh_iload_n gd_Forest_countByRule_14 2 rfl ?_
  obtain ⟨q1773, h⟩ := h
  obtain ⟨q1774, h⟩ := h
  refine la_17 gd_Forest_countByRule_15 hF q1773 q1774 rfl ?_
  refine gh_name (fun v7 hn => ?_)
  have h := h v7 hn
  refine gh_istore (L2 := [(7, 0, v7), (6, 0, v6), (0, 2, 41), (1, 0, v1), (2, 0, v2), (3, 0, v3), (4, 0, v4), (5, 0, v5)]) gd_Forest_countByRule_16 (by decide) rfl ?_
  refine gh_iconst gd_Forest_countByRule_18 (gh_r0 rfl) ?_
  refine gh_iload_n gd_Forest_countByRule_19 4 rfl ?_
  refine gh_ishl gd_Forest_countByRule_20 ?_
  refine gh_name (fun v8 hn => ?_)
  have h := h v8 hn
  refine gh_istore (L2 := [(8, 0, v8), (7, 0, v7), (6, 0, v6), (0, 2, 41), (1, 0, v1), (2, 0, v2), (3, 0, v3), (4, 0, v4), (5, 0, v5)]) gd_Forest_countByRule_21 (by decide) rfl ?_
  refine gh_iconst gd_Forest_countByRule_23 (gh_r0 rfl) ?_
  refine gh_istore (L2 := [(9, 0, 0), (8, 0, v8), (7, 0, v7), (6, 0, v6), (0, 2, 41), (1, 0, v1), (2, 0, v2), (3, 0, v3), (4, 0, v4), (5, 0, v5)]) gd_Forest_countByRule_24 (by decide) rfl ?_
  refine gh_pick (L2 := [(0, 2, 41), (1, 0, v1), (2, 0, v2), (3, 0, v3), (4, 0, v4), (5, 0, v5), (6, 0, v6), (7, 0, v7), (8, 0, v8), (9, 0, 0)]) [4, 5, 6, 7, 8, 9, 3, 2, 1, 0] rfl ?_
  exact gh_M2_sound (T := fun v8 v9 m => gh_T E (gh_yForest_countByRule.cls, prog_5_method_11_code, 19, false, 1) (d + 2) 26 [(0, 2, 41), (1, 0, v1), (2, 0, v2), (3, 0, v3), (4, 0, v4), (5, 0, v5), (6, 0, v6), (7, 0, v7), (8, 0, v8), (9, 0, v9)] [] m (fun r m1 => gh_F m1 ∧ Q r m1)) (fun _ _ m => gh_F m) (fun K26 v8 v9 m hK hF h => b_Forest_countByRule_26 d REC hrec hK v8 v9 m hF h) v8 0 m hF h
