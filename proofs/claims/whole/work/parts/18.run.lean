def f_Facts_findOver_23 (v1 : Int) (K10 : Int → gh_M → Prop) (K23 : Int → gh_M → Prop) (v2 : Int) (m : gh_M) : Prop := 0 ≤ v1 ∧ v1 < 20 ∧ ((v2 < (m 17 v1) → k_Grammar_nameAt v1 v2 m ∧ ∀ v3 : Int, v3 = x_Grammar_nameAt v1 v2 m → ∃ J81 : gh_M → Prop, (∀ (m : gh_M), J81 m → gh_i (v2 + 1) ∧ K23 (v2 + 1) m) ∧ ((v3 = (-1) → J81 m) ∧ (¬ (v3 = (-1)) → w_Facts_isEmptyRow v1 0 v2 m (fun r855 => ((r855 = 0 → J81 m) ∧ (¬ (r855 = 0) → 0 ≤ v1 ∧ v1 < 20 ∧ 0 ≤ m 16 v1 ∧ (m 16 v1) < 8 ∧ 0 ≤ m 16 v1 ∧ (m 16 v1) < 8 ∧ J81 (gh_u m 24 (m 16 v1) (gh_ior_f (m 24 (m 16 v1)) (gh_ishl_f 1 v3))))))))) ∧ (¬ (v2 < (m 17 v1)) → gh_i (v1 + 1) ∧ K10 (v1 + 1) m))
def f_Facts_findOver_10 (Q : Int → gh_M → Prop) (K10 : Int → gh_M → Prop) (v1 : Int) (m : gh_M) : Prop := ((v1 < (m 13 2) → gh_M1 (fun K23 v2 m => f_Facts_findOver_23 v1 K10 K23 v2 m) 0 m) ∧ (¬ (v1 < (m 13 2)) → w_Facts_closeOver_24 (m 13 1) m (fun _ m866 => Q 0 m866)))
def w_Facts_findOver (m : gh_M) (Q : Int → gh_M → Prop) : Prop := gh_M1 (fun K10 v1 m => f_Facts_findOver_10 Q K10 v1 m) 0 (gh_fil m 24 8 0)
theorem b_Facts_findOver_23 {E : gh_E} {v1 : Int} {K10 : Int → gh_M → Prop} {Q : Int → gh_M → Prop} {K23 : Int → gh_M → Prop} (d : Nat) (hK10 : ∀ (v1 : Int) (m : gh_M), gh_F m → K10 v1 m → gh_T E (gh_yFacts_findOver.cls, prog_4_method_11_code, 4, false, 9) (d + 3) 10 [(0, 2, 20), (1, 0, v1)] [] m (fun r m1 => gh_F m1 ∧ Q r m1)) (hK : ∀ (v2 : Int) (m : gh_M), gh_F m → K23 v2 m → gh_T E (gh_yFacts_findOver.cls, prog_4_method_11_code, 4, false, 9) (d + 3) 23 [(0, 2, 20), (1, 0, v1), (2, 0, v2)] [] m (fun r m1 => gh_F m1 ∧ Q r m1)) (v2 : Int) (m : gh_M) (hF : gh_F m) (h : f_Facts_findOver_23 v1 K10 K23 v2 m) : gh_T E (gh_yFacts_findOver.cls, prog_4_method_11_code, 4, false, 9) (d + 3) 23 [(0, 2, 20), (1, 0, v1), (2, 0, v2)] [] m (fun r m1 => gh_F m1 ∧ Q r m1) := by
  have hK23 := hK
  unfold f_Facts_findOver_23 at h
  refine gh_iload_n gd_Facts_findOver_23 2 rfl ?_
  refine gh_aload_n gd_Facts_findOver_24 0 rfl (by decide) ?_
  refine gf_20_0 gd_Facts_findOver_25 gh_k319 hF ?_
  refine gf_13_6 gd_Facts_findOver_28 gh_k285 hF ?_
  refine gh_iload_n gd_Facts_findOver_31 1 rfl ?_
  obtain ⟨q849, h⟩ := h
  obtain ⟨q850, h⟩ := h
  refine la_17 gd_Facts_findOver_32 hF q849 q850 rfl ?_
  obtain ⟨hA, hB⟩ := h
  refine gh_jge (tgt := 87) gd_Facts_findOver_33 (by decide) (fun c851 => ?_) (fun c851 => ?_)
  · have h := hA c851
    refine gh_aload_n gd_Facts_findOver_36 0 rfl (by decide) ?_
    refine gf_20_0 gd_Facts_findOver_37 gh_k319 hF ?_
    refine gh_iload_n gd_Facts_findOver_40 1 rfl ?_
    refine gh_iload_n gd_Facts_findOver_41 2 rfl ?_
    obtain ⟨q852, h⟩ := h
    refine cv_Grammar_nameAt (d := d + 2) gd_Facts_findOver_42 gh_k869 hF (Nat.le_of_ble_eq_true rfl) (gh_C.pe (e_Grammar_nameAt (d + 1) v1 v2 hF q852) ?_)
    refine gh_name (fun v3 hn => ?_)
    have h := h v3 hn
    refine gh_istore_n (L2 := [(3, 0, v3), (0, 2, 20), (1, 0, v1), (2, 0, v2)]) gd_Facts_findOver_45 (by decide) rfl ?_
    refine gh_iload_n gd_Facts_findOver_46 0 rfl ?_
    refine gh_iconst gd_Facts_findOver_47 (gh_r0 rfl) ?_
    obtain ⟨J81, hJ81, h⟩ := h
    have hJ81 : ∀ (m : gh_M), gh_F m → J81 m → gh_T E (gh_yFacts_findOver.cls, prog_4_method_11_code, 4, false, 9) (d + 3) 81 [(0, 2, 20), (1, 0, v1), (2, 0, v2)] [] m (fun r m1 => gh_F m1 ∧ Q r m1) := by
      intro m hF hj
      have h := hJ81 m hj
      obtain ⟨q853, h⟩ := h
      refine gh_iinc (L2 := [(2, 0, v2 + 1), (0, 2, 20), (1, 0, v1)]) gd_Facts_findOver_81 2 rfl q853 (by decide) rfl ?_
      refine gh_goto (tgt := 23) gd_Facts_findOver_84 (by decide) ?_
      refine gh_pick (L2 := [(0, 2, 20), (1, 0, v1), (2, 0, v2 + 1)]) [1, 2, 0] rfl ?_
      exact hK23 (v2 + 1) m hF h
    obtain ⟨hA, hB⟩ := h
    refine gh_jeq (tgt := 81) gd_Facts_findOver_48 (by decide) (fun c854 => ?_) (fun c854 => ?_)
    · have h := hA c854
      refine gh_pick (L2 := [(0, 2, 20), (1, 0, v1), (2, 0, v2)]) [1, 2, 3] rfl ?_
      exact hJ81 m hF h
    · have h := hB c854
      refine gh_aload_n gd_Facts_findOver_51 1 rfl (by decide) ?_
      refine gh_iload_n gd_Facts_findOver_52 2 rfl ?_
      refine gh_iconst gd_Facts_findOver_53 (gh_r0 rfl) ?_
      refine gh_iload_n gd_Facts_findOver_54 3 rfl ?_
      refine cv_Facts_isEmptyRow (d := d + 2) gd_Facts_findOver_55 gh_k865 hF (Nat.le_of_ble_eq_true rfl) (gh_C.pw (s_Facts_isEmptyRow d v1 0 v2 hF h) (fun r855 h => ?_))
      obtain ⟨hA, hB⟩ := h
      refine gh_zeq (tgt := 81) gd_Facts_findOver_58 (by decide) (fun c857 => ?_) (fun c857 => ?_)
      · have h := hA c857
        refine gh_pick (L2 := [(0, 2, 20), (1, 0, v1), (2, 0, v2)]) [1, 2, 3] rfl ?_
        exact hJ81 m hF h
      · have h := hB c857
        refine gh_aload_n gd_Facts_findOver_61 1 rfl (by decide) ?_
        refine gf_20_9 gd_Facts_findOver_62 gh_k341 hF ?_
        refine gh_aload_n gd_Facts_findOver_65 1 rfl (by decide) ?_
        refine gf_20_0 gd_Facts_findOver_66 gh_k319 hF ?_
        refine gf_13_5 gd_Facts_findOver_69 gh_k280 hF ?_
        refine gh_iload_n gd_Facts_findOver_72 2 rfl ?_
        obtain ⟨q858, h⟩ := h
        obtain ⟨q859, h⟩ := h
        refine la_16 gd_Facts_findOver_73 hF q858 q859 rfl ?_
        refine gh_dup2 gd_Facts_findOver_74 (by decide) (by decide) ?_
        obtain ⟨q860, h⟩ := h
        obtain ⟨q861, h⟩ := h
        refine la_24 gd_Facts_findOver_75 hF q860 q861 rfl ?_
        refine gh_iconst gd_Facts_findOver_76 (gh_r0 rfl) ?_
        refine gh_iload_n gd_Facts_findOver_77 0 rfl ?_
        refine gh_ishl gd_Facts_findOver_78 ?_
        refine gh_ior gd_Facts_findOver_79 ?_
        obtain ⟨q862, h⟩ := h
        obtain ⟨q863, h⟩ := h
        refine sa_24 gd_Facts_findOver_80 hF q862 q863 (fun hF => ?_)
        refine gh_pick (L2 := [(0, 2, 20), (1, 0, v1), (2, 0, v2)]) [1, 2, 3] rfl ?_
        exact hJ81 (gh_u m 24 (m 16 v1) (gh_ior_f (m 24 (m 16 v1)) (gh_ishl_f 1 v3))) hF h
  · have h := hB c851
    obtain ⟨q864, h⟩ := h
    refine gh_iinc (L2 := [(1, 0, v1 + 1), (0, 2, 20), (2, 0, v2)]) gd_Facts_findOver_87 1 rfl q864 (by decide) rfl ?_
    refine gh_goto (tgt := 10) gd_Facts_findOver_90 (by decide) ?_
    refine gh_pick (L2 := [(0, 2, 20), (1, 0, v1 + 1)]) [1, 0] rfl ?_
    exact hK10 (v1 + 1) m hF h
theorem b_Facts_findOver_10 {E : gh_E} {Q : Int → gh_M → Prop} {K10 : Int → gh_M → Prop} (d : Nat) (hK : ∀ (v1 : Int) (m : gh_M), gh_F m → K10 v1 m → gh_T E (gh_yFacts_findOver.cls, prog_4_method_11_code, 4, false, 9) (d + 3) 10 [(0, 2, 20), (1, 0, v1)] [] m (fun r m1 => gh_F m1 ∧ Q r m1)) (v1 : Int) (m : gh_M) (hF : gh_F m) (h : f_Facts_findOver_10 Q K10 v1 m) : gh_T E (gh_yFacts_findOver.cls, prog_4_method_11_code, 4, false, 9) (d + 3) 10 [(0, 2, 20), (1, 0, v1)] [] m (fun r m1 => gh_F m1 ∧ Q r m1) := by
  have hK10 := hK
  unfold f_Facts_findOver_10 at h
  refine gh_iload_n gd_Facts_findOver_10 1 rfl ?_
  refine gh_aload_n gd_Facts_findOver_11 0 rfl (by decide) ?_
  refine gf_20_0 gd_Facts_findOver_12 gh_k319 hF ?_
  refine gf_13_2 gd_Facts_findOver_15 gh_k265 hF rfl ?_
  obtain ⟨hA, hB⟩ := h
  refine gh_jge (tgt := 93) gd_Facts_findOver_18 (by decide) (fun c848 => ?_) (fun c848 => ?_)
  · have h := hA c848
    refine gh_iconst gd_Facts_findOver_21 (gh_r0 rfl) ?_
    refine gh_istore_n (L2 := [(2, 0, 0), (0, 2, 20), (1, 0, v1)]) gd_Facts_findOver_22 (by decide) rfl ?_
    refine gh_pick (L2 := [(0, 2, 20), (1, 0, v1), (2, 0, 0)]) [1, 2, 0] rfl ?_
    exact gh_M1_sound (T := fun v2 m => gh_T E (gh_yFacts_findOver.cls, prog_4_method_11_code, 4, false, 9) (d + 3) 23 [(0, 2, 20), (1, 0, v1), (2, 0, v2)] [] m (fun r m1 => gh_F m1 ∧ Q r m1)) (fun _ m => gh_F m) (fun K23 v2 m hK hF h => b_Facts_findOver_23 d hK10 hK v2 m hF h) 0 m hF h
  · have h := hB c848
    refine gh_aload_n gd_Facts_findOver_93 0 rfl (by decide) ?_
    refine gf_20_9 gd_Facts_findOver_94 gh_k341 hF ?_
    refine gh_aload_n gd_Facts_findOver_97 0 rfl (by decide) ?_
    refine gf_20_0 gd_Facts_findOver_98 gh_k319 hF ?_
    refine gf_13_1 gd_Facts_findOver_101 gh_k258 hF rfl ?_
    refine cv_Facts_closeOver (d := d + 2) gd_Facts_findOver_104 gh_k911 (Nat.le_of_ble_eq_true rfl) (gh_C.mono (s_Facts_closeOver_24 (d + 2) (m 13 1) hF h) (fun r865 m866 hq => ?_))
    obtain ⟨hF, h⟩ := hq
    exact gh_ret9 rfl gd_Facts_findOver_107 ⟨hF, h⟩
theorem s_Facts_findOver {E : gh_E} {m : gh_M} {Q : Int → gh_M → Prop} (d : Nat) (hF : gh_F m) (h : w_Facts_findOver m Q) : gh_C E gh_yFacts_findOver prog_4_method_11_code 4 none 9 (d + 3) [(2, 20)] m (fun r m1 => gh_F m1 ∧ Q r m1) := by
  refine gh_enter2 (L := [(0, 2, 20)]) (by decide +kernel) gh_rt9 (Nat.le_of_ble_eq_true rfl) rfl rfl ?_
  unfold w_Facts_findOver at h
  refine gh_aload_n gd_Facts_findOver_0 0 rfl (by decide) ?_
  refine gf_20_9 gd_Facts_findOver_1 gh_k341 hF ?_
  refine gh_iconst gd_Facts_findOver_4 (gh_r0 rfl) ?_
  refine gh_fillF (d := d + 2) gd_Facts_findOver_5 gh_k886 (ga_24 hF) (Nat.le_of_ble_eq_true rfl) hF gn_24 (by decide) (fun hF => ?_)
  refine gh_iconst gd_Facts_findOver_8 (gh_r0 rfl) ?_
  refine gh_istore_n (L2 := [(1, 0, 0), (0, 2, 20)]) gd_Facts_findOver_9 (by decide) rfl ?_
  refine gh_pick (L2 := [(0, 2, 20), (1, 0, 0)]) [1, 0] rfl ?_
  exact gh_M1_sound (T := fun v1 m => gh_T E (gh_yFacts_findOver.cls, prog_4_method_11_code, 4, false, 9) (d + 3) 10 [(0, 2, 20), (1, 0, v1)] [] m (fun r m1 => gh_F m1 ∧ Q r m1)) (fun _ m => gh_F m) (fun K10 v1 m hK hF h => b_Facts_findOver_10 d hK v1 m hF h) 0 (gh_fil m 24 8 0) hF h
def f_Facts_firstOfRow_5 (v1 : Int) (Q : Int → Prop) (m : gh_M) (K5 : Int → Int → Prop) (v3 : Int) (v4 : Int) : Prop := 0 ≤ v1 ∧ v1 < 20 ∧ ((v4 < (m 17 v1) → k_Grammar_nameAt v1 v4 m ∧ ∀ v5 : Int, v5 = x_Grammar_nameAt v1 v4 m → (((v5 = (-1)) → (k_Grammar_partAt v1 v4 m)) ∧ (¬ (v5 = (-1)) → (0 ≤ v5 ∧ v5 < 8))) ∧ ∀ v3' : Int, v3' = gh_ior_f v3 (if v5 = (-1) then (x_Grammar_partAt v1 v4 m) else (m 22 v5)) → ((v5 = (-1) → Q v3') ∧ (¬ (v5 = (-1)) → (((gh_iand_f (gh_ishr_f (m 20 1) v5) 1) = 0 → Q v3') ∧ (¬ ((gh_iand_f (gh_ishr_f (m 20 1) v5) 1) = 0) → gh_i (v4 + 1) ∧ K5 v3' (v4 + 1)))))) ∧ (¬ (v4 < (m 17 v1)) → Q v3))
def w_Facts_firstOfRow (v1 : Int) (v2 : Int) (m : gh_M) (Q : Int → Prop) : Prop := gh_L2 (fun K5 v3 v4 => f_Facts_firstOfRow_5 v1 Q m K5 v3 v4) 0 v2
theorem b_Facts_firstOfRow_5 {E : gh_E} {v1 : Int} {Q : Int → Prop} {K5 : Int → Int → Prop} (d : Nat) {m : gh_M} (hK : ∀ (v3 : Int) (v4 : Int), gh_F m → K5 v3 v4 → gh_T E (gh_yFacts_firstOfRow.cls, prog_4_method_14_code, 6, false, 0) (d + 2) 5 [(0, 2, 20), (1, 0, v1), (3, 0, v3), (4, 0, v4)] [] m (fun r m1 => m1 = m ∧ Q r)) (v3 : Int) (v4 : Int) (hF : gh_F m) (h : f_Facts_firstOfRow_5 v1 Q m K5 v3 v4) : gh_T E (gh_yFacts_firstOfRow.cls, prog_4_method_14_code, 6, false, 0) (d + 2) 5 [(0, 2, 20), (1, 0, v1), (3, 0, v3), (4, 0, v4)] [] m (fun r m1 => m1 = m ∧ Q r) := by
  have hK5 := hK
  unfold f_Facts_firstOfRow_5 at h
  refine gh_iload gd_Facts_firstOfRow_5 3 rfl ?_
  refine gh_aload_n gd_Facts_firstOfRow_7 0 rfl (by decide) ?_
  refine gf_20_0 gd_Facts_firstOfRow_8 gh_k319 hF ?_
  refine gf_13_6 gd_Facts_firstOfRow_11 gh_k285 hF ?_
  refine gh_iload_n gd_Facts_firstOfRow_14 1 rfl ?_
  obtain ⟨q880, h⟩ := h
  obtain ⟨q881, h⟩ := h
  refine la_17 gd_Facts_firstOfRow_15 hF q880 q881 rfl ?_
  obtain ⟨hA, hB⟩ := h
  refine gh_jge (tgt := 87) gd_Facts_firstOfRow_16 (by decide) (fun c882 => ?_) (fun c882 => ?_)
  · have h := hA c882
    refine gh_aload_n gd_Facts_firstOfRow_19 0 rfl (by decide) ?_
    refine gf_20_0 gd_Facts_firstOfRow_20 gh_k319 hF ?_
    refine gh_iload_n gd_Facts_firstOfRow_23 1 rfl ?_
    refine gh_iload gd_Facts_firstOfRow_24 3 rfl ?_
    obtain ⟨q883, h⟩ := h
    refine cv_Grammar_nameAt (d := d + 1) gd_Facts_firstOfRow_26 gh_k869 hF (Nat.le_of_ble_eq_true rfl) (gh_C.pe (e_Grammar_nameAt d v1 v4 hF q883) ?_)
    refine gh_name (fun v5 hn => ?_)
    have h := h v5 hn
    refine gh_istore (L2 := [(5, 0, v5), (0, 2, 20), (1, 0, v1), (3, 0, v3), (4, 0, v4)]) gd_Facts_firstOfRow_29 (by decide) rfl ?_
    refine gh_iload_n gd_Facts_firstOfRow_31 3 rfl ?_
    refine gh_iload gd_Facts_firstOfRow_32 0 rfl ?_
    refine gh_iconst gd_Facts_firstOfRow_34 (gh_r0 rfl) ?_
    obtain ⟨hk, h⟩ := h
    have k887 : ∀ x888 : Int, x888 = (if v5 = (-1) then (x_Grammar_partAt v1 v4 m) else (m 22 v5)) → gh_T E (gh_yFacts_firstOfRow.cls, prog_4_method_14_code, 6, false, 0) (d + 2) 58 [(5, 0, v5), (0, 2, 20), (1, 0, v1), (3, 0, v3), (4, 0, v4)] [(0, x888), (0, v3)] m (fun r m1 => m1 = m ∧ Q r) := by
      rintro _ rfl
      refine gh_ior gd_Facts_firstOfRow_58 ?_
      refine gh_name (fun v3' hn => ?_)
      have h := h v3' hn
      refine gh_istore_n (L2 := [(3, 0, v3'), (5, 0, v5), (0, 2, 20), (1, 0, v1), (4, 0, v4)]) gd_Facts_firstOfRow_59 (by decide) rfl ?_
      refine gh_iload gd_Facts_firstOfRow_60 1 rfl ?_
      refine gh_iconst gd_Facts_firstOfRow_62 (gh_r0 rfl) ?_
      obtain ⟨hA, hB⟩ := h
      refine gh_jeq (tgt := 87) gd_Facts_firstOfRow_63 (by decide) (fun c889 => ?_) (fun c889 => ?_)
      · have h := hA c889
        refine gh_iload_n gd_Facts_firstOfRow_87 0 rfl ?_
        exact gh_ret0 rfl gd_Facts_firstOfRow_88 ⟨rfl, h⟩
      · have h := hB c889
        refine gh_aload_n gd_Facts_firstOfRow_66 2 rfl (by decide) ?_
        refine gf_20_1 gd_Facts_firstOfRow_67 gh_k321 hF rfl ?_
        refine gh_iload gd_Facts_firstOfRow_70 1 rfl ?_
        refine gh_ishr gd_Facts_firstOfRow_72 ?_
        refine gh_iconst gd_Facts_firstOfRow_73 (gh_r0 rfl) ?_
        refine gh_iand gd_Facts_firstOfRow_74 ?_
        obtain ⟨hA, hB⟩ := h
        refine gh_zne (tgt := 81) gd_Facts_firstOfRow_75 (by decide) (fun c890 => ?_) (fun c890 => ?_)
        · have h := hA c890
          refine gh_goto (tgt := 87) gd_Facts_firstOfRow_78 (by decide) ?_
          refine gh_iload_n gd_Facts_firstOfRow_87 0 rfl ?_
          exact gh_ret0 rfl gd_Facts_firstOfRow_88 ⟨rfl, h⟩
        · have h := hB c890
          obtain ⟨q891, h⟩ := h
          refine gh_iinc (L2 := [(4, 0, v4 + 1), (3, 0, v3'), (5, 0, v5), (0, 2, 20), (1, 0, v1)]) gd_Facts_firstOfRow_81 4 rfl q891 (by decide) rfl ?_
          refine gh_goto (tgt := 5) gd_Facts_firstOfRow_84 (by decide) ?_
          refine gh_pick (L2 := [(0, 2, 20), (1, 0, v1), (3, 0, v3'), (4, 0, v4 + 1)]) [3, 4, 1, 0] rfl ?_
          exact hK5 v3' (v4 + 1) hF h
    refine gh_jne (tgt := 51) gd_Facts_firstOfRow_35 (by decide) (fun c892 => ?_) (fun c892 => ?_)
    · have hz : True := trivial
      have hk := hk.1 c892
      refine gh_aload_n gd_Facts_firstOfRow_38 1 rfl (by decide) ?_
      refine gf_20_0 gd_Facts_firstOfRow_39 gh_k319 hF ?_
      refine gh_iload_n gd_Facts_firstOfRow_42 2 rfl ?_
      refine gh_iload gd_Facts_firstOfRow_43 4 rfl ?_
      have q884 := hk
      refine cv_Grammar_partAt (d := d + 1) gd_Facts_firstOfRow_45 gh_k926 hF (Nat.le_of_ble_eq_true rfl) (gh_C.pe (e_Grammar_partAt (d + 1) v1 v4 hF q884) ?_)
      refine gh_goto (tgt := 58) gd_Facts_firstOfRow_48 (by decide) ?_
      exact k887 _ (by rw [if_pos c892])
    · have hz : True := trivial
      have hk := hk.2 c892
      refine gh_aload_n gd_Facts_firstOfRow_51 1 rfl (by decide) ?_
      refine gf_20_7 gd_Facts_firstOfRow_52 gh_k337 hF ?_
      refine gh_iload gd_Facts_firstOfRow_55 0 rfl ?_
      obtain ⟨q885, hk⟩ := hk
      have q886 := hk
      refine la_22 gd_Facts_firstOfRow_57 hF q885 q886 rfl ?_
      exact k887 _ (by rw [if_neg c892])
  · have h := hB c882
    refine gh_iload_n gd_Facts_firstOfRow_87 2 rfl ?_
    exact gh_ret0 rfl gd_Facts_firstOfRow_88 ⟨rfl, h⟩
theorem s_Facts_firstOfRow {E : gh_E} {m : gh_M} {Q : Int → Prop} (d : Nat) (v1 : Int) (v2 : Int) (hF : gh_F m) (h : w_Facts_firstOfRow v1 v2 m Q) : gh_C E gh_yFacts_firstOfRow prog_4_method_14_code 6 (some .int) 0 (d + 2) [(2, 20), (0, v1), (0, v2)] m (fun r m1 => m1 = m ∧ Q r) := by
  refine gh_enter2 (L := [(0, 2, 20), (1, 0, v1), (2, 0, v2)]) (by decide +kernel) gh_rt0 (Nat.le_of_ble_eq_true rfl) rfl rfl ?_
  unfold w_Facts_firstOfRow at h
  refine gh_iconst gd_Facts_firstOfRow_0 (gh_r0 rfl) ?_
  refine gh_istore_n (L2 := [(3, 0, 0), (0, 2, 20), (1, 0, v1), (2, 0, v2)]) gd_Facts_firstOfRow_1 (by decide) rfl ?_
  refine gh_iload_n gd_Facts_firstOfRow_2 3 rfl ?_
  refine gh_istore (L2 := [(4, 0, v2), (3, 0, 0), (0, 2, 20), (1, 0, v1), (2, 0, v2)]) gd_Facts_firstOfRow_3 (by decide) rfl ?_
  refine gh_pick (L2 := [(0, 2, 20), (1, 0, v1), (3, 0, 0), (4, 0, v2)]) [2, 3, 1, 0] rfl ?_
  exact gh_L2_sound (T := fun v3 v4 => gh_T E (gh_yFacts_firstOfRow.cls, prog_4_method_14_code, 6, false, 0) (d + 2) 5 [(0, 2, 20), (1, 0, v1), (3, 0, v3), (4, 0, v4)] [] m (fun r m1 => m1 = m ∧ Q r)) (fun _ _ => gh_F m) (fun K5 v3 v4 hK hF h => b_Facts_firstOfRow_5 d hK v3 v4 hF h) 0 v2 hF h
def f_Facts_findFirst_23 (v1 : Int) (K10 : Int → gh_M → Prop) (K23 : Int → gh_M → Prop) (v2 : Int) (m : gh_M) : Prop := ((v2 < (m 13 2) → ∃ J65 : gh_M → Prop, (∀ (m : gh_M), J65 m → gh_i (v2 + 1) ∧ K23 (v2 + 1) m) ∧ ((p_Facts_isUsefulRule v2 m → 0 ≤ v2 ∧ v2 < 20 ∧ 0 ≤ m 16 v2 ∧ (m 16 v2) < 8 ∧ w_Facts_firstOfRow v2 0 m (fun r901 => 0 ≤ m 16 v2 ∧ (m 16 v2) < 8 ∧ J65 (gh_u m 22 (m 16 v2) (gh_ior_f (m 22 (m 16 v2)) r901)))) ∧ (¬ (p_Facts_isUsefulRule v2 m) → J65 m))) ∧ (¬ (v2 < (m 13 2)) → gh_i (v1 + 1) ∧ K10 (v1 + 1) m))
def f_Facts_findFirst_10 (Q : Int → gh_M → Prop) (K10 : Int → gh_M → Prop) (v1 : Int) (m : gh_M) : Prop := ((v1 < (m 13 1) → gh_M1 (fun K23 v2 m => f_Facts_findFirst_23 v1 K10 K23 v2 m) 0 m) ∧ (¬ (v1 < (m 13 1)) → Q 0 m))
def w_Facts_findFirst (m : gh_M) (Q : Int → gh_M → Prop) : Prop := gh_M1 (fun K10 v1 m => f_Facts_findFirst_10 Q K10 v1 m) 0 (gh_fil m 22 8 0)
theorem b_Facts_findFirst_23 {E : gh_E} {v1 : Int} {K10 : Int → gh_M → Prop} {Q : Int → gh_M → Prop} {K23 : Int → gh_M → Prop} (d : Nat) (hK10 : ∀ (v1 : Int) (m : gh_M), gh_F m → K10 v1 m → gh_T E (gh_yFacts_findFirst.cls, prog_4_method_13_code, 3, false, 9) (d + 3) 10 [(0, 2, 20), (1, 0, v1)] [] m (fun r m1 => gh_F m1 ∧ Q r m1)) (hK : ∀ (v2 : Int) (m : gh_M), gh_F m → K23 v2 m → gh_T E (gh_yFacts_findFirst.cls, prog_4_method_13_code, 3, false, 9) (d + 3) 23 [(0, 2, 20), (1, 0, v1), (2, 0, v2)] [] m (fun r m1 => gh_F m1 ∧ Q r m1)) (v2 : Int) (m : gh_M) (hF : gh_F m) (h : f_Facts_findFirst_23 v1 K10 K23 v2 m) : gh_T E (gh_yFacts_findFirst.cls, prog_4_method_13_code, 3, false, 9) (d + 3) 23 [(0, 2, 20), (1, 0, v1), (2, 0, v2)] [] m (fun r m1 => gh_F m1 ∧ Q r m1) := by
  have hK23 := hK
  unfold f_Facts_findFirst_23 at h
  refine gh_iload_n gd_Facts_findFirst_23 2 rfl ?_
  refine gh_aload_n gd_Facts_findFirst_24 0 rfl (by decide) ?_
  refine gf_20_0 gd_Facts_findFirst_25 gh_k319 hF ?_
  refine gf_13_2 gd_Facts_findFirst_28 gh_k265 hF rfl ?_
  obtain ⟨hA, hB⟩ := h
  refine gh_jge (tgt := 71) gd_Facts_findFirst_31 (by decide) (fun c894 => ?_) (fun c894 => ?_)
  · have h := hA c894
    refine gh_aload_n gd_Facts_findFirst_34 0 rfl (by decide) ?_
    refine gh_iload_n gd_Facts_findFirst_35 2 rfl ?_
    refine cv_Facts_isUsefulRule (d := d + 2) gd_Facts_findFirst_36 gh_k918 hF (Nat.le_of_ble_eq_true rfl) (gh_C.pe (e_Facts_isUsefulRule (d + 2) v2 hF) ?_)
    obtain ⟨J65, hJ65, h⟩ := h
    have hJ65 : ∀ (m : gh_M), gh_F m → J65 m → gh_T E (gh_yFacts_findFirst.cls, prog_4_method_13_code, 3, false, 9) (d + 3) 65 [(0, 2, 20), (1, 0, v1), (2, 0, v2)] [] m (fun r m1 => gh_F m1 ∧ Q r m1) := by
      intro m hF hj
      have h := hJ65 m hj
      obtain ⟨q895, h⟩ := h
      refine gh_iinc (L2 := [(2, 0, v2 + 1), (0, 2, 20), (1, 0, v1)]) gd_Facts_findFirst_65 2 rfl q895 (by decide) rfl ?_
      refine gh_goto (tgt := 23) gd_Facts_findFirst_68 (by decide) ?_
      refine gh_pick (L2 := [(0, 2, 20), (1, 0, v1), (2, 0, v2 + 1)]) [1, 2, 0] rfl ?_
      exact hK23 (v2 + 1) m hF h
    obtain ⟨hA, hB⟩ := h
    refine gh_beq (tgt := 65) gd_Facts_findFirst_39 (by decide) (fun c896 => ?_) (fun c896 => ?_)
    · have h := hA c896
      refine gh_aload_n gd_Facts_findFirst_42 0 rfl (by decide) ?_
      refine gf_20_7 gd_Facts_findFirst_43 gh_k337 hF ?_
      refine gh_aload_n gd_Facts_findFirst_46 0 rfl (by decide) ?_
      refine gf_20_0 gd_Facts_findFirst_47 gh_k319 hF ?_
      refine gf_13_5 gd_Facts_findFirst_50 gh_k280 hF ?_
      refine gh_iload_n gd_Facts_findFirst_53 2 rfl ?_
      obtain ⟨q897, h⟩ := h
      obtain ⟨q898, h⟩ := h
      refine la_16 gd_Facts_findFirst_54 hF q897 q898 rfl ?_
      refine gh_dup2 gd_Facts_findFirst_55 (by decide) (by decide) ?_
      obtain ⟨q899, h⟩ := h
      obtain ⟨q900, h⟩ := h
      refine la_22 gd_Facts_findFirst_56 hF q899 q900 rfl ?_
      refine gh_aload_n gd_Facts_findFirst_57 0 rfl (by decide) ?_
      refine gh_iload_n gd_Facts_findFirst_58 2 rfl ?_
      refine gh_iconst gd_Facts_findFirst_59 (gh_r0 rfl) ?_
      refine cv_Facts_firstOfRow (d := d + 2) gd_Facts_findFirst_60 gh_k922 hF (Nat.le_of_ble_eq_true rfl) (gh_C.pw (s_Facts_firstOfRow d v2 0 hF h) (fun r901 h => ?_))
      refine gh_ior gd_Facts_findFirst_63 ?_
      obtain ⟨q903, h⟩ := h
      obtain ⟨q904, h⟩ := h
      refine sa_22 gd_Facts_findFirst_64 hF q903 q904 (fun hF => ?_)
      exact hJ65 (gh_u m 22 (m 16 v2) (gh_ior_f (m 22 (m 16 v2)) r901)) hF h
    · have h := hB c896
      exact hJ65 m hF h
  · have h := hB c894
    obtain ⟨q905, h⟩ := h
    refine gh_iinc (L2 := [(1, 0, v1 + 1), (0, 2, 20), (2, 0, v2)]) gd_Facts_findFirst_71 1 rfl q905 (by decide) rfl ?_
    refine gh_goto (tgt := 10) gd_Facts_findFirst_74 (by decide) ?_
    refine gh_pick (L2 := [(0, 2, 20), (1, 0, v1 + 1)]) [1, 0] rfl ?_
    exact hK10 (v1 + 1) m hF h
theorem b_Facts_findFirst_10 {E : gh_E} {Q : Int → gh_M → Prop} {K10 : Int → gh_M → Prop} (d : Nat) (hK : ∀ (v1 : Int) (m : gh_M), gh_F m → K10 v1 m → gh_T E (gh_yFacts_findFirst.cls, prog_4_method_13_code, 3, false, 9) (d + 3) 10 [(0, 2, 20), (1, 0, v1)] [] m (fun r m1 => gh_F m1 ∧ Q r m1)) (v1 : Int) (m : gh_M) (hF : gh_F m) (h : f_Facts_findFirst_10 Q K10 v1 m) : gh_T E (gh_yFacts_findFirst.cls, prog_4_method_13_code, 3, false, 9) (d + 3) 10 [(0, 2, 20), (1, 0, v1)] [] m (fun r m1 => gh_F m1 ∧ Q r m1) := by
  have hK10 := hK
  unfold f_Facts_findFirst_10 at h
  refine gh_iload_n gd_Facts_findFirst_10 1 rfl ?_
  refine gh_aload_n gd_Facts_findFirst_11 0 rfl (by decide) ?_
  refine gf_20_0 gd_Facts_findFirst_12 gh_k319 hF ?_
  refine gf_13_1 gd_Facts_findFirst_15 gh_k258 hF rfl ?_
  obtain ⟨hA, hB⟩ := h
  refine gh_jge (tgt := 77) gd_Facts_findFirst_18 (by decide) (fun c893 => ?_) (fun c893 => ?_)
  · have h := hA c893
    refine gh_iconst gd_Facts_findFirst_21 (gh_r0 rfl) ?_
    refine gh_istore_n (L2 := [(2, 0, 0), (0, 2, 20), (1, 0, v1)]) gd_Facts_findFirst_22 (by decide) rfl ?_
    refine gh_pick (L2 := [(0, 2, 20), (1, 0, v1), (2, 0, 0)]) [1, 2, 0] rfl ?_
    exact gh_M1_sound (T := fun v2 m => gh_T E (gh_yFacts_findFirst.cls, prog_4_method_13_code, 3, false, 9) (d + 3) 23 [(0, 2, 20), (1, 0, v1), (2, 0, v2)] [] m (fun r m1 => gh_F m1 ∧ Q r m1)) (fun _ m => gh_F m) (fun K23 v2 m hK hF h => b_Facts_findFirst_23 d hK10 hK v2 m hF h) 0 m hF h
  · have h := hB c893
    exact gh_ret9 rfl gd_Facts_findFirst_77 ⟨hF, h⟩
theorem s_Facts_findFirst {E : gh_E} {m : gh_M} {Q : Int → gh_M → Prop} (d : Nat) (hF : gh_F m) (h : w_Facts_findFirst m Q) : gh_C E gh_yFacts_findFirst prog_4_method_13_code 3 none 9 (d + 3) [(2, 20)] m (fun r m1 => gh_F m1 ∧ Q r m1) := by
  refine gh_enter2 (L := [(0, 2, 20)]) (by decide +kernel) gh_rt9 (Nat.le_of_ble_eq_true rfl) rfl rfl ?_
  unfold w_Facts_findFirst at h
  refine gh_aload_n gd_Facts_findFirst_0 0 rfl (by decide) ?_
  refine gf_20_7 gd_Facts_findFirst_1 gh_k337 hF ?_
  refine gh_iconst gd_Facts_findFirst_4 (gh_r0 rfl) ?_
  refine gh_fillF (d := d + 2) gd_Facts_findFirst_5 gh_k886 (ga_22 hF) (Nat.le_of_ble_eq_true rfl) hF gn_22 (by decide) (fun hF => ?_)
  refine gh_iconst gd_Facts_findFirst_8 (gh_r0 rfl) ?_
  refine gh_istore_n (L2 := [(1, 0, 0), (0, 2, 20)]) gd_Facts_findFirst_9 (by decide) rfl ?_
  refine gh_pick (L2 := [(0, 2, 20), (1, 0, 0)]) [1, 0] rfl ?_
  exact gh_M1_sound (T := fun v1 m => gh_T E (gh_yFacts_findFirst.cls, prog_4_method_13_code, 3, false, 9) (d + 3) 10 [(0, 2, 20), (1, 0, v1)] [] m (fun r m1 => gh_F m1 ∧ Q r m1)) (fun _ m => gh_F m) (fun K10 v1 m hK hF h => b_Facts_findFirst_10 d hK v1 m hF h) 0 (gh_fil m 22 8 0) hF h
def f_Facts_followInRow_2 (v1 : Int) (Q : Int → gh_M → Prop) (K2 : Int → gh_M → Prop) (v2 : Int) (m : gh_M) : Prop := 0 ≤ v1 ∧ v1 < 20 ∧ ((v2 < (m 17 v1) → k_Grammar_nameAt v1 v2 m ∧ ∀ v3 : Int, v3 = x_Grammar_nameAt v1 v2 m → ∃ J82 : gh_M → Prop, (∀ (m : gh_M), J82 m → gh_i (v2 + 1) ∧ K2 (v2 + 1) m) ∧ ((v3 = (-1) → J82 m) ∧ (¬ (v3 = (-1)) → 0 ≤ v3 ∧ v3 < 8 ∧ gh_i (v2 + 1) ∧ w_Facts_firstOfRow v1 (v2 + 1) m (fun r915 => 0 ≤ v3 ∧ v3 < 8 ∧ gh_i (v2 + 1) ∧ w_Facts_isEmptyRow v1 (v2 + 1) (-1) (gh_u m 23 v3 (gh_ior_f (m 23 v3) r915)) (fun r920 => ((r920 = 0 → J82 (gh_u m 23 v3 (gh_ior_f (m 23 v3) r915))) ∧ (¬ (r920 = 0) → 0 ≤ v3 ∧ v3 < 8 ∧ 0 ≤ v1 ∧ v1 < 20 ∧ 0 ≤ m 16 v1 ∧ (m 16 v1) < 8 ∧ 0 ≤ v3 ∧ v3 < 8 ∧ J82 (gh_u (gh_u m 23 v3 (gh_ior_f (m 23 v3) r915)) 23 v3 (gh_ior_f ((gh_ior_f (m 23 v3) r915)) ((gh_u m 23 v3 (gh_ior_f (m 23 v3) r915)) 23 (m 16 v1))))))))))) ∧ (¬ (v2 < (m 17 v1)) → Q 0 m))
def w_Facts_followInRow (v1 : Int) (m : gh_M) (Q : Int → gh_M → Prop) : Prop := gh_M1 (fun K2 v2 m => f_Facts_followInRow_2 v1 Q K2 v2 m) 0 m
theorem b_Facts_followInRow_2 {E : gh_E} {v1 : Int} {Q : Int → gh_M → Prop} {K2 : Int → gh_M → Prop} (d : Nat) (hK : ∀ (v2 : Int) (m : gh_M), gh_F m → K2 v2 m → gh_T E (gh_yFacts_followInRow.cls, prog_4_method_16_code, 4, false, 9) (d + 3) 2 [(0, 2, 20), (1, 0, v1), (2, 0, v2)] [] m (fun r m1 => gh_F m1 ∧ Q r m1)) (v2 : Int) (m : gh_M) (hF : gh_F m) (h : f_Facts_followInRow_2 v1 Q K2 v2 m) : gh_T E (gh_yFacts_followInRow.cls, prog_4_method_16_code, 4, false, 9) (d + 3) 2 [(0, 2, 20), (1, 0, v1), (2, 0, v2)] [] m (fun r m1 => gh_F m1 ∧ Q r m1) := by
  have hK2 := hK
  unfold f_Facts_followInRow_2 at h
  refine gh_iload_n gd_Facts_followInRow_2 2 rfl ?_
  refine gh_aload_n gd_Facts_followInRow_3 0 rfl (by decide) ?_
  refine gf_20_0 gd_Facts_followInRow_4 gh_k319 hF ?_
  refine gf_13_6 gd_Facts_followInRow_7 gh_k285 hF ?_
  refine gh_iload_n gd_Facts_followInRow_10 1 rfl ?_
  obtain ⟨q906, h⟩ := h
  obtain ⟨q907, h⟩ := h
  refine la_17 gd_Facts_followInRow_11 hF q906 q907 rfl ?_
  obtain ⟨hA, hB⟩ := h
  refine gh_jge (tgt := 88) gd_Facts_followInRow_12 (by decide) (fun c908 => ?_) (fun c908 => ?_)
  · have h := hA c908
    refine gh_aload_n gd_Facts_followInRow_15 0 rfl (by decide) ?_
    refine gf_20_0 gd_Facts_followInRow_16 gh_k319 hF ?_
    refine gh_iload_n gd_Facts_followInRow_19 1 rfl ?_
    refine gh_iload_n gd_Facts_followInRow_20 2 rfl ?_
    obtain ⟨q909, h⟩ := h
    refine cv_Grammar_nameAt (d := d + 2) gd_Facts_followInRow_21 gh_k869 hF (Nat.le_of_ble_eq_true rfl) (gh_C.pe (e_Grammar_nameAt (d + 1) v1 v2 hF q909) ?_)
    refine gh_name (fun v3 hn => ?_)
    have h := h v3 hn
    refine gh_istore_n (L2 := [(3, 0, v3), (0, 2, 20), (1, 0, v1), (2, 0, v2)]) gd_Facts_followInRow_24 (by decide) rfl ?_
    refine gh_iload_n gd_Facts_followInRow_25 0 rfl ?_
    refine gh_iconst gd_Facts_followInRow_26 (gh_r0 rfl) ?_
    obtain ⟨J82, hJ82, h⟩ := h
    have hJ82 : ∀ (m : gh_M), gh_F m → J82 m → gh_T E (gh_yFacts_followInRow.cls, prog_4_method_16_code, 4, false, 9) (d + 3) 82 [(0, 2, 20), (1, 0, v1), (2, 0, v2)] [] m (fun r m1 => gh_F m1 ∧ Q r m1) := by
      intro m hF hj
      have h := hJ82 m hj
      obtain ⟨q910, h⟩ := h
      refine gh_iinc (L2 := [(2, 0, v2 + 1), (0, 2, 20), (1, 0, v1)]) gd_Facts_followInRow_82 2 rfl q910 (by decide) rfl ?_
      refine gh_goto (tgt := 2) gd_Facts_followInRow_85 (by decide) ?_
      refine gh_pick (L2 := [(0, 2, 20), (1, 0, v1), (2, 0, v2 + 1)]) [1, 2, 0] rfl ?_
      exact hK2 (v2 + 1) m hF h
    obtain ⟨hA, hB⟩ := h
    refine gh_jeq (tgt := 82) gd_Facts_followInRow_27 (by decide) (fun c911 => ?_) (fun c911 => ?_)
    · have h := hA c911
      refine gh_pick (L2 := [(0, 2, 20), (1, 0, v1), (2, 0, v2)]) [1, 2, 3] rfl ?_
      exact hJ82 m hF h
    · have h := hB c911
      refine gh_aload_n gd_Facts_followInRow_30 1 rfl (by decide) ?_
      refine gf_20_8 gd_Facts_followInRow_31 gh_k339 hF ?_
      refine gh_iload_n gd_Facts_followInRow_34 0 rfl ?_
      refine gh_dup2 gd_Facts_followInRow_35 (by decide) (by decide) ?_
      obtain ⟨q912, h⟩ := h
      obtain ⟨q913, h⟩ := h
      refine la_23 gd_Facts_followInRow_36 hF q912 q913 rfl ?_
      refine gh_aload_n gd_Facts_followInRow_37 1 rfl (by decide) ?_
      refine gh_iload_n gd_Facts_followInRow_38 2 rfl ?_
      refine gh_iload_n gd_Facts_followInRow_39 3 rfl ?_
      refine gh_iconst gd_Facts_followInRow_40 (gh_r0 rfl) ?_
      obtain ⟨q914, h⟩ := h
      refine gh_iadd gd_Facts_followInRow_41 q914 ?_
      refine cv_Facts_firstOfRow (d := d + 2) gd_Facts_followInRow_42 gh_k922 hF (Nat.le_of_ble_eq_true rfl) (gh_C.pw (s_Facts_firstOfRow d v1 (v2 + 1) hF h) (fun r915 h => ?_))
      refine gh_ior gd_Facts_followInRow_45 ?_
      obtain ⟨q917, h⟩ := h
      obtain ⟨q918, h⟩ := h
      refine sa_23 gd_Facts_followInRow_46 hF q917 q918 (fun hF => ?_)
      refine gh_aload_n gd_Facts_followInRow_47 1 rfl (by decide) ?_
      refine gh_iload_n gd_Facts_followInRow_48 2 rfl ?_
      refine gh_iload_n gd_Facts_followInRow_49 3 rfl ?_
      refine gh_iconst gd_Facts_followInRow_50 (gh_r0 rfl) ?_
      obtain ⟨q919, h⟩ := h
      refine gh_iadd gd_Facts_followInRow_51 q919 ?_
      refine gh_iconst gd_Facts_followInRow_52 (gh_r0 rfl) ?_
      refine cv_Facts_isEmptyRow (d := d + 2) gd_Facts_followInRow_53 gh_k865 hF (Nat.le_of_ble_eq_true rfl) (gh_C.pw (s_Facts_isEmptyRow d v1 (v2 + 1) (-1) hF h) (fun r920 h => ?_))
      obtain ⟨hA, hB⟩ := h
      refine gh_zeq (tgt := 82) gd_Facts_followInRow_56 (by decide) (fun c922 => ?_) (fun c922 => ?_)
      · have h := hA c922
        refine gh_pick (L2 := [(0, 2, 20), (1, 0, v1), (2, 0, v2)]) [1, 2, 3] rfl ?_
        exact hJ82 (gh_u m 23 v3 (gh_ior_f (m 23 v3) r915)) hF h
      · have h := hB c922
        refine gh_aload_n gd_Facts_followInRow_59 1 rfl (by decide) ?_
        refine gf_20_8 gd_Facts_followInRow_60 gh_k339 hF ?_
        refine gh_iload_n gd_Facts_followInRow_63 0 rfl ?_
        refine gh_dup2 gd_Facts_followInRow_64 (by decide) (by decide) ?_
        obtain ⟨q923, h⟩ := h
        obtain ⟨q924, h⟩ := h
        refine la_23 gd_Facts_followInRow_65 hF q923 q924 (gh_u_s _ _ _ _) ?_
        refine gh_aload_n gd_Facts_followInRow_66 1 rfl (by decide) ?_
        refine gf_20_8 gd_Facts_followInRow_67 gh_k339 hF ?_
        refine gh_aload_n gd_Facts_followInRow_70 1 rfl (by decide) ?_
        refine gf_20_0 gd_Facts_followInRow_71 gh_k319 hF ?_
        refine gf_13_5 gd_Facts_followInRow_74 gh_k280 hF ?_
        refine gh_iload_n gd_Facts_followInRow_77 2 rfl ?_
        obtain ⟨q925, h⟩ := h
        obtain ⟨q926, h⟩ := h
        refine la_16 gd_Facts_followInRow_78 hF q925 q926 (gh_u_a (by decide)) ?_
        obtain ⟨q927, h⟩ := h
        obtain ⟨q928, h⟩ := h
        refine la_23 gd_Facts_followInRow_79 hF q927 q928 rfl ?_
        refine gh_ior gd_Facts_followInRow_80 ?_
        obtain ⟨q929, h⟩ := h
        obtain ⟨q930, h⟩ := h
        refine sa_23 gd_Facts_followInRow_81 hF q929 q930 (fun hF => ?_)
        refine gh_pick (L2 := [(0, 2, 20), (1, 0, v1), (2, 0, v2)]) [1, 2, 3] rfl ?_
        exact hJ82 (gh_u (gh_u m 23 v3 (gh_ior_f (m 23 v3) r915)) 23 v3 (gh_ior_f ((gh_ior_f (m 23 v3) r915)) ((gh_u m 23 v3 (gh_ior_f (m 23 v3) r915)) 23 (m 16 v1)))) hF h
  · have h := hB c908
    exact gh_ret9 rfl gd_Facts_followInRow_88 ⟨hF, h⟩
theorem s_Facts_followInRow {E : gh_E} {m : gh_M} {Q : Int → gh_M → Prop} (d : Nat) (v1 : Int) (hF : gh_F m) (h : w_Facts_followInRow v1 m Q) : gh_C E gh_yFacts_followInRow prog_4_method_16_code 4 none 9 (d + 3) [(2, 20), (0, v1)] m (fun r m1 => gh_F m1 ∧ Q r m1) := by
  refine gh_enter2 (L := [(0, 2, 20), (1, 0, v1)]) (by decide +kernel) gh_rt9 (Nat.le_of_ble_eq_true rfl) rfl rfl ?_
  unfold w_Facts_followInRow at h
  refine gh_iconst gd_Facts_followInRow_0 (gh_r0 rfl) ?_
  refine gh_istore_n (L2 := [(2, 0, 0), (0, 2, 20), (1, 0, v1)]) gd_Facts_followInRow_1 (by decide) rfl ?_
  refine gh_pick (L2 := [(0, 2, 20), (1, 0, v1), (2, 0, 0)]) [1, 2, 0] rfl ?_
  exact gh_M1_sound (T := fun v2 m => gh_T E (gh_yFacts_followInRow.cls, prog_4_method_16_code, 4, false, 9) (d + 3) 2 [(0, 2, 20), (1, 0, v1), (2, 0, v2)] [] m (fun r m1 => gh_F m1 ∧ Q r m1)) (fun _ m => gh_F m) (fun K2 v2 m hK hF h => b_Facts_followInRow_2 d hK v2 m hF h) 0 m hF h
def f_Facts_findFollow_38 (v1 : Int) (K25 : Int → gh_M → Prop) (K38 : Int → gh_M → Prop) (v2 : Int) (m : gh_M) : Prop := ((v2 < (m 13 2) → ∃ J81 : gh_M → Prop, (∀ (m : gh_M), J81 m → gh_i (v2 + 1) ∧ K38 (v2 + 1) m) ∧ (((p_Facts_isUsefulRule v2 m) → (0 ≤ v2 ∧ v2 < 20))) ∧ (((¬ (p_Facts_isUsefulRule v2 m) ∨ ((gh_iand_f (gh_ishr_f (m 20 4) (m 16 v2)) 1) = 0)) → J81 m) ∧ (¬ (¬ (p_Facts_isUsefulRule v2 m) ∨ ((gh_iand_f (gh_ishr_f (m 20 4) (m 16 v2)) 1) = 0)) → w_Facts_followInRow v2 m (fun _ m939 => J81 m939)))) ∧ (¬ (v2 < (m 13 2)) → gh_i (v1 + 1) ∧ K25 (v1 + 1) m))
def f_Facts_findFollow_25 (Q : Int → gh_M → Prop) (K25 : Int → gh_M → Prop) (v1 : Int) (m : gh_M) : Prop := ((v1 < (m 13 1) → gh_M1 (fun K38 v2 m => f_Facts_findFollow_38 v1 K25 K38 v2 m) 0 m) ∧ (¬ (v1 < (m 13 1)) → Q 0 m))
def w_Facts_findFollow (m : gh_M) (Q : Int → gh_M → Prop) : Prop := gh_M1 (fun K25 v1 m => f_Facts_findFollow_25 Q K25 v1 m) 0 (gh_u (gh_fil m 23 8 0) 23 0 (gh_ishl_f (gh_iand_f ((gh_fil m 23 8 0) 20 4) 1) 26))
theorem b_Facts_findFollow_38 {E : gh_E} {v1 : Int} {K25 : Int → gh_M → Prop} {Q : Int → gh_M → Prop} {K38 : Int → gh_M → Prop} (d : Nat) (hK25 : ∀ (v1 : Int) (m : gh_M), gh_F m → K25 v1 m → gh_T E (gh_yFacts_findFollow.cls, prog_4_method_15_code, 3, false, 9) (d + 4) 25 [(0, 2, 20), (1, 0, v1)] [] m (fun r m1 => gh_F m1 ∧ Q r m1)) (hK : ∀ (v2 : Int) (m : gh_M), gh_F m → K38 v2 m → gh_T E (gh_yFacts_findFollow.cls, prog_4_method_15_code, 3, false, 9) (d + 4) 38 [(0, 2, 20), (1, 0, v1), (2, 0, v2)] [] m (fun r m1 => gh_F m1 ∧ Q r m1)) (v2 : Int) (m : gh_M) (hF : gh_F m) (h : f_Facts_findFollow_38 v1 K25 K38 v2 m) : gh_T E (gh_yFacts_findFollow.cls, prog_4_method_15_code, 3, false, 9) (d + 4) 38 [(0, 2, 20), (1, 0, v1), (2, 0, v2)] [] m (fun r m1 => gh_F m1 ∧ Q r m1) := by
  have hK38 := hK
  unfold f_Facts_findFollow_38 at h
  refine gh_iload_n gd_Facts_findFollow_38 2 rfl ?_
  refine gh_aload_n gd_Facts_findFollow_39 0 rfl (by decide) ?_
  refine gf_20_0 gd_Facts_findFollow_40 gh_k319 hF ?_
  refine gf_13_2 gd_Facts_findFollow_43 gh_k265 hF rfl ?_
  obtain ⟨hA, hB⟩ := h
  refine gh_jge (tgt := 87) gd_Facts_findFollow_46 (by decide) (fun c932 => ?_) (fun c932 => ?_)
  · have h := hA c932
    refine gh_aload_n gd_Facts_findFollow_49 0 rfl (by decide) ?_
    refine gh_iload_n gd_Facts_findFollow_50 2 rfl ?_
    refine cv_Facts_isUsefulRule (d := d + 3) gd_Facts_findFollow_51 gh_k918 hF (Nat.le_of_ble_eq_true rfl) (gh_C.pe (e_Facts_isUsefulRule (d + 3) v2 hF) ?_)
    obtain ⟨J81, hJ81, h⟩ := h
    have hJ81 : ∀ (m : gh_M), gh_F m → J81 m → gh_T E (gh_yFacts_findFollow.cls, prog_4_method_15_code, 3, false, 9) (d + 4) 81 [(0, 2, 20), (1, 0, v1), (2, 0, v2)] [] m (fun r m1 => gh_F m1 ∧ Q r m1) := by
      intro m hF hj
      have h := hJ81 m hj
      obtain ⟨q933, h⟩ := h
      refine gh_iinc (L2 := [(2, 0, v2 + 1), (0, 2, 20), (1, 0, v1)]) gd_Facts_findFollow_81 2 rfl q933 (by decide) rfl ?_
      refine gh_goto (tgt := 38) gd_Facts_findFollow_84 (by decide) ?_
      refine gh_pick (L2 := [(0, 2, 20), (1, 0, v1), (2, 0, v2 + 1)]) [1, 2, 0] rfl ?_
      exact hK38 (v2 + 1) m hF h
    obtain ⟨hk, hA, hB⟩ := h
    have k936 : (¬ (p_Facts_isUsefulRule v2 m) ∨ ((gh_iand_f (gh_ishr_f (m 20 4) (m 16 v2)) 1) = 0)) → gh_T E (gh_yFacts_findFollow.cls, prog_4_method_15_code, 3, false, 9) (d + 4) 81 [(0, 2, 20), (1, 0, v1), (2, 0, v2)] [] m (fun r m1 => gh_F m1 ∧ Q r m1) := by
      intro c
      have h := hA c
      exact hJ81 m hF h
    have k937 : ¬ (¬ (p_Facts_isUsefulRule v2 m) ∨ ((gh_iand_f (gh_ishr_f (m 20 4) (m 16 v2)) 1) = 0)) → gh_T E (gh_yFacts_findFollow.cls, prog_4_method_15_code, 3, false, 9) (d + 4) 76 [(0, 2, 20), (1, 0, v1), (2, 0, v2)] [] m (fun r m1 => gh_F m1 ∧ Q r m1) := by
      intro c
      have h := hB c
      refine gh_aload_n gd_Facts_findFollow_76 0 rfl (by decide) ?_
      refine gh_iload_n gd_Facts_findFollow_77 2 rfl ?_
      refine cv_Facts_followInRow (d := d + 3) gd_Facts_findFollow_78 gh_k931 hF (Nat.le_of_ble_eq_true rfl) (gh_C.mono (s_Facts_followInRow d v2 hF h) (fun r938 m939 hq => ?_))
      obtain ⟨hF, h⟩ := hq
      exact hJ81 m939 hF h
    refine gh_beq (tgt := 81) gd_Facts_findFollow_54 (by decide) (fun c940 => ?_) (fun c940 => ?_)
    · have hz : True := trivial
      have hk := hk c940
      refine gh_aload_n gd_Facts_findFollow_57 0 rfl (by decide) ?_
      refine gf_20_4 gd_Facts_findFollow_58 gh_k329 hF rfl ?_
      refine gh_aload_n gd_Facts_findFollow_61 0 rfl (by decide) ?_
      refine gf_20_0 gd_Facts_findFollow_62 gh_k319 hF ?_
      refine gf_13_5 gd_Facts_findFollow_65 gh_k280 hF ?_
      refine gh_iload_n gd_Facts_findFollow_68 2 rfl ?_
      obtain ⟨q934, hk⟩ := hk
      have q935 := hk
      refine la_16 gd_Facts_findFollow_69 hF q934 q935 rfl ?_
      refine gh_ishr gd_Facts_findFollow_70 ?_
      refine gh_iconst gd_Facts_findFollow_71 (gh_r0 rfl) ?_
      refine gh_iand gd_Facts_findFollow_72 ?_
      refine gh_zeq (tgt := 81) gd_Facts_findFollow_73 (by decide) (fun c941 => ?_) (fun c941 => ?_)
      · have hz : True := trivial
        exact k936 (Or.inr c941)
      · have hz : True := trivial
        exact k937 (fun z => z.elim (fun w => w c940) c941)
    · have hz : True := trivial
      exact k936 (Or.inl c940)
  · have h := hB c932
    obtain ⟨q942, h⟩ := h
    refine gh_iinc (L2 := [(1, 0, v1 + 1), (0, 2, 20), (2, 0, v2)]) gd_Facts_findFollow_87 1 rfl q942 (by decide) rfl ?_
    refine gh_goto (tgt := 25) gd_Facts_findFollow_90 (by decide) ?_
    refine gh_pick (L2 := [(0, 2, 20), (1, 0, v1 + 1)]) [1, 0] rfl ?_
    exact hK25 (v1 + 1) m hF h
theorem b_Facts_findFollow_25 {E : gh_E} {Q : Int → gh_M → Prop} {K25 : Int → gh_M → Prop} (d : Nat) (hK : ∀ (v1 : Int) (m : gh_M), gh_F m → K25 v1 m → gh_T E (gh_yFacts_findFollow.cls, prog_4_method_15_code, 3, false, 9) (d + 4) 25 [(0, 2, 20), (1, 0, v1)] [] m (fun r m1 => gh_F m1 ∧ Q r m1)) (v1 : Int) (m : gh_M) (hF : gh_F m) (h : f_Facts_findFollow_25 Q K25 v1 m) : gh_T E (gh_yFacts_findFollow.cls, prog_4_method_15_code, 3, false, 9) (d + 4) 25 [(0, 2, 20), (1, 0, v1)] [] m (fun r m1 => gh_F m1 ∧ Q r m1) := by
  have hK25 := hK
  unfold f_Facts_findFollow_25 at h
  refine gh_iload_n gd_Facts_findFollow_25 1 rfl ?_
  refine gh_aload_n gd_Facts_findFollow_26 0 rfl (by decide) ?_
  refine gf_20_0 gd_Facts_findFollow_27 gh_k319 hF ?_
  refine gf_13_1 gd_Facts_findFollow_30 gh_k258 hF rfl ?_
  obtain ⟨hA, hB⟩ := h
  refine gh_jge (tgt := 93) gd_Facts_findFollow_33 (by decide) (fun c931 => ?_) (fun c931 => ?_)
  · have h := hA c931
    refine gh_iconst gd_Facts_findFollow_36 (gh_r0 rfl) ?_
    refine gh_istore_n (L2 := [(2, 0, 0), (0, 2, 20), (1, 0, v1)]) gd_Facts_findFollow_37 (by decide) rfl ?_
    refine gh_pick (L2 := [(0, 2, 20), (1, 0, v1), (2, 0, 0)]) [1, 2, 0] rfl ?_
    exact gh_M1_sound (T := fun v2 m => gh_T E (gh_yFacts_findFollow.cls, prog_4_method_15_code, 3, false, 9) (d + 4) 38 [(0, 2, 20), (1, 0, v1), (2, 0, v2)] [] m (fun r m1 => gh_F m1 ∧ Q r m1)) (fun _ m => gh_F m) (fun K38 v2 m hK hF h => b_Facts_findFollow_38 d hK25 hK v2 m hF h) 0 m hF h
  · have h := hB c931
    exact gh_ret9 rfl gd_Facts_findFollow_93 ⟨hF, h⟩
theorem s_Facts_findFollow {E : gh_E} {m : gh_M} {Q : Int → gh_M → Prop} (d : Nat) (hF : gh_F m) (h : w_Facts_findFollow m Q) : gh_C E gh_yFacts_findFollow prog_4_method_15_code 3 none 9 (d + 4) [(2, 20)] m (fun r m1 => gh_F m1 ∧ Q r m1) := by
  refine gh_enter2 (L := [(0, 2, 20)]) (by decide +kernel) gh_rt9 (Nat.le_of_ble_eq_true rfl) rfl rfl ?_
  unfold w_Facts_findFollow at h
  refine gh_aload_n gd_Facts_findFollow_0 0 rfl (by decide) ?_
  refine gf_20_8 gd_Facts_findFollow_1 gh_k339 hF ?_
  refine gh_iconst gd_Facts_findFollow_4 (gh_r0 rfl) ?_
  refine gh_fillF (d := d + 3) gd_Facts_findFollow_5 gh_k886 (ga_23 hF) (Nat.le_of_ble_eq_true rfl) hF gn_23 (by decide) (fun hF => ?_)
  refine gh_aload_n gd_Facts_findFollow_8 0 rfl (by decide) ?_
  refine gf_20_8 gd_Facts_findFollow_9 gh_k339 hF ?_
  refine gh_iconst gd_Facts_findFollow_12 (gh_r0 rfl) ?_
  refine gh_aload_n gd_Facts_findFollow_13 0 rfl (by decide) ?_
  refine gf_20_4 gd_Facts_findFollow_14 gh_k329 hF rfl ?_
  refine gh_iconst gd_Facts_findFollow_17 (gh_r0 rfl) ?_
  refine gh_iand gd_Facts_findFollow_18 ?_
  refine gh_bipush gd_Facts_findFollow_19 (by decide) (gh_r0 rfl) ?_
  refine gh_ishl gd_Facts_findFollow_21 ?_
  refine sa_23 gd_Facts_findFollow_22 hF (by decide) (by decide) (fun hF => ?_)
  refine gh_iconst gd_Facts_findFollow_23 (gh_r0 rfl) ?_
  refine gh_istore_n (L2 := [(1, 0, 0), (0, 2, 20)]) gd_Facts_findFollow_24 (by decide) rfl ?_
  refine gh_pick (L2 := [(0, 2, 20), (1, 0, 0)]) [1, 0] rfl ?_
  exact gh_M1_sound (T := fun v1 m => gh_T E (gh_yFacts_findFollow.cls, prog_4_method_15_code, 3, false, 9) (d + 4) 25 [(0, 2, 20), (1, 0, v1)] [] m (fun r m1 => gh_F m1 ∧ Q r m1)) (fun _ m => gh_F m) (fun K25 v1 m hK hF h => b_Facts_findFollow_25 d hK v1 m hF h) 0 (gh_u (gh_fil m 23 8 0) 23 0 (gh_ishl_f (gh_iand_f ((gh_fil m 23 8 0) 20 4) 1) 26)) hF h
def f_Facts_findTable_2 (Q : Int → gh_M → Prop) (K2 : Int → gh_M → Prop) (v1 : Int) (m : gh_M) : Prop := ((v1 < (m 13 2) → 0 ≤ v1 ∧ v1 < 20 ∧ ∀ v2 : Int, v2 = m 16 v1 → 0 ≤ v1 ∧ v1 < 20 ∧ ∃ J82 : gh_M → Prop, (∀ (m : gh_M), J82 m → gh_i (v1 + 1) ∧ K2 (v1 + 1) m) ∧ (((¬ (p_Facts_isUsefulRule v1 (gh_u m 25 v1 0)) ∨ ((gh_iand_f (gh_ishr_f (m 20 4) v2) 1) = 0)) → J82 (gh_u m 25 v1 0)) ∧ (¬ (¬ (p_Facts_isUsefulRule v1 (gh_u m 25 v1 0)) ∨ ((gh_iand_f (gh_ishr_f (m 20 4) v2) 1) = 0)) → w_Facts_firstOfRow v1 0 (gh_u m 25 v1 0) (fun r951 => w_Facts_isEmptyRow v1 0 (-1) (gh_u m 25 v1 0) (fun r953 => ((¬ (r953 = 0) → (0 ≤ v2 ∧ v2 < 8))) ∧ 0 ≤ v1 ∧ v1 < 20 ∧ J82 (gh_u (gh_u m 25 v1 0) 25 v1 (gh_ior_f r951 (if r953 = 0 then 0 else (m 23 v2))))))))) ∧ (¬ (v1 < (m 13 2)) → Q 0 m))
def w_Facts_findTable (m : gh_M) (Q : Int → gh_M → Prop) : Prop := gh_M1 (fun K2 v1 m => f_Facts_findTable_2 Q K2 v1 m) 0 m
theorem b_Facts_findTable_2 {E : gh_E} {Q : Int → gh_M → Prop} {K2 : Int → gh_M → Prop} (d : Nat) (hK : ∀ (v1 : Int) (m : gh_M), gh_F m → K2 v1 m → gh_T E (gh_yFacts_findTable.cls, prog_4_method_17_code, 3, false, 9) (d + 3) 2 [(0, 2, 20), (1, 0, v1)] [] m (fun r m1 => gh_F m1 ∧ Q r m1)) (v1 : Int) (m : gh_M) (hF : gh_F m) (h : f_Facts_findTable_2 Q K2 v1 m) : gh_T E (gh_yFacts_findTable.cls, prog_4_method_17_code, 3, false, 9) (d + 3) 2 [(0, 2, 20), (1, 0, v1)] [] m (fun r m1 => gh_F m1 ∧ Q r m1) := by
  have hK2 := hK
  unfold f_Facts_findTable_2 at h
  refine gh_iload_n gd_Facts_findTable_2 1 rfl ?_
  refine gh_aload_n gd_Facts_findTable_3 0 rfl (by decide) ?_
  refine gf_20_0 gd_Facts_findTable_4 gh_k319 hF ?_
  refine gf_13_2 gd_Facts_findTable_7 gh_k265 hF rfl ?_
  obtain ⟨hA, hB⟩ := h
  refine gh_jge (tgt := 88) gd_Facts_findTable_10 (by decide) (fun c943 => ?_) (fun c943 => ?_)
  · have h := hA c943
    refine gh_aload_n gd_Facts_findTable_13 0 rfl (by decide) ?_
    refine gf_20_0 gd_Facts_findTable_14 gh_k319 hF ?_
    refine gf_13_5 gd_Facts_findTable_17 gh_k280 hF ?_
    refine gh_iload_n gd_Facts_findTable_20 1 rfl ?_
    obtain ⟨q944, h⟩ := h
    obtain ⟨q945, h⟩ := h
    refine la_16 gd_Facts_findTable_21 hF q944 q945 rfl ?_
    refine gh_name (fun v2 hn => ?_)
    have h := h v2 hn
    refine gh_istore_n (L2 := [(2, 0, v2), (0, 2, 20), (1, 0, v1)]) gd_Facts_findTable_22 (by decide) rfl ?_
    refine gh_aload_n gd_Facts_findTable_23 1 rfl (by decide) ?_
    refine gf_20_10 gd_Facts_findTable_24 gh_k344 hF ?_
    refine gh_iload_n gd_Facts_findTable_27 2 rfl ?_
    refine gh_iconst gd_Facts_findTable_28 (gh_r0 rfl) ?_
    obtain ⟨q946, h⟩ := h
    obtain ⟨q947, h⟩ := h
    refine sa_25 gd_Facts_findTable_29 hF q946 q947 (fun hF => ?_)
    refine gh_aload_n gd_Facts_findTable_30 1 rfl (by decide) ?_
    refine gh_iload_n gd_Facts_findTable_31 2 rfl ?_
    refine cv_Facts_isUsefulRule (d := d + 2) gd_Facts_findTable_32 gh_k918 hF (Nat.le_of_ble_eq_true rfl) (gh_C.pe (e_Facts_isUsefulRule (d + 2) v1 hF) ?_)
    obtain ⟨J82, hJ82, h⟩ := h
    have hJ82 : ∀ (m : gh_M), gh_F m → J82 m → gh_T E (gh_yFacts_findTable.cls, prog_4_method_17_code, 3, false, 9) (d + 3) 82 [(0, 2, 20), (1, 0, v1)] [] m (fun r m1 => gh_F m1 ∧ Q r m1) := by
      intro m hF hj
      have h := hJ82 m hj
      obtain ⟨q948, h⟩ := h
      refine gh_iinc (L2 := [(1, 0, v1 + 1), (0, 2, 20)]) gd_Facts_findTable_82 1 rfl q948 (by decide) rfl ?_
      refine gh_goto (tgt := 2) gd_Facts_findTable_85 (by decide) ?_
      refine gh_pick (L2 := [(0, 2, 20), (1, 0, v1 + 1)]) [1, 0] rfl ?_
      exact hK2 (v1 + 1) m hF h
    obtain ⟨hA, hB⟩ := h
    have k949 : (¬ (p_Facts_isUsefulRule v1 (gh_u m 25 v1 0)) ∨ ((gh_iand_f (gh_ishr_f (m 20 4) v2) 1) = 0)) → gh_T E (gh_yFacts_findTable.cls, prog_4_method_17_code, 3, false, 9) (d + 3) 82 [(2, 0, v2), (0, 2, 20), (1, 0, v1)] [] (gh_u m 25 v1 0) (fun r m1 => gh_F m1 ∧ Q r m1) := by
      intro c
      have h := hA c
      refine gh_pick (L2 := [(0, 2, 20), (1, 0, v1)]) [1, 2] rfl ?_
      exact hJ82 (gh_u m 25 v1 0) hF h
    have k950 : ¬ (¬ (p_Facts_isUsefulRule v1 (gh_u m 25 v1 0)) ∨ ((gh_iand_f (gh_ishr_f (m 20 4) v2) 1) = 0)) → gh_T E (gh_yFacts_findTable.cls, prog_4_method_17_code, 3, false, 9) (d + 3) 49 [(2, 0, v2), (0, 2, 20), (1, 0, v1)] [] (gh_u m 25 v1 0) (fun r m1 => gh_F m1 ∧ Q r m1) := by
      intro c
      have h := hB c
      refine gh_aload_n gd_Facts_findTable_49 1 rfl (by decide) ?_
      refine gf_20_10 gd_Facts_findTable_50 gh_k344 hF ?_
      refine gh_iload_n gd_Facts_findTable_53 2 rfl ?_
      refine gh_aload_n gd_Facts_findTable_54 1 rfl (by decide) ?_
      refine gh_iload_n gd_Facts_findTable_55 2 rfl ?_
      refine gh_iconst gd_Facts_findTable_56 (gh_r0 rfl) ?_
      refine cv_Facts_firstOfRow (d := d + 2) gd_Facts_findTable_57 gh_k922 hF (Nat.le_of_ble_eq_true rfl) (gh_C.pw (s_Facts_firstOfRow d v1 0 hF h) (fun r951 h => ?_))
      refine gh_aload_n gd_Facts_findTable_60 1 rfl (by decide) ?_
      refine gh_iload_n gd_Facts_findTable_61 2 rfl ?_
      refine gh_iconst gd_Facts_findTable_62 (gh_r0 rfl) ?_
      refine gh_iconst gd_Facts_findTable_63 (gh_r0 rfl) ?_
      refine cv_Facts_isEmptyRow (d := d + 2) gd_Facts_findTable_64 gh_k865 hF (Nat.le_of_ble_eq_true rfl) (gh_C.pw (s_Facts_isEmptyRow d v1 0 (-1) hF h) (fun r953 h => ?_))
      obtain ⟨hk, h⟩ := h
      have k957 : ∀ x958 : Int, x958 = (if r953 = 0 then 0 else (m 23 v2)) → gh_T E (gh_yFacts_findTable.cls, prog_4_method_17_code, 3, false, 9) (d + 3) 80 [(2, 0, v2), (0, 2, 20), (1, 0, v1)] [(0, x958), (0, r951), (0, v1), (2, 25)] (gh_u m 25 v1 0) (fun r m1 => gh_F m1 ∧ Q r m1) := by
        rintro _ rfl
        refine gh_ior gd_Facts_findTable_80 ?_
        obtain ⟨q959, h⟩ := h
        obtain ⟨q960, h⟩ := h
        refine sa_25 gd_Facts_findTable_81 hF q959 q960 (fun hF => ?_)
        refine gh_pick (L2 := [(0, 2, 20), (1, 0, v1)]) [1, 2] rfl ?_
        exact hJ82 (gh_u (gh_u m 25 v1 0) 25 v1 (gh_ior_f r951 (if r953 = 0 then 0 else (m 23 v2)))) hF h
      refine gh_zeq (tgt := 79) gd_Facts_findTable_67 (by decide) (fun c961 => ?_) (fun c961 => ?_)
      · have hz : True := trivial
        refine gh_iconst gd_Facts_findTable_79 (gh_r0 rfl) ?_
        exact k957 _ (by rw [if_pos c961])
      · have hz : True := trivial
        have hk := hk c961
        refine gh_aload_n gd_Facts_findTable_70 1 rfl (by decide) ?_
        refine gf_20_8 gd_Facts_findTable_71 gh_k339 hF ?_
        refine gh_iload_n gd_Facts_findTable_74 0 rfl ?_
        obtain ⟨q955, hk⟩ := hk
        have q956 := hk
        refine la_23 gd_Facts_findTable_75 hF q955 q956 (gh_u_a (by decide)) ?_
        refine gh_goto (tgt := 80) gd_Facts_findTable_76 (by decide) ?_
        exact k957 _ (by rw [if_neg c961])
    refine gh_beq (tgt := 82) gd_Facts_findTable_35 (by decide) (fun c962 => ?_) (fun c962 => ?_)
    · have hz : True := trivial
      refine gh_aload_n gd_Facts_findTable_38 1 rfl (by decide) ?_
      refine gf_20_4 gd_Facts_findTable_39 gh_k329 hF (gh_u_a (by decide)) ?_
      refine gh_iload_n gd_Facts_findTable_42 0 rfl ?_
      refine gh_ishr gd_Facts_findTable_43 ?_
      refine gh_iconst gd_Facts_findTable_44 (gh_r0 rfl) ?_
      refine gh_iand gd_Facts_findTable_45 ?_
      refine gh_zeq (tgt := 82) gd_Facts_findTable_46 (by decide) (fun c963 => ?_) (fun c963 => ?_)
      · have hz : True := trivial
        exact k949 (Or.inr c963)
      · have hz : True := trivial
        exact k950 (fun z => z.elim (fun w => w c962) c963)
    · have hz : True := trivial
      exact k949 (Or.inl c962)
  · have h := hB c943
    exact gh_ret9 rfl gd_Facts_findTable_88 ⟨hF, h⟩
theorem s_Facts_findTable {E : gh_E} {m : gh_M} {Q : Int → gh_M → Prop} (d : Nat) (hF : gh_F m) (h : w_Facts_findTable m Q) : gh_C E gh_yFacts_findTable prog_4_method_17_code 3 none 9 (d + 3) [(2, 20)] m (fun r m1 => gh_F m1 ∧ Q r m1) := by
  refine gh_enter2 (L := [(0, 2, 20)]) (by decide +kernel) gh_rt9 (Nat.le_of_ble_eq_true rfl) rfl rfl ?_
  unfold w_Facts_findTable at h
  refine gh_iconst gd_Facts_findTable_0 (gh_r0 rfl) ?_
  refine gh_istore_n (L2 := [(1, 0, 0), (0, 2, 20)]) gd_Facts_findTable_1 (by decide) rfl ?_
  refine gh_pick (L2 := [(0, 2, 20), (1, 0, 0)]) [1, 0] rfl ?_
  exact gh_M1_sound (T := fun v1 m => gh_T E (gh_yFacts_findTable.cls, prog_4_method_17_code, 3, false, 9) (d + 3) 2 [(0, 2, 20), (1, 0, v1)] [] m (fun r m1 => gh_F m1 ∧ Q r m1)) (fun _ m => gh_F m) (fun K2 v1 m hK hF h => b_Facts_findTable_2 d hK v1 m hF h) 0 m hF h
def w_Facts_find (m : gh_M) (Q : Int → gh_M → Prop) : Prop := w_Facts_findEmpty m (fun _ m965 => w_Facts_findLeast m965 (fun _ m967 => w_Facts_findUsefulRules m967 (fun _ m969 => w_Facts_spread 1048575 m969 (fun r970 => ∃ J44 : Int → Int → Prop, (∀ (y1 : Int) (z1 : Int), J44 y1 z1 → w_Facts_findOver (gh_u (gh_u m969 20 3 r970) 20 4 y1) (fun _ m973 => w_Facts_findFirst m973 (fun _ m975 => w_Facts_findFollow m975 (fun _ m977 => w_Facts_findTable m977 (fun _ m979 => Q 0 m979))))) ∧ (((gh_iand_f (m969 20 2) 1) = 0 → J44 0 20) ∧ (¬ ((gh_iand_f (m969 20 2) 1) = 0) → w_Facts_spread (m969 20 5) (gh_u m969 20 3 r970) (fun r981 => J44 r981 20)))))))
theorem s_Facts_find {E : gh_E} {m : gh_M} {Q : Int → gh_M → Prop} (d : Nat) (hF : gh_F m) (h : w_Facts_find m Q) : gh_C E gh_yFacts_find prog_4_method_2_code 1 none 9 (d + 5) [(2, 20)] m (fun r m1 => gh_F m1 ∧ Q r m1) := by
  refine gh_enter2 (L := [(0, 2, 20)]) (by decide +kernel) gh_rt9 (Nat.le_of_ble_eq_true rfl) rfl rfl ?_
  unfold w_Facts_find at h
  refine gh_aload_n gd_Facts_find_0 0 rfl (by decide) ?_
  refine cv_Facts_findEmpty (d := d + 4) gd_Facts_find_1 gh_k861 hF (Nat.le_of_ble_eq_true rfl) (gh_C.mono (s_Facts_findEmpty (d + 1) hF h) (fun r964 m965 hq => ?_))
  obtain ⟨hF, h⟩ := hq
  refine gh_aload_n gd_Facts_find_4 0 rfl (by decide) ?_
  refine cv_Facts_findLeast (d := d + 4) gd_Facts_find_5 gh_k881 hF (Nat.le_of_ble_eq_true rfl) (gh_C.mono (s_Facts_findLeast (d + 1) hF h) (fun r966 m967 hq => ?_))
  obtain ⟨hF, h⟩ := hq
  refine gh_aload_n gd_Facts_find_8 0 rfl (by decide) ?_
  refine cv_Facts_findUsefulRules (d := d + 4) gd_Facts_find_9 gh_k894 hF (Nat.le_of_ble_eq_true rfl) (gh_C.mono (s_Facts_findUsefulRules (d + 1) hF h) (fun r968 m969 hq => ?_))
  obtain ⟨hF, h⟩ := hq
  refine gh_aload_n gd_Facts_find_12 0 rfl (by decide) ?_
  refine gh_aload_n gd_Facts_find_13 0 rfl (by decide) ?_
  refine gh_ldc (n := 1048575) gd_Facts_find_14 gh_k898 (by decide) (gh_r0 rfl) ?_
  refine cv_Facts_spread (d := d + 4) gd_Facts_find_16 gh_k899 hF (Nat.le_of_ble_eq_true rfl) (gh_C.pw (s_Facts_spread (d + 1) 1048575 hF h) (fun r970 h => ?_))
  refine pf_20_3 gd_Facts_find_19 gh_k327 hF (fun hF => ?_)
  refine gh_aload_n gd_Facts_find_22 0 rfl (by decide) ?_
  refine gh_aload_n gd_Facts_find_23 0 rfl (by decide) ?_
  refine gf_20_2 gd_Facts_find_24 gh_k323 hF (gh_u_i (by decide)) ?_
  refine gh_iconst gd_Facts_find_27 (gh_r0 rfl) ?_
  refine gh_iand gd_Facts_find_28 ?_
  obtain ⟨J44, hJ44, h⟩ := h
  have hJ44 : ∀ (y1 : Int) (z1 : Int), gh_F (gh_u m969 20 3 r970) → J44 y1 z1 → gh_T E (gh_yFacts_find.cls, prog_4_method_2_code, 1, false, 9) (d + 5) 44 [(0, 2, 20)] [(0, y1), (2, 20)] (gh_u m969 20 3 r970) (fun r m1 => gh_F m1 ∧ Q r m1) := by
    intro y1 z1 hF hj
    have h := hJ44 y1 z1 hj
    refine pf_20_4 gd_Facts_find_44 gh_k329 hF (fun hF => ?_)
    refine gh_aload_n gd_Facts_find_47 0 rfl (by decide) ?_
    refine cv_Facts_findOver (d := d + 4) gd_Facts_find_48 gh_k907 hF (Nat.le_of_ble_eq_true rfl) (gh_C.mono (s_Facts_findOver (d + 1) hF h) (fun r972 m973 hq => ?_))
    obtain ⟨hF, h⟩ := hq
    refine gh_aload_n gd_Facts_find_51 0 rfl (by decide) ?_
    refine cv_Facts_findFirst (d := d + 4) gd_Facts_find_52 gh_k914 hF (Nat.le_of_ble_eq_true rfl) (gh_C.mono (s_Facts_findFirst (d + 1) hF h) (fun r974 m975 hq => ?_))
    obtain ⟨hF, h⟩ := hq
    refine gh_aload_n gd_Facts_find_55 0 rfl (by decide) ?_
    refine cv_Facts_findFollow (d := d + 4) gd_Facts_find_56 gh_k927 hF (Nat.le_of_ble_eq_true rfl) (gh_C.mono (s_Facts_findFollow d hF h) (fun r976 m977 hq => ?_))
    obtain ⟨hF, h⟩ := hq
    refine gh_aload_n gd_Facts_find_59 0 rfl (by decide) ?_
    refine cv_Facts_findTable (d := d + 4) gd_Facts_find_60 gh_k935 hF (Nat.le_of_ble_eq_true rfl) (gh_C.mono (s_Facts_findTable (d + 1) hF h) (fun r978 m979 hq => ?_))
    obtain ⟨hF, h⟩ := hq
    exact gh_ret9 rfl gd_Facts_find_63 ⟨hF, h⟩
  obtain ⟨hA, hB⟩ := h
  refine gh_zne (tgt := 36) gd_Facts_find_29 (by decide) (fun c980 => ?_) (fun c980 => ?_)
  · have h := hA c980
    refine gh_iconst gd_Facts_find_32 (gh_r0 rfl) ?_
    refine gh_goto (tgt := 44) gd_Facts_find_33 (by decide) ?_
    exact hJ44 0 20 hF h
  · have h := hB c980
    refine gh_aload_n gd_Facts_find_36 0 rfl (by decide) ?_
    refine gh_aload_n gd_Facts_find_37 0 rfl (by decide) ?_
    refine gf_20_5 gd_Facts_find_38 gh_k332 hF (gh_u_i (by decide)) ?_
    refine cv_Facts_spread (d := d + 4) gd_Facts_find_41 gh_k899 hF (Nat.le_of_ble_eq_true rfl) (gh_C.pw (s_Facts_spread (d + 1) (m969 20 5) hF h) (fun r981 h => ?_))
    exact hJ44 r981 20 hF h
def w_Wants_forgetBehind (v1 : Int) (m : gh_M) (Q : Int → gh_M → Prop) : Prop := gh_i (v1 + 1) ∧ gh_i ((gh_ishl_f 1 (v1 + 1)) - 1) ∧ Q 0 (gh_u (gh_u m 36 4 (gh_iand_f (m 36 4) ((gh_ishl_f 1 (v1 + 1)) - 1))) 36 7 (min (m 36 7) v1))
theorem s_Wants_forgetBehind {E : gh_E} {m : gh_M} {Q : Int → gh_M → Prop} (d : Nat) (v1 : Int) (hF : gh_F m) (h : w_Wants_forgetBehind v1 m Q) : gh_C E gh_yWants_forgetBehind prog_12_method_2_code 2 none 9 (d + 1) [(2, 36), (0, v1)] m (fun r m1 => gh_F m1 ∧ Q r m1) := by
  refine gh_enter2 (L := [(0, 2, 36), (1, 0, v1)]) (by decide +kernel) gh_rt9 (Nat.le_of_ble_eq_true rfl) rfl rfl ?_
  unfold w_Wants_forgetBehind at h
  refine gh_aload_n gd_Wants_forgetBehind_0 0 rfl (by decide) ?_
  refine gh_dup gd_Wants_forgetBehind_1 (by decide) ?_
  refine gf_36_4 gd_Wants_forgetBehind_2 gh_k454 hF rfl ?_
  refine gh_iconst gd_Wants_forgetBehind_5 (gh_r0 rfl) ?_
  refine gh_iload_n gd_Wants_forgetBehind_6 1 rfl ?_
  refine gh_iconst gd_Wants_forgetBehind_7 (gh_r0 rfl) ?_
  obtain ⟨q983, h⟩ := h
  refine gh_iadd gd_Wants_forgetBehind_8 q983 ?_
  refine gh_ishl gd_Wants_forgetBehind_9 ?_
  refine gh_iconst gd_Wants_forgetBehind_10 (gh_r0 rfl) ?_
  obtain ⟨q984, h⟩ := h
  refine gh_isub gd_Wants_forgetBehind_11 q984 ?_
  refine gh_iand gd_Wants_forgetBehind_12 ?_
  refine pf_36_4 gd_Wants_forgetBehind_13 gh_k454 hF (fun hF => ?_)
  refine gh_aload_n gd_Wants_forgetBehind_16 0 rfl (by decide) ?_
  refine gh_aload_n gd_Wants_forgetBehind_17 0 rfl (by decide) ?_
  refine gf_36_7 gd_Wants_forgetBehind_18 gh_k457 hF (gh_u_i (by decide)) ?_
  refine gh_iload_n gd_Wants_forgetBehind_21 1 rfl ?_
  refine gh_pr_min gd_Wants_forgetBehind_22 gh_k947 (Nat.le_of_ble_eq_true rfl) ?_
  refine pf_36_7 gd_Wants_forgetBehind_25 gh_k457 hF (fun hF => ?_)
  exact gh_ret9 rfl gd_Wants_forgetBehind_28 ⟨hF, h⟩
def w_Forest_forgetBehind (v1 : Int) (m : gh_M) (Q : Int → gh_M → Prop) : Prop := Q 0 (gh_u m 41 11 (min (m 41 11) v1))
theorem s_Forest_forgetBehind {E : gh_E} {m : gh_M} {Q : Int → gh_M → Prop} (d : Nat) (v1 : Int) (hF : gh_F m) (h : w_Forest_forgetBehind v1 m Q) : gh_C E gh_yForest_forgetBehind prog_5_method_2_code 2 none 9 (d + 1) [(2, 41), (0, v1)] m (fun r m1 => gh_F m1 ∧ Q r m1) := by
  refine gh_enter2 (L := [(0, 2, 41), (1, 0, v1)]) (by decide +kernel) gh_rt9 (Nat.le_of_ble_eq_true rfl) rfl rfl ?_
  unfold w_Forest_forgetBehind at h
  refine gh_aload_n gd_Forest_forgetBehind_0 0 rfl (by decide) ?_
  refine gh_aload_n gd_Forest_forgetBehind_1 0 rfl (by decide) ?_
  refine gf_41_11 gd_Forest_forgetBehind_2 gh_k498 hF rfl ?_
  refine gh_iload_n gd_Forest_forgetBehind_5 1 rfl ?_
  refine gh_pr_min gd_Forest_forgetBehind_6 gh_k952 (Nat.le_of_ble_eq_true rfl) ?_
  refine pf_41_11 gd_Forest_forgetBehind_9 gh_k498 hF (fun hF => ?_)
  exact gh_ret9 rfl gd_Forest_forgetBehind_12 ⟨hF, h⟩
def w_House_textChanged (v1 : Int) (m : gh_M) (Q : Int → gh_M → Prop) : Prop := w_Wants_forgetBehind v1 (gh_u m 30 3 0) (fun _ m986 => w_Forest_forgetBehind v1 m986 (fun _ m988 => Q 0 (gh_u m988 47 4 0)))
theorem s_House_textChanged {E : gh_E} {m : gh_M} {Q : Int → gh_M → Prop} (d : Nat) (v1 : Int) (hF : gh_F m) (h : w_House_textChanged v1 m Q) : gh_C E gh_yHouse_textChanged prog_1_method_37_code 2 none 9 (d + 2) [(2, 2), (0, v1)] m (fun r m1 => gh_F m1 ∧ Q r m1) := by
  refine gh_enter2 (L := [(0, 2, 2), (1, 0, v1)]) (by decide +kernel) gh_rt9 (Nat.le_of_ble_eq_true rfl) rfl rfl ?_
  unfold w_House_textChanged at h
  refine gh_aload_n gd_House_textChanged_0 0 rfl (by decide) ?_
  refine gf_2_5 gd_House_textChanged_1 gh_k638 hF ?_
  refine gh_iconst gd_House_textChanged_4 (gh_r0 rfl) ?_
  refine pf_30_3 gd_House_textChanged_5 gh_k417 hF (by decide) (fun hF => ?_)
  refine gh_aload_n gd_House_textChanged_8 0 rfl (by decide) ?_
  refine gf_2_6 gd_House_textChanged_9 gh_k639 hF ?_
  refine gh_iload_n gd_House_textChanged_12 1 rfl ?_
  refine cv_Wants_forgetBehind (d := d + 1) gd_House_textChanged_13 gh_k943 hF (Nat.le_of_ble_eq_true rfl) (gh_C.mono (s_Wants_forgetBehind d v1 hF h) (fun r985 m986 hq => ?_))
  obtain ⟨hF, h⟩ := hq
  refine gh_aload_n gd_House_textChanged_16 0 rfl (by decide) ?_
  refine gf_2_7 gd_House_textChanged_17 gh_k640 hF ?_
  refine gh_iload_n gd_House_textChanged_20 1 rfl ?_
  refine cv_Forest_forgetBehind (d := d + 1) gd_House_textChanged_21 gh_k948 hF (Nat.le_of_ble_eq_true rfl) (gh_C.mono (s_Forest_forgetBehind d v1 hF h) (fun r987 m988 hq => ?_))
  obtain ⟨hF, h⟩ := hq
  refine gh_aload_n gd_House_textChanged_24 0 rfl (by decide) ?_
  refine gf_2_8 gd_House_textChanged_25 gh_k641 hF ?_
  refine gh_iconst gd_House_textChanged_28 (gh_r0 rfl) ?_
  refine pf_47_4 gd_House_textChanged_29 gh_k537 hF (fun hF => ?_)
  exact gh_ret9 rfl gd_House_textChanged_32 ⟨hF, h⟩
def w_Grammar_clear (m : gh_M) (Q : Int → gh_M → Prop) : Prop := Q 0 (gh_u (gh_u (gh_u m 13 0 0) 13 1 0) 13 2 0)
theorem s_Grammar_clear {E : gh_E} {m : gh_M} {Q : Int → gh_M → Prop} (d : Nat) (hF : gh_F m) (h : w_Grammar_clear m Q) : gh_C E gh_yGrammar_clear prog_6_method_2_code 1 none 9 (d + 0) [(2, 13)] m (fun r m1 => gh_F m1 ∧ Q r m1) := by
  refine gh_enter2 (L := [(0, 2, 13)]) (by decide +kernel) gh_rt9 (Nat.le_of_ble_eq_true rfl) rfl rfl ?_
  unfold w_Grammar_clear at h
  refine gh_aload_n gd_Grammar_clear_0 0 rfl (by decide) ?_
  refine gh_iconst gd_Grammar_clear_1 (gh_r0 rfl) ?_
  refine pf_13_0 gd_Grammar_clear_2 gh_k254 hF (fun hF => ?_)
  refine gh_aload_n gd_Grammar_clear_5 0 rfl (by decide) ?_
  refine gh_iconst gd_Grammar_clear_6 (gh_r0 rfl) ?_
  refine pf_13_1 gd_Grammar_clear_7 gh_k257 hF (fun hF => ?_)
  refine gh_aload_n gd_Grammar_clear_10 0 rfl (by decide) ?_
  refine gh_iconst gd_Grammar_clear_11 (gh_r0 rfl) ?_
  refine pf_13_2 gd_Grammar_clear_12 gh_k263 hF (fun hF => ?_)
  exact gh_ret9 rfl gd_Grammar_clear_15 ⟨hF, h⟩
def w_Grammar_startName (v1 : Int) (m : gh_M) (Q : Int → gh_M → Prop) : Prop := (((m 13 1) < 8 → 0 ≤ m 13 1 ∧ (m 13 1) < 8 ∧ 0 ≤ m 13 1 ∧ (m 13 1) < 8 ∧ 0 ≤ m 13 1 ∧ (m 13 1) < 8 ∧ gh_i ((m 13 1) + 1) ∧ Q 0 (gh_u (gh_u (gh_u (gh_u m 18 (m 13 1) v1) 14 (m 13 1) (m 13 2)) 15 (m 13 1) 0) 13 1 ((m 13 1) + 1))) ∧ (¬ ((m 13 1) < 8) → Q 0 m))
theorem s_Grammar_startName {E : gh_E} {m : gh_M} {Q : Int → gh_M → Prop} (d : Nat) (v1 : Int) (hF : gh_F m) (h : w_Grammar_startName v1 m Q) : gh_C E gh_yGrammar_startName prog_6_method_3_code 2 none 9 (d + 0) [(2, 13), (0, v1)] m (fun r m1 => gh_F m1 ∧ Q r m1) := by
  refine gh_enter2 (L := [(0, 2, 13), (1, 0, v1)]) (by decide +kernel) gh_rt9 (Nat.le_of_ble_eq_true rfl) rfl rfl ?_
  unfold w_Grammar_startName at h
  refine gh_aload_n gd_Grammar_startName_0 0 rfl (by decide) ?_
  refine gf_13_1 gd_Grammar_startName_1 gh_k257 hF rfl ?_
  refine gh_bipush gd_Grammar_startName_4 (by decide) (gh_r0 rfl) ?_
  obtain ⟨hA, hB⟩ := h
  refine gh_jge (tgt := 52) gd_Grammar_startName_6 (by decide) (fun c995 => ?_) (fun c995 => ?_)
  · have h := hA c995
    refine gh_aload_n gd_Grammar_startName_9 0 rfl (by decide) ?_
    refine gf_13_7 gd_Grammar_startName_10 gh_k292 hF ?_
    refine gh_aload_n gd_Grammar_startName_13 0 rfl (by decide) ?_
    refine gf_13_1 gd_Grammar_startName_14 gh_k257 hF rfl ?_
    refine gh_iload_n gd_Grammar_startName_17 1 rfl ?_
    obtain ⟨q996, h⟩ := h
    obtain ⟨q997, h⟩ := h
    refine sa_18 gd_Grammar_startName_18 hF q996 q997 (fun hF => ?_)
    refine gh_aload_n gd_Grammar_startName_19 0 rfl (by decide) ?_
    refine gf_13_3 gd_Grammar_startName_20 gh_k269 hF ?_
    refine gh_aload_n gd_Grammar_startName_23 0 rfl (by decide) ?_
    refine gf_13_1 gd_Grammar_startName_24 gh_k257 hF (gh_u_a (by decide)) ?_
    refine gh_aload_n gd_Grammar_startName_27 0 rfl (by decide) ?_
    refine gf_13_2 gd_Grammar_startName_28 gh_k263 hF (gh_u_a (by decide)) ?_
    obtain ⟨q998, h⟩ := h
    obtain ⟨q999, h⟩ := h
    refine sa_14 gd_Grammar_startName_31 hF q998 q999 (fun hF => ?_)
    refine gh_aload_n gd_Grammar_startName_32 0 rfl (by decide) ?_
    refine gf_13_4 gd_Grammar_startName_33 gh_k275 hF ?_
    refine gh_aload_n gd_Grammar_startName_36 0 rfl (by decide) ?_
    refine gf_13_1 gd_Grammar_startName_37 gh_k257 hF ((gh_u_a (by decide)).trans (gh_u_a (by decide))) ?_
    refine gh_iconst gd_Grammar_startName_40 (gh_r0 rfl) ?_
    obtain ⟨q1000, h⟩ := h
    obtain ⟨q1001, h⟩ := h
    refine sa_15 gd_Grammar_startName_41 hF q1000 q1001 (fun hF => ?_)
    refine gh_aload_n gd_Grammar_startName_42 0 rfl (by decide) ?_
    refine gh_dup gd_Grammar_startName_43 (by decide) ?_
    refine gf_13_1 gd_Grammar_startName_44 gh_k257 hF ((gh_u_a (by decide)).trans ((gh_u_a (by decide)).trans (gh_u_a (by decide)))) ?_
    refine gh_iconst gd_Grammar_startName_47 (gh_r0 rfl) ?_
    obtain ⟨q1002, h⟩ := h
    refine gh_iadd gd_Grammar_startName_48 q1002 ?_
    refine pf_13_1 gd_Grammar_startName_49 gh_k257 hF (fun hF => ?_)
    exact gh_ret9 rfl gd_Grammar_startName_52 ⟨hF, h⟩
  · have h := hB c995
    exact gh_ret9 rfl gd_Grammar_startName_52 ⟨hF, h⟩
def w_Grammar_startRule (m : gh_M) (Q : Int → gh_M → Prop) : Prop := (((¬ ((m 13 2) < 20) ∨ ((m 13 1) ≤ 0)) → Q 0 m) ∧ (¬ (¬ ((m 13 2) < 20) ∨ ((m 13 1) ≤ 0)) → gh_i ((m 13 1) - 1) ∧ 0 ≤ m 13 2 ∧ (m 13 2) < 20 ∧ 0 ≤ m 13 2 ∧ (m 13 2) < 20 ∧ gh_i ((m 13 1) - 1) ∧ 0 ≤ (m 13 1) - 1 ∧ ((m 13 1) - 1) < 8 ∧ gh_i ((m 15 ((m 13 1) - 1)) + 1) ∧ 0 ≤ (m 13 1) - 1 ∧ ((m 13 1) - 1) < 8 ∧ gh_i ((m 13 2) + 1) ∧ Q 0 (gh_u (gh_u (gh_u (gh_u m 16 (m 13 2) ((m 13 1) - 1)) 17 (m 13 2) 0) 15 ((m 13 1) - 1) ((m 15 ((m 13 1) - 1)) + 1)) 13 2 ((m 13 2) + 1))))
theorem s_Grammar_startRule {E : gh_E} {m : gh_M} {Q : Int → gh_M → Prop} (d : Nat) (hF : gh_F m) (h : w_Grammar_startRule m Q) : gh_C E gh_yGrammar_startRule prog_6_method_4_code 1 none 9 (d + 0) [(2, 13)] m (fun r m1 => gh_F m1 ∧ Q r m1) := by
  refine gh_enter2 (L := [(0, 2, 13)]) (by decide +kernel) gh_rt9 (Nat.le_of_ble_eq_true rfl) rfl rfl ?_
  unfold w_Grammar_startRule at h
  refine gh_aload_n gd_Grammar_startRule_0 0 rfl (by decide) ?_
  refine gf_13_2 gd_Grammar_startRule_1 gh_k263 hF rfl ?_
  refine gh_bipush gd_Grammar_startRule_4 (by decide) (gh_r0 rfl) ?_
  obtain ⟨hA, hB⟩ := h
  have k1026 : (¬ ((m 13 2) < 20) ∨ ((m 13 1) ≤ 0)) → gh_T E (gh_yGrammar_startRule.cls, prog_6_method_4_code, 1, false, 9) (d + 0) 66 [(0, 2, 13)] [] m (fun r m1 => gh_F m1 ∧ Q r m1) := by
    intro c
    have h := hA c
    exact gh_ret9 rfl gd_Grammar_startRule_66 ⟨hF, h⟩
  have k1027 : ¬ (¬ ((m 13 2) < 20) ∨ ((m 13 1) ≤ 0)) → gh_T E (gh_yGrammar_startRule.cls, prog_6_method_4_code, 1, false, 9) (d + 0) 16 [(0, 2, 13)] [] m (fun r m1 => gh_F m1 ∧ Q r m1) := by
    intro c
    have h := hB c
    refine gh_aload_n gd_Grammar_startRule_16 0 rfl (by decide) ?_
    refine gf_13_5 gd_Grammar_startRule_17 gh_k277 hF ?_
    refine gh_aload_n gd_Grammar_startRule_20 0 rfl (by decide) ?_
    refine gf_13_2 gd_Grammar_startRule_21 gh_k263 hF rfl ?_
    refine gh_aload_n gd_Grammar_startRule_24 0 rfl (by decide) ?_
    refine gf_13_1 gd_Grammar_startRule_25 gh_k257 hF rfl ?_
    refine gh_iconst gd_Grammar_startRule_28 (gh_r0 rfl) ?_
    obtain ⟨q1028, h⟩ := h
    refine gh_isub gd_Grammar_startRule_29 q1028 ?_
    obtain ⟨q1029, h⟩ := h
    obtain ⟨q1030, h⟩ := h
    refine sa_16 gd_Grammar_startRule_30 hF q1029 q1030 (fun hF => ?_)
    refine gh_aload_n gd_Grammar_startRule_31 0 rfl (by decide) ?_
    refine gf_13_6 gd_Grammar_startRule_32 gh_k283 hF ?_
    refine gh_aload_n gd_Grammar_startRule_35 0 rfl (by decide) ?_
    refine gf_13_2 gd_Grammar_startRule_36 gh_k263 hF (gh_u_a (by decide)) ?_
    refine gh_iconst gd_Grammar_startRule_39 (gh_r0 rfl) ?_
    obtain ⟨q1031, h⟩ := h
    obtain ⟨q1032, h⟩ := h
    refine sa_17 gd_Grammar_startRule_40 hF q1031 q1032 (fun hF => ?_)
    refine gh_aload_n gd_Grammar_startRule_41 0 rfl (by decide) ?_
    refine gf_13_4 gd_Grammar_startRule_42 gh_k275 hF ?_
    refine gh_aload_n gd_Grammar_startRule_45 0 rfl (by decide) ?_
    refine gf_13_1 gd_Grammar_startRule_46 gh_k257 hF ((gh_u_a (by decide)).trans (gh_u_a (by decide))) ?_
    refine gh_iconst gd_Grammar_startRule_49 (gh_r0 rfl) ?_
    obtain ⟨q1033, h⟩ := h
    refine gh_isub gd_Grammar_startRule_50 q1033 ?_
    refine gh_dup2 gd_Grammar_startRule_51 (by decide) (by decide) ?_
    obtain ⟨q1034, h⟩ := h
    obtain ⟨q1035, h⟩ := h
    refine la_15 gd_Grammar_startRule_52 hF q1034 q1035 ((gh_u_a (by decide)).trans (gh_u_a (by decide))) ?_
    refine gh_iconst gd_Grammar_startRule_53 (gh_r0 rfl) ?_
    obtain ⟨q1036, h⟩ := h
    refine gh_iadd gd_Grammar_startRule_54 q1036 ?_
    obtain ⟨q1037, h⟩ := h
    obtain ⟨q1038, h⟩ := h
    refine sa_15 gd_Grammar_startRule_55 hF q1037 q1038 (fun hF => ?_)
    refine gh_aload_n gd_Grammar_startRule_56 0 rfl (by decide) ?_
    refine gh_dup gd_Grammar_startRule_57 (by decide) ?_
    refine gf_13_2 gd_Grammar_startRule_58 gh_k263 hF ((gh_u_a (by decide)).trans ((gh_u_a (by decide)).trans (gh_u_a (by decide)))) ?_
    refine gh_iconst gd_Grammar_startRule_61 (gh_r0 rfl) ?_
    obtain ⟨q1039, h⟩ := h
    refine gh_iadd gd_Grammar_startRule_62 q1039 ?_
    refine pf_13_2 gd_Grammar_startRule_63 gh_k263 hF (fun hF => ?_)
    exact gh_ret9 rfl gd_Grammar_startRule_66 ⟨hF, h⟩
  refine gh_jge (tgt := 66) gd_Grammar_startRule_6 (by decide) (fun c1040 => ?_) (fun c1040 => ?_)
  · have hz : True := trivial
    refine gh_aload_n gd_Grammar_startRule_9 0 rfl (by decide) ?_
    refine gf_13_1 gd_Grammar_startRule_10 gh_k257 hF rfl ?_
    refine gh_zle (tgt := 66) gd_Grammar_startRule_13 (by decide) (fun c1041 => ?_) (fun c1041 => ?_)
    · have hz : True := trivial
      exact k1026 (Or.inr c1041)
    · have hz : True := trivial
      exact k1027 (fun z => z.elim (fun w => w c1040) c1041)
  · have hz : True := trivial
    exact k1026 (Or.inl c1040)
def w_Grammar_addPart (v1 : Int) (m : gh_M) (Q : Int → gh_M → Prop) : Prop := gh_i ((m 13 2) - 1) ∧ ∀ v2 : Int, v2 = (m 13 2) - 1 → ((¬ (v2 < 0) → (0 ≤ v2 ∧ v2 < 20))) ∧ (((¬ (v2 < 0) ∧ ((m 17 v2) < 4)) → gh_i (v2 * 4) ∧ 0 ≤ v2 ∧ v2 < 20 ∧ gh_i ((v2 * 4) + (m 17 v2)) ∧ 0 ≤ (v2 * 4) + (m 17 v2) ∧ ((v2 * 4) + (m 17 v2)) < 80 ∧ 0 ≤ v2 ∧ v2 < 20 ∧ gh_i ((m 17 v2) + 1) ∧ 0 ≤ v2 ∧ v2 < 20 ∧ Q 0 (gh_u (gh_u m 19 ((v2 * 4) + (m 17 v2)) v1) 17 v2 ((m 17 v2) + 1))) ∧ (¬ (¬ (v2 < 0) ∧ ((m 17 v2) < 4)) → Q 0 m))
theorem s_Grammar_addPart {E : gh_E} {m : gh_M} {Q : Int → gh_M → Prop} (d : Nat) (v1 : Int) (hF : gh_F m) (h : w_Grammar_addPart v1 m Q) : gh_C E gh_yGrammar_addPart prog_6_method_5_code 3 none 9 (d + 0) [(2, 13), (0, v1)] m (fun r m1 => gh_F m1 ∧ Q r m1) := by
  refine gh_enter2 (L := [(0, 2, 13), (1, 0, v1)]) (by decide +kernel) gh_rt9 (Nat.le_of_ble_eq_true rfl) rfl rfl ?_
  unfold w_Grammar_addPart at h
  refine gh_aload_n gd_Grammar_addPart_0 0 rfl (by decide) ?_
  refine gf_13_2 gd_Grammar_addPart_1 gh_k263 hF rfl ?_
  refine gh_iconst gd_Grammar_addPart_4 (gh_r0 rfl) ?_
  obtain ⟨q1042, h⟩ := h
  refine gh_isub gd_Grammar_addPart_5 q1042 ?_
  refine gh_name (fun v2 hn => ?_)
  have h := h v2 hn
  refine gh_istore_n (L2 := [(2, 0, v2), (0, 2, 13), (1, 0, v1)]) gd_Grammar_addPart_6 (by decide) rfl ?_
  refine gh_iload_n gd_Grammar_addPart_7 0 rfl ?_
  obtain ⟨hk, hA, hB⟩ := h
  have k1045 : (¬ (v2 < 0) ∧ ((m 17 v2) < 4)) → gh_T E (gh_yGrammar_addPart.cls, prog_6_method_5_code, 3, false, 9) (d + 0) 21 [(2, 0, v2), (0, 2, 13), (1, 0, v1)] [] m (fun r m1 => gh_F m1 ∧ Q r m1) := by
    intro c
    have h := hA c
    refine gh_aload_n gd_Grammar_addPart_21 1 rfl (by decide) ?_
    refine gf_13_8 gd_Grammar_addPart_22 gh_k293 hF ?_
    refine gh_iload_n gd_Grammar_addPart_25 0 rfl ?_
    refine gh_iconst gd_Grammar_addPart_26 (gh_r0 rfl) ?_
    obtain ⟨q1047, h⟩ := h
    refine gh_imul gd_Grammar_addPart_27 q1047 ?_
    refine gh_aload_n gd_Grammar_addPart_28 1 rfl (by decide) ?_
    refine gf_13_6 gd_Grammar_addPart_29 gh_k283 hF ?_
    refine gh_iload_n gd_Grammar_addPart_32 0 rfl ?_
    obtain ⟨q1048, h⟩ := h
    obtain ⟨q1049, h⟩ := h
    refine la_17 gd_Grammar_addPart_33 hF q1048 q1049 rfl ?_
    obtain ⟨q1050, h⟩ := h
    refine gh_iadd gd_Grammar_addPart_34 q1050 ?_
    refine gh_iload_n gd_Grammar_addPart_35 2 rfl ?_
    obtain ⟨q1051, h⟩ := h
    obtain ⟨q1052, h⟩ := h
    refine sa_19 gd_Grammar_addPart_36 hF q1051 q1052 (fun hF => ?_)
    refine gh_aload_n gd_Grammar_addPart_37 1 rfl (by decide) ?_
    refine gf_13_6 gd_Grammar_addPart_38 gh_k283 hF ?_
    refine gh_iload_n gd_Grammar_addPart_41 0 rfl ?_
    refine gh_dup2 gd_Grammar_addPart_42 (by decide) (by decide) ?_
    obtain ⟨q1053, h⟩ := h
    obtain ⟨q1054, h⟩ := h
    refine la_17 gd_Grammar_addPart_43 hF q1053 q1054 (gh_u_a (by decide)) ?_
    refine gh_iconst gd_Grammar_addPart_44 (gh_r0 rfl) ?_
    obtain ⟨q1055, h⟩ := h
    refine gh_iadd gd_Grammar_addPart_45 q1055 ?_
    obtain ⟨q1056, h⟩ := h
    obtain ⟨q1057, h⟩ := h
    refine sa_17 gd_Grammar_addPart_46 hF q1056 q1057 (fun hF => ?_)
    exact gh_ret9 rfl gd_Grammar_addPart_47 ⟨hF, h⟩
  have k1046 : ¬ (¬ (v2 < 0) ∧ ((m 17 v2) < 4)) → gh_T E (gh_yGrammar_addPart.cls, prog_6_method_5_code, 3, false, 9) (d + 0) 47 [(2, 0, v2), (0, 2, 13), (1, 0, v1)] [] m (fun r m1 => gh_F m1 ∧ Q r m1) := by
    intro c
    have h := hB c
    exact gh_ret9 rfl gd_Grammar_addPart_47 ⟨hF, h⟩
  refine gh_zlt (tgt := 47) gd_Grammar_addPart_8 (by decide) (fun c1058 => ?_) (fun c1058 => ?_)
  · have hz : True := trivial
    exact k1046 (fun z => z.1 c1058)
  · have hz : True := trivial
    have hk := hk c1058
    refine gh_aload_n gd_Grammar_addPart_11 1 rfl (by decide) ?_
    refine gf_13_6 gd_Grammar_addPart_12 gh_k283 hF ?_
    refine gh_iload_n gd_Grammar_addPart_15 0 rfl ?_
    obtain ⟨q1043, hk⟩ := hk
    have q1044 := hk
    refine la_17 gd_Grammar_addPart_16 hF q1043 q1044 rfl ?_
    refine gh_iconst gd_Grammar_addPart_17 (gh_r0 rfl) ?_
    refine gh_jge (tgt := 47) gd_Grammar_addPart_18 (by decide) (fun c1059 => ?_) (fun c1059 => ?_)
    · have hz : True := trivial
      exact k1045 ⟨c1058, c1059⟩
    · have hz : True := trivial
      exact k1046 (fun z => c1059 z.2)
def f_Draft_copyRule_13_6 (v2 : Int) (Q : Int → gh_M → Prop) (K6 : Int → gh_M → Prop) (v3 : Int) (m : gh_M) : Prop := 0 ≤ v2 ∧ v2 < 20 ∧ ((((v3 < (m 9 v2)) ∧ (v3 < 4)) → gh_i (v2 * 4) ∧ gh_i ((v2 * 4) + v3) ∧ 0 ≤ (v2 * 4) + v3 ∧ ((v2 * 4) + v3) < 80 ∧ ∀ v4 : Int, v4 = m 10 ((v2 * 4) + v3) → gh_i ((-1) - v4) ∧ ∀ v5 : Int, v5 = (-1) - v4 → ∃ J62 : Int → Prop, (∀ (y0 : Int), J62 y0 → (((v4 ≤ 0) → (gh_i ((-1) - y0)))) ∧ w_Grammar_addPart (if v4 ≤ 0 then ((-1) - y0) else v4) m (fun _ m1075 => gh_i (v3 + 1) ∧ K6 (v3 + 1) m1075)) ∧ ((v5 < 8 → gh_i ((m 6 1) + v5) ∧ J62 ((m 6 1) + v5)) ∧ (¬ (v5 < 8) → w_Draft_find v5 m (fun r1080 => J62 r1080)))) ∧ (¬ ((v3 < (m 9 v2)) ∧ (v3 < 4)) → Q 0 m))
def w_Draft_copyRule_13 (v2 : Int) (m : gh_M) (Q : Int → gh_M → Prop) : Prop := w_Grammar_startRule m (fun _ m1061 => gh_M1 (fun K6 v3 m => f_Draft_copyRule_13_6 v2 Q K6 v3 m) 0 m1061)
theorem b_Draft_copyRule_13_6 {E : gh_E} {v2 : Int} {Q : Int → gh_M → Prop} {K6 : Int → gh_M → Prop} (d : Nat) (hK : ∀ (v3 : Int) (m : gh_M), gh_F m → K6 v3 m → gh_T E (gh_yDraft_copyRule.cls, prog_3_method_12_code, 7, false, 9) (d + 1) 6 [(0, 2, 6), (1, 2, 13), (2, 0, v2), (3, 0, v3)] [] m (fun r m1 => gh_F m1 ∧ Q r m1)) (v3 : Int) (m : gh_M) (hF : gh_F m) (h : f_Draft_copyRule_13_6 v2 Q K6 v3 m) : gh_T E (gh_yDraft_copyRule.cls, prog_3_method_12_code, 7, false, 9) (d + 1) 6 [(0, 2, 6), (1, 2, 13), (2, 0, v2), (3, 0, v3)] [] m (fun r m1 => gh_F m1 ∧ Q r m1) := by
  have hK6 := hK
  unfold f_Draft_copyRule_13_6 at h
  refine gh_iload_n gd_Draft_copyRule_6 3 rfl ?_
  refine gh_aload_n gd_Draft_copyRule_7 0 rfl (by decide) ?_
  refine gf_6_5 gd_Draft_copyRule_8 gh_k200 hF ?_
  refine gh_iload_n gd_Draft_copyRule_11 2 rfl ?_
  obtain ⟨q1062, h⟩ := h
  obtain ⟨q1063, h⟩ := h
  refine la_9 gd_Draft_copyRule_12 hF q1062 q1063 rfl ?_
  obtain ⟨hA, hB⟩ := h
  have k1064 : ((v3 < (m 9 v2)) ∧ (v3 < 4)) → gh_T E (gh_yDraft_copyRule.cls, prog_3_method_12_code, 7, false, 9) (d + 1) 21 [(0, 2, 6), (1, 2, 13), (2, 0, v2), (3, 0, v3)] [] m (fun r m1 => gh_F m1 ∧ Q r m1) := by
    intro c
    have h := hA c
    refine gh_aload_n gd_Draft_copyRule_21 0 rfl (by decide) ?_
    refine gf_6_6 gd_Draft_copyRule_22 gh_k201 hF ?_
    refine gh_iload_n gd_Draft_copyRule_25 2 rfl ?_
    refine gh_iconst gd_Draft_copyRule_26 (gh_r0 rfl) ?_
    obtain ⟨q1066, h⟩ := h
    refine gh_imul gd_Draft_copyRule_27 q1066 ?_
    refine gh_iload_n gd_Draft_copyRule_28 3 rfl ?_
    obtain ⟨q1067, h⟩ := h
    refine gh_iadd gd_Draft_copyRule_29 q1067 ?_
    obtain ⟨q1068, h⟩ := h
    obtain ⟨q1069, h⟩ := h
    refine la_10 gd_Draft_copyRule_30 hF q1068 q1069 rfl ?_
    refine gh_name (fun v4 hn => ?_)
    have h := h v4 hn
    refine gh_istore (L2 := [(4, 0, v4), (0, 2, 6), (1, 2, 13), (2, 0, v2), (3, 0, v3)]) gd_Draft_copyRule_31 (by decide) rfl ?_
    refine gh_iconst gd_Draft_copyRule_33 (gh_r0 rfl) ?_
    refine gh_iload gd_Draft_copyRule_34 0 rfl ?_
    obtain ⟨q1070, h⟩ := h
    refine gh_isub gd_Draft_copyRule_36 q1070 ?_
    refine gh_name (fun v5 hn => ?_)
    have h := h v5 hn
    refine gh_istore (L2 := [(5, 0, v5), (4, 0, v4), (0, 2, 6), (1, 2, 13), (2, 0, v2), (3, 0, v3)]) gd_Draft_copyRule_37 (by decide) rfl ?_
    refine gh_iload gd_Draft_copyRule_39 0 rfl ?_
    refine gh_bipush gd_Draft_copyRule_41 (by decide) (gh_r0 rfl) ?_
    obtain ⟨J62, hJ62, h⟩ := h
    have hJ62 : ∀ (y0 : Int), gh_F m → J62 y0 → gh_T E (gh_yDraft_copyRule.cls, prog_3_method_12_code, 7, false, 9) (d + 1) 62 [(0, 2, 6), (1, 2, 13), (2, 0, v2), (3, 0, v3), (4, 0, v4)] [(0, y0)] m (fun r m1 => gh_F m1 ∧ Q r m1) := by
      intro y0 hF hj
      have h := hJ62 y0 hj
      refine gh_istore (L2 := [(6, 0, y0), (0, 2, 6), (1, 2, 13), (2, 0, v2), (3, 0, v3), (4, 0, v4)]) gd_Draft_copyRule_62 (by decide) rfl ?_
      refine gh_aload_n gd_Draft_copyRule_64 2 rfl (by decide) ?_
      refine gh_iload gd_Draft_copyRule_65 5 rfl ?_
      obtain ⟨hk, h⟩ := h
      have k1072 : ∀ x1073 : Int, x1073 = (if v4 ≤ 0 then ((-1) - y0) else v4) → gh_T E (gh_yDraft_copyRule.cls, prog_3_method_12_code, 7, false, 9) (d + 1) 79 [(6, 0, y0), (0, 2, 6), (1, 2, 13), (2, 0, v2), (3, 0, v3), (4, 0, v4)] [(0, x1073), (2, 13)] m (fun r m1 => gh_F m1 ∧ Q r m1) := by
        rintro _ rfl
        refine cv_Grammar_addPart (d := d) gd_Draft_copyRule_79 gh_k853 hF (Nat.le_of_ble_eq_true rfl) (gh_C.mono (s_Grammar_addPart d (if v4 ≤ 0 then ((-1) - y0) else v4) hF h) (fun r1074 m1075 hq => ?_))
        obtain ⟨hF, h⟩ := hq
        obtain ⟨q1076, h⟩ := h
        refine gh_iinc (L2 := [(3, 0, v3 + 1), (6, 0, y0), (0, 2, 6), (1, 2, 13), (2, 0, v2), (4, 0, v4)]) gd_Draft_copyRule_82 4 rfl q1076 (by decide) rfl ?_
        refine gh_goto (tgt := 6) gd_Draft_copyRule_85 (by decide) ?_
        refine gh_pick (L2 := [(0, 2, 6), (1, 2, 13), (2, 0, v2), (3, 0, v3 + 1)]) [2, 3, 4, 0] rfl ?_
        exact hK6 (v3 + 1) m1075 hF h
      refine gh_zle (tgt := 75) gd_Draft_copyRule_67 (by decide) (fun c1077 => ?_) (fun c1077 => ?_)
      · have hz : True := trivial
        have hk := hk c1077
        refine gh_iconst gd_Draft_copyRule_75 (gh_r0 rfl) ?_
        refine gh_iload gd_Draft_copyRule_76 0 rfl ?_
        have q1071 := hk
        refine gh_isub gd_Draft_copyRule_78 q1071 ?_
        exact k1072 _ (by rw [if_pos c1077])
      · have hz : True := trivial
        refine gh_iload gd_Draft_copyRule_70 5 rfl ?_
        refine gh_goto (tgt := 79) gd_Draft_copyRule_72 (by decide) ?_
        exact k1072 _ (by rw [if_neg c1077])
    obtain ⟨hA, hB⟩ := h
    refine gh_jge (tgt := 56) gd_Draft_copyRule_43 (by decide) (fun c1078 => ?_) (fun c1078 => ?_)
    · have h := hA c1078
      refine gh_aload_n gd_Draft_copyRule_46 2 rfl (by decide) ?_
      refine gf_6_1 gd_Draft_copyRule_47 gh_k194 hF rfl ?_
      refine gh_iload gd_Draft_copyRule_50 0 rfl ?_
      obtain ⟨q1079, h⟩ := h
      refine gh_iadd gd_Draft_copyRule_52 q1079 ?_
      refine gh_goto (tgt := 62) gd_Draft_copyRule_53 (by decide) ?_
      refine gh_pick (L2 := [(0, 2, 6), (1, 2, 13), (2, 0, v2), (3, 0, v3), (4, 0, v4)]) [2, 3, 4, 5, 1] rfl ?_
      exact hJ62 ((m 6 1) + v5) hF h
    · have h := hB c1078
      refine gh_aload_n gd_Draft_copyRule_56 2 rfl (by decide) ?_
      refine gh_iload gd_Draft_copyRule_57 0 rfl ?_
      refine cv_Draft_find (d := d) gd_Draft_copyRule_59 gh_k852 hF (Nat.le_of_ble_eq_true rfl) (gh_C.pw (s_Draft_find d v5 hF h) (fun r1080 h => ?_))
      refine gh_pick (L2 := [(0, 2, 6), (1, 2, 13), (2, 0, v2), (3, 0, v3), (4, 0, v4)]) [2, 3, 4, 5, 1] rfl ?_
      exact hJ62 r1080 hF h
  have k1065 : ¬ ((v3 < (m 9 v2)) ∧ (v3 < 4)) → gh_T E (gh_yDraft_copyRule.cls, prog_3_method_12_code, 7, false, 9) (d + 1) 88 [(0, 2, 6), (1, 2, 13), (2, 0, v2), (3, 0, v3)] [] m (fun r m1 => gh_F m1 ∧ Q r m1) := by
    intro c
    have h := hB c
    exact gh_ret9 rfl gd_Draft_copyRule_88 ⟨hF, h⟩
  refine gh_jge (tgt := 88) gd_Draft_copyRule_13 (by decide) (fun c1082 => ?_) (fun c1082 => ?_)
  · have hz : True := trivial
    refine gh_iload_n gd_Draft_copyRule_16 3 rfl ?_
    refine gh_iconst gd_Draft_copyRule_17 (gh_r0 rfl) ?_
    refine gh_jge (tgt := 88) gd_Draft_copyRule_18 (by decide) (fun c1083 => ?_) (fun c1083 => ?_)
    · have hz : True := trivial
      exact k1064 ⟨c1082, c1083⟩
    · have hz : True := trivial
      exact k1065 (fun z => c1083 z.2)
  · have hz : True := trivial
    exact k1065 (fun z => c1082 z.1)
theorem s_Draft_copyRule_13 {E : gh_E} {m : gh_M} {Q : Int → gh_M → Prop} (d : Nat) (v2 : Int) (hF : gh_F m) (h : w_Draft_copyRule_13 v2 m Q) : gh_C E gh_yDraft_copyRule prog_3_method_12_code 7 none 9 (d + 1) [(2, 6), (2, 13), (0, v2)] m (fun r m1 => gh_F m1 ∧ Q r m1) := by
  refine gh_enter2 (L := [(0, 2, 6), (1, 2, 13), (2, 0, v2)]) (by decide +kernel) gh_rt9 (Nat.le_of_ble_eq_true rfl) rfl rfl ?_
  unfold w_Draft_copyRule_13 at h
  refine gh_aload_n gd_Draft_copyRule_0 1 rfl (by decide) ?_
  refine cv_Grammar_startRule (d := d) gd_Draft_copyRule_1 gh_k848 hF (Nat.le_of_ble_eq_true rfl) (gh_C.mono (s_Grammar_startRule d hF h) (fun r1060 m1061 hq => ?_))
  obtain ⟨hF, h⟩ := hq
  refine gh_iconst gd_Draft_copyRule_4 (gh_r0 rfl) ?_
  refine gh_istore_n (L2 := [(3, 0, 0), (0, 2, 6), (1, 2, 13), (2, 0, v2)]) gd_Draft_copyRule_5 (by decide) rfl ?_
  refine gh_pick (L2 := [(0, 2, 6), (1, 2, 13), (2, 0, v2), (3, 0, 0)]) [1, 2, 3, 0] rfl ?_
  exact gh_M1_sound (T := fun v3 m => gh_T E (gh_yDraft_copyRule.cls, prog_3_method_12_code, 7, false, 9) (d + 1) 6 [(0, 2, 6), (1, 2, 13), (2, 0, v2), (3, 0, v3)] [] m (fun r m1 => gh_F m1 ∧ Q r m1)) (fun _ m => gh_F m) (fun K6 v3 m hK hF h => b_Draft_copyRule_13_6 d hK v3 m hF h) 0 m1061 hF h
def f_Draft_fill_13_77 (v2 : Int) (v3 : Int) (v4 : Int) (K24 : Int → gh_M → Prop) (K77 : Int → gh_M → Prop) (v5 : Int) (m : gh_M) : Prop := ∃ J118 : gh_M → Prop, (∀ (m : gh_M), J118 m → gh_i (v3 + 1) ∧ K24 (v3 + 1) m) ∧ ((((v5 < (m 6 3)) ∧ (v5 < 20)) → 0 ≤ v5 ∧ v5 < 20 ∧ ∃ J112 : gh_M → Prop, (∀ (m : gh_M), J112 m → gh_i (v5 + 1) ∧ K77 (v5 + 1) m) ∧ (((m 8 v5) = v4 → w_Draft_copyRule_13 v5 m (fun _ m1025 => J112 m1025)) ∧ (¬ ((m 8 v5) = v4) → J112 m))) ∧ (¬ ((v5 < (m 6 3)) ∧ (v5 < 20)) → J118 m))
def f_Draft_fill_13_24 (v2 : Int) (Q : Int → gh_M → Prop) (K24 : Int → gh_M → Prop) (v3 : Int) (m : gh_M) : Prop := ((v3 < v2 → (((v3 < (m 6 1)) → (0 ≤ v3 ∧ v3 < 8))) ∧ w_Grammar_startName (if v3 < (m 6 1) then (m 7 v3) else 0) m (fun _ m1012 => ((¬ (v3 < (m1012 6 1)) → (gh_i (8 + v3) ∧ gh_i ((8 + v3) - (m1012 6 1))))) ∧ ∀ v4 : Int, v4 = (if v3 < (m1012 6 1) then v3 else ((8 + v3) - (m1012 6 1))) → gh_M1 (fun K77 v5 m => f_Draft_fill_13_77 v2 v3 v4 K24 K77 v5 m) 0 m1012)) ∧ (¬ (v3 < v2) → Q 0 m))
def w_Draft_fill_13 (m : gh_M) (Q : Int → gh_M → Prop) : Prop := w_Grammar_clear m (fun _ m1004 => k_Draft_allNames (gh_u m1004 13 0 (m1004 6 1)) ∧ ∀ v2 : Int, v2 = min (x_Draft_allNames (gh_u m1004 13 0 (m1004 6 1))) 8 → gh_M1 (fun K24 v3 m => f_Draft_fill_13_24 v2 Q K24 v3 m) 0 (gh_u m1004 13 0 (m1004 6 1)))
theorem b_Draft_fill_13_77 {E : gh_E} {v2 : Int} {v3 : Int} {v4 : Int} {K24 : Int → gh_M → Prop} {Q : Int → gh_M → Prop} {K77 : Int → gh_M → Prop} (d : Nat) (hK24 : ∀ (v3 : Int) (m : gh_M), gh_F m → K24 v3 m → gh_T E (gh_yDraft_fill.cls, prog_3_method_11_code, 6, false, 9) (d + 2) 24 [(0, 2, 6), (1, 2, 13), (2, 0, v2), (3, 0, v3)] [] m (fun r m1 => gh_F m1 ∧ Q r m1)) (hK : ∀ (v5 : Int) (m : gh_M), gh_F m → K77 v5 m → gh_T E (gh_yDraft_fill.cls, prog_3_method_11_code, 6, false, 9) (d + 2) 77 [(0, 2, 6), (1, 2, 13), (2, 0, v2), (3, 0, v3), (4, 0, v4), (5, 0, v5)] [] m (fun r m1 => gh_F m1 ∧ Q r m1)) (v5 : Int) (m : gh_M) (hF : gh_F m) (h : f_Draft_fill_13_77 v2 v3 v4 K24 K77 v5 m) : gh_T E (gh_yDraft_fill.cls, prog_3_method_11_code, 6, false, 9) (d + 2) 77 [(0, 2, 6), (1, 2, 13), (2, 0, v2), (3, 0, v3), (4, 0, v4), (5, 0, v5)] [] m (fun r m1 => gh_F m1 ∧ Q r m1) := by
  have hK77 := hK
  unfold f_Draft_fill_13_77 at h
  refine gh_iload gd_Draft_fill_77 5 rfl ?_
  refine gh_aload_n gd_Draft_fill_79 0 rfl (by decide) ?_
  refine gf_6_3 gd_Draft_fill_80 gh_k197 hF rfl ?_
  obtain ⟨J118, hJ118, h⟩ := h
  have hJ118 : ∀ (m : gh_M), gh_F m → J118 m → gh_T E (gh_yDraft_fill.cls, prog_3_method_11_code, 6, false, 9) (d + 2) 118 [(0, 2, 6), (1, 2, 13), (2, 0, v2), (3, 0, v3)] [] m (fun r m1 => gh_F m1 ∧ Q r m1) := by
    intro m hF hj
    have h := hJ118 m hj
    obtain ⟨q1017, h⟩ := h
    refine gh_iinc (L2 := [(3, 0, v3 + 1), (0, 2, 6), (1, 2, 13), (2, 0, v2)]) gd_Draft_fill_118 3 rfl q1017 (by decide) rfl ?_
    refine gh_goto (tgt := 24) gd_Draft_fill_121 (by decide) ?_
    refine gh_pick (L2 := [(0, 2, 6), (1, 2, 13), (2, 0, v2), (3, 0, v3 + 1)]) [1, 2, 3, 0] rfl ?_
    exact hK24 (v3 + 1) m hF h
  obtain ⟨hA, hB⟩ := h
  have k1018 : ((v5 < (m 6 3)) ∧ (v5 < 20)) → gh_T E (gh_yDraft_fill.cls, prog_3_method_11_code, 6, false, 9) (d + 2) 93 [(0, 2, 6), (1, 2, 13), (2, 0, v2), (3, 0, v3), (4, 0, v4), (5, 0, v5)] [] m (fun r m1 => gh_F m1 ∧ Q r m1) := by
    intro c
    have h := hA c
    refine gh_aload_n gd_Draft_fill_93 0 rfl (by decide) ?_
    refine gf_6_4 gd_Draft_fill_94 gh_k199 hF ?_
    refine gh_iload gd_Draft_fill_97 5 rfl ?_
    obtain ⟨q1020, h⟩ := h
    obtain ⟨q1021, h⟩ := h
    refine la_8 gd_Draft_fill_99 hF q1020 q1021 rfl ?_
    refine gh_iload gd_Draft_fill_100 4 rfl ?_
    obtain ⟨J112, hJ112, h⟩ := h
    have hJ112 : ∀ (m : gh_M), gh_F m → J112 m → gh_T E (gh_yDraft_fill.cls, prog_3_method_11_code, 6, false, 9) (d + 2) 112 [(0, 2, 6), (1, 2, 13), (2, 0, v2), (3, 0, v3), (4, 0, v4), (5, 0, v5)] [] m (fun r m1 => gh_F m1 ∧ Q r m1) := by
      intro m hF hj
      have h := hJ112 m hj
      obtain ⟨q1022, h⟩ := h
      refine gh_iinc (L2 := [(5, 0, v5 + 1), (0, 2, 6), (1, 2, 13), (2, 0, v2), (3, 0, v3), (4, 0, v4)]) gd_Draft_fill_112 5 rfl q1022 (by decide) rfl ?_
      refine gh_goto (tgt := 77) gd_Draft_fill_115 (by decide) ?_
      refine gh_pick (L2 := [(0, 2, 6), (1, 2, 13), (2, 0, v2), (3, 0, v3), (4, 0, v4), (5, 0, v5 + 1)]) [1, 2, 3, 4, 5, 0] rfl ?_
      exact hK77 (v5 + 1) m hF h
    obtain ⟨hA, hB⟩ := h
    refine gh_jne (tgt := 112) gd_Draft_fill_102 (by decide) (fun c1023 => ?_) (fun c1023 => ?_)
    · have h := hA c1023
      refine gh_aload_n gd_Draft_fill_105 0 rfl (by decide) ?_
      refine gh_aload_n gd_Draft_fill_106 1 rfl (by decide) ?_
      refine gh_iload gd_Draft_fill_107 5 rfl ?_
      refine cv_Draft_copyRule (d := d + 1) gd_Draft_fill_109 gh_k844 hF (Nat.le_of_ble_eq_true rfl) (gh_C.mono (s_Draft_copyRule_13 d v5 hF h) (fun r1024 m1025 hq => ?_))
      obtain ⟨hF, h⟩ := hq
      exact hJ112 m1025 hF h
    · have h := hB c1023
      exact hJ112 m hF h
  have k1019 : ¬ ((v5 < (m 6 3)) ∧ (v5 < 20)) → gh_T E (gh_yDraft_fill.cls, prog_3_method_11_code, 6, false, 9) (d + 2) 118 [(0, 2, 6), (1, 2, 13), (2, 0, v2), (3, 0, v3), (4, 0, v4), (5, 0, v5)] [] m (fun r m1 => gh_F m1 ∧ Q r m1) := by
    intro c
    have h := hB c
    refine gh_pick (L2 := [(0, 2, 6), (1, 2, 13), (2, 0, v2), (3, 0, v3)]) [0, 1, 2, 3] rfl ?_
    exact hJ118 m hF h
  refine gh_jge (tgt := 118) gd_Draft_fill_83 (by decide) (fun c1084 => ?_) (fun c1084 => ?_)
  · have hz : True := trivial
    refine gh_iload gd_Draft_fill_86 5 rfl ?_
    refine gh_bipush gd_Draft_fill_88 (by decide) (gh_r0 rfl) ?_
    refine gh_jge (tgt := 118) gd_Draft_fill_90 (by decide) (fun c1085 => ?_) (fun c1085 => ?_)
    · have hz : True := trivial
      exact k1018 ⟨c1084, c1085⟩
    · have hz : True := trivial
      exact k1019 (fun z => c1085 z.2)
  · have hz : True := trivial
    exact k1019 (fun z => c1084 z.1)
theorem b_Draft_fill_13_24 {E : gh_E} {v2 : Int} {Q : Int → gh_M → Prop} {K24 : Int → gh_M → Prop} (d : Nat) (hK : ∀ (v3 : Int) (m : gh_M), gh_F m → K24 v3 m → gh_T E (gh_yDraft_fill.cls, prog_3_method_11_code, 6, false, 9) (d + 2) 24 [(0, 2, 6), (1, 2, 13), (2, 0, v2), (3, 0, v3)] [] m (fun r m1 => gh_F m1 ∧ Q r m1)) (v3 : Int) (m : gh_M) (hF : gh_F m) (h : f_Draft_fill_13_24 v2 Q K24 v3 m) : gh_T E (gh_yDraft_fill.cls, prog_3_method_11_code, 6, false, 9) (d + 2) 24 [(0, 2, 6), (1, 2, 13), (2, 0, v2), (3, 0, v3)] [] m (fun r m1 => gh_F m1 ∧ Q r m1) := by
  have hK24 := hK
  unfold f_Draft_fill_13_24 at h
  refine gh_iload_n gd_Draft_fill_24 3 rfl ?_
  refine gh_iload_n gd_Draft_fill_25 2 rfl ?_
  obtain ⟨hA, hB⟩ := h
  refine gh_jge (tgt := 124) gd_Draft_fill_26 (by decide) (fun c1006 => ?_) (fun c1006 => ?_)
  · have h := hA c1006
    refine gh_aload_n gd_Draft_fill_29 1 rfl (by decide) ?_
    refine gh_iload_n gd_Draft_fill_30 3 rfl ?_
    refine gh_aload_n gd_Draft_fill_31 0 rfl (by decide) ?_
    refine gf_6_1 gd_Draft_fill_32 gh_k194 hF rfl ?_
    obtain ⟨hk, h⟩ := h
    have k1009 : ∀ x1010 : Int, x1010 = (if v3 < (m 6 1) then (m 7 v3) else 0) → gh_T E (gh_yDraft_fill.cls, prog_3_method_11_code, 6, false, 9) (d + 2) 48 [(0, 2, 6), (1, 2, 13), (2, 0, v2), (3, 0, v3)] [(0, x1010), (2, 13)] m (fun r m1 => gh_F m1 ∧ Q r m1) := by
      rintro _ rfl
      refine cv_Grammar_startName (d := d + 1) gd_Draft_fill_48 gh_k840 hF (Nat.le_of_ble_eq_true rfl) (gh_C.mono (s_Grammar_startName (d + 1) (if v3 < (m 6 1) then (m 7 v3) else 0) hF h) (fun r1011 m1012 hq => ?_))
      obtain ⟨hF, h⟩ := hq
      refine gh_iload_n gd_Draft_fill_51 3 rfl ?_
      refine gh_aload_n gd_Draft_fill_52 0 rfl (by decide) ?_
      refine gf_6_1 gd_Draft_fill_53 gh_k194 hF rfl ?_
      obtain ⟨hk, h⟩ := h
      have k1015 : ∀ x1016 : Int, x1016 = (if v3 < (m1012 6 1) then v3 else ((8 + v3) - (m1012 6 1))) → gh_T E (gh_yDraft_fill.cls, prog_3_method_11_code, 6, false, 9) (d + 2) 72 [(0, 2, 6), (1, 2, 13), (2, 0, v2), (3, 0, v3)] [(0, x1016)] m1012 (fun r m1 => gh_F m1 ∧ Q r m1) := by
        rintro _ rfl
        refine gh_name (fun v4 hn => ?_)
        have h := h v4 hn
        refine gh_istore (L2 := [(4, 0, v4), (0, 2, 6), (1, 2, 13), (2, 0, v2), (3, 0, v3)]) gd_Draft_fill_72 (by decide) rfl ?_
        refine gh_iconst gd_Draft_fill_74 (gh_r0 rfl) ?_
        refine gh_istore (L2 := [(5, 0, 0), (4, 0, v4), (0, 2, 6), (1, 2, 13), (2, 0, v2), (3, 0, v3)]) gd_Draft_fill_75 (by decide) rfl ?_
        refine gh_pick (L2 := [(0, 2, 6), (1, 2, 13), (2, 0, v2), (3, 0, v3), (4, 0, v4), (5, 0, 0)]) [2, 3, 4, 5, 1, 0] rfl ?_
        exact gh_M1_sound (T := fun v5 m => gh_T E (gh_yDraft_fill.cls, prog_3_method_11_code, 6, false, 9) (d + 2) 77 [(0, 2, 6), (1, 2, 13), (2, 0, v2), (3, 0, v3), (4, 0, v4), (5, 0, v5)] [] m (fun r m1 => gh_F m1 ∧ Q r m1)) (fun _ m => gh_F m) (fun K77 v5 m hK hF h => b_Draft_fill_13_77 d hK24 hK v5 m hF h) 0 m1012 hF h
      refine gh_jge (tgt := 63) gd_Draft_fill_56 (by decide) (fun c1086 => ?_) (fun c1086 => ?_)
      · have hz : True := trivial
        refine gh_iload_n gd_Draft_fill_59 3 rfl ?_
        refine gh_goto (tgt := 72) gd_Draft_fill_60 (by decide) ?_
        exact k1015 _ (by rw [if_pos c1086])
      · have hz : True := trivial
        have hk := hk c1086
        refine gh_bipush gd_Draft_fill_63 (by decide) (gh_r0 rfl) ?_
        refine gh_iload_n gd_Draft_fill_65 3 rfl ?_
        obtain ⟨q1013, hk⟩ := hk
        refine gh_iadd gd_Draft_fill_66 q1013 ?_
        refine gh_aload_n gd_Draft_fill_67 0 rfl (by decide) ?_
        refine gf_6_1 gd_Draft_fill_68 gh_k194 hF rfl ?_
        have q1014 := hk
        refine gh_isub gd_Draft_fill_71 q1014 ?_
        exact k1015 _ (by rw [if_neg c1086])
    refine gh_jge (tgt := 47) gd_Draft_fill_35 (by decide) (fun c1087 => ?_) (fun c1087 => ?_)
    · have hz : True := trivial
      have hk := hk c1087
      refine gh_aload_n gd_Draft_fill_38 0 rfl (by decide) ?_
      refine gf_6_0 gd_Draft_fill_39 gh_k193 hF ?_
      refine gh_iload_n gd_Draft_fill_42 3 rfl ?_
      obtain ⟨q1007, hk⟩ := hk
      have q1008 := hk
      refine la_7 gd_Draft_fill_43 hF q1007 q1008 rfl ?_
      refine gh_goto (tgt := 48) gd_Draft_fill_44 (by decide) ?_
      exact k1009 _ (by rw [if_pos c1087])
    · have hz : True := trivial
      refine gh_iconst gd_Draft_fill_47 (gh_r0 rfl) ?_
      exact k1009 _ (by rw [if_neg c1087])
  · have h := hB c1006
    exact gh_ret9 rfl gd_Draft_fill_124 ⟨hF, h⟩
theorem s_Draft_fill_13 {E : gh_E} {m : gh_M} {Q : Int → gh_M → Prop} (d : Nat) (hF : gh_F m) (h : w_Draft_fill_13 m Q) : gh_C E gh_yDraft_fill prog_3_method_11_code 6 none 9 (d + 2) [(2, 6), (2, 13)] m (fun r m1 => gh_F m1 ∧ Q r m1) := by
  refine gh_enter2 (L := [(0, 2, 6), (1, 2, 13)]) (by decide +kernel) gh_rt9 (Nat.le_of_ble_eq_true rfl) rfl rfl ?_
  unfold w_Draft_fill_13 at h
  refine gh_aload_n gd_Draft_fill_0 1 rfl (by decide) ?_
  refine cv_Grammar_clear (d := d + 1) gd_Draft_fill_1 gh_k834 hF (Nat.le_of_ble_eq_true rfl) (gh_C.mono (s_Grammar_clear (d + 1) hF h) (fun r1003 m1004 hq => ?_))
  obtain ⟨hF, h⟩ := hq
  refine gh_aload_n gd_Draft_fill_4 1 rfl (by decide) ?_
  refine gh_aload_n gd_Draft_fill_5 0 rfl (by decide) ?_
  refine gf_6_1 gd_Draft_fill_6 gh_k194 hF rfl ?_
  refine pf_13_0 gd_Draft_fill_9 gh_k256 hF (fun hF => ?_)
  refine gh_aload_n gd_Draft_fill_12 0 rfl (by decide) ?_
  obtain ⟨q1005, h⟩ := h
  refine cv_Draft_allNames (d := d + 1) gd_Draft_fill_13 gh_k838 hF (Nat.le_of_ble_eq_true rfl) (gh_C.pe (e_Draft_allNames (d + 1)  hF q1005) ?_)
  refine gh_bipush gd_Draft_fill_16 (by decide) (gh_r0 rfl) ?_
  refine gh_pr_min gd_Draft_fill_18 gh_k839 (Nat.le_of_ble_eq_true rfl) ?_
  refine gh_name (fun v2 hn => ?_)
  have h := h v2 hn
  refine gh_istore_n (L2 := [(2, 0, v2), (0, 2, 6), (1, 2, 13)]) gd_Draft_fill_21 (by decide) rfl ?_
  refine gh_iconst gd_Draft_fill_22 (gh_r0 rfl) ?_
  refine gh_istore_n (L2 := [(3, 0, 0), (2, 0, v2), (0, 2, 6), (1, 2, 13)]) gd_Draft_fill_23 (by decide) rfl ?_
  refine gh_pick (L2 := [(0, 2, 6), (1, 2, 13), (2, 0, v2), (3, 0, 0)]) [2, 3, 1, 0] rfl ?_
  exact gh_M1_sound (T := fun v3 m => gh_T E (gh_yDraft_fill.cls, prog_3_method_11_code, 6, false, 9) (d + 2) 24 [(0, 2, 6), (1, 2, 13), (2, 0, v2), (3, 0, v3)] [] m (fun r m1 => gh_F m1 ∧ Q r m1)) (fun _ m => gh_F m) (fun K24 v3 m hK hF h => b_Draft_fill_13_24 d hK v3 m hF h) 0 (gh_u m1004 13 0 (m1004 6 1)) hF h
def w_House_read (m : gh_M) (Q : Int → gh_M → Prop) : Prop := w_Reader_run m (fun r989 m990 => ((r989 = 0 → gh_i ((-10) - (m990 5 1)) ∧ Q ((-10) - (m990 5 1)) m990) ∧ (¬ (r989 = 0) → w_Draft_fill_13 m990 (fun _ m994 => w_Facts_find m994 (fun _ m1089 => w_House_textChanged (-1) (gh_u (gh_u (gh_u m1089 2 10 1) 26 3 0) 58 2 0) (fun _ m1091 => Q (m1091 13 2) m1091))))))
theorem s_House_read {E : gh_E} {m : gh_M} {Q : Int → gh_M → Prop} (d : Nat) (hF : gh_F m) (h : w_House_read m Q) : gh_C E gh_yHouse_read prog_1_method_5_code 1 (some .int) 0 (d + 6) [(2, 2)] m (fun r m1 => gh_F m1 ∧ Q r m1) := by
  refine gh_enter2 (L := [(0, 2, 2)]) (by decide +kernel) gh_rt0 (Nat.le_of_ble_eq_true rfl) rfl rfl ?_
  unfold w_House_read at h
  refine gh_aload_n gd_House_read_0 0 rfl (by decide) ?_
  refine gf_2_1 gd_House_read_1 gh_k634 hF ?_
  refine cv_Reader_run (d := d + 5) gd_House_read_4 gh_k697 hF (Nat.le_of_ble_eq_true rfl) (gh_C.mono (s_Reader_run (d + 1) hF h) (fun r989 m990 hq => ?_))
  obtain ⟨hF, h⟩ := hq
  obtain ⟨hA, hB⟩ := h
  refine gh_zne (tgt := 21) gd_House_read_7 (by decide) (fun c991 => ?_) (fun c991 => ?_)
  · have h := hA c991
    refine gh_bipush gd_House_read_10 (by decide) (gh_r0 rfl) ?_
    refine gh_aload_n gd_House_read_12 0 rfl (by decide) ?_
    refine gf_2_1 gd_House_read_13 gh_k634 hF ?_
    refine gf_5_1 gd_House_read_16 gh_k220 hF rfl ?_
    obtain ⟨q992, h⟩ := h
    refine gh_isub gd_House_read_19 q992 ?_
    exact gh_ret0 rfl gd_House_read_20 ⟨hF, h⟩
  · have h := hB c991
    refine gh_aload_n gd_House_read_21 0 rfl (by decide) ?_
    refine gf_2_1 gd_House_read_22 gh_k634 hF ?_
    refine gf_5_0 gd_House_read_25 gh_k218 hF ?_
    refine gh_aload_n gd_House_read_28 0 rfl (by decide) ?_
    refine gf_2_2 gd_House_read_29 gh_k635 hF ?_
    refine cv_Draft_fill (d := d + 5) gd_House_read_32 gh_k830 hF (Nat.le_of_ble_eq_true rfl) (gh_C.mono (s_Draft_fill_13 (d + 3) hF h) (fun r993 m994 hq => ?_))
    obtain ⟨hF, h⟩ := hq
    refine gh_aload_n gd_House_read_35 0 rfl (by decide) ?_
    refine gf_2_3 gd_House_read_36 gh_k636 hF ?_
    refine cv_Facts_find (d := d + 5) gd_House_read_39 gh_k857 hF (Nat.le_of_ble_eq_true rfl) (gh_C.mono (s_Facts_find d hF h) (fun r1088 m1089 hq => ?_))
    obtain ⟨hF, h⟩ := hq
    refine gh_aload_n gd_House_read_42 0 rfl (by decide) ?_
    refine gh_iconst gd_House_read_43 (gh_r0 rfl) ?_
    refine pf_2_10 gd_House_read_44 gh_k643 hF (by decide) (fun hF => ?_)
    refine gh_aload_n gd_House_read_47 0 rfl (by decide) ?_
    refine gf_2_4 gd_House_read_48 gh_k637 hF ?_
    refine gh_iconst gd_House_read_51 (gh_r0 rfl) ?_
    refine pf_26_3 gd_House_read_52 gh_k381 hF (fun hF => ?_)
    refine gh_aload_n gd_House_read_55 0 rfl (by decide) ?_
    refine gf_2_9 gd_House_read_56 gh_k642 hF ?_
    refine gh_iconst gd_House_read_59 (gh_r0 rfl) ?_
    refine pf_58_2 gd_House_read_60 gh_k595 hF (by decide) (fun hF => ?_)
    refine gh_aload_n gd_House_read_63 0 rfl (by decide) ?_
    refine gh_iconst gd_House_read_64 (gh_r0 rfl) ?_
    refine cv_House_textChanged (d := d + 5) gd_House_read_65 gh_k939 hF (Nat.le_of_ble_eq_true rfl) (gh_C.mono (s_House_textChanged (d + 3) (-1) hF h) (fun r1090 m1091 hq => ?_))
    obtain ⟨hF, h⟩ := hq
    refine gh_aload_n gd_House_read_68 0 rfl (by decide) ?_
    refine gf_2_2 gd_House_read_69 gh_k635 hF ?_
    refine gf_13_2 gd_House_read_72 gh_k268 hF rfl ?_
    exact gh_ret0 rfl gd_House_read_75 ⟨hF, h⟩
def w_House_fault (v1 : Int) (m : gh_M) (Q : Int → Prop) : Prop := ((v1 = 0 → Q (m 5 1)) ∧ ((v1 = 1 → Q (m 5 2)) ∧ (¬ (v1 = 0) → ¬ (v1 = 1) → Q (-1002))))
theorem s_House_fault {E : gh_E} {m : gh_M} {Q : Int → Prop} (d : Nat) (v1 : Int) (hF : gh_F m) (h : w_House_fault v1 m Q) : gh_C E gh_yHouse_fault prog_1_method_6_code 2 (some .int) 0 (d + 0) [(2, 2), (0, v1)] m (fun r m1 => m1 = m ∧ Q r) := by
  refine gh_enter2 (L := [(0, 2, 2), (1, 0, v1)]) (by decide +kernel) gh_rt0 (Nat.le_of_ble_eq_true rfl) rfl rfl ?_
  unfold w_House_fault at h
  refine gh_iload_n gd_House_fault_0 1 rfl ?_
  obtain ⟨hA, h⟩ := h
  by_cases c1092 : v1 = 0
  · have h := hA c1092
    refine gh_lookup (tgt := 28) gd_House_fault_1 (by decide) (by rw [c1092]; decide) ?_
    refine gh_aload_n gd_House_fault_28 0 rfl (by decide) ?_
    refine gf_2_1 gd_House_fault_29 gh_k634 hF ?_
    refine gf_5_1 gd_House_fault_32 gh_k220 hF rfl ?_
    exact gh_ret0 rfl gd_House_fault_35 ⟨rfl, h⟩
  obtain ⟨hA, h⟩ := h
  by_cases c1093 : v1 = 1
  · have h := hA c1093
    refine gh_lookup (tgt := 36) gd_House_fault_1 (by decide) (by rw [c1093]; decide) ?_
    refine gh_aload_n gd_House_fault_36 0 rfl (by decide) ?_
    refine gf_2_1 gd_House_fault_37 gh_k634 hF ?_
    refine gf_5_2 gd_House_fault_40 gh_k222 hF rfl ?_
    exact gh_ret0 rfl gd_House_fault_43 ⟨rfl, h⟩
  have n1094 : ¬ (v1 = 0) := c1092
  have n1095 : ¬ (v1 = 1) := c1093
  refine gh_lookup (tgt := 44) gd_House_fault_1 (by decide) (by simp [Op.lookupswitch.offset]; rw [if_neg (Ne.symm n1094), if_neg (Ne.symm n1095)]; rfl) ?_
  have h := h c1092 c1093
  refine gh_sipush gd_House_fault_44 (by decide) (gh_r0 rfl) ?_
  exact gh_ret0 rfl gd_House_fault_47 ⟨rfl, h⟩
def f_Grammar_allParts_4 (Q : Int → Prop) (m : gh_M) (K4 : Int → Int → Prop) (v1 : Int) (v2 : Int) : Prop := ((v2 < (m 13 2) → 0 ≤ v2 ∧ v2 < 20 ∧ gh_i (v1 + (m 17 v2)) ∧ ∀ v1' : Int, v1' = v1 + (m 17 v2) → gh_i (v2 + 1) ∧ K4 v1' (v2 + 1)) ∧ (¬ (v2 < (m 13 2)) → Q v1))
def w_Grammar_allParts (m : gh_M) (Q : Int → Prop) : Prop := gh_L2 (fun K4 v1 v2 => f_Grammar_allParts_4 Q m K4 v1 v2) 0 0
theorem b_Grammar_allParts_4 {E : gh_E} {Q : Int → Prop} {K4 : Int → Int → Prop} (d : Nat) {m : gh_M} (hK : ∀ (v1 : Int) (v2 : Int), gh_F m → K4 v1 v2 → gh_T E (gh_yGrammar_allParts.cls, prog_6_method_10_code, 3, false, 0) (d + 0) 4 [(0, 2, 13), (1, 0, v1), (2, 0, v2)] [] m (fun r m1 => m1 = m ∧ Q r)) (v1 : Int) (v2 : Int) (hF : gh_F m) (h : f_Grammar_allParts_4 Q m K4 v1 v2) : gh_T E (gh_yGrammar_allParts.cls, prog_6_method_10_code, 3, false, 0) (d + 0) 4 [(0, 2, 13), (1, 0, v1), (2, 0, v2)] [] m (fun r m1 => m1 = m ∧ Q r) := by
  have hK4 := hK
  unfold f_Grammar_allParts_4 at h
  refine gh_iload_n gd_Grammar_allParts_4 2 rfl ?_
  refine gh_aload_n gd_Grammar_allParts_5 0 rfl (by decide) ?_
  refine gf_13_2 gd_Grammar_allParts_6 gh_k263 hF rfl ?_
  obtain ⟨hA, hB⟩ := h
  refine gh_jge (tgt := 27) gd_Grammar_allParts_9 (by decide) (fun c1096 => ?_) (fun c1096 => ?_)
  · have h := hA c1096
    refine gh_iload_n gd_Grammar_allParts_12 1 rfl ?_
    refine gh_aload_n gd_Grammar_allParts_13 0 rfl (by decide) ?_
    refine gf_13_6 gd_Grammar_allParts_14 gh_k283 hF ?_
    refine gh_iload_n gd_Grammar_allParts_17 2 rfl ?_
    obtain ⟨q1097, h⟩ := h
    obtain ⟨q1098, h⟩ := h
    refine la_17 gd_Grammar_allParts_18 hF q1097 q1098 rfl ?_
    obtain ⟨q1099, h⟩ := h
    refine gh_iadd gd_Grammar_allParts_19 q1099 ?_
    refine gh_name (fun v1' hn => ?_)
    have h := h v1' hn
    refine gh_istore_n (L2 := [(1, 0, v1'), (0, 2, 13), (2, 0, v2)]) gd_Grammar_allParts_20 (by decide) rfl ?_
    obtain ⟨q1100, h⟩ := h
    refine gh_iinc (L2 := [(2, 0, v2 + 1), (1, 0, v1'), (0, 2, 13)]) gd_Grammar_allParts_21 2 rfl q1100 (by decide) rfl ?_
    refine gh_goto (tgt := 4) gd_Grammar_allParts_24 (by decide) ?_
    refine gh_pick (L2 := [(0, 2, 13), (1, 0, v1'), (2, 0, v2 + 1)]) [2, 1, 0] rfl ?_
    exact hK4 v1' (v2 + 1) hF h
  · have h := hB c1096
    refine gh_iload_n gd_Grammar_allParts_27 1 rfl ?_
    exact gh_ret0 rfl gd_Grammar_allParts_28 ⟨rfl, h⟩
theorem s_Grammar_allParts {E : gh_E} {m : gh_M} {Q : Int → Prop} (d : Nat) (hF : gh_F m) (h : w_Grammar_allParts m Q) : gh_C E gh_yGrammar_allParts prog_6_method_10_code 3 (some .int) 0 (d + 0) [(2, 13)] m (fun r m1 => m1 = m ∧ Q r) := by
  refine gh_enter2 (L := [(0, 2, 13)]) (by decide +kernel) gh_rt0 (Nat.le_of_ble_eq_true rfl) rfl rfl ?_
  unfold w_Grammar_allParts at h
  refine gh_iconst gd_Grammar_allParts_0 (gh_r0 rfl) ?_
  refine gh_istore_n (L2 := [(1, 0, 0), (0, 2, 13)]) gd_Grammar_allParts_1 (by decide) rfl ?_
  refine gh_iconst gd_Grammar_allParts_2 (gh_r0 rfl) ?_
  refine gh_istore_n (L2 := [(2, 0, 0), (1, 0, 0), (0, 2, 13)]) gd_Grammar_allParts_3 (by decide) rfl ?_
  refine gh_pick (L2 := [(0, 2, 13), (1, 0, 0), (2, 0, 0)]) [2, 1, 0] rfl ?_
  exact gh_L2_sound (T := fun v1 v2 => gh_T E (gh_yGrammar_allParts.cls, prog_6_method_10_code, 3, false, 0) (d + 0) 4 [(0, 2, 13), (1, 0, v1), (2, 0, v2)] [] m (fun r m1 => m1 = m ∧ Q r)) (fun _ _ => gh_F m) (fun K4 v1 v2 hK hF h => b_Grammar_allParts_4 d hK v1 v2 hF h) 0 0 hF h
def f_Facts_clashes_31 (v1 : Int) (v2 : Int) (K4 : Int → Int → Prop) (m : gh_M) (K31 : Int → Int → Int → Prop) (v3 : Int) (v4 : Int) (v5 : Int) : Prop := k_Grammar_behindRules v2 m ∧ ((v5 < (x_Grammar_behindRules v2 m) → 0 ≤ v5 ∧ v5 < 20 ∧ ∀ v4' : Int, v4' = gh_ior_f v4 (gh_iand_f v3 (m 25 v5)) → 0 ≤ v5 ∧ v5 < 20 ∧ ∀ v3' : Int, v3' = gh_ior_f v3 (m 25 v5) → gh_i (v5 + 1) ∧ K31 v3' v4' (v5 + 1)) ∧ (¬ (v5 < (x_Grammar_behindRules v2 m)) → gh_i (v1 + (gh_pop v4)) ∧ ∀ v1' : Int, v1' = v1 + (gh_pop v4) → gh_i (v2 + 1) ∧ K4 v1' (v2 + 1)))
def f_Facts_clashes_4 (Q : Int → Prop) (m : gh_M) (K4 : Int → Int → Prop) (v1 : Int) (v2 : Int) : Prop := ((v2 < (m 13 1) → 0 ≤ v2 ∧ v2 < 8 ∧ ∀ v5 : Int, v5 = m 14 v2 → gh_L3 (fun K31 v3 v4 v5 => f_Facts_clashes_31 v1 v2 K4 m K31 v3 v4 v5) 0 0 v5) ∧ (¬ (v2 < (m 13 1)) → Q v1))
def w_Facts_clashes (m : gh_M) (Q : Int → Prop) : Prop := gh_L2 (fun K4 v1 v2 => f_Facts_clashes_4 Q m K4 v1 v2) 0 0
theorem b_Facts_clashes_31 {E : gh_E} {v1 : Int} {v2 : Int} {K4 : Int → Int → Prop} {Q : Int → Prop} {K31 : Int → Int → Int → Prop} (d : Nat) {m : gh_M} (hK4 : ∀ (v1 : Int) (v2 : Int), gh_F m → K4 v1 v2 → gh_T E (gh_yFacts_clashes.cls, prog_4_method_19_code, 6, false, 0) (d + 1) 4 [(0, 2, 20), (1, 0, v1), (2, 0, v2)] [] m (fun r m1 => m1 = m ∧ Q r)) (hK : ∀ (v3 : Int) (v4 : Int) (v5 : Int), gh_F m → K31 v3 v4 v5 → gh_T E (gh_yFacts_clashes.cls, prog_4_method_19_code, 6, false, 0) (d + 1) 31 [(0, 2, 20), (1, 0, v1), (2, 0, v2), (3, 0, v3), (4, 0, v4), (5, 0, v5)] [] m (fun r m1 => m1 = m ∧ Q r)) (v3 : Int) (v4 : Int) (v5 : Int) (hF : gh_F m) (h : f_Facts_clashes_31 v1 v2 K4 m K31 v3 v4 v5) : gh_T E (gh_yFacts_clashes.cls, prog_4_method_19_code, 6, false, 0) (d + 1) 31 [(0, 2, 20), (1, 0, v1), (2, 0, v2), (3, 0, v3), (4, 0, v4), (5, 0, v5)] [] m (fun r m1 => m1 = m ∧ Q r) := by
  have hK31 := hK
  unfold f_Facts_clashes_31 at h
  refine gh_iload gd_Facts_clashes_31 5 rfl ?_
  refine gh_aload_n gd_Facts_clashes_33 0 rfl (by decide) ?_
  refine gf_20_0 gd_Facts_clashes_34 gh_k319 hF ?_
  refine gh_iload_n gd_Facts_clashes_37 2 rfl ?_
  obtain ⟨q1104, h⟩ := h
  refine cv_Grammar_behindRules (d := d) gd_Facts_clashes_38 gh_k969 hF (Nat.le_of_ble_eq_true rfl) (gh_C.pe (e_Grammar_behindRules d v2 hF q1104) ?_)
  obtain ⟨hA, hB⟩ := h
  refine gh_jge (tgt := 74) gd_Facts_clashes_41 (by decide) (fun c1105 => ?_) (fun c1105 => ?_)
  · have h := hA c1105
    refine gh_iload gd_Facts_clashes_44 4 rfl ?_
    refine gh_iload_n gd_Facts_clashes_46 3 rfl ?_
    refine gh_aload_n gd_Facts_clashes_47 0 rfl (by decide) ?_
    refine gf_20_10 gd_Facts_clashes_48 gh_k344 hF ?_
    refine gh_iload gd_Facts_clashes_51 5 rfl ?_
    obtain ⟨q1106, h⟩ := h
    obtain ⟨q1107, h⟩ := h
    refine la_25 gd_Facts_clashes_53 hF q1106 q1107 rfl ?_
    refine gh_iand gd_Facts_clashes_54 ?_
    refine gh_ior gd_Facts_clashes_55 ?_
    refine gh_name (fun v4' hn => ?_)
    have h := h v4' hn
    refine gh_istore (L2 := [(4, 0, v4'), (0, 2, 20), (1, 0, v1), (2, 0, v2), (3, 0, v3), (5, 0, v5)]) gd_Facts_clashes_56 (by decide) rfl ?_
    refine gh_iload_n gd_Facts_clashes_58 4 rfl ?_
    refine gh_aload_n gd_Facts_clashes_59 1 rfl (by decide) ?_
    refine gf_20_10 gd_Facts_clashes_60 gh_k344 hF ?_
    refine gh_iload gd_Facts_clashes_63 5 rfl ?_
    obtain ⟨q1108, h⟩ := h
    obtain ⟨q1109, h⟩ := h
    refine la_25 gd_Facts_clashes_65 hF q1108 q1109 rfl ?_
    refine gh_ior gd_Facts_clashes_66 ?_
    refine gh_name (fun v3' hn => ?_)
    have h := h v3' hn
    refine gh_istore_n (L2 := [(3, 0, v3'), (4, 0, v4'), (0, 2, 20), (1, 0, v1), (2, 0, v2), (5, 0, v5)]) gd_Facts_clashes_67 (by decide) rfl ?_
    obtain ⟨q1110, h⟩ := h
    refine gh_iinc (L2 := [(5, 0, v5 + 1), (3, 0, v3'), (4, 0, v4'), (0, 2, 20), (1, 0, v1), (2, 0, v2)]) gd_Facts_clashes_68 5 rfl q1110 (by decide) rfl ?_
    refine gh_goto (tgt := 31) gd_Facts_clashes_71 (by decide) ?_
    refine gh_pick (L2 := [(0, 2, 20), (1, 0, v1), (2, 0, v2), (3, 0, v3'), (4, 0, v4'), (5, 0, v5 + 1)]) [3, 4, 5, 1, 2, 0] rfl ?_
    exact hK31 v3' v4' (v5 + 1) hF h
  · have h := hB c1105
    refine gh_iload_n gd_Facts_clashes_74 1 rfl ?_
    refine gh_iload gd_Facts_clashes_75 4 rfl ?_
    refine gh_pr_gh_pop gd_Facts_clashes_77 gh_k973 (Nat.le_of_ble_eq_true rfl) ?_
    obtain ⟨q1111, h⟩ := h
    refine gh_iadd gd_Facts_clashes_80 q1111 ?_
    refine gh_name (fun v1' hn => ?_)
    have h := h v1' hn
    refine gh_istore_n (L2 := [(1, 0, v1'), (0, 2, 20), (2, 0, v2), (3, 0, v3), (4, 0, v4), (5, 0, v5)]) gd_Facts_clashes_81 (by decide) rfl ?_
    obtain ⟨q1112, h⟩ := h
    refine gh_iinc (L2 := [(2, 0, v2 + 1), (1, 0, v1'), (0, 2, 20), (3, 0, v3), (4, 0, v4), (5, 0, v5)]) gd_Facts_clashes_82 2 rfl q1112 (by decide) rfl ?_
    refine gh_goto (tgt := 4) gd_Facts_clashes_85 (by decide) ?_
    refine gh_pick (L2 := [(0, 2, 20), (1, 0, v1'), (2, 0, v2 + 1)]) [2, 1, 0] rfl ?_
    exact hK4 v1' (v2 + 1) hF h
theorem b_Facts_clashes_4 {E : gh_E} {Q : Int → Prop} {K4 : Int → Int → Prop} (d : Nat) {m : gh_M} (hK : ∀ (v1 : Int) (v2 : Int), gh_F m → K4 v1 v2 → gh_T E (gh_yFacts_clashes.cls, prog_4_method_19_code, 6, false, 0) (d + 1) 4 [(0, 2, 20), (1, 0, v1), (2, 0, v2)] [] m (fun r m1 => m1 = m ∧ Q r)) (v1 : Int) (v2 : Int) (hF : gh_F m) (h : f_Facts_clashes_4 Q m K4 v1 v2) : gh_T E (gh_yFacts_clashes.cls, prog_4_method_19_code, 6, false, 0) (d + 1) 4 [(0, 2, 20), (1, 0, v1), (2, 0, v2)] [] m (fun r m1 => m1 = m ∧ Q r) := by
  have hK4 := hK
  unfold f_Facts_clashes_4 at h
  refine gh_iload_n gd_Facts_clashes_4 2 rfl ?_
  refine gh_aload_n gd_Facts_clashes_5 0 rfl (by decide) ?_
  refine gf_20_0 gd_Facts_clashes_6 gh_k319 hF ?_
  refine gf_13_1 gd_Facts_clashes_9 gh_k258 hF rfl ?_
  obtain ⟨hA, hB⟩ := h
  refine gh_jge (tgt := 88) gd_Facts_clashes_12 (by decide) (fun c1101 => ?_) (fun c1101 => ?_)
  · have h := hA c1101
    refine gh_iconst gd_Facts_clashes_15 (gh_r0 rfl) ?_
    refine gh_istore_n (L2 := [(3, 0, 0), (0, 2, 20), (1, 0, v1), (2, 0, v2)]) gd_Facts_clashes_16 (by decide) rfl ?_
    refine gh_iconst gd_Facts_clashes_17 (gh_r0 rfl) ?_
    refine gh_istore (L2 := [(4, 0, 0), (3, 0, 0), (0, 2, 20), (1, 0, v1), (2, 0, v2)]) gd_Facts_clashes_18 (by decide) rfl ?_
    refine gh_aload_n gd_Facts_clashes_20 2 rfl (by decide) ?_
    refine gf_20_0 gd_Facts_clashes_21 gh_k319 hF ?_
    refine gf_13_3 gd_Facts_clashes_24 gh_k274 hF ?_
    refine gh_iload_n gd_Facts_clashes_27 4 rfl ?_
    obtain ⟨q1102, h⟩ := h
    obtain ⟨q1103, h⟩ := h
    refine la_14 gd_Facts_clashes_28 hF q1102 q1103 rfl ?_
    refine gh_name (fun v5 hn => ?_)
    have h := h v5 hn
    refine gh_istore (L2 := [(5, 0, v5), (4, 0, 0), (3, 0, 0), (0, 2, 20), (1, 0, v1), (2, 0, v2)]) gd_Facts_clashes_29 (by decide) rfl ?_
    refine gh_pick (L2 := [(0, 2, 20), (1, 0, v1), (2, 0, v2), (3, 0, 0), (4, 0, 0), (5, 0, v5)]) [3, 4, 5, 2, 1, 0] rfl ?_
    exact gh_L3_sound (T := fun v3 v4 v5 => gh_T E (gh_yFacts_clashes.cls, prog_4_method_19_code, 6, false, 0) (d + 1) 31 [(0, 2, 20), (1, 0, v1), (2, 0, v2), (3, 0, v3), (4, 0, v4), (5, 0, v5)] [] m (fun r m1 => m1 = m ∧ Q r)) (fun _ _ _ => gh_F m) (fun K31 v3 v4 v5 hK hF h => b_Facts_clashes_31 d hK4 hK v3 v4 v5 hF h) 0 0 v5 hF h
  · have h := hB c1101
    refine gh_iload_n gd_Facts_clashes_88 1 rfl ?_
    exact gh_ret0 rfl gd_Facts_clashes_89 ⟨rfl, h⟩
theorem s_Facts_clashes {E : gh_E} {m : gh_M} {Q : Int → Prop} (d : Nat) (hF : gh_F m) (h : w_Facts_clashes m Q) : gh_C E gh_yFacts_clashes prog_4_method_19_code 6 (some .int) 0 (d + 1) [(2, 20)] m (fun r m1 => m1 = m ∧ Q r) := by
  refine gh_enter2 (L := [(0, 2, 20)]) (by decide +kernel) gh_rt0 (Nat.le_of_ble_eq_true rfl) rfl rfl ?_
  unfold w_Facts_clashes at h
  refine gh_iconst gd_Facts_clashes_0 (gh_r0 rfl) ?_
  refine gh_istore_n (L2 := [(1, 0, 0), (0, 2, 20)]) gd_Facts_clashes_1 (by decide) rfl ?_
  refine gh_iconst gd_Facts_clashes_2 (gh_r0 rfl) ?_
  refine gh_istore_n (L2 := [(2, 0, 0), (1, 0, 0), (0, 2, 20)]) gd_Facts_clashes_3 (by decide) rfl ?_
  refine gh_pick (L2 := [(0, 2, 20), (1, 0, 0), (2, 0, 0)]) [2, 1, 0] rfl ?_
  exact gh_L2_sound (T := fun v1 v2 => gh_T E (gh_yFacts_clashes.cls, prog_4_method_19_code, 6, false, 0) (d + 1) 4 [(0, 2, 20), (1, 0, v1), (2, 0, v2)] [] m (fun r m1 => m1 = m ∧ Q r)) (fun _ _ => gh_F m) (fun K4 v1 v2 hK hF h => b_Facts_clashes_4 d hK v1 v2 hF h) 0 0 hF h
def w_House_sum (v1 : Int) (m : gh_M) (Q : Int → Prop) : Prop := (((¬ (v1 < 0) ∧ (v1 ≤ 6)) → (((m 2 10) = 0 → Q (-1003)) ∧ (¬ ((m 2 10) = 0) → ((v1 = 0 → Q (m 13 0)) ∧ ((v1 = 1 → Q (m 13 1)) ∧ ((v1 = 2 → Q (m 13 2)) ∧ ((v1 = 3 → w_Grammar_allParts m (fun r1120 => Q r1120)) ∧ ((v1 = 4 → Q (m 26 3)) ∧ ((v1 = 5 → w_Facts_clashes m (fun r1124 => Q r1124)) ∧ (¬ (v1 = 0) → ¬ (v1 = 1) → ¬ (v1 = 2) → ¬ (v1 = 3) → ¬ (v1 = 4) → ¬ (v1 = 5) → Q (m 47 4))))))))))) ∧ (¬ (¬ (v1 < 0) ∧ (v1 ≤ 6)) → Q (-1002)))
theorem s_House_sum {E : gh_E} {m : gh_M} {Q : Int → Prop} (d : Nat) (v1 : Int) (hF : gh_F m) (h : w_House_sum v1 m Q) : gh_C E gh_yHouse_sum prog_1_method_7_code 2 (some .int) 0 (d + 2) [(2, 2), (0, v1)] m (fun r m1 => m1 = m ∧ Q r) := by
  refine gh_enter2 (L := [(0, 2, 2), (1, 0, v1)]) (by decide +kernel) gh_rt0 (Nat.le_of_ble_eq_true rfl) rfl rfl ?_
  unfold w_House_sum at h
  refine gh_iload_n gd_House_sum_0 1 rfl ?_
  obtain ⟨hA, hB⟩ := h
  have k1113 : (¬ (v1 < 0) ∧ (v1 ≤ 6)) → gh_T E (gh_yHouse_sum.cls, prog_1_method_7_code, 2, false, 0) (d + 2) 14 [(0, 2, 2), (1, 0, v1)] [] m (fun r m1 => m1 = m ∧ Q r) := by
    intro c
    have h := hA c
    refine gh_aload_n gd_House_sum_14 0 rfl (by decide) ?_
    refine gf_2_10 gd_House_sum_15 gh_k643 hF rfl ?_
    obtain ⟨hA, hB⟩ := h
    refine gh_zne (tgt := 25) gd_House_sum_18 (by decide) (fun c1115 => ?_) (fun c1115 => ?_)
    · have h := hA c1115
      refine gh_sipush gd_House_sum_21 (by decide) (gh_r0 rfl) ?_
      exact gh_ret0 rfl gd_House_sum_24 ⟨rfl, h⟩
    · have h := hB c1115
      refine gh_iload_n gd_House_sum_25 1 rfl ?_
      obtain ⟨hA, h⟩ := h
      by_cases c1116 : v1 = 0
      · have h := hA c1116
        refine gh_tabIn (tgt := 64) gd_House_sum_26 (by rw [c1116]; decide) (by rw [c1116]; decide) (by rw [c1116]; rfl) (by decide) ?_
        refine gh_aload_n gd_House_sum_64 0 rfl (by decide) ?_
        refine gf_2_2 gd_House_sum_65 gh_k635 hF ?_
        refine gf_13_0 gd_House_sum_68 gh_k255 hF rfl ?_
        exact gh_ret0 rfl gd_House_sum_71 ⟨rfl, h⟩
      obtain ⟨hA, h⟩ := h
      by_cases c1117 : v1 = 1
      · have h := hA c1117
        refine gh_tabIn (tgt := 72) gd_House_sum_26 (by rw [c1117]; decide) (by rw [c1117]; decide) (by rw [c1117]; rfl) (by decide) ?_
        refine gh_aload_n gd_House_sum_72 0 rfl (by decide) ?_
        refine gf_2_2 gd_House_sum_73 gh_k635 hF ?_
        refine gf_13_1 gd_House_sum_76 gh_k262 hF rfl ?_
        exact gh_ret0 rfl gd_House_sum_79 ⟨rfl, h⟩
      obtain ⟨hA, h⟩ := h
      by_cases c1118 : v1 = 2
      · have h := hA c1118
        refine gh_tabIn (tgt := 80) gd_House_sum_26 (by rw [c1118]; decide) (by rw [c1118]; decide) (by rw [c1118]; rfl) (by decide) ?_
        refine gh_aload_n gd_House_sum_80 0 rfl (by decide) ?_
        refine gf_2_2 gd_House_sum_81 gh_k635 hF ?_
        refine gf_13_2 gd_House_sum_84 gh_k268 hF rfl ?_
        exact gh_ret0 rfl gd_House_sum_87 ⟨rfl, h⟩
      obtain ⟨hA, h⟩ := h
      by_cases c1119 : v1 = 3
      · have h := hA c1119
        refine gh_tabIn (tgt := 88) gd_House_sum_26 (by rw [c1119]; decide) (by rw [c1119]; decide) (by rw [c1119]; rfl) (by decide) ?_
        refine gh_aload_n gd_House_sum_88 0 rfl (by decide) ?_
        refine gf_2_2 gd_House_sum_89 gh_k635 hF ?_
        refine cv_Grammar_allParts (d := d + 1) gd_House_sum_92 gh_k961 hF (Nat.le_of_ble_eq_true rfl) (gh_C.pw (s_Grammar_allParts (d + 1) hF h) (fun r1120 h => ?_))
        exact gh_ret0 rfl gd_House_sum_95 ⟨rfl, h⟩
      obtain ⟨hA, h⟩ := h
      by_cases c1122 : v1 = 4
      · have h := hA c1122
        refine gh_tabIn (tgt := 96) gd_House_sum_26 (by rw [c1122]; decide) (by rw [c1122]; decide) (by rw [c1122]; rfl) (by decide) ?_
        refine gh_aload_n gd_House_sum_96 0 rfl (by decide) ?_
        refine gf_2_4 gd_House_sum_97 gh_k637 hF ?_
        refine gf_26_3 gd_House_sum_100 gh_k381 hF rfl ?_
        exact gh_ret0 rfl gd_House_sum_103 ⟨rfl, h⟩
      obtain ⟨hA, h⟩ := h
      by_cases c1123 : v1 = 5
      · have h := hA c1123
        refine gh_tabIn (tgt := 104) gd_House_sum_26 (by rw [c1123]; decide) (by rw [c1123]; decide) (by rw [c1123]; rfl) (by decide) ?_
        refine gh_aload_n gd_House_sum_104 0 rfl (by decide) ?_
        refine gf_2_3 gd_House_sum_105 gh_k636 hF ?_
        refine cv_Facts_clashes (d := d + 1) gd_House_sum_108 gh_k965 hF (Nat.le_of_ble_eq_true rfl) (gh_C.pw (s_Facts_clashes d hF h) (fun r1124 h => ?_))
        exact gh_ret0 rfl gd_House_sum_111 ⟨rfl, h⟩
      have n1126 : ¬ (v1 = 0) := c1116
      have n1127 : ¬ (v1 = 1) := c1117
      have n1128 : ¬ (v1 = 2) := c1118
      have n1129 : ¬ (v1 = 3) := c1119
      have n1130 : ¬ (v1 = 4) := c1122
      have n1131 : ¬ (v1 = 5) := c1123
      refine gh_tabOut (tgt := 112) gd_House_sum_26 (by omega) (by decide) ?_
      have h := h c1116 c1117 c1118 c1119 c1122 c1123
      refine gh_aload_n gd_House_sum_112 0 rfl (by decide) ?_
      refine gf_2_8 gd_House_sum_113 gh_k641 hF ?_
      refine gf_47_4 gd_House_sum_116 gh_k537 hF rfl ?_
      exact gh_ret0 rfl gd_House_sum_119 ⟨rfl, h⟩
  have k1114 : ¬ (¬ (v1 < 0) ∧ (v1 ≤ 6)) → gh_T E (gh_yHouse_sum.cls, prog_1_method_7_code, 2, false, 0) (d + 2) 10 [(0, 2, 2), (1, 0, v1)] [] m (fun r m1 => m1 = m ∧ Q r) := by
    intro c
    have h := hB c
    refine gh_sipush gd_House_sum_10 (by decide) (gh_r0 rfl) ?_
    exact gh_ret0 rfl gd_House_sum_13 ⟨rfl, h⟩
  refine gh_zlt (tgt := 10) gd_House_sum_1 (by decide) (fun c1132 => ?_) (fun c1132 => ?_)
  · have hz : True := trivial
    exact k1114 (fun z => z.1 c1132)
  · have hz : True := trivial
    refine gh_iload_n gd_House_sum_4 1 rfl ?_
    refine gh_bipush gd_House_sum_5 (by decide) (gh_r0 rfl) ?_
    refine gh_jle (tgt := 14) gd_House_sum_7 (by decide) (fun c1133 => ?_) (fun c1133 => ?_)
    · have hz : True := trivial
      exact k1113 ⟨c1132, c1133⟩
    · have hz : True := trivial
      exact k1114 (fun z => c1133 z.2)
def w_House_name (v1 : Int) (v2 : Int) (m : gh_M) (Q : Int → Prop) : Prop := ∃ J19 : Prop, (J19 → (((¬ (v2 < 0) ∧ (v2 ≤ 7)) → (((m 2 10) = 0 → Q (-1003)) ∧ (¬ ((m 2 10) = 0) → ((v2 = 0 → 0 ≤ v1 ∧ v1 < 8 ∧ Q (m 14 v1)) ∧ ((v2 = 1 → 0 ≤ v1 ∧ v1 < 8 ∧ Q (m 15 v1)) ∧ ((v2 = 2 → Q (gh_iand_f (gh_ishr_f (m 20 1) v1) 1)) ∧ ((v2 = 3 → Q (gh_iand_f (gh_ishr_f (m 20 2) v1) 1)) ∧ ((v2 = 4 → Q (gh_iand_f (gh_ishr_f (m 20 3) v1) 1)) ∧ ((v2 = 5 → Q (gh_iand_f (gh_ishr_f (m 20 4) v1) 1)) ∧ ((v2 = 6 → 0 ≤ v1 ∧ v1 < 8 ∧ ((((m 21 v1) < 16777216) → (0 ≤ v1 ∧ v1 < 8))) ∧ Q (if (m 21 v1) < 16777216 then (m 21 v1) else (-1))) ∧ (¬ (v2 = 0) → ¬ (v2 = 1) → ¬ (v2 = 2) → ¬ (v2 = 3) → ¬ (v2 = 4) → ¬ (v2 = 5) → ¬ (v2 = 6) → 0 ≤ v1 ∧ v1 < 8 ∧ Q (gh_iand_f (gh_ishr_f (m 24 v1) v1) 1)))))))))))) ∧ (¬ (¬ (v2 < 0) ∧ (v2 ≤ 7)) → Q (-1002)))) ∧ (((((m 2 10) = 0) ∨ (p_House_isName v1 m)) → J19) ∧ (¬ (((m 2 10) = 0) ∨ (p_House_isName v1 m)) → Q (-1001)))
theorem s_House_name {E : gh_E} {m : gh_M} {Q : Int → Prop} (d : Nat) (v1 : Int) (v2 : Int) (hF : gh_F m) (h : w_House_name v1 v2 m Q) : gh_C E gh_yHouse_name prog_1_method_8_code 3 (some .int) 0 (d + 1) [(2, 2), (0, v1), (0, v2)] m (fun r m1 => m1 = m ∧ Q r) := by
  refine gh_enter2 (L := [(0, 2, 2), (1, 0, v1), (2, 0, v2)]) (by decide +kernel) gh_rt0 (Nat.le_of_ble_eq_true rfl) rfl rfl ?_
  unfold w_House_name at h
  refine gh_aload_n gd_House_name_0 0 rfl (by decide) ?_
  refine gf_2_10 gd_House_name_1 gh_k643 hF rfl ?_
  obtain ⟨J19, hJ19, h⟩ := h
  have hJ19 : gh_F m → J19 → gh_T E (gh_yHouse_name.cls, prog_1_method_8_code, 3, false, 0) (d + 1) 19 [(0, 2, 2), (1, 0, v1), (2, 0, v2)] [] m (fun r m1 => m1 = m ∧ Q r) := by
    intro hF hj
    have h := hJ19 hj
    refine gh_iload_n gd_House_name_19 2 rfl ?_
    obtain ⟨hA, hB⟩ := h
    have k1134 : (¬ (v2 < 0) ∧ (v2 ≤ 7)) → gh_T E (gh_yHouse_name.cls, prog_1_method_8_code, 3, false, 0) (d + 1) 33 [(0, 2, 2), (1, 0, v1), (2, 0, v2)] [] m (fun r m1 => m1 = m ∧ Q r) := by
      intro c
      have h := hA c
      refine gh_aload_n gd_House_name_33 0 rfl (by decide) ?_
      refine gf_2_10 gd_House_name_34 gh_k643 hF rfl ?_
      obtain ⟨hA, hB⟩ := h
      refine gh_zne (tgt := 44) gd_House_name_37 (by decide) (fun c1136 => ?_) (fun c1136 => ?_)
      · have h := hA c1136
        refine gh_sipush gd_House_name_40 (by decide) (gh_r0 rfl) ?_
        exact gh_ret0 rfl gd_House_name_43 ⟨rfl, h⟩
      · have h := hB c1136
        refine gh_iload_n gd_House_name_44 2 rfl ?_
        obtain ⟨hA, h⟩ := h
        by_cases c1137 : v2 = 0
        · have h := hA c1137
          refine gh_tabIn (tgt := 88) gd_House_name_45 (by rw [c1137]; decide) (by rw [c1137]; decide) (by rw [c1137]; rfl) (by decide) ?_
          refine gh_aload_n gd_House_name_88 0 rfl (by decide) ?_
          refine gf_2_2 gd_House_name_89 gh_k635 hF ?_
          refine gf_13_3 gd_House_name_92 gh_k273 hF ?_
          refine gh_iload_n gd_House_name_95 1 rfl ?_
          obtain ⟨q1138, h⟩ := h
          obtain ⟨q1139, h⟩ := h
          refine la_14 gd_House_name_96 hF q1138 q1139 rfl ?_
          exact gh_ret0 rfl gd_House_name_97 ⟨rfl, h⟩
        obtain ⟨hA, h⟩ := h
        by_cases c1140 : v2 = 1
        · have h := hA c1140
          refine gh_tabIn (tgt := 98) gd_House_name_45 (by rw [c1140]; decide) (by rw [c1140]; decide) (by rw [c1140]; rfl) (by decide) ?_
          refine gh_aload_n gd_House_name_98 0 rfl (by decide) ?_
          refine gf_2_2 gd_House_name_99 gh_k635 hF ?_
          refine gf_13_4 gd_House_name_102 gh_k276 hF ?_
          refine gh_iload_n gd_House_name_105 1 rfl ?_
          obtain ⟨q1141, h⟩ := h
          obtain ⟨q1142, h⟩ := h
          refine la_15 gd_House_name_106 hF q1141 q1142 rfl ?_
          exact gh_ret0 rfl gd_House_name_107 ⟨rfl, h⟩
        obtain ⟨hA, h⟩ := h
        by_cases c1143 : v2 = 2
        · have h := hA c1143
          refine gh_tabIn (tgt := 108) gd_House_name_45 (by rw [c1143]; decide) (by rw [c1143]; decide) (by rw [c1143]; rfl) (by decide) ?_
          refine gh_aload_n gd_House_name_108 0 rfl (by decide) ?_
          refine gf_2_3 gd_House_name_109 gh_k636 hF ?_
          refine gf_20_1 gd_House_name_112 gh_k322 hF rfl ?_
          refine gh_iload_n gd_House_name_115 1 rfl ?_
          refine gh_ishr gd_House_name_116 ?_
          refine gh_iconst gd_House_name_117 (gh_r0 rfl) ?_
          refine gh_iand gd_House_name_118 ?_
          exact gh_ret0 rfl gd_House_name_119 ⟨rfl, h⟩
        obtain ⟨hA, h⟩ := h
        by_cases c1144 : v2 = 3
        · have h := hA c1144
          refine gh_tabIn (tgt := 120) gd_House_name_45 (by rw [c1144]; decide) (by rw [c1144]; decide) (by rw [c1144]; rfl) (by decide) ?_
          refine gh_aload_n gd_House_name_120 0 rfl (by decide) ?_
          refine gf_2_3 gd_House_name_121 gh_k636 hF ?_
          refine gf_20_2 gd_House_name_124 gh_k326 hF rfl ?_
          refine gh_iload_n gd_House_name_127 1 rfl ?_
          refine gh_ishr gd_House_name_128 ?_
          refine gh_iconst gd_House_name_129 (gh_r0 rfl) ?_
          refine gh_iand gd_House_name_130 ?_
          exact gh_ret0 rfl gd_House_name_131 ⟨rfl, h⟩
        obtain ⟨hA, h⟩ := h
        by_cases c1145 : v2 = 4
        · have h := hA c1145
          refine gh_tabIn (tgt := 132) gd_House_name_45 (by rw [c1145]; decide) (by rw [c1145]; decide) (by rw [c1145]; rfl) (by decide) ?_
          refine gh_aload_n gd_House_name_132 0 rfl (by decide) ?_
          refine gf_2_3 gd_House_name_133 gh_k636 hF ?_
          refine gf_20_3 gd_House_name_136 gh_k328 hF rfl ?_
          refine gh_iload_n gd_House_name_139 1 rfl ?_
          refine gh_ishr gd_House_name_140 ?_
          refine gh_iconst gd_House_name_141 (gh_r0 rfl) ?_
          refine gh_iand gd_House_name_142 ?_
          exact gh_ret0 rfl gd_House_name_143 ⟨rfl, h⟩
        obtain ⟨hA, h⟩ := h
        by_cases c1146 : v2 = 5
        · have h := hA c1146
          refine gh_tabIn (tgt := 144) gd_House_name_45 (by rw [c1146]; decide) (by rw [c1146]; decide) (by rw [c1146]; rfl) (by decide) ?_
          refine gh_aload_n gd_House_name_144 0 rfl (by decide) ?_
          refine gf_2_3 gd_House_name_145 gh_k636 hF ?_
          refine gf_20_4 gd_House_name_148 gh_k331 hF rfl ?_
          refine gh_iload_n gd_House_name_151 1 rfl ?_
          refine gh_ishr gd_House_name_152 ?_
          refine gh_iconst gd_House_name_153 (gh_r0 rfl) ?_
          refine gh_iand gd_House_name_154 ?_
          exact gh_ret0 rfl gd_House_name_155 ⟨rfl, h⟩
        obtain ⟨hA, h⟩ := h
        by_cases c1147 : v2 = 6
        · have h := hA c1147
          refine gh_tabIn (tgt := 156) gd_House_name_45 (by rw [c1147]; decide) (by rw [c1147]; decide) (by rw [c1147]; rfl) (by decide) ?_
          refine gh_aload_n gd_House_name_156 0 rfl (by decide) ?_
          refine gf_2_3 gd_House_name_157 gh_k636 hF ?_
          refine gf_20_6 gd_House_name_160 gh_k336 hF ?_
          refine gh_iload_n gd_House_name_163 1 rfl ?_
          obtain ⟨q1148, h⟩ := h
          obtain ⟨q1149, h⟩ := h
          refine la_21 gd_House_name_164 hF q1148 q1149 rfl ?_
          refine gh_ldc (n := 16777216) gd_House_name_165 gh_k987 (by decide) (gh_r0 rfl) ?_
          obtain ⟨hk, h⟩ := h
          have k1152 : ∀ x1153 : Int, x1153 = (if (m 21 v1) < 16777216 then (m 21 v1) else (-1)) → gh_T E (gh_yHouse_name.cls, prog_1_method_8_code, 3, false, 0) (d + 1) 183 [(0, 2, 2), (1, 0, v1), (2, 0, v2)] [(0, x1153)] m (fun r m1 => m1 = m ∧ Q r) := by
            rintro _ rfl
            exact gh_ret0 rfl gd_House_name_183 ⟨rfl, h⟩
          refine gh_jge (tgt := 182) gd_House_name_167 (by decide) (fun c1154 => ?_) (fun c1154 => ?_)
          · have hz : True := trivial
            have hk := hk c1154
            refine gh_aload_n gd_House_name_170 0 rfl (by decide) ?_
            refine gf_2_3 gd_House_name_171 gh_k636 hF ?_
            refine gf_20_6 gd_House_name_174 gh_k336 hF ?_
            refine gh_iload_n gd_House_name_177 1 rfl ?_
            obtain ⟨q1150, hk⟩ := hk
            have q1151 := hk
            refine la_21 gd_House_name_178 hF q1150 q1151 rfl ?_
            refine gh_goto (tgt := 183) gd_House_name_179 (by decide) ?_
            exact k1152 _ (by rw [if_pos c1154])
          · have hz : True := trivial
            refine gh_iconst gd_House_name_182 (gh_r0 rfl) ?_
            exact k1152 _ (by rw [if_neg c1154])
        have n1155 : ¬ (v2 = 0) := c1137
        have n1156 : ¬ (v2 = 1) := c1140
        have n1157 : ¬ (v2 = 2) := c1143
        have n1158 : ¬ (v2 = 3) := c1144
        have n1159 : ¬ (v2 = 4) := c1145
        have n1160 : ¬ (v2 = 5) := c1146
        have n1161 : ¬ (v2 = 6) := c1147
        refine gh_tabOut (tgt := 184) gd_House_name_45 (by omega) (by decide) ?_
        have h := h c1137 c1140 c1143 c1144 c1145 c1146 c1147
        refine gh_aload_n gd_House_name_184 0 rfl (by decide) ?_
        refine gf_2_3 gd_House_name_185 gh_k636 hF ?_
        refine gf_20_9 gd_House_name_188 gh_k343 hF ?_
        refine gh_iload_n gd_House_name_191 1 rfl ?_
        obtain ⟨q1162, h⟩ := h
        obtain ⟨q1163, h⟩ := h
        refine la_24 gd_House_name_192 hF q1162 q1163 rfl ?_
        refine gh_iload_n gd_House_name_193 1 rfl ?_
        refine gh_ishr gd_House_name_194 ?_
        refine gh_iconst gd_House_name_195 (gh_r0 rfl) ?_
        refine gh_iand gd_House_name_196 ?_
        exact gh_ret0 rfl gd_House_name_197 ⟨rfl, h⟩
    have k1135 : ¬ (¬ (v2 < 0) ∧ (v2 ≤ 7)) → gh_T E (gh_yHouse_name.cls, prog_1_method_8_code, 3, false, 0) (d + 1) 29 [(0, 2, 2), (1, 0, v1), (2, 0, v2)] [] m (fun r m1 => m1 = m ∧ Q r) := by
      intro c
      have h := hB c
      refine gh_sipush gd_House_name_29 (by decide) (gh_r0 rfl) ?_
      exact gh_ret0 rfl gd_House_name_32 ⟨rfl, h⟩
    refine gh_zlt (tgt := 29) gd_House_name_20 (by decide) (fun c1164 => ?_) (fun c1164 => ?_)
    · have hz : True := trivial
      exact k1135 (fun z => z.1 c1164)
    · have hz : True := trivial
      refine gh_iload_n gd_House_name_23 2 rfl ?_
      refine gh_bipush gd_House_name_24 (by decide) (gh_r0 rfl) ?_
      refine gh_jle (tgt := 33) gd_House_name_26 (by decide) (fun c1165 => ?_) (fun c1165 => ?_)
      · have hz : True := trivial
        exact k1134 ⟨c1164, c1165⟩
      · have hz : True := trivial
        exact k1135 (fun z => c1165 z.2)
  obtain ⟨hA, hB⟩ := h
  have k1166 : (((m 2 10) = 0) ∨ (p_House_isName v1 m)) → gh_T E (gh_yHouse_name.cls, prog_1_method_8_code, 3, false, 0) (d + 1) 19 [(0, 2, 2), (1, 0, v1), (2, 0, v2)] [] m (fun r m1 => m1 = m ∧ Q r) := by
    intro c
    have h := hA c
    exact hJ19 hF h
  have k1167 : ¬ (((m 2 10) = 0) ∨ (p_House_isName v1 m)) → gh_T E (gh_yHouse_name.cls, prog_1_method_8_code, 3, false, 0) (d + 1) 15 [(0, 2, 2), (1, 0, v1), (2, 0, v2)] [] m (fun r m1 => m1 = m ∧ Q r) := by
    intro c
    have h := hB c
    refine gh_sipush gd_House_name_15 (by decide) (gh_r0 rfl) ?_
    exact gh_ret0 rfl gd_House_name_18 ⟨rfl, h⟩
  refine gh_zeq (tgt := 19) gd_House_name_4 (by decide) (fun c1168 => ?_) (fun c1168 => ?_)
  · have hz : True := trivial
    exact k1166 (Or.inl c1168)
  · have hz : True := trivial
    refine gh_aload_n gd_House_name_7 0 rfl (by decide) ?_
    refine gh_iload_n gd_House_name_8 1 rfl ?_
    refine cv_House_isName (d := d) gd_House_name_9 gh_k983 hF (Nat.le_of_ble_eq_true rfl) (gh_C.pe (e_House_isName d v1 hF) ?_)
    refine gh_bne (tgt := 19) gd_House_name_12 (by decide) (fun c1169 => ?_) (fun c1169 => ?_)
    · have hz : True := trivial
      exact k1166 (Or.inr c1169)
    · have hz : True := trivial
      exact k1167 (fun z => z.elim c1168 c1169)
def w_Grammar_signOf (v1 : Int) (v2 : Int) (m : gh_M) (Q : Int → Prop) : Prop := (((v2 < 3) → (0 ≤ v1 ∧ v1 < 8 ∧ gh_i (7 * v2)))) ∧ ∀ v3 : Int, v3 = (if v2 < 3 then (gh_iand_f (gh_ishr_f (m 18 v1) (7 * v2)) 127) else 0) → Q (if v3 = 0 then (-1) else v3)
theorem s_Grammar_signOf {E : gh_E} {m : gh_M} {Q : Int → Prop} (d : Nat) (v1 : Int) (v2 : Int) (hF : gh_F m) (h : w_Grammar_signOf v1 v2 m Q) : gh_C E gh_yGrammar_signOf prog_6_method_11_code 4 (some .int) 0 (d + 0) [(2, 13), (0, v1), (0, v2)] m (fun r m1 => m1 = m ∧ Q r) := by
  refine gh_enter2 (L := [(0, 2, 13), (1, 0, v1), (2, 0, v2)]) (by decide +kernel) gh_rt0 (Nat.le_of_ble_eq_true rfl) rfl rfl ?_
  unfold w_Grammar_signOf at h
  refine gh_iload_n gd_Grammar_signOf_0 2 rfl ?_
  refine gh_iconst gd_Grammar_signOf_1 (gh_r0 rfl) ?_
  obtain ⟨hk, h⟩ := h
  have k1173 : ∀ x1174 : Int, x1174 = (if v2 < 3 then (gh_iand_f (gh_ishr_f (m 18 v1) (7 * v2)) 127) else 0) → gh_T E (gh_yGrammar_signOf.cls, prog_6_method_11_code, 4, false, 0) (d + 0) 23 [(0, 2, 13), (1, 0, v1), (2, 0, v2)] [(0, x1174)] m (fun r m1 => m1 = m ∧ Q r) := by
    rintro _ rfl
    refine gh_name (fun v3 hn => ?_)
    have h := h v3 hn
    refine gh_istore_n (L2 := [(3, 0, v3), (0, 2, 13), (1, 0, v1), (2, 0, v2)]) gd_Grammar_signOf_23 (by decide) rfl ?_
    refine gh_iload_n gd_Grammar_signOf_24 0 rfl ?_
    have k1175 : ∀ x1176 : Int, x1176 = (if v3 = 0 then (-1) else v3) → gh_T E (gh_yGrammar_signOf.cls, prog_6_method_11_code, 4, false, 0) (d + 0) 33 [(3, 0, v3), (0, 2, 13), (1, 0, v1), (2, 0, v2)] [(0, x1176)] m (fun r m1 => m1 = m ∧ Q r) := by
      rintro _ rfl
      exact gh_ret0 rfl gd_Grammar_signOf_33 ⟨rfl, h⟩
    refine gh_zne (tgt := 32) gd_Grammar_signOf_25 (by decide) (fun c1177 => ?_) (fun c1177 => ?_)
    · have hz : True := trivial
      refine gh_iconst gd_Grammar_signOf_28 (gh_r0 rfl) ?_
      refine gh_goto (tgt := 33) gd_Grammar_signOf_29 (by decide) ?_
      exact k1175 _ (by rw [if_pos c1177])
    · have hz : True := trivial
      refine gh_iload_n gd_Grammar_signOf_32 0 rfl ?_
      exact k1175 _ (by rw [if_neg c1177])
  refine gh_jge (tgt := 22) gd_Grammar_signOf_2 (by decide) (fun c1178 => ?_) (fun c1178 => ?_)
  · have hz : True := trivial
    have hk := hk c1178
    refine gh_aload_n gd_Grammar_signOf_5 0 rfl (by decide) ?_
    refine gf_13_7 gd_Grammar_signOf_6 gh_k292 hF ?_
    refine gh_iload_n gd_Grammar_signOf_9 1 rfl ?_
    obtain ⟨q1170, hk⟩ := hk
    obtain ⟨q1171, hk⟩ := hk
    refine la_18 gd_Grammar_signOf_10 hF q1170 q1171 rfl ?_
    refine gh_bipush gd_Grammar_signOf_11 (by decide) (gh_r0 rfl) ?_
    refine gh_iload_n gd_Grammar_signOf_13 2 rfl ?_
    have q1172 := hk
    refine gh_imul gd_Grammar_signOf_14 q1172 ?_
    refine gh_ishr gd_Grammar_signOf_15 ?_
    refine gh_bipush gd_Grammar_signOf_16 (by decide) (gh_r0 rfl) ?_
    refine gh_iand gd_Grammar_signOf_18 ?_
    refine gh_goto (tgt := 23) gd_Grammar_signOf_19 (by decide) ?_
    exact k1173 _ (by rw [if_pos c1178])
  · have hz : True := trivial
    refine gh_iconst gd_Grammar_signOf_22 (gh_r0 rfl) ?_
    exact k1173 _ (by rw [if_neg c1178])
def w_House_nameSign (v1 : Int) (v2 : Int) (m : gh_M) (Q : Int → Prop) : Prop := ∃ J19 : Prop, (J19 → ((v2 < 0 → Q (-1002)) ∧ (¬ (v2 < 0) → (((m 2 10) = 0 → Q (-1003)) ∧ (¬ ((m 2 10) = 0) → w_Grammar_signOf v1 v2 m (fun r1181 => Q r1181)))))) ∧ (((((m 2 10) = 0) ∨ (p_House_isName v1 m)) → J19) ∧ (¬ (((m 2 10) = 0) ∨ (p_House_isName v1 m)) → Q (-1001)))
theorem s_House_nameSign {E : gh_E} {m : gh_M} {Q : Int → Prop} (d : Nat) (v1 : Int) (v2 : Int) (hF : gh_F m) (h : w_House_nameSign v1 v2 m Q) : gh_C E gh_yHouse_nameSign prog_1_method_9_code 3 (some .int) 0 (d + 1) [(2, 2), (0, v1), (0, v2)] m (fun r m1 => m1 = m ∧ Q r) := by
  refine gh_enter2 (L := [(0, 2, 2), (1, 0, v1), (2, 0, v2)]) (by decide +kernel) gh_rt0 (Nat.le_of_ble_eq_true rfl) rfl rfl ?_
  unfold w_House_nameSign at h
  refine gh_aload_n gd_House_nameSign_0 0 rfl (by decide) ?_
  refine gf_2_10 gd_House_nameSign_1 gh_k643 hF rfl ?_
  obtain ⟨J19, hJ19, h⟩ := h
  have hJ19 : gh_F m → J19 → gh_T E (gh_yHouse_nameSign.cls, prog_1_method_9_code, 3, false, 0) (d + 1) 19 [(0, 2, 2), (1, 0, v1), (2, 0, v2)] [] m (fun r m1 => m1 = m ∧ Q r) := by
    intro hF hj
    have h := hJ19 hj
    refine gh_iload_n gd_House_nameSign_19 2 rfl ?_
    obtain ⟨hA, hB⟩ := h
    refine gh_zge (tgt := 27) gd_House_nameSign_20 (by decide) (fun c1179 => ?_) (fun c1179 => ?_)
    · have h := hA c1179
      refine gh_sipush gd_House_nameSign_23 (by decide) (gh_r0 rfl) ?_
      exact gh_ret0 rfl gd_House_nameSign_26 ⟨rfl, h⟩
    · have h := hB c1179
      refine gh_aload_n gd_House_nameSign_27 0 rfl (by decide) ?_
      refine gf_2_10 gd_House_nameSign_28 gh_k643 hF rfl ?_
      obtain ⟨hA, hB⟩ := h
      refine gh_zeq (tgt := 46) gd_House_nameSign_31 (by decide) (fun c1180 => ?_) (fun c1180 => ?_)
      · have h := hA c1180
        refine gh_sipush gd_House_nameSign_46 (by decide) (gh_r0 rfl) ?_
        exact gh_ret0 rfl gd_House_nameSign_49 ⟨rfl, h⟩
      · have h := hB c1180
        refine gh_aload_n gd_House_nameSign_34 0 rfl (by decide) ?_
        refine gf_2_2 gd_House_nameSign_35 gh_k635 hF ?_
        refine gh_iload_n gd_House_nameSign_38 1 rfl ?_
        refine gh_iload_n gd_House_nameSign_39 2 rfl ?_
        refine cv_Grammar_signOf (d := d) gd_House_nameSign_40 gh_k992 hF (Nat.le_of_ble_eq_true rfl) (gh_C.pw (s_Grammar_signOf d v1 v2 hF h) (fun r1181 h => ?_))
        refine gh_goto (tgt := 49) gd_House_nameSign_43 (by decide) ?_
        exact gh_ret0 rfl gd_House_nameSign_49 ⟨rfl, h⟩
  obtain ⟨hA, hB⟩ := h
  have k1183 : (((m 2 10) = 0) ∨ (p_House_isName v1 m)) → gh_T E (gh_yHouse_nameSign.cls, prog_1_method_9_code, 3, false, 0) (d + 1) 19 [(0, 2, 2), (1, 0, v1), (2, 0, v2)] [] m (fun r m1 => m1 = m ∧ Q r) := by
    intro c
    have h := hA c
    exact hJ19 hF h
  have k1184 : ¬ (((m 2 10) = 0) ∨ (p_House_isName v1 m)) → gh_T E (gh_yHouse_nameSign.cls, prog_1_method_9_code, 3, false, 0) (d + 1) 15 [(0, 2, 2), (1, 0, v1), (2, 0, v2)] [] m (fun r m1 => m1 = m ∧ Q r) := by
    intro c
    have h := hB c
    refine gh_sipush gd_House_nameSign_15 (by decide) (gh_r0 rfl) ?_
    exact gh_ret0 rfl gd_House_nameSign_18 ⟨rfl, h⟩
  refine gh_zeq (tgt := 19) gd_House_nameSign_4 (by decide) (fun c1185 => ?_) (fun c1185 => ?_)
  · have hz : True := trivial
    exact k1183 (Or.inl c1185)
  · have hz : True := trivial
    refine gh_aload_n gd_House_nameSign_7 0 rfl (by decide) ?_
    refine gh_iload_n gd_House_nameSign_8 1 rfl ?_
    refine cv_House_isName (d := d) gd_House_nameSign_9 gh_k983 hF (Nat.le_of_ble_eq_true rfl) (gh_C.pe (e_House_isName d v1 hF) ?_)
    refine gh_bne (tgt := 19) gd_House_nameSign_12 (by decide) (fun c1186 => ?_) (fun c1186 => ?_)
    · have hz : True := trivial
      exact k1183 (Or.inr c1186)
    · have hz : True := trivial
      exact k1184 (fun z => z.elim c1185 c1186)
def f_Facts_ruleFor_13 (v1 : Int) (v2 : Int) (Q : Int → Prop) (m : gh_M) (K13 : Int → Int → Prop) (v3 : Int) (v4 : Int) : Prop := k_Grammar_behindRules v1 m ∧ ((v4 < (x_Grammar_behindRules v1 m) → 0 ≤ v4 ∧ v4 < 20 ∧ ∃ J51 : Int → Prop, (∀ (v3' : Int), J51 v3' → gh_i (v4 + 1) ∧ K13 v3' (v4 + 1)) ∧ (((gh_iand_f (gh_ishr_f (m 25 v4) v2) 1) = 0 → J51 v3) ∧ (¬ ((gh_iand_f (gh_ishr_f (m 25 v4) v2) 1) = 0) → ((v3 = (-1) → J51 v4) ∧ (¬ (v3 = (-1)) → Q (-2)))))) ∧ (¬ (v4 < (x_Grammar_behindRules v1 m)) → Q v3))
def w_Facts_ruleFor (v1 : Int) (v2 : Int) (m : gh_M) (Q : Int → Prop) : Prop := 0 ≤ v1 ∧ v1 < 8 ∧ ∀ v4 : Int, v4 = m 14 v1 → gh_L2 (fun K13 v3 v4 => f_Facts_ruleFor_13 v1 v2 Q m K13 v3 v4) (-1) v4
theorem b_Facts_ruleFor_13 {E : gh_E} {v1 : Int} {v2 : Int} {Q : Int → Prop} {K13 : Int → Int → Prop} (d : Nat) {m : gh_M} (hK : ∀ (v3 : Int) (v4 : Int), gh_F m → K13 v3 v4 → gh_T E (gh_yFacts_ruleFor.cls, prog_4_method_18_code, 5, false, 0) (d + 1) 13 [(0, 2, 20), (1, 0, v1), (2, 0, v2), (3, 0, v3), (4, 0, v4)] [] m (fun r m1 => m1 = m ∧ Q r)) (v3 : Int) (v4 : Int) (hF : gh_F m) (h : f_Facts_ruleFor_13 v1 v2 Q m K13 v3 v4) : gh_T E (gh_yFacts_ruleFor.cls, prog_4_method_18_code, 5, false, 0) (d + 1) 13 [(0, 2, 20), (1, 0, v1), (2, 0, v2), (3, 0, v3), (4, 0, v4)] [] m (fun r m1 => m1 = m ∧ Q r) := by
  have hK13 := hK
  unfold f_Facts_ruleFor_13 at h
  refine gh_iload gd_Facts_ruleFor_13 4 rfl ?_
  refine gh_aload_n gd_Facts_ruleFor_15 0 rfl (by decide) ?_
  refine gf_20_0 gd_Facts_ruleFor_16 gh_k319 hF ?_
  refine gh_iload_n gd_Facts_ruleFor_19 1 rfl ?_
  obtain ⟨q1189, h⟩ := h
  refine cv_Grammar_behindRules (d := d) gd_Facts_ruleFor_20 gh_k969 hF (Nat.le_of_ble_eq_true rfl) (gh_C.pe (e_Grammar_behindRules d v1 hF q1189) ?_)
  obtain ⟨hA, hB⟩ := h
  refine gh_jge (tgt := 57) gd_Facts_ruleFor_23 (by decide) (fun c1190 => ?_) (fun c1190 => ?_)
  · have h := hA c1190
    refine gh_aload_n gd_Facts_ruleFor_26 0 rfl (by decide) ?_
    refine gf_20_10 gd_Facts_ruleFor_27 gh_k344 hF ?_
    refine gh_iload gd_Facts_ruleFor_30 4 rfl ?_
    obtain ⟨q1191, h⟩ := h
    obtain ⟨q1192, h⟩ := h
    refine la_25 gd_Facts_ruleFor_32 hF q1191 q1192 rfl ?_
    refine gh_iload_n gd_Facts_ruleFor_33 2 rfl ?_
    refine gh_ishr gd_Facts_ruleFor_34 ?_
    refine gh_iconst gd_Facts_ruleFor_35 (gh_r0 rfl) ?_
    refine gh_iand gd_Facts_ruleFor_36 ?_
    obtain ⟨J51, hJ51, h⟩ := h
    have hJ51 : ∀ (v3' : Int), gh_F m → J51 v3' → gh_T E (gh_yFacts_ruleFor.cls, prog_4_method_18_code, 5, false, 0) (d + 1) 51 [(0, 2, 20), (1, 0, v1), (2, 0, v2), (3, 0, v3'), (4, 0, v4)] [] m (fun r m1 => m1 = m ∧ Q r) := by
      intro v3' hF hj
      have h := hJ51 v3' hj
      obtain ⟨q1193, h⟩ := h
      refine gh_iinc (L2 := [(4, 0, v4 + 1), (0, 2, 20), (1, 0, v1), (2, 0, v2), (3, 0, v3')]) gd_Facts_ruleFor_51 4 rfl q1193 (by decide) rfl ?_
      refine gh_goto (tgt := 13) gd_Facts_ruleFor_54 (by decide) ?_
      refine gh_pick (L2 := [(0, 2, 20), (1, 0, v1), (2, 0, v2), (3, 0, v3'), (4, 0, v4 + 1)]) [1, 2, 3, 4, 0] rfl ?_
      exact hK13 v3' (v4 + 1) hF h
    obtain ⟨hA, hB⟩ := h
    refine gh_zeq (tgt := 51) gd_Facts_ruleFor_37 (by decide) (fun c1194 => ?_) (fun c1194 => ?_)
    · have h := hA c1194
      exact hJ51 v3 hF h
    · have h := hB c1194
      refine gh_iload_n gd_Facts_ruleFor_40 3 rfl ?_
      refine gh_iconst gd_Facts_ruleFor_41 (gh_r0 rfl) ?_
      obtain ⟨hA, hB⟩ := h
      refine gh_jeq (tgt := 48) gd_Facts_ruleFor_42 (by decide) (fun c1195 => ?_) (fun c1195 => ?_)
      · have h := hA c1195
        refine gh_iload gd_Facts_ruleFor_48 4 rfl ?_
        refine gh_istore_n (L2 := [(3, 0, v4), (0, 2, 20), (1, 0, v1), (2, 0, v2), (4, 0, v4)]) gd_Facts_ruleFor_50 (by decide) rfl ?_
        refine gh_pick (L2 := [(0, 2, 20), (1, 0, v1), (2, 0, v2), (3, 0, v4), (4, 0, v4)]) [1, 2, 3, 0, 4] rfl ?_
        exact hJ51 v4 hF h
      · have h := hB c1195
        refine gh_bipush gd_Facts_ruleFor_45 (by decide) (gh_r0 rfl) ?_
        exact gh_ret0 rfl gd_Facts_ruleFor_47 ⟨rfl, h⟩
  · have h := hB c1190
    refine gh_iload_n gd_Facts_ruleFor_57 3 rfl ?_
    exact gh_ret0 rfl gd_Facts_ruleFor_58 ⟨rfl, h⟩
theorem s_Facts_ruleFor {E : gh_E} {m : gh_M} {Q : Int → Prop} (d : Nat) (v1 : Int) (v2 : Int) (hF : gh_F m) (h : w_Facts_ruleFor v1 v2 m Q) : gh_C E gh_yFacts_ruleFor prog_4_method_18_code 5 (some .int) 0 (d + 1) [(2, 20), (0, v1), (0, v2)] m (fun r m1 => m1 = m ∧ Q r) := by
  refine gh_enter2 (L := [(0, 2, 20), (1, 0, v1), (2, 0, v2)]) (by decide +kernel) gh_rt0 (Nat.le_of_ble_eq_true rfl) rfl rfl ?_
  unfold w_Facts_ruleFor at h
  refine gh_iconst gd_Facts_ruleFor_0 (gh_r0 rfl) ?_
  refine gh_istore_n (L2 := [(3, 0, (-1)), (0, 2, 20), (1, 0, v1), (2, 0, v2)]) gd_Facts_ruleFor_1 (by decide) rfl ?_
  refine gh_aload_n gd_Facts_ruleFor_2 1 rfl (by decide) ?_
  refine gf_20_0 gd_Facts_ruleFor_3 gh_k319 hF ?_
  refine gf_13_3 gd_Facts_ruleFor_6 gh_k274 hF ?_
  refine gh_iload_n gd_Facts_ruleFor_9 2 rfl ?_
  obtain ⟨q1187, h⟩ := h
  obtain ⟨q1188, h⟩ := h
  refine la_14 gd_Facts_ruleFor_10 hF q1187 q1188 rfl ?_
  refine gh_name (fun v4 hn => ?_)
  have h := h v4 hn
  refine gh_istore (L2 := [(4, 0, v4), (3, 0, (-1)), (0, 2, 20), (1, 0, v1), (2, 0, v2)]) gd_Facts_ruleFor_11 (by decide) rfl ?_
  refine gh_pick (L2 := [(0, 2, 20), (1, 0, v1), (2, 0, v2), (3, 0, (-1)), (4, 0, v4)]) [2, 3, 4, 1, 0] rfl ?_
  exact gh_L2_sound (T := fun v3 v4 => gh_T E (gh_yFacts_ruleFor.cls, prog_4_method_18_code, 5, false, 0) (d + 1) 13 [(0, 2, 20), (1, 0, v1), (2, 0, v2), (3, 0, v3), (4, 0, v4)] [] m (fun r m1 => m1 = m ∧ Q r)) (fun _ _ => gh_F m) (fun K13 v3 v4 hK hF h => b_Facts_ruleFor_13 d hK v3 v4 hF h) (-1) v4 hF h
def w_House_table (v1 : Int) (v2 : Int) (m : gh_M) (Q : Int → Prop) : Prop := ∃ J19 : Prop, (J19 → (((¬ (v2 < 0) ∧ (v2 ≤ 26)) → (((m 2 10) = 0 → Q (-1003)) ∧ (¬ ((m 2 10) = 0) → w_Facts_ruleFor v1 v2 m (fun r1199 => Q r1199)))) ∧ (¬ (¬ (v2 < 0) ∧ (v2 ≤ 26)) → Q (-1002)))) ∧ (((((m 2 10) = 0) ∨ (p_House_isName v1 m)) → J19) ∧ (¬ (((m 2 10) = 0) ∨ (p_House_isName v1 m)) → Q (-1001)))
theorem s_House_table {E : gh_E} {m : gh_M} {Q : Int → Prop} (d : Nat) (v1 : Int) (v2 : Int) (hF : gh_F m) (h : w_House_table v1 v2 m Q) : gh_C E gh_yHouse_table prog_1_method_14_code 3 (some .int) 0 (d + 2) [(2, 2), (0, v1), (0, v2)] m (fun r m1 => m1 = m ∧ Q r) := by
  refine gh_enter2 (L := [(0, 2, 2), (1, 0, v1), (2, 0, v2)]) (by decide +kernel) gh_rt0 (Nat.le_of_ble_eq_true rfl) rfl rfl ?_
  unfold w_House_table at h
  refine gh_aload_n gd_House_table_0 0 rfl (by decide) ?_
  refine gf_2_10 gd_House_table_1 gh_k643 hF rfl ?_
  obtain ⟨J19, hJ19, h⟩ := h
  have hJ19 : gh_F m → J19 → gh_T E (gh_yHouse_table.cls, prog_1_method_14_code, 3, false, 0) (d + 2) 19 [(0, 2, 2), (1, 0, v1), (2, 0, v2)] [] m (fun r m1 => m1 = m ∧ Q r) := by
    intro hF hj
    have h := hJ19 hj
    refine gh_iload_n gd_House_table_19 2 rfl ?_
    obtain ⟨hA, hB⟩ := h
    have k1196 : (¬ (v2 < 0) ∧ (v2 ≤ 26)) → gh_T E (gh_yHouse_table.cls, prog_1_method_14_code, 3, false, 0) (d + 2) 33 [(0, 2, 2), (1, 0, v1), (2, 0, v2)] [] m (fun r m1 => m1 = m ∧ Q r) := by
      intro c
      have h := hA c
      refine gh_aload_n gd_House_table_33 0 rfl (by decide) ?_
      refine gf_2_10 gd_House_table_34 gh_k643 hF rfl ?_
      obtain ⟨hA, hB⟩ := h
      refine gh_zeq (tgt := 52) gd_House_table_37 (by decide) (fun c1198 => ?_) (fun c1198 => ?_)
      · have h := hA c1198
        refine gh_sipush gd_House_table_52 (by decide) (gh_r0 rfl) ?_
        exact gh_ret0 rfl gd_House_table_55 ⟨rfl, h⟩
      · have h := hB c1198
        refine gh_aload_n gd_House_table_40 0 rfl (by decide) ?_
        refine gf_2_3 gd_House_table_41 gh_k636 hF ?_
        refine gh_iload_n gd_House_table_44 1 rfl ?_
        refine gh_iload_n gd_House_table_45 2 rfl ?_
        refine cv_Facts_ruleFor (d := d + 1) gd_House_table_46 gh_k1021 hF (Nat.le_of_ble_eq_true rfl) (gh_C.pw (s_Facts_ruleFor d v1 v2 hF h) (fun r1199 h => ?_))
        refine gh_goto (tgt := 55) gd_House_table_49 (by decide) ?_
        exact gh_ret0 rfl gd_House_table_55 ⟨rfl, h⟩
    have k1197 : ¬ (¬ (v2 < 0) ∧ (v2 ≤ 26)) → gh_T E (gh_yHouse_table.cls, prog_1_method_14_code, 3, false, 0) (d + 2) 29 [(0, 2, 2), (1, 0, v1), (2, 0, v2)] [] m (fun r m1 => m1 = m ∧ Q r) := by
      intro c
      have h := hB c
      refine gh_sipush gd_House_table_29 (by decide) (gh_r0 rfl) ?_
      exact gh_ret0 rfl gd_House_table_32 ⟨rfl, h⟩
    refine gh_zlt (tgt := 29) gd_House_table_20 (by decide) (fun c1201 => ?_) (fun c1201 => ?_)
    · have hz : True := trivial
      exact k1197 (fun z => z.1 c1201)
    · have hz : True := trivial
      refine gh_iload_n gd_House_table_23 2 rfl ?_
      refine gh_bipush gd_House_table_24 (by decide) (gh_r0 rfl) ?_
      refine gh_jle (tgt := 33) gd_House_table_26 (by decide) (fun c1202 => ?_) (fun c1202 => ?_)
      · have hz : True := trivial
        exact k1196 ⟨c1201, c1202⟩
      · have hz : True := trivial
        exact k1197 (fun z => c1202 z.2)
  obtain ⟨hA, hB⟩ := h
  have k1203 : (((m 2 10) = 0) ∨ (p_House_isName v1 m)) → gh_T E (gh_yHouse_table.cls, prog_1_method_14_code, 3, false, 0) (d + 2) 19 [(0, 2, 2), (1, 0, v1), (2, 0, v2)] [] m (fun r m1 => m1 = m ∧ Q r) := by
    intro c
    have h := hA c
    exact hJ19 hF h
  have k1204 : ¬ (((m 2 10) = 0) ∨ (p_House_isName v1 m)) → gh_T E (gh_yHouse_table.cls, prog_1_method_14_code, 3, false, 0) (d + 2) 15 [(0, 2, 2), (1, 0, v1), (2, 0, v2)] [] m (fun r m1 => m1 = m ∧ Q r) := by
    intro c
    have h := hB c
    refine gh_sipush gd_House_table_15 (by decide) (gh_r0 rfl) ?_
    exact gh_ret0 rfl gd_House_table_18 ⟨rfl, h⟩
  refine gh_zeq (tgt := 19) gd_House_table_4 (by decide) (fun c1205 => ?_) (fun c1205 => ?_)
  · have hz : True := trivial
    exact k1203 (Or.inl c1205)
  · have hz : True := trivial
    refine gh_aload_n gd_House_table_7 0 rfl (by decide) ?_
    refine gh_iload_n gd_House_table_8 1 rfl ?_
    refine cv_House_isName (d := d + 1) gd_House_table_9 gh_k983 hF (Nat.le_of_ble_eq_true rfl) (gh_C.pe (e_House_isName (d + 1) v1 hF) ?_)
    refine gh_bne (tgt := 19) gd_House_table_12 (by decide) (fun c1206 => ?_) (fun c1206 => ?_)
    · have hz : True := trivial
      exact k1203 (Or.inr c1206)
    · have hz : True := trivial
      exact k1204 (fun z => z.elim c1205 c1206)
def w_House_put (v1 : Int) (m : gh_M) (Q : Int → gh_M → Prop) : Prop := (((¬ (v1 < 0) ∧ (v1 < 26)) → (((m 2 10) = 0 → Q (-1003) m) ∧ (¬ ((m 2 10) = 0) → (((m 26 3) < 8 → w_House_textChanged (m 26 3) m (fun _ m1212 => 0 ≤ m1212 26 3 ∧ (m1212 26 3) < 8 ∧ gh_i ((m1212 26 3) + 1) ∧ Q (((m1212 26 3) + 1)) (gh_u (gh_u m1212 27 (m1212 26 3) v1) 26 3 ((m1212 26 3) + 1)))) ∧ (¬ ((m 26 3) < 8) → Q (-1004) m))))) ∧ (¬ (¬ (v1 < 0) ∧ (v1 < 26)) → Q (-1002) m))
theorem s_House_put {E : gh_E} {m : gh_M} {Q : Int → gh_M → Prop} (d : Nat) (v1 : Int) (hF : gh_F m) (h : w_House_put v1 m Q) : gh_C E gh_yHouse_put prog_1_method_15_code 2 (some .int) 0 (d + 3) [(2, 2), (0, v1)] m (fun r m1 => gh_F m1 ∧ Q r m1) := by
  refine gh_enter2 (L := [(0, 2, 2), (1, 0, v1)]) (by decide +kernel) gh_rt0 (Nat.le_of_ble_eq_true rfl) rfl rfl ?_
  unfold w_House_put at h
  refine gh_iload_n gd_House_put_0 1 rfl ?_
  obtain ⟨hA, hB⟩ := h
  have k1207 : (¬ (v1 < 0) ∧ (v1 < 26)) → gh_T E (gh_yHouse_put.cls, prog_1_method_15_code, 2, false, 0) (d + 3) 14 [(0, 2, 2), (1, 0, v1)] [] m (fun r m1 => gh_F m1 ∧ Q r m1) := by
    intro c
    have h := hA c
    refine gh_aload_n gd_House_put_14 0 rfl (by decide) ?_
    refine gf_2_10 gd_House_put_15 gh_k643 hF rfl ?_
    obtain ⟨hA, hB⟩ := h
    refine gh_zne (tgt := 25) gd_House_put_18 (by decide) (fun c1209 => ?_) (fun c1209 => ?_)
    · have h := hA c1209
      refine gh_sipush gd_House_put_21 (by decide) (gh_r0 rfl) ?_
      exact gh_ret0 rfl gd_House_put_24 ⟨hF, h⟩
    · have h := hB c1209
      refine gh_aload_n gd_House_put_25 0 rfl (by decide) ?_
      refine gf_2_4 gd_House_put_26 gh_k637 hF ?_
      refine gf_26_3 gd_House_put_29 gh_k381 hF rfl ?_
      refine gh_bipush gd_House_put_32 (by decide) (gh_r0 rfl) ?_
      obtain ⟨hA, hB⟩ := h
      refine gh_jlt (tgt := 41) gd_House_put_34 (by decide) (fun c1210 => ?_) (fun c1210 => ?_)
      · have h := hA c1210
        refine gh_aload_n gd_House_put_41 0 rfl (by decide) ?_
        refine gh_aload_n gd_House_put_42 0 rfl (by decide) ?_
        refine gf_2_4 gd_House_put_43 gh_k637 hF ?_
        refine gf_26_3 gd_House_put_46 gh_k381 hF rfl ?_
        refine cv_House_textChanged (d := d + 2) gd_House_put_49 gh_k939 hF (Nat.le_of_ble_eq_true rfl) (gh_C.mono (s_House_textChanged d (m 26 3) hF h) (fun r1211 m1212 hq => ?_))
        obtain ⟨hF, h⟩ := hq
        refine gh_aload_n gd_House_put_52 0 rfl (by decide) ?_
        refine gf_2_4 gd_House_put_53 gh_k637 hF ?_
        refine gf_26_2 gd_House_put_56 gh_k377 hF ?_
        refine gh_aload_n gd_House_put_59 0 rfl (by decide) ?_
        refine gf_2_4 gd_House_put_60 gh_k637 hF ?_
        refine gf_26_3 gd_House_put_63 gh_k381 hF rfl ?_
        refine gh_iload_n gd_House_put_66 1 rfl ?_
        obtain ⟨q1213, h⟩ := h
        obtain ⟨q1214, h⟩ := h
        refine sa_27 gd_House_put_67 hF q1213 q1214 (fun hF => ?_)
        refine gh_aload_n gd_House_put_68 0 rfl (by decide) ?_
        refine gf_2_4 gd_House_put_69 gh_k637 hF ?_
        refine gh_dup gd_House_put_72 (by decide) ?_
        refine gf_26_3 gd_House_put_73 gh_k381 hF (gh_u_a (by decide)) ?_
        refine gh_iconst gd_House_put_76 (gh_r0 rfl) ?_
        obtain ⟨q1215, h⟩ := h
        refine gh_iadd gd_House_put_77 q1215 ?_
        refine pf_26_3 gd_House_put_78 gh_k381 hF (fun hF => ?_)
        refine gh_aload_n gd_House_put_81 0 rfl (by decide) ?_
        refine gf_2_4 gd_House_put_82 gh_k637 hF ?_
        refine gf_26_3 gd_House_put_85 gh_k381 hF (gh_u_s _ _ _ _) ?_
        exact gh_ret0 rfl gd_House_put_88 ⟨hF, h⟩
      · have h := hB c1210
        refine gh_sipush gd_House_put_37 (by decide) (gh_r0 rfl) ?_
        exact gh_ret0 rfl gd_House_put_40 ⟨hF, h⟩
  have k1208 : ¬ (¬ (v1 < 0) ∧ (v1 < 26)) → gh_T E (gh_yHouse_put.cls, prog_1_method_15_code, 2, false, 0) (d + 3) 10 [(0, 2, 2), (1, 0, v1)] [] m (fun r m1 => gh_F m1 ∧ Q r m1) := by
    intro c
    have h := hB c
    refine gh_sipush gd_House_put_10 (by decide) (gh_r0 rfl) ?_
    exact gh_ret0 rfl gd_House_put_13 ⟨hF, h⟩
  refine gh_zlt (tgt := 10) gd_House_put_1 (by decide) (fun c1216 => ?_) (fun c1216 => ?_)
  · have hz : True := trivial
    exact k1208 (fun z => z.1 c1216)
  · have hz : True := trivial
    refine gh_iload_n gd_House_put_4 1 rfl ?_
    refine gh_bipush gd_House_put_5 (by decide) (gh_r0 rfl) ?_
    refine gh_jlt (tgt := 14) gd_House_put_7 (by decide) (fun c1217 => ?_) (fun c1217 => ?_)
    · have hz : True := trivial
      exact k1207 ⟨c1216, c1217⟩
    · have hz : True := trivial
      exact k1208 (fun z => c1217 z.2)
def w_House_back (v1 : Int) (m : gh_M) (Q : Int → gh_M → Prop) : Prop := (((¬ (v1 < 0) ∧ (v1 ≤ (m 26 3))) → (((m 2 10) = 0 → Q (-1003) m) ∧ (¬ ((m 2 10) = 0) → gh_i ((m 26 3) - v1) ∧ w_House_textChanged (((m 26 3) - v1)) (gh_u m 26 3 ((m 26 3) - v1)) (fun _ m1223 => Q (m1223 26 3) m1223)))) ∧ (¬ (¬ (v1 < 0) ∧ (v1 ≤ (m 26 3))) → Q (-1002) m))
theorem s_House_back {E : gh_E} {m : gh_M} {Q : Int → gh_M → Prop} (d : Nat) (v1 : Int) (hF : gh_F m) (h : w_House_back v1 m Q) : gh_C E gh_yHouse_back prog_1_method_16_code 2 (some .int) 0 (d + 3) [(2, 2), (0, v1)] m (fun r m1 => gh_F m1 ∧ Q r m1) := by
  refine gh_enter2 (L := [(0, 2, 2), (1, 0, v1)]) (by decide +kernel) gh_rt0 (Nat.le_of_ble_eq_true rfl) rfl rfl ?_
  unfold w_House_back at h
  refine gh_iload_n gd_House_back_0 1 rfl ?_
  obtain ⟨hA, hB⟩ := h
  have k1218 : (¬ (v1 < 0) ∧ (v1 ≤ (m 26 3))) → gh_T E (gh_yHouse_back.cls, prog_1_method_16_code, 2, false, 0) (d + 3) 19 [(0, 2, 2), (1, 0, v1)] [] m (fun r m1 => gh_F m1 ∧ Q r m1) := by
    intro c
    have h := hA c
    refine gh_aload_n gd_House_back_19 0 rfl (by decide) ?_
    refine gf_2_10 gd_House_back_20 gh_k643 hF rfl ?_
    obtain ⟨hA, hB⟩ := h
    refine gh_zne (tgt := 30) gd_House_back_23 (by decide) (fun c1220 => ?_) (fun c1220 => ?_)
    · have h := hA c1220
      refine gh_sipush gd_House_back_26 (by decide) (gh_r0 rfl) ?_
      exact gh_ret0 rfl gd_House_back_29 ⟨hF, h⟩
    · have h := hB c1220
      refine gh_aload_n gd_House_back_30 0 rfl (by decide) ?_
      refine gf_2_4 gd_House_back_31 gh_k637 hF ?_
      refine gh_dup gd_House_back_34 (by decide) ?_
      refine gf_26_3 gd_House_back_35 gh_k381 hF rfl ?_
      refine gh_iload_n gd_House_back_38 1 rfl ?_
      obtain ⟨q1221, h⟩ := h
      refine gh_isub gd_House_back_39 q1221 ?_
      refine pf_26_3 gd_House_back_40 gh_k381 hF (fun hF => ?_)
      refine gh_aload_n gd_House_back_43 0 rfl (by decide) ?_
      refine gh_aload_n gd_House_back_44 0 rfl (by decide) ?_
      refine gf_2_4 gd_House_back_45 gh_k637 hF ?_
      refine gf_26_3 gd_House_back_48 gh_k381 hF (gh_u_s _ _ _ _) ?_
      refine cv_House_textChanged (d := d + 2) gd_House_back_51 gh_k939 hF (Nat.le_of_ble_eq_true rfl) (gh_C.mono (s_House_textChanged d (((m 26 3) - v1)) hF h) (fun r1222 m1223 hq => ?_))
      obtain ⟨hF, h⟩ := hq
      refine gh_aload_n gd_House_back_54 0 rfl (by decide) ?_
      refine gf_2_4 gd_House_back_55 gh_k637 hF ?_
      refine gf_26_3 gd_House_back_58 gh_k381 hF rfl ?_
      exact gh_ret0 rfl gd_House_back_61 ⟨hF, h⟩
  have k1219 : ¬ (¬ (v1 < 0) ∧ (v1 ≤ (m 26 3))) → gh_T E (gh_yHouse_back.cls, prog_1_method_16_code, 2, false, 0) (d + 3) 15 [(0, 2, 2), (1, 0, v1)] [] m (fun r m1 => gh_F m1 ∧ Q r m1) := by
    intro c
    have h := hB c
    refine gh_sipush gd_House_back_15 (by decide) (gh_r0 rfl) ?_
    exact gh_ret0 rfl gd_House_back_18 ⟨hF, h⟩
  refine gh_zlt (tgt := 15) gd_House_back_1 (by decide) (fun c1224 => ?_) (fun c1224 => ?_)
  · have hz : True := trivial
    exact k1219 (fun z => z.1 c1224)
  · have hz : True := trivial
    refine gh_iload_n gd_House_back_4 1 rfl ?_
    refine gh_aload_n gd_House_back_5 0 rfl (by decide) ?_
    refine gf_2_4 gd_House_back_6 gh_k637 hF ?_
    refine gf_26_3 gd_House_back_9 gh_k381 hF rfl ?_
    refine gh_jle (tgt := 19) gd_House_back_12 (by decide) (fun c1225 => ?_) (fun c1225 => ?_)
    · have hz : True := trivial
      exact k1218 ⟨c1224, c1225⟩
    · have hz : True := trivial
      exact k1219 (fun z => c1225 z.2)
def w_Text_draw (v1 : Int) (m : gh_M) (Q : Int → gh_M → Prop) : Prop := gh_i (25173 * (m 26 8)) ∧ gh_i ((25173 * (m 26 8)) + 13849) ∧ 0 ≤ (25173 * (m 26 8)) + 13849 ∧ ((¬ (v1 ≤ 0) → (0 ≤ (((25173 * (m 26 8)) + 13849) % 65536) ∧ 0 ≤ ((((25173 * (m 26 8)) + 13849) % 65536)) / 16 ∧ 0 < v1))) ∧ Q (if v1 ≤ 0 then 0 else ((((((25173 * (m 26 8)) + 13849) % 65536)) / 16) % v1)) (gh_u m 26 8 (((25173 * (m 26 8)) + 13849) % 65536))
theorem s_Text_draw {E : gh_E} {m : gh_M} {Q : Int → gh_M → Prop} (d : Nat) (v1 : Int) (hF : gh_F m) (h : w_Text_draw v1 m Q) : gh_C E gh_yText_draw prog_11_method_5_code 2 (some .int) 0 (d + 0) [(2, 26), (0, v1)] m (fun r m1 => gh_F m1 ∧ Q r m1) := by
  refine gh_enter2 (L := [(0, 2, 26), (1, 0, v1)]) (by decide +kernel) gh_rt0 (Nat.le_of_ble_eq_true rfl) rfl rfl ?_
  unfold w_Text_draw at h
  refine gh_aload_n gd_Text_draw_0 0 rfl (by decide) ?_
  refine gh_sipush gd_Text_draw_1 (by decide) (gh_r0 rfl) ?_
  refine gh_aload_n gd_Text_draw_4 0 rfl (by decide) ?_
  refine gf_26_8 gd_Text_draw_5 gh_k387 hF rfl ?_
  obtain ⟨q1226, h⟩ := h
  refine gh_imul gd_Text_draw_8 q1226 ?_
  refine gh_sipush gd_Text_draw_9 (by decide) (gh_r0 rfl) ?_
  obtain ⟨q1227, h⟩ := h
  refine gh_iadd gd_Text_draw_12 q1227 ?_
  refine gh_ldc (n := 65536) gd_Text_draw_13 gh_k1053 (by decide) (gh_r0 rfl) ?_
  obtain ⟨q1228, h⟩ := h
  refine gh_irem gd_Text_draw_15 q1228 (by decide) ?_
  refine pf_26_8 gd_Text_draw_16 gh_k387 hF (fun hF => ?_)
  refine gh_iload_n gd_Text_draw_19 1 rfl ?_
  obtain ⟨hk, h⟩ := h
  have k1232 : ∀ x1233 : Int, x1233 = (if v1 ≤ 0 then 0 else ((((((25173 * (m 26 8)) + 13849) % 65536)) / 16) % v1)) → gh_T E (gh_yText_draw.cls, prog_11_method_5_code, 2, false, 0) (d + 0) 36 [(0, 2, 26), (1, 0, v1)] [(0, x1233)] (gh_u m 26 8 (((25173 * (m 26 8)) + 13849) % 65536)) (fun r m1 => gh_F m1 ∧ Q r m1) := by
    rintro _ rfl
    exact gh_ret0 rfl gd_Text_draw_36 ⟨hF, h⟩
  refine gh_zle (tgt := 35) gd_Text_draw_20 (by decide) (fun c1234 => ?_) (fun c1234 => ?_)
  · have hz : True := trivial
    refine gh_iconst gd_Text_draw_35 (gh_r0 rfl) ?_
    exact k1232 _ (by rw [if_pos c1234])
  · have hz : True := trivial
    have hk := hk c1234
    refine gh_aload_n gd_Text_draw_23 0 rfl (by decide) ?_
    refine gf_26_8 gd_Text_draw_24 gh_k387 hF (gh_u_s _ _ _ _) ?_
    refine gh_bipush gd_Text_draw_27 (by decide) (gh_r0 rfl) ?_
    obtain ⟨q1229, hk⟩ := hk
    refine gh_idiv gd_Text_draw_29 q1229 (by decide) ?_
    refine gh_iload_n gd_Text_draw_30 1 rfl ?_
    obtain ⟨q1230, hk⟩ := hk
    have q1231 := hk
    refine gh_irem gd_Text_draw_31 q1230 q1231 ?_
    refine gh_goto (tgt := 36) gd_Text_draw_32 (by decide) ?_
    exact k1232 _ (by rw [if_neg c1234])
def f_Text_bitAt_4 (v0 : Int) (Q : Int → Prop) (m : gh_M) (K4 : Int → Int → Prop) (v2 : Int) (v3 : Int) : Prop := ((v3 < 26 → ∃ J27 : Int → Prop, (∀ (v2' : Int), J27 v2' → gh_i (v3 + 1) ∧ K4 v2' (v3 + 1)) ∧ (((gh_iand_f (gh_ishr_f v0 v3) 1) = 0 → J27 v2) ∧ (¬ ((gh_iand_f (gh_ishr_f v0 v3) 1) = 0) → ((v2 = 0 → Q v3) ∧ (¬ (v2 = 0) → gh_i (v2 + (-1)) ∧ J27 (v2 + (-1))))))) ∧ (¬ (v3 < 26) → Q (-1)))
def w_Text_bitAt (v0 : Int) (v1 : Int) (m : gh_M) (Q : Int → Prop) : Prop := gh_L2 (fun K4 v2 v3 => f_Text_bitAt_4 v0 Q m K4 v2 v3) v1 0
theorem b_Text_bitAt_4 {E : gh_E} {v0 : Int} {Q : Int → Prop} {K4 : Int → Int → Prop} (d : Nat) {m : gh_M} (hK : ∀ (v2 : Int) (v3 : Int), gh_F m → K4 v2 v3 → gh_T E (gh_yText_bitAt.cls, prog_11_method_8_code, 4, false, 0) (d + 0) 4 [(0, 0, v0), (2, 0, v2), (3, 0, v3)] [] m (fun r m1 => m1 = m ∧ Q r)) (v2 : Int) (v3 : Int) (hF : gh_F m) (h : f_Text_bitAt_4 v0 Q m K4 v2 v3) : gh_T E (gh_yText_bitAt.cls, prog_11_method_8_code, 4, false, 0) (d + 0) 4 [(0, 0, v0), (2, 0, v2), (3, 0, v3)] [] m (fun r m1 => m1 = m ∧ Q r) := by
  have hK4 := hK
  unfold f_Text_bitAt_4 at h
  refine gh_iload_n gd_Text_bitAt_4 2 rfl ?_
  refine gh_bipush gd_Text_bitAt_5 (by decide) (gh_r0 rfl) ?_
  obtain ⟨hA, hB⟩ := h
  refine gh_jge (tgt := 33) gd_Text_bitAt_7 (by decide) (fun c1235 => ?_) (fun c1235 => ?_)
  · have h := hA c1235
    refine gh_iload_n gd_Text_bitAt_10 0 rfl ?_
    refine gh_iload_n gd_Text_bitAt_11 2 rfl ?_
    refine gh_ishr gd_Text_bitAt_12 ?_
    refine gh_iconst gd_Text_bitAt_13 (gh_r0 rfl) ?_
    refine gh_iand gd_Text_bitAt_14 ?_
    obtain ⟨J27, hJ27, h⟩ := h
    have hJ27 : ∀ (v2' : Int), gh_F m → J27 v2' → gh_T E (gh_yText_bitAt.cls, prog_11_method_8_code, 4, false, 0) (d + 0) 27 [(0, 0, v0), (2, 0, v2'), (3, 0, v3)] [] m (fun r m1 => m1 = m ∧ Q r) := by
      intro v2' hF hj
      have h := hJ27 v2' hj
      obtain ⟨q1236, h⟩ := h
      refine gh_iinc (L2 := [(3, 0, v3 + 1), (0, 0, v0), (2, 0, v2')]) gd_Text_bitAt_27 2 rfl q1236 (by decide) rfl ?_
      refine gh_goto (tgt := 4) gd_Text_bitAt_30 (by decide) ?_
      refine gh_pick (L2 := [(0, 0, v0), (2, 0, v2'), (3, 0, v3 + 1)]) [1, 2, 0] rfl ?_
      exact hK4 v2' (v3 + 1) hF h
    obtain ⟨hA, hB⟩ := h
    refine gh_zeq (tgt := 27) gd_Text_bitAt_15 (by decide) (fun c1237 => ?_) (fun c1237 => ?_)
    · have h := hA c1237
      exact hJ27 v2 hF h
    · have h := hB c1237
      refine gh_iload_n gd_Text_bitAt_18 1 rfl ?_
      obtain ⟨hA, hB⟩ := h
      refine gh_zne (tgt := 24) gd_Text_bitAt_19 (by decide) (fun c1238 => ?_) (fun c1238 => ?_)
      · have h := hA c1238
        refine gh_iload_n gd_Text_bitAt_22 2 rfl ?_
        exact gh_ret0 rfl gd_Text_bitAt_23 ⟨rfl, h⟩
      · have h := hB c1238
        obtain ⟨q1239, h⟩ := h
        refine gh_iinc (L2 := [(2, 0, v2 + (-1)), (0, 0, v0), (3, 0, v3)]) gd_Text_bitAt_24 1 rfl q1239 (by decide) rfl ?_
        refine gh_pick (L2 := [(0, 0, v0), (2, 0, v2 + (-1)), (3, 0, v3)]) [1, 0, 2] rfl ?_
        exact hJ27 (v2 + (-1)) hF h
  · have h := hB c1235
    refine gh_iconst gd_Text_bitAt_33 (gh_r0 rfl) ?_
    exact gh_ret0 rfl gd_Text_bitAt_34 ⟨rfl, h⟩
theorem s_Text_bitAt {E : gh_E} {m : gh_M} {Q : Int → Prop} (d : Nat) (v0 : Int) (v1 : Int) (hF : gh_F m) (h : w_Text_bitAt v0 v1 m Q) : gh_C E gh_yText_bitAt prog_11_method_8_code 4 (some .int) 0 (d + 0) [(0, v0), (0, v1)] m (fun r m1 => m1 = m ∧ Q r) := by
  refine gh_enter2 (L := [(0, 0, v0), (1, 0, v1)]) (by decide +kernel) gh_rt0 (Nat.le_of_ble_eq_true rfl) rfl rfl ?_
  unfold w_Text_bitAt at h
  refine gh_iload_n gd_Text_bitAt_0 1 rfl ?_
  refine gh_istore_n (L2 := [(2, 0, v1), (0, 0, v0), (1, 0, v1)]) gd_Text_bitAt_1 (by decide) rfl ?_
  refine gh_iconst gd_Text_bitAt_2 (gh_r0 rfl) ?_
  refine gh_istore_n (L2 := [(3, 0, 0), (2, 0, v1), (0, 0, v0), (1, 0, v1)]) gd_Text_bitAt_3 (by decide) rfl ?_
  refine gh_pick (L2 := [(0, 0, v0), (2, 0, v1), (3, 0, 0)]) [2, 1, 0] rfl ?_
  exact gh_L2_sound (T := fun v2 v3 => gh_T E (gh_yText_bitAt.cls, prog_11_method_8_code, 4, false, 0) (d + 0) 4 [(0, 0, v0), (2, 0, v2), (3, 0, v3)] [] m (fun r m1 => m1 = m ∧ Q r)) (fun _ _ => gh_F m) (fun K4 v2 v3 hK hF h => b_Text_bitAt_4 d hK v2 v3 hF h) v1 0 hF h
def f_Text_putRule_98 (r1246 : Int) (Q : Int → gh_M → Prop) (K98 : Int → gh_M → Prop) (v5 : Int) (m : gh_M) : Prop := ((v5 < 0 → Q 1 m) ∧ (¬ (v5 < 0) → k_Grammar_partAt r1246 v5 m ∧ 0 ≤ m 26 6 ∧ (m 26 6) < 241 ∧ gh_i ((m 26 6) + 1) ∧ gh_i (v5 + (-1)) ∧ K98 (v5 + (-1)) (gh_u (gh_u m 29 (m 26 6) (x_Grammar_partAt r1246 v5 m)) 26 6 ((m 26 6) + 1))))
def w_Text_putRule (v1 : Int) (m : gh_M) (Q : Int → gh_M → Prop) : Prop := k_Grammar_behindRules v1 m ∧ 0 ≤ v1 ∧ v1 < 8 ∧ gh_i ((gh_ishl_f 1 (x_Grammar_behindRules v1 m)) - (gh_ishl_f 1 (m 14 v1))) ∧ ∀ v2 : Int, v2 = (gh_ishl_f 1 (x_Grammar_behindRules v1 m)) - (gh_ishl_f 1 (m 14 v1)) → ∀ v3 : Int, v3 = gh_iand_f (m 20 5) v2 → w_Text_draw (gh_pop v3) m (fun r1244 m1245 => w_Text_bitAt v3 r1244 m1245 (fun r1246 => ((¬ (r1246 < 0) → (((r1246 < 20) → (0 ≤ r1246 ∧ r1246 < 20 ∧ gh_i ((m1245 26 6) + (m1245 17 r1246))))))) ∧ (((¬ (r1246 < 0) ∧ ((r1246 < 20) ∧ (((m1245 26 6) + (m1245 17 r1246)) ≤ 241))) → 0 ≤ r1246 ∧ r1246 < 20 ∧ gh_i ((m1245 17 r1246) - 1) ∧ ∀ v5 : Int, v5 = (m1245 17 r1246) - 1 → gh_M1 (fun K98 v5 m => f_Text_putRule_98 r1246 Q K98 v5 m) v5 m1245) ∧ (¬ (¬ (r1246 < 0) ∧ ((r1246 < 20) ∧ (((m1245 26 6) + (m1245 17 r1246)) ≤ 241))) → Q 0 m1245))))
theorem b_Text_putRule_98 {E : gh_E} {r1246 : Int} {Q : Int → gh_M → Prop} {K98 : Int → gh_M → Prop} (d : Nat) (hK : ∀ (v5 : Int) (m : gh_M), gh_F m → K98 v5 m → gh_T E (gh_yText_putRule.cls, prog_11_method_6_code, 6, false, 8) (d + 1) 98 [(0, 2, 26), (4, 0, r1246), (5, 0, v5)] [] m (fun r m1 => gh_F m1 ∧ Q r m1)) (v5 : Int) (m : gh_M) (hF : gh_F m) (h : f_Text_putRule_98 r1246 Q K98 v5 m) : gh_T E (gh_yText_putRule.cls, prog_11_method_6_code, 6, false, 8) (d + 1) 98 [(0, 2, 26), (4, 0, r1246), (5, 0, v5)] [] m (fun r m1 => gh_F m1 ∧ Q r m1) := by
  have hK98 := hK
  unfold f_Text_putRule_98 at h
  refine gh_iload gd_Text_putRule_98 2 rfl ?_
  obtain ⟨hA, hB⟩ := h
  refine gh_zlt (tgt := 139) gd_Text_putRule_100 (by decide) (fun c1256 => ?_) (fun c1256 => ?_)
  · have h := hA c1256
    refine gh_iconst gd_Text_putRule_139 (gh_r0 rfl) ?_
    exact gh_ret8 rfl gd_Text_putRule_140 (by decide) ⟨hF, h⟩
  · have h := hB c1256
    refine gh_aload_n gd_Text_putRule_103 0 rfl (by decide) ?_
    refine gf_26_5 gd_Text_putRule_104 gh_k384 hF ?_
    refine gh_aload_n gd_Text_putRule_107 0 rfl (by decide) ?_
    refine gf_26_6 gd_Text_putRule_108 gh_k385 hF rfl ?_
    refine gh_aload_n gd_Text_putRule_111 0 rfl (by decide) ?_
    refine gf_26_0 gd_Text_putRule_112 gh_k374 hF ?_
    refine gh_iload gd_Text_putRule_115 1 rfl ?_
    refine gh_iload gd_Text_putRule_117 2 rfl ?_
    obtain ⟨q1257, h⟩ := h
    refine cv_Grammar_partAt (d := d) gd_Text_putRule_119 gh_k1057 hF (Nat.le_of_ble_eq_true rfl) (gh_C.pe (e_Grammar_partAt d r1246 v5 hF q1257) ?_)
    obtain ⟨q1258, h⟩ := h
    obtain ⟨q1259, h⟩ := h
    refine sa_29 gd_Text_putRule_122 hF q1258 q1259 (fun hF => ?_)
    refine gh_aload_n gd_Text_putRule_123 0 rfl (by decide) ?_
    refine gh_dup gd_Text_putRule_124 (by decide) ?_
    refine gf_26_6 gd_Text_putRule_125 gh_k385 hF (gh_u_a (by decide)) ?_
    refine gh_iconst gd_Text_putRule_128 (gh_r0 rfl) ?_
    obtain ⟨q1260, h⟩ := h
    refine gh_iadd gd_Text_putRule_129 q1260 ?_
    refine pf_26_6 gd_Text_putRule_130 gh_k385 hF (fun hF => ?_)
    obtain ⟨q1261, h⟩ := h
    refine gh_iinc (L2 := [(5, 0, v5 + (-1)), (0, 2, 26), (4, 0, r1246)]) gd_Text_putRule_133 2 rfl q1261 (by decide) rfl ?_
    refine gh_goto (tgt := 98) gd_Text_putRule_136 (by decide) ?_
    refine gh_pick (L2 := [(0, 2, 26), (4, 0, r1246), (5, 0, v5 + (-1))]) [1, 2, 0] rfl ?_
    exact hK98 (v5 + (-1)) (gh_u (gh_u m 29 (m 26 6) (x_Grammar_partAt r1246 v5 m)) 26 6 ((m 26 6) + 1)) hF h
theorem s_Text_putRule {E : gh_E} {m : gh_M} {Q : Int → gh_M → Prop} (d : Nat) (v1 : Int) (hF : gh_F m) (h : w_Text_putRule v1 m Q) : gh_C E gh_yText_putRule prog_11_method_6_code 6 (some .boolean) 8 (d + 1) [(2, 26), (0, v1)] m (fun r m1 => gh_F m1 ∧ Q r m1) := by
  refine gh_enter2 (L := [(0, 2, 26), (1, 0, v1)]) (by decide +kernel) gh_rt8 (Nat.le_of_ble_eq_true rfl) rfl rfl ?_
  unfold w_Text_putRule at h
  refine gh_iconst gd_Text_putRule_0 (gh_r0 rfl) ?_
  refine gh_aload_n gd_Text_putRule_1 0 rfl (by decide) ?_
  refine gf_26_0 gd_Text_putRule_2 gh_k374 hF ?_
  refine gh_iload_n gd_Text_putRule_5 1 rfl ?_
  obtain ⟨q1240, h⟩ := h
  refine cv_Grammar_behindRules (d := d) gd_Text_putRule_6 gh_k1047 hF (Nat.le_of_ble_eq_true rfl) (gh_C.pe (e_Grammar_behindRules d v1 hF q1240) ?_)
  refine gh_ishl gd_Text_putRule_9 ?_
  refine gh_iconst gd_Text_putRule_10 (gh_r0 rfl) ?_
  refine gh_aload_n gd_Text_putRule_11 0 rfl (by decide) ?_
  refine gf_26_0 gd_Text_putRule_12 gh_k374 hF ?_
  refine gf_13_3 gd_Text_putRule_15 gh_k271 hF ?_
  refine gh_iload_n gd_Text_putRule_18 1 rfl ?_
  obtain ⟨q1241, h⟩ := h
  obtain ⟨q1242, h⟩ := h
  refine la_14 gd_Text_putRule_19 hF q1241 q1242 rfl ?_
  refine gh_ishl gd_Text_putRule_20 ?_
  obtain ⟨q1243, h⟩ := h
  refine gh_isub gd_Text_putRule_21 q1243 ?_
  refine gh_name (fun v2 hn => ?_)
  have h := h v2 hn
  refine gh_istore_n (L2 := [(2, 0, v2), (0, 2, 26), (1, 0, v1)]) gd_Text_putRule_22 (by decide) rfl ?_
  refine gh_aload_n gd_Text_putRule_23 1 rfl (by decide) ?_
  refine gf_26_1 gd_Text_putRule_24 gh_k375 hF ?_
  refine gf_20_5 gd_Text_putRule_27 gh_k333 hF rfl ?_
  refine gh_iload_n gd_Text_putRule_30 0 rfl ?_
  refine gh_iand gd_Text_putRule_31 ?_
  refine gh_name (fun v3 hn => ?_)
  have h := h v3 hn
  refine gh_istore_n (L2 := [(3, 0, v3), (2, 0, v2), (0, 2, 26), (1, 0, v1)]) gd_Text_putRule_32 (by decide) rfl ?_
  refine gh_iload_n gd_Text_putRule_33 0 rfl ?_
  refine gh_aload_n gd_Text_putRule_34 2 rfl (by decide) ?_
  refine gh_iload_n gd_Text_putRule_35 0 rfl ?_
  refine gh_pr_gh_pop gd_Text_putRule_36 gh_k1048 (Nat.le_of_ble_eq_true rfl) ?_
  refine cv_Text_draw (d := d) gd_Text_putRule_39 gh_k1049 hF (Nat.le_of_ble_eq_true rfl) (gh_C.mono (s_Text_draw d (gh_pop v3) hF h) (fun r1244 m1245 hq => ?_))
  obtain ⟨hF, h⟩ := hq
  refine cv_Text_bitAt (d := d) gd_Text_putRule_42 gh_k1054 (Nat.le_of_ble_eq_true rfl) (gh_C.pw (s_Text_bitAt d v3 r1244 hF h) (fun r1246 h => ?_))
  refine gh_istore (L2 := [(4, 0, r1246), (3, 0, v3), (2, 0, v2), (0, 2, 26), (1, 0, v1)]) gd_Text_putRule_45 (by decide) rfl ?_
  refine gh_iload gd_Text_putRule_47 0 rfl ?_
  obtain ⟨hk, hA, hB⟩ := h
  have k1251 : (¬ (r1246 < 0) ∧ ((r1246 < 20) ∧ (((m1245 26 6) + (m1245 17 r1246)) ≤ 241))) → gh_T E (gh_yText_putRule.cls, prog_11_method_6_code, 6, false, 8) (d + 1) 84 [(4, 0, r1246), (3, 0, v3), (2, 0, v2), (0, 2, 26), (1, 0, v1)] [] m1245 (fun r m1 => gh_F m1 ∧ Q r m1) := by
    intro c
    have h := hA c
    refine gh_aload_n gd_Text_putRule_84 3 rfl (by decide) ?_
    refine gf_26_0 gd_Text_putRule_85 gh_k374 hF ?_
    refine gf_13_6 gd_Text_putRule_88 gh_k289 hF ?_
    refine gh_iload gd_Text_putRule_91 0 rfl ?_
    obtain ⟨q1253, h⟩ := h
    obtain ⟨q1254, h⟩ := h
    refine la_17 gd_Text_putRule_93 hF q1253 q1254 rfl ?_
    refine gh_iconst gd_Text_putRule_94 (gh_r0 rfl) ?_
    obtain ⟨q1255, h⟩ := h
    refine gh_isub gd_Text_putRule_95 q1255 ?_
    refine gh_name (fun v5 hn => ?_)
    have h := h v5 hn
    refine gh_istore (L2 := [(5, 0, v5), (4, 0, r1246), (3, 0, v3), (2, 0, v2), (0, 2, 26), (1, 0, v1)]) gd_Text_putRule_96 (by decide) rfl ?_
    refine gh_pick (L2 := [(0, 2, 26), (4, 0, r1246), (5, 0, v5)]) [4, 1, 0] rfl ?_
    exact gh_M1_sound (T := fun v5 m => gh_T E (gh_yText_putRule.cls, prog_11_method_6_code, 6, false, 8) (d + 1) 98 [(0, 2, 26), (4, 0, r1246), (5, 0, v5)] [] m (fun r m1 => gh_F m1 ∧ Q r m1)) (fun _ m => gh_F m) (fun K98 v5 m hK hF h => b_Text_putRule_98 d hK v5 m hF h) v5 m1245 hF h
  have k1252 : ¬ (¬ (r1246 < 0) ∧ ((r1246 < 20) ∧ (((m1245 26 6) + (m1245 17 r1246)) ≤ 241))) → gh_T E (gh_yText_putRule.cls, prog_11_method_6_code, 6, false, 8) (d + 1) 82 [(4, 0, r1246), (3, 0, v3), (2, 0, v2), (0, 2, 26), (1, 0, v1)] [] m1245 (fun r m1 => gh_F m1 ∧ Q r m1) := by
    intro c
    have h := hB c
    refine gh_iconst gd_Text_putRule_82 (gh_r0 rfl) ?_
    exact gh_ret8 rfl gd_Text_putRule_83 (by decide) ⟨hF, h⟩
  refine gh_zlt (tgt := 82) gd_Text_putRule_49 (by decide) (fun c1262 => ?_) (fun c1262 => ?_)
  · have hz : True := trivial
    exact k1252 (fun z => z.1 c1262)
  · have hz : True := trivial
    have hk := hk c1262
    refine gh_iload gd_Text_putRule_52 0 rfl ?_
    refine gh_bipush gd_Text_putRule_54 (by decide) (gh_r0 rfl) ?_
    refine gh_jge (tgt := 82) gd_Text_putRule_56 (by decide) (fun c1263 => ?_) (fun c1263 => ?_)
    · have hz : True := trivial
      have hk := hk c1263
      refine gh_aload_n gd_Text_putRule_59 3 rfl (by decide) ?_
      refine gf_26_6 gd_Text_putRule_60 gh_k385 hF rfl ?_
      refine gh_aload_n gd_Text_putRule_63 3 rfl (by decide) ?_
      refine gf_26_0 gd_Text_putRule_64 gh_k374 hF ?_
      refine gf_13_6 gd_Text_putRule_67 gh_k289 hF ?_
      refine gh_iload gd_Text_putRule_70 0 rfl ?_
      obtain ⟨q1248, hk⟩ := hk
      obtain ⟨q1249, hk⟩ := hk
      refine la_17 gd_Text_putRule_72 hF q1248 q1249 rfl ?_
      have q1250 := hk
      refine gh_iadd gd_Text_putRule_73 q1250 ?_
      refine gh_aload_n gd_Text_putRule_74 3 rfl (by decide) ?_
      refine gf_26_5 gd_Text_putRule_75 gh_k384 hF ?_
      refine ll_29 gd_Text_putRule_78 hF ?_
      refine gh_jle (tgt := 84) gd_Text_putRule_79 (by decide) (fun c1264 => ?_) (fun c1264 => ?_)
      · have hz : True := trivial
        exact k1251 ⟨c1262, ⟨c1263, c1264⟩⟩
      · have hz : True := trivial
        exact k1252 (fun z => (fun z => c1264 z.2) z.2)
    · have hz : True := trivial
      exact k1252 (fun z => (fun z => c1263 z.1) z.2)
def w_Text_putLetter (v1 : Int) (m : gh_M) (Q : Int → gh_M → Prop) : Prop := w_Text_draw (gh_pop v1) m (fun r1265 m1266 => w_Text_bitAt v1 r1265 m1266 (fun r1267 => (((¬ (r1267 = (-1)) ∧ ((m1266 26 7) < 8)) → 0 ≤ m1266 26 7 ∧ (m1266 26 7) < 8 ∧ gh_i ((m1266 26 7) + 1) ∧ Q 1 (gh_u (gh_u m1266 28 (m1266 26 7) r1267) 26 7 ((m1266 26 7) + 1))) ∧ (¬ (¬ (r1267 = (-1)) ∧ ((m1266 26 7) < 8)) → Q 0 m1266))))
theorem s_Text_putLetter {E : gh_E} {m : gh_M} {Q : Int → gh_M → Prop} (d : Nat) (v1 : Int) (hF : gh_F m) (h : w_Text_putLetter v1 m Q) : gh_C E gh_yText_putLetter prog_11_method_7_code 3 (some .boolean) 8 (d + 1) [(2, 26), (0, v1)] m (fun r m1 => gh_F m1 ∧ Q r m1) := by
  refine gh_enter2 (L := [(0, 2, 26), (1, 0, v1)]) (by decide +kernel) gh_rt8 (Nat.le_of_ble_eq_true rfl) rfl rfl ?_
  unfold w_Text_putLetter at h
  refine gh_iload_n gd_Text_putLetter_0 1 rfl ?_
  refine gh_aload_n gd_Text_putLetter_1 0 rfl (by decide) ?_
  refine gh_iload_n gd_Text_putLetter_2 1 rfl ?_
  refine gh_pr_gh_pop gd_Text_putLetter_3 gh_k1048 (Nat.le_of_ble_eq_true rfl) ?_
  refine cv_Text_draw (d := d) gd_Text_putLetter_6 gh_k1049 hF (Nat.le_of_ble_eq_true rfl) (gh_C.mono (s_Text_draw d (gh_pop v1) hF h) (fun r1265 m1266 hq => ?_))
  obtain ⟨hF, h⟩ := hq
  refine cv_Text_bitAt (d := d) gd_Text_putLetter_9 gh_k1054 (Nat.le_of_ble_eq_true rfl) (gh_C.pw (s_Text_bitAt d v1 r1265 hF h) (fun r1267 h => ?_))
  refine gh_istore_n (L2 := [(2, 0, r1267), (0, 2, 26), (1, 0, v1)]) gd_Text_putLetter_12 (by decide) rfl ?_
  refine gh_iload_n gd_Text_putLetter_13 0 rfl ?_
  refine gh_iconst gd_Text_putLetter_14 (gh_r0 rfl) ?_
  obtain ⟨hA, hB⟩ := h
  have k1269 : (¬ (r1267 = (-1)) ∧ ((m1266 26 7) < 8)) → gh_T E (gh_yText_putLetter.cls, prog_11_method_7_code, 3, false, 8) (d + 1) 29 [(2, 0, r1267), (0, 2, 26), (1, 0, v1)] [] m1266 (fun r m1 => gh_F m1 ∧ Q r m1) := by
    intro c
    have h := hA c
    refine gh_aload_n gd_Text_putLetter_29 1 rfl (by decide) ?_
    refine gf_26_4 gd_Text_putLetter_30 gh_k383 hF ?_
    refine gh_aload_n gd_Text_putLetter_33 1 rfl (by decide) ?_
    refine gf_26_7 gd_Text_putLetter_34 gh_k386 hF rfl ?_
    refine gh_iload_n gd_Text_putLetter_37 0 rfl ?_
    obtain ⟨q1271, h⟩ := h
    obtain ⟨q1272, h⟩ := h
    refine sa_28 gd_Text_putLetter_38 hF q1271 q1272 (fun hF => ?_)
    refine gh_aload_n gd_Text_putLetter_39 1 rfl (by decide) ?_
    refine gh_dup gd_Text_putLetter_40 (by decide) ?_
    refine gf_26_7 gd_Text_putLetter_41 gh_k386 hF (gh_u_a (by decide)) ?_
    refine gh_iconst gd_Text_putLetter_44 (gh_r0 rfl) ?_
    obtain ⟨q1273, h⟩ := h
    refine gh_iadd gd_Text_putLetter_45 q1273 ?_
    refine pf_26_7 gd_Text_putLetter_46 gh_k386 hF (fun hF => ?_)
    refine gh_iconst gd_Text_putLetter_49 (gh_r0 rfl) ?_
    exact gh_ret8 rfl gd_Text_putLetter_50 (by decide) ⟨hF, h⟩
  have k1270 : ¬ (¬ (r1267 = (-1)) ∧ ((m1266 26 7) < 8)) → gh_T E (gh_yText_putLetter.cls, prog_11_method_7_code, 3, false, 8) (d + 1) 27 [(2, 0, r1267), (0, 2, 26), (1, 0, v1)] [] m1266 (fun r m1 => gh_F m1 ∧ Q r m1) := by
    intro c
    have h := hB c
    refine gh_iconst gd_Text_putLetter_27 (gh_r0 rfl) ?_
    exact gh_ret8 rfl gd_Text_putLetter_28 (by decide) ⟨hF, h⟩
  refine gh_jeq (tgt := 27) gd_Text_putLetter_15 (by decide) (fun c1274 => ?_) (fun c1274 => ?_)
  · have hz : True := trivial
    exact k1270 (fun z => z.1 c1274)
  · have hz : True := trivial
    refine gh_aload_n gd_Text_putLetter_18 1 rfl (by decide) ?_
    refine gf_26_7 gd_Text_putLetter_19 gh_k386 hF rfl ?_
    refine gh_bipush gd_Text_putLetter_22 (by decide) (gh_r0 rfl) ?_
    refine gh_jlt (tgt := 29) gd_Text_putLetter_24 (by decide) (fun c1275 => ?_) (fun c1275 => ?_)
    · have hz : True := trivial
      exact k1269 ⟨c1274, c1275⟩
    · have hz : True := trivial
      exact k1270 (fun z => c1275 z.2)
def f_Text_compose_38 (Q : Int → gh_M → Prop) (K38 : Int → gh_M → Prop) (v2 : Int) (m : gh_M) : Prop := (((m 26 6) ≤ 0 → 0 ≤ m 26 7 ∧ 0 + (m 26 7) ≤ 8 ∧ 0 + (m 26 7) ≤ 8 ∧ Q 1 (gh_u (gh_cpy m 28 0 27 0 (m 26 7)) 26 3 ((gh_cpy m 28 0 27 0 (m 26 7)) 26 7))) ∧ (¬ ((m 26 6) ≤ 0) → ((v2 = 60 → Q 0 m) ∧ (¬ (v2 = 60) → gh_i ((m 26 6) - 1) ∧ 0 ≤ ((m 26 6) - 1) ∧ (((m 26 6) - 1)) < 241 ∧ k_Grammar_nameOf (m 29 (((m 26 6) - 1))) (gh_u m 26 6 ((m 26 6) - 1)) ∧ ∀ v3 : Int, v3 = x_Grammar_nameOf (m 29 (((m 26 6) - 1))) (gh_u m 26 6 ((m 26 6) - 1)) → ∃ J114 : gh_M → Prop, (∀ (m : gh_M), J114 m → gh_i (v2 + 1) ∧ K38 (v2 + 1) m) ∧ ((v3 = (-1) → 0 ≤ ((m 26 6) - 1) ∧ (((m 26 6) - 1)) < 241 ∧ w_Text_putLetter (m 29 (((m 26 6) - 1))) (gh_u m 26 6 ((m 26 6) - 1)) (fun r1290 m1291 => ((r1290 = 0 → Q 0 m1291) ∧ (¬ (r1290 = 0) → J114 m1291)))) ∧ (¬ (v3 = (-1)) → w_Text_putRule v3 (gh_u m 26 6 ((m 26 6) - 1)) (fun r1293 m1294 => ((r1293 = 0 → Q 0 m1294) ∧ (¬ (r1293 = 0) → J114 m1294)))))))))
def w_Text_compose (v1 : Int) (m : gh_M) (Q : Int → gh_M → Prop) : Prop := (((gh_iand_f (m 20 2) 1) = 0 → Q 0 m) ∧ (¬ ((gh_iand_f (m 20 2) 1) = 0) → gh_M1 (fun K38 v2 m => f_Text_compose_38 Q K38 v2 m) 0 (gh_u (gh_u (gh_u (gh_u m 26 8 v1) 26 7 0) 29 0 (-1)) 26 6 1)))
theorem b_Text_compose_38 {E : gh_E} {Q : Int → gh_M → Prop} {K38 : Int → gh_M → Prop} (d : Nat) (hK : ∀ (v2 : Int) (m : gh_M), gh_F m → K38 v2 m → gh_T E (gh_yText_compose.cls, prog_11_method_4_code, 4, false, 8) (d + 2) 38 [(0, 2, 26), (2, 0, v2)] [] m (fun r m1 => gh_F m1 ∧ Q r m1)) (v2 : Int) (m : gh_M) (hF : gh_F m) (h : f_Text_compose_38 Q K38 v2 m) : gh_T E (gh_yText_compose.cls, prog_11_method_4_code, 4, false, 8) (d + 2) 38 [(0, 2, 26), (2, 0, v2)] [] m (fun r m1 => gh_F m1 ∧ Q r m1) := by
  have hK38 := hK
  unfold f_Text_compose_38 at h
  refine gh_aload_n gd_Text_compose_38 0 rfl (by decide) ?_
  refine gf_26_6 gd_Text_compose_39 gh_k385 hF rfl ?_
  obtain ⟨hA, hB⟩ := h
  refine gh_zle (tgt := 120) gd_Text_compose_42 (by decide) (fun c1277 => ?_) (fun c1277 => ?_)
  · have h := hA c1277
    refine gh_aload_n gd_Text_compose_120 0 rfl (by decide) ?_
    refine gf_26_4 gd_Text_compose_121 gh_k383 hF ?_
    refine gh_iconst gd_Text_compose_124 (gh_r0 rfl) ?_
    refine gh_aload_n gd_Text_compose_125 0 rfl (by decide) ?_
    refine gf_26_2 gd_Text_compose_126 gh_k376 hF ?_
    refine gh_iconst gd_Text_compose_129 (gh_r0 rfl) ?_
    refine gh_aload_n gd_Text_compose_130 0 rfl (by decide) ?_
    refine gf_26_7 gd_Text_compose_131 gh_k386 hF rfl ?_
    obtain ⟨q1278, h⟩ := h
    obtain ⟨q1279, h⟩ := h
    obtain ⟨q1280, h⟩ := h
    refine gh_copyF gd_Text_compose_134 gh_k1062 gh_k1064 gh_k1063 gh_k146 (ga_28 hF) (ga_27 hF) (by decide) (by decide) (by decide) q1278 q1279 q1280 (Nat.le_of_ble_eq_true rfl) hF gn_27 (fun hF => ?_)
    refine gh_aload_n gd_Text_compose_137 0 rfl (by decide) ?_
    refine gh_aload_n gd_Text_compose_138 0 rfl (by decide) ?_
    refine gf_26_7 gd_Text_compose_139 gh_k386 hF rfl ?_
    refine pf_26_3 gd_Text_compose_142 gh_k378 hF (fun hF => ?_)
    refine gh_iconst gd_Text_compose_145 (gh_r0 rfl) ?_
    exact gh_ret8 rfl gd_Text_compose_146 (by decide) ⟨hF, h⟩
  · have h := hB c1277
    refine gh_iload_n gd_Text_compose_45 1 rfl ?_
    refine gh_bipush gd_Text_compose_46 (by decide) (gh_r0 rfl) ?_
    obtain ⟨hA, hB⟩ := h
    refine gh_jne (tgt := 53) gd_Text_compose_48 (by decide) (fun c1281 => ?_) (fun c1281 => ?_)
    · have h := hA c1281
      refine gh_iconst gd_Text_compose_51 (gh_r0 rfl) ?_
      exact gh_ret8 rfl gd_Text_compose_52 (by decide) ⟨hF, h⟩
    · have h := hB c1281
      refine gh_aload_n gd_Text_compose_53 0 rfl (by decide) ?_
      refine gh_dup gd_Text_compose_54 (by decide) ?_
      refine gf_26_6 gd_Text_compose_55 gh_k385 hF rfl ?_
      refine gh_iconst gd_Text_compose_58 (gh_r0 rfl) ?_
      obtain ⟨q1282, h⟩ := h
      refine gh_isub gd_Text_compose_59 q1282 ?_
      refine pf_26_6 gd_Text_compose_60 gh_k385 hF (fun hF => ?_)
      refine gh_aload_n gd_Text_compose_63 0 rfl (by decide) ?_
      refine gf_26_0 gd_Text_compose_64 gh_k374 hF ?_
      refine gh_aload_n gd_Text_compose_67 0 rfl (by decide) ?_
      refine gf_26_5 gd_Text_compose_68 gh_k384 hF ?_
      refine gh_aload_n gd_Text_compose_71 0 rfl (by decide) ?_
      refine gf_26_6 gd_Text_compose_72 gh_k385 hF (gh_u_s _ _ _ _) ?_
      obtain ⟨q1283, h⟩ := h
      obtain ⟨q1284, h⟩ := h
      refine la_29 gd_Text_compose_75 hF q1283 q1284 (gh_u_a (by decide)) ?_
      obtain ⟨q1285, h⟩ := h
      refine cv_Grammar_nameOf (d := d + 1) gd_Text_compose_76 gh_k1042 hF (Nat.le_of_ble_eq_true rfl) (gh_C.pe (e_Grammar_nameOf (d + 1) (m 29 (((m 26 6) - 1))) hF q1285) ?_)
      refine gh_name (fun v3 hn => ?_)
      have h := h v3 hn
      refine gh_istore_n (L2 := [(3, 0, v3), (0, 2, 26), (2, 0, v2)]) gd_Text_compose_79 (by decide) rfl ?_
      refine gh_iload_n gd_Text_compose_80 0 rfl ?_
      refine gh_iconst gd_Text_compose_81 (gh_r0 rfl) ?_
      obtain ⟨J114, hJ114, h⟩ := h
      have hJ114 : ∀ (m : gh_M), gh_F m → J114 m → gh_T E (gh_yText_compose.cls, prog_11_method_4_code, 4, false, 8) (d + 2) 114 [(0, 2, 26), (2, 0, v2)] [] m (fun r m1 => gh_F m1 ∧ Q r m1) := by
        intro m hF hj
        have h := hJ114 m hj
        obtain ⟨q1286, h⟩ := h
        refine gh_iinc (L2 := [(2, 0, v2 + 1), (0, 2, 26)]) gd_Text_compose_114 1 rfl q1286 (by decide) rfl ?_
        refine gh_goto (tgt := 38) gd_Text_compose_117 (by decide) ?_
        refine gh_pick (L2 := [(0, 2, 26), (2, 0, v2 + 1)]) [1, 0] rfl ?_
        exact hK38 (v2 + 1) m hF h
      obtain ⟨hA, hB⟩ := h
      refine gh_jeq (tgt := 96) gd_Text_compose_82 (by decide) (fun c1287 => ?_) (fun c1287 => ?_)
      · have h := hA c1287
        refine gh_aload_n gd_Text_compose_96 1 rfl (by decide) ?_
        refine gh_aload_n gd_Text_compose_97 1 rfl (by decide) ?_
        refine gf_26_5 gd_Text_compose_98 gh_k384 hF ?_
        refine gh_aload_n gd_Text_compose_101 1 rfl (by decide) ?_
        refine gf_26_6 gd_Text_compose_102 gh_k385 hF (gh_u_s _ _ _ _) ?_
        obtain ⟨q1288, h⟩ := h
        obtain ⟨q1289, h⟩ := h
        refine la_29 gd_Text_compose_105 hF q1288 q1289 (gh_u_a (by decide)) ?_
        refine cv_Text_putLetter (d := d + 1) gd_Text_compose_106 gh_k1058 hF (Nat.le_of_ble_eq_true rfl) (gh_C.mono (s_Text_putLetter d (m 29 (((m 26 6) - 1))) hF h) (fun r1290 m1291 hq => ?_))
        obtain ⟨hF, h⟩ := hq
        obtain ⟨hA, hB⟩ := h
        refine gh_zne (tgt := 114) gd_Text_compose_109 (by decide) (fun c1292 => ?_) (fun c1292 => ?_)
        · have h := hA c1292
          refine gh_iconst gd_Text_compose_112 (gh_r0 rfl) ?_
          exact gh_ret8 rfl gd_Text_compose_113 (by decide) ⟨hF, h⟩
        · have h := hB c1292
          refine gh_pick (L2 := [(0, 2, 26), (2, 0, v2)]) [1, 2] rfl ?_
          exact hJ114 m1291 hF h
      · have h := hB c1287
        refine gh_aload_n gd_Text_compose_85 1 rfl (by decide) ?_
        refine gh_iload_n gd_Text_compose_86 0 rfl ?_
        refine cv_Text_putRule (d := d + 1) gd_Text_compose_87 gh_k1043 hF (Nat.le_of_ble_eq_true rfl) (gh_C.mono (s_Text_putRule d v3 hF h) (fun r1293 m1294 hq => ?_))
        obtain ⟨hF, h⟩ := hq
        obtain ⟨hA, hB⟩ := h
        refine gh_zeq (tgt := 112) gd_Text_compose_90 (by decide) (fun c1295 => ?_) (fun c1295 => ?_)
        · have h := hA c1295
          refine gh_iconst gd_Text_compose_112 (gh_r0 rfl) ?_
          exact gh_ret8 rfl gd_Text_compose_113 (by decide) ⟨hF, h⟩
        · have h := hB c1295
          refine gh_goto (tgt := 114) gd_Text_compose_93 (by decide) ?_
          refine gh_pick (L2 := [(0, 2, 26), (2, 0, v2)]) [1, 2] rfl ?_
          exact hJ114 m1294 hF h
theorem s_Text_compose {E : gh_E} {m : gh_M} {Q : Int → gh_M → Prop} (d : Nat) (v1 : Int) (hF : gh_F m) (h : w_Text_compose v1 m Q) : gh_C E gh_yText_compose prog_11_method_4_code 4 (some .boolean) 8 (d + 2) [(2, 26), (0, v1)] m (fun r m1 => gh_F m1 ∧ Q r m1) := by
  refine gh_enter2 (L := [(0, 2, 26), (1, 0, v1)]) (by decide +kernel) gh_rt8 (Nat.le_of_ble_eq_true rfl) rfl rfl ?_
  unfold w_Text_compose at h
  refine gh_aload_n gd_Text_compose_0 0 rfl (by decide) ?_
  refine gf_26_1 gd_Text_compose_1 gh_k375 hF ?_
  refine gf_20_2 gd_Text_compose_4 gh_k324 hF rfl ?_
  refine gh_iconst gd_Text_compose_7 (gh_r0 rfl) ?_
  refine gh_iand gd_Text_compose_8 ?_
  obtain ⟨hA, hB⟩ := h
  refine gh_zne (tgt := 14) gd_Text_compose_9 (by decide) (fun c1276 => ?_) (fun c1276 => ?_)
  · have h := hA c1276
    refine gh_iconst gd_Text_compose_12 (gh_r0 rfl) ?_
    exact gh_ret8 rfl gd_Text_compose_13 (by decide) ⟨hF, h⟩
  · have h := hB c1276
    refine gh_aload_n gd_Text_compose_14 0 rfl (by decide) ?_
    refine gh_iload_n gd_Text_compose_15 1 rfl ?_
    refine pf_26_8 gd_Text_compose_16 gh_k387 hF (fun hF => ?_)
    refine gh_aload_n gd_Text_compose_19 0 rfl (by decide) ?_
    refine gh_iconst gd_Text_compose_20 (gh_r0 rfl) ?_
    refine pf_26_7 gd_Text_compose_21 gh_k386 hF (fun hF => ?_)
    refine gh_aload_n gd_Text_compose_24 0 rfl (by decide) ?_
    refine gf_26_5 gd_Text_compose_25 gh_k384 hF ?_
    refine gh_iconst gd_Text_compose_28 (gh_r0 rfl) ?_
    refine gh_iconst gd_Text_compose_29 (gh_r0 rfl) ?_
    refine sa_29 gd_Text_compose_30 hF (by decide) (by decide) (fun hF => ?_)
    refine gh_aload_n gd_Text_compose_31 0 rfl (by decide) ?_
    refine gh_iconst gd_Text_compose_32 (gh_r0 rfl) ?_
    refine pf_26_6 gd_Text_compose_33 gh_k385 hF (fun hF => ?_)
    refine gh_iconst gd_Text_compose_36 (gh_r0 rfl) ?_
    refine gh_istore_n (L2 := [(2, 0, 0), (0, 2, 26), (1, 0, v1)]) gd_Text_compose_37 (by decide) rfl ?_
    refine gh_pick (L2 := [(0, 2, 26), (2, 0, 0)]) [1, 0] rfl ?_
    exact gh_M1_sound (T := fun v2 m => gh_T E (gh_yText_compose.cls, prog_11_method_4_code, 4, false, 8) (d + 2) 38 [(0, 2, 26), (2, 0, v2)] [] m (fun r m1 => gh_F m1 ∧ Q r m1)) (fun _ m => gh_F m) (fun K38 v2 m hK hF h => b_Text_compose_38 d hK v2 m hF h) 0 (gh_u (gh_u (gh_u (gh_u m 26 8 v1) 26 7 0) 29 0 (-1)) 26 6 1) hF h
def w_House_made (v1 : Int) (m : gh_M) (Q : Int → gh_M → Prop) : Prop := (((¬ (v1 < 0) ∧ (v1 < 65536)) → (((m 2 10) = 0 → Q (-1003) m) ∧ (¬ ((m 2 10) = 0) → w_Text_compose v1 m (fun r1299 m1300 => ((r1299 = 0 → Q (-1) m1300) ∧ (¬ (r1299 = 0) → w_House_textChanged 0 m1300 (fun _ m1303 => Q (m1303 26 3) m1303))))))) ∧ (¬ (¬ (v1 < 0) ∧ (v1 < 65536)) → Q (-1002) m))
theorem s_House_made {E : gh_E} {m : gh_M} {Q : Int → gh_M → Prop} (d : Nat) (v1 : Int) (hF : gh_F m) (h : w_House_made v1 m Q) : gh_C E gh_yHouse_made prog_1_method_17_code 2 (some .int) 0 (d + 3) [(2, 2), (0, v1)] m (fun r m1 => gh_F m1 ∧ Q r m1) := by
  refine gh_enter2 (L := [(0, 2, 2), (1, 0, v1)]) (by decide +kernel) gh_rt0 (Nat.le_of_ble_eq_true rfl) rfl rfl ?_
  unfold w_House_made at h
  refine gh_iload_n gd_House_made_0 1 rfl ?_
  obtain ⟨hA, hB⟩ := h
  have k1296 : (¬ (v1 < 0) ∧ (v1 < 65536)) → gh_T E (gh_yHouse_made.cls, prog_1_method_17_code, 2, false, 0) (d + 3) 14 [(0, 2, 2), (1, 0, v1)] [] m (fun r m1 => gh_F m1 ∧ Q r m1) := by
    intro c
    have h := hA c
    refine gh_aload_n gd_House_made_14 0 rfl (by decide) ?_
    refine gf_2_10 gd_House_made_15 gh_k643 hF rfl ?_
    obtain ⟨hA, hB⟩ := h
    refine gh_zne (tgt := 25) gd_House_made_18 (by decide) (fun c1298 => ?_) (fun c1298 => ?_)
    · have h := hA c1298
      refine gh_sipush gd_House_made_21 (by decide) (gh_r0 rfl) ?_
      exact gh_ret0 rfl gd_House_made_24 ⟨hF, h⟩
    · have h := hB c1298
      refine gh_aload_n gd_House_made_25 0 rfl (by decide) ?_
      refine gf_2_4 gd_House_made_26 gh_k637 hF ?_
      refine gh_iload_n gd_House_made_29 1 rfl ?_
      refine cv_Text_compose (d := d + 2) gd_House_made_30 gh_k1038 hF (Nat.le_of_ble_eq_true rfl) (gh_C.mono (s_Text_compose d v1 hF h) (fun r1299 m1300 hq => ?_))
      obtain ⟨hF, h⟩ := hq
      obtain ⟨hA, hB⟩ := h
      refine gh_zne (tgt := 38) gd_House_made_33 (by decide) (fun c1301 => ?_) (fun c1301 => ?_)
      · have h := hA c1301
        refine gh_iconst gd_House_made_36 (gh_r0 rfl) ?_
        exact gh_ret0 rfl gd_House_made_37 ⟨hF, h⟩
      · have h := hB c1301
        refine gh_aload_n gd_House_made_38 0 rfl (by decide) ?_
        refine gh_iconst gd_House_made_39 (gh_r0 rfl) ?_
        refine cv_House_textChanged (d := d + 2) gd_House_made_40 gh_k939 hF (Nat.le_of_ble_eq_true rfl) (gh_C.mono (s_House_textChanged d 0 hF h) (fun r1302 m1303 hq => ?_))
        obtain ⟨hF, h⟩ := hq
        refine gh_aload_n gd_House_made_43 0 rfl (by decide) ?_
        refine gf_2_4 gd_House_made_44 gh_k637 hF ?_
        refine gf_26_3 gd_House_made_47 gh_k381 hF rfl ?_
        exact gh_ret0 rfl gd_House_made_50 ⟨hF, h⟩
  have k1297 : ¬ (¬ (v1 < 0) ∧ (v1 < 65536)) → gh_T E (gh_yHouse_made.cls, prog_1_method_17_code, 2, false, 0) (d + 3) 10 [(0, 2, 2), (1, 0, v1)] [] m (fun r m1 => gh_F m1 ∧ Q r m1) := by
    intro c
    have h := hB c
    refine gh_sipush gd_House_made_10 (by decide) (gh_r0 rfl) ?_
    exact gh_ret0 rfl gd_House_made_13 ⟨hF, h⟩
  refine gh_zlt (tgt := 10) gd_House_made_1 (by decide) (fun c1304 => ?_) (fun c1304 => ?_)
  · have hz : True := trivial
    exact k1297 (fun z => z.1 c1304)
  · have hz : True := trivial
    refine gh_iload_n gd_House_made_4 1 rfl ?_
    refine gh_ldc (n := 65536) gd_House_made_5 gh_k1037 (by decide) (gh_r0 rfl) ?_
    refine gh_jlt (tgt := 14) gd_House_made_7 (by decide) (fun c1305 => ?_) (fun c1305 => ?_)
    · have hz : True := trivial
      exact k1296 ⟨c1304, c1305⟩
    · have hz : True := trivial
      exact k1297 (fun z => c1305 z.2)
def f_Chart_beyond_15 (v1 : Int) (v2 : Int) (v3 : Int) (Q : Int → Prop) (m : gh_M) (K15 : Int → Int → Prop) (v4 : Int) (v5 : Int) : Prop := ((v5 ≤ (m 26 3) → ∃ J85 : Int → Prop, (∀ (v4' : Int), J85 v4' → gh_i (v5 + 1) ∧ K15 v4' (v5 + 1)) ∧ (((gh_iand_f (gh_ishr_f v2 v5) 1) = 0 → J85 v4) ∧ (¬ ((gh_iand_f (gh_ishr_f v2 v5) 1) = 0) → ((v3 = (-1) → k_Text_fits v1 v5 m ∧ ((p_Text_fits v1 v5 m → gh_i (v5 + 1) ∧ ∀ v4' : Int, v4' = gh_ior_f v4 (gh_ishl_f 1 (v5 + 1)) → J85 v4') ∧ (¬ (p_Text_fits v1 v5 m) → J85 v4))) ∧ (¬ (v3 = (-1)) → gh_i (v3 * 9) ∧ gh_i ((v3 * 9) + v5) ∧ 0 ≤ (v3 * 9) + v5 ∧ ((v3 * 9) + v5) < 72 ∧ ∀ v4' : Int, v4' = gh_ior_f v4 (m 31 ((v3 * 9) + v5)) → J85 v4'))))) ∧ (¬ (v5 ≤ (m 26 3)) → Q v4))
def w_Chart_beyond (v1 : Int) (v2 : Int) (m : gh_M) (Q : Int → Prop) : Prop := k_Grammar_nameOf v1 m ∧ ∀ v3 : Int, v3 = x_Grammar_nameOf v1 m → gh_L2 (fun K15 v4 v5 => f_Chart_beyond_15 v1 v2 v3 Q m K15 v4 v5) 0 0
theorem b_Chart_beyond_15 {E : gh_E} {v1 : Int} {v2 : Int} {v3 : Int} {Q : Int → Prop} {K15 : Int → Int → Prop} (d : Nat) {m : gh_M} (hK : ∀ (v4 : Int) (v5 : Int), gh_F m → K15 v4 v5 → gh_T E (gh_yChart_beyond.cls, prog_2_method_7_code, 6, false, 0) (d + 1) 15 [(0, 2, 30), (1, 0, v1), (2, 0, v2), (3, 0, v3), (4, 0, v4), (5, 0, v5)] [] m (fun r m1 => m1 = m ∧ Q r)) (v4 : Int) (v5 : Int) (hF : gh_F m) (h : f_Chart_beyond_15 v1 v2 v3 Q m K15 v4 v5) : gh_T E (gh_yChart_beyond.cls, prog_2_method_7_code, 6, false, 0) (d + 1) 15 [(0, 2, 30), (1, 0, v1), (2, 0, v2), (3, 0, v3), (4, 0, v4), (5, 0, v5)] [] m (fun r m1 => m1 = m ∧ Q r) := by
  have hK15 := hK
  unfold f_Chart_beyond_15 at h
  refine gh_iload gd_Chart_beyond_15 5 rfl ?_
  refine gh_aload_n gd_Chart_beyond_17 0 rfl (by decide) ?_
  refine gf_30_2 gd_Chart_beyond_18 gh_k415 hF ?_
  refine gf_26_3 gd_Chart_beyond_21 gh_k380 hF rfl ?_
  obtain ⟨hA, hB⟩ := h
  refine gh_jgt (tgt := 91) gd_Chart_beyond_24 (by decide) (fun c1307 => ?_) (fun c1307 => ?_)
  · have h := hA c1307
    refine gh_iload_n gd_Chart_beyond_27 2 rfl ?_
    refine gh_iload gd_Chart_beyond_28 5 rfl ?_
    refine gh_ishr gd_Chart_beyond_30 ?_
    refine gh_iconst gd_Chart_beyond_31 (gh_r0 rfl) ?_
    refine gh_iand gd_Chart_beyond_32 ?_
    obtain ⟨J85, hJ85, h⟩ := h
    have hJ85 : ∀ (v4' : Int), gh_F m → J85 v4' → gh_T E (gh_yChart_beyond.cls, prog_2_method_7_code, 6, false, 0) (d + 1) 85 [(0, 2, 30), (1, 0, v1), (2, 0, v2), (3, 0, v3), (4, 0, v4'), (5, 0, v5)] [] m (fun r m1 => m1 = m ∧ Q r) := by
      intro v4' hF hj
      have h := hJ85 v4' hj
      obtain ⟨q1308, h⟩ := h
      refine gh_iinc (L2 := [(5, 0, v5 + 1), (0, 2, 30), (1, 0, v1), (2, 0, v2), (3, 0, v3), (4, 0, v4')]) gd_Chart_beyond_85 5 rfl q1308 (by decide) rfl ?_
      refine gh_goto (tgt := 15) gd_Chart_beyond_88 (by decide) ?_
      refine gh_pick (L2 := [(0, 2, 30), (1, 0, v1), (2, 0, v2), (3, 0, v3), (4, 0, v4'), (5, 0, v5 + 1)]) [1, 2, 3, 4, 5, 0] rfl ?_
      exact hK15 v4' (v5 + 1) hF h
    obtain ⟨hA, hB⟩ := h
    refine gh_zeq (tgt := 85) gd_Chart_beyond_33 (by decide) (fun c1309 => ?_) (fun c1309 => ?_)
    · have h := hA c1309
      exact hJ85 v4 hF h
    · have h := hB c1309
      refine gh_iload_n gd_Chart_beyond_36 3 rfl ?_
      refine gh_iconst gd_Chart_beyond_37 (gh_r0 rfl) ?_
      obtain ⟨hA, hB⟩ := h
      refine gh_jeq (tgt := 61) gd_Chart_beyond_38 (by decide) (fun c1310 => ?_) (fun c1310 => ?_)
      · have h := hA c1310
        refine gh_aload_n gd_Chart_beyond_61 0 rfl (by decide) ?_
        refine gf_30_2 gd_Chart_beyond_62 gh_k415 hF ?_
        refine gh_iload_n gd_Chart_beyond_65 1 rfl ?_
        refine gh_iload gd_Chart_beyond_66 5 rfl ?_
        obtain ⟨q1311, h⟩ := h
        refine cv_Text_fits (d := d) gd_Chart_beyond_68 gh_k1096 hF (Nat.le_of_ble_eq_true rfl) (gh_C.pe (e_Text_fits d v1 v5 hF q1311) ?_)
        obtain ⟨hA, hB⟩ := h
        refine gh_beq (tgt := 85) gd_Chart_beyond_71 (by decide) (fun c1312 => ?_) (fun c1312 => ?_)
        · have h := hA c1312
          refine gh_iload gd_Chart_beyond_74 4 rfl ?_
          refine gh_iconst gd_Chart_beyond_76 (gh_r0 rfl) ?_
          refine gh_iload gd_Chart_beyond_77 5 rfl ?_
          refine gh_iconst gd_Chart_beyond_79 (gh_r0 rfl) ?_
          obtain ⟨q1313, h⟩ := h
          refine gh_iadd gd_Chart_beyond_80 q1313 ?_
          refine gh_ishl gd_Chart_beyond_81 ?_
          refine gh_ior gd_Chart_beyond_82 ?_
          refine gh_name (fun v4' hn => ?_)
          have h := h v4' hn
          refine gh_istore (L2 := [(4, 0, v4'), (0, 2, 30), (1, 0, v1), (2, 0, v2), (3, 0, v3), (5, 0, v5)]) gd_Chart_beyond_83 (by decide) rfl ?_
          refine gh_pick (L2 := [(0, 2, 30), (1, 0, v1), (2, 0, v2), (3, 0, v3), (4, 0, v4'), (5, 0, v5)]) [1, 2, 3, 4, 0, 5] rfl ?_
          exact hJ85 v4' hF h
        · have h := hB c1312
          exact hJ85 v4 hF h
      · have h := hB c1310
        refine gh_iload gd_Chart_beyond_41 4 rfl ?_
        refine gh_aload_n gd_Chart_beyond_43 0 rfl (by decide) ?_
        refine gf_30_4 gd_Chart_beyond_44 gh_k418 hF ?_
        refine gh_iload_n gd_Chart_beyond_47 3 rfl ?_
        refine gh_bipush gd_Chart_beyond_48 (by decide) (gh_r0 rfl) ?_
        obtain ⟨q1314, h⟩ := h
        refine gh_imul gd_Chart_beyond_50 q1314 ?_
        refine gh_iload gd_Chart_beyond_51 5 rfl ?_
        obtain ⟨q1315, h⟩ := h
        refine gh_iadd gd_Chart_beyond_53 q1315 ?_
        obtain ⟨q1316, h⟩ := h
        obtain ⟨q1317, h⟩ := h
        refine la_31 gd_Chart_beyond_54 hF q1316 q1317 rfl ?_
        refine gh_ior gd_Chart_beyond_55 ?_
        refine gh_name (fun v4' hn => ?_)
        have h := h v4' hn
        refine gh_istore (L2 := [(4, 0, v4'), (0, 2, 30), (1, 0, v1), (2, 0, v2), (3, 0, v3), (5, 0, v5)]) gd_Chart_beyond_56 (by decide) rfl ?_
        refine gh_goto (tgt := 85) gd_Chart_beyond_58 (by decide) ?_
        refine gh_pick (L2 := [(0, 2, 30), (1, 0, v1), (2, 0, v2), (3, 0, v3), (4, 0, v4'), (5, 0, v5)]) [1, 2, 3, 4, 0, 5] rfl ?_
        exact hJ85 v4' hF h
  · have h := hB c1307
    refine gh_iload gd_Chart_beyond_91 4 rfl ?_
    exact gh_ret0 rfl gd_Chart_beyond_93 ⟨rfl, h⟩
theorem s_Chart_beyond {E : gh_E} {m : gh_M} {Q : Int → Prop} (d : Nat) (v1 : Int) (v2 : Int) (hF : gh_F m) (h : w_Chart_beyond v1 v2 m Q) : gh_C E gh_yChart_beyond prog_2_method_7_code 6 (some .int) 0 (d + 1) [(2, 30), (0, v1), (0, v2)] m (fun r m1 => m1 = m ∧ Q r) := by
  refine gh_enter2 (L := [(0, 2, 30), (1, 0, v1), (2, 0, v2)]) (by decide +kernel) gh_rt0 (Nat.le_of_ble_eq_true rfl) rfl rfl ?_
  unfold w_Chart_beyond at h
  refine gh_aload_n gd_Chart_beyond_0 0 rfl (by decide) ?_
  refine gf_30_0 gd_Chart_beyond_1 gh_k413 hF ?_
  refine gh_iload_n gd_Chart_beyond_4 1 rfl ?_
  obtain ⟨q1306, h⟩ := h
  refine cv_Grammar_nameOf (d := d) gd_Chart_beyond_5 gh_k1095 hF (Nat.le_of_ble_eq_true rfl) (gh_C.pe (e_Grammar_nameOf d v1 hF q1306) ?_)
  refine gh_name (fun v3 hn => ?_)
  have h := h v3 hn
  refine gh_istore_n (L2 := [(3, 0, v3), (0, 2, 30), (1, 0, v1), (2, 0, v2)]) gd_Chart_beyond_8 (by decide) rfl ?_
  refine gh_iconst gd_Chart_beyond_9 (gh_r0 rfl) ?_
  refine gh_istore (L2 := [(4, 0, 0), (3, 0, v3), (0, 2, 30), (1, 0, v1), (2, 0, v2)]) gd_Chart_beyond_10 (by decide) rfl ?_
  refine gh_iconst gd_Chart_beyond_12 (gh_r0 rfl) ?_
  refine gh_istore (L2 := [(5, 0, 0), (4, 0, 0), (3, 0, v3), (0, 2, 30), (1, 0, v1), (2, 0, v2)]) gd_Chart_beyond_13 (by decide) rfl ?_
  refine gh_pick (L2 := [(0, 2, 30), (1, 0, v1), (2, 0, v2), (3, 0, v3), (4, 0, 0), (5, 0, 0)]) [3, 4, 5, 2, 1, 0] rfl ?_
  exact gh_L2_sound (T := fun v4 v5 => gh_T E (gh_yChart_beyond.cls, prog_2_method_7_code, 6, false, 0) (d + 1) 15 [(0, 2, 30), (1, 0, v1), (2, 0, v2), (3, 0, v3), (4, 0, v4), (5, 0, v5)] [] m (fun r m1 => m1 = m ∧ Q r)) (fun _ _ => gh_F m) (fun K15 v4 v5 hK hF h => b_Chart_beyond_15 d hK v4 v5 hF h) 0 0 hF h
def f_Chart_endsOfRow_8 (v1 : Int) (v2 : Int) (Q : Int → Prop) (m : gh_M) (K8 : Int → Int → Prop) (v4 : Int) (v5 : Int) : Prop := (((¬ (v5 < v2) ∨ (v4 = 0)) → Q v4) ∧ (¬ (¬ (v5 < v2) ∨ (v4 = 0)) → k_Grammar_partAt v1 v5 m ∧ w_Chart_beyond (x_Grammar_partAt v1 v5 m) v4 m (fun r1321 => gh_i (v5 + 1) ∧ K8 r1321 (v5 + 1))))
def w_Chart_endsOfRow (v1 : Int) (v2 : Int) (v3 : Int) (m : gh_M) (Q : Int → Prop) : Prop := ∀ v4 : Int, v4 = gh_ishl_f 1 v3 → gh_L2 (fun K8 v4 v5 => f_Chart_endsOfRow_8 v1 v2 Q m K8 v4 v5) v4 0
theorem b_Chart_endsOfRow_8 {E : gh_E} {v1 : Int} {v2 : Int} {Q : Int → Prop} {K8 : Int → Int → Prop} (d : Nat) {m : gh_M} (hK : ∀ (v4 : Int) (v5 : Int), gh_F m → K8 v4 v5 → gh_T E (gh_yChart_endsOfRow.cls, prog_2_method_6_code, 6, false, 0) (d + 2) 8 [(0, 2, 30), (1, 0, v1), (2, 0, v2), (4, 0, v4), (5, 0, v5)] [] m (fun r m1 => m1 = m ∧ Q r)) (v4 : Int) (v5 : Int) (hF : gh_F m) (h : f_Chart_endsOfRow_8 v1 v2 Q m K8 v4 v5) : gh_T E (gh_yChart_endsOfRow.cls, prog_2_method_6_code, 6, false, 0) (d + 2) 8 [(0, 2, 30), (1, 0, v1), (2, 0, v2), (4, 0, v4), (5, 0, v5)] [] m (fun r m1 => m1 = m ∧ Q r) := by
  have hK8 := hK
  unfold f_Chart_endsOfRow_8 at h
  refine gh_iload gd_Chart_endsOfRow_8 4 rfl ?_
  refine gh_iload_n gd_Chart_endsOfRow_10 2 rfl ?_
  obtain ⟨hA, hB⟩ := h
  have k1318 : (¬ (v5 < v2) ∨ (v4 = 0)) → gh_T E (gh_yChart_endsOfRow.cls, prog_2_method_6_code, 6, false, 0) (d + 2) 43 [(0, 2, 30), (1, 0, v1), (2, 0, v2), (4, 0, v4), (5, 0, v5)] [] m (fun r m1 => m1 = m ∧ Q r) := by
    intro c
    have h := hA c
    refine gh_iload gd_Chart_endsOfRow_43 3 rfl ?_
    exact gh_ret0 rfl gd_Chart_endsOfRow_45 ⟨rfl, h⟩
  have k1319 : ¬ (¬ (v5 < v2) ∨ (v4 = 0)) → gh_T E (gh_yChart_endsOfRow.cls, prog_2_method_6_code, 6, false, 0) (d + 2) 19 [(0, 2, 30), (1, 0, v1), (2, 0, v2), (4, 0, v4), (5, 0, v5)] [] m (fun r m1 => m1 = m ∧ Q r) := by
    intro c
    have h := hB c
    refine gh_aload_n gd_Chart_endsOfRow_19 0 rfl (by decide) ?_
    refine gh_aload_n gd_Chart_endsOfRow_20 0 rfl (by decide) ?_
    refine gf_30_0 gd_Chart_endsOfRow_21 gh_k413 hF ?_
    refine gh_iload_n gd_Chart_endsOfRow_24 1 rfl ?_
    refine gh_iload gd_Chart_endsOfRow_25 4 rfl ?_
    obtain ⟨q1320, h⟩ := h
    refine cv_Grammar_partAt (d := d + 1) gd_Chart_endsOfRow_27 gh_k1090 hF (Nat.le_of_ble_eq_true rfl) (gh_C.pe (e_Grammar_partAt (d + 1) v1 v5 hF q1320) ?_)
    refine gh_iload gd_Chart_endsOfRow_30 3 rfl ?_
    refine cv_Chart_beyond (d := d + 1) gd_Chart_endsOfRow_32 gh_k1091 hF (Nat.le_of_ble_eq_true rfl) (gh_C.pw (s_Chart_beyond d (x_Grammar_partAt v1 v5 m) v4 hF h) (fun r1321 h => ?_))
    refine gh_istore (L2 := [(4, 0, r1321), (0, 2, 30), (1, 0, v1), (2, 0, v2), (5, 0, v5)]) gd_Chart_endsOfRow_35 (by decide) rfl ?_
    obtain ⟨q1323, h⟩ := h
    refine gh_iinc (L2 := [(5, 0, v5 + 1), (4, 0, r1321), (0, 2, 30), (1, 0, v1), (2, 0, v2)]) gd_Chart_endsOfRow_37 4 rfl q1323 (by decide) rfl ?_
    refine gh_goto (tgt := 8) gd_Chart_endsOfRow_40 (by decide) ?_
    refine gh_pick (L2 := [(0, 2, 30), (1, 0, v1), (2, 0, v2), (4, 0, r1321), (5, 0, v5 + 1)]) [2, 3, 4, 1, 0] rfl ?_
    exact hK8 r1321 (v5 + 1) hF h
  refine gh_jge (tgt := 43) gd_Chart_endsOfRow_11 (by decide) (fun c1324 => ?_) (fun c1324 => ?_)
  · have hz : True := trivial
    refine gh_iload gd_Chart_endsOfRow_14 3 rfl ?_
    refine gh_zeq (tgt := 43) gd_Chart_endsOfRow_16 (by decide) (fun c1325 => ?_) (fun c1325 => ?_)
    · have hz : True := trivial
      exact k1318 (Or.inr c1325)
    · have hz : True := trivial
      exact k1319 (fun z => z.elim (fun w => w c1324) c1325)
  · have hz : True := trivial
    exact k1318 (Or.inl c1324)
theorem s_Chart_endsOfRow {E : gh_E} {m : gh_M} {Q : Int → Prop} (d : Nat) (v1 : Int) (v2 : Int) (v3 : Int) (hF : gh_F m) (h : w_Chart_endsOfRow v1 v2 v3 m Q) : gh_C E gh_yChart_endsOfRow prog_2_method_6_code 6 (some .int) 0 (d + 2) [(2, 30), (0, v1), (0, v2), (0, v3)] m (fun r m1 => m1 = m ∧ Q r) := by
  refine gh_enter2 (L := [(0, 2, 30), (1, 0, v1), (2, 0, v2), (3, 0, v3)]) (by decide +kernel) gh_rt0 (Nat.le_of_ble_eq_true rfl) rfl rfl ?_
  unfold w_Chart_endsOfRow at h
  refine gh_iconst gd_Chart_endsOfRow_0 (gh_r0 rfl) ?_
  refine gh_iload_n gd_Chart_endsOfRow_1 3 rfl ?_
  refine gh_ishl gd_Chart_endsOfRow_2 ?_
  refine gh_name (fun v4 hn => ?_)
  have h := h v4 hn
  refine gh_istore (L2 := [(4, 0, v4), (0, 2, 30), (1, 0, v1), (2, 0, v2), (3, 0, v3)]) gd_Chart_endsOfRow_3 (by decide) rfl ?_
  refine gh_iconst gd_Chart_endsOfRow_5 (gh_r0 rfl) ?_
  refine gh_istore (L2 := [(5, 0, 0), (4, 0, v4), (0, 2, 30), (1, 0, v1), (2, 0, v2), (3, 0, v3)]) gd_Chart_endsOfRow_6 (by decide) rfl ?_
  refine gh_pick (L2 := [(0, 2, 30), (1, 0, v1), (2, 0, v2), (4, 0, v4), (5, 0, 0)]) [2, 3, 4, 1, 0] rfl ?_
  exact gh_L2_sound (T := fun v4 v5 => gh_T E (gh_yChart_endsOfRow.cls, prog_2_method_6_code, 6, false, 0) (d + 2) 8 [(0, 2, 30), (1, 0, v1), (2, 0, v2), (4, 0, v4), (5, 0, v5)] [] m (fun r m1 => m1 = m ∧ Q r)) (fun _ _ => gh_F m) (fun K8 v4 v5 hK hF h => b_Chart_endsOfRow_8 d hK v4 v5 hF h) v4 0 hF h
def f_Chart_findEnds_19 (v1 : Int) (v3 : Int) (K4 : Int → Int → gh_M → Prop) (K19 : Int → Int → gh_M → Prop) (v2 : Int) (v4 : Int) (m : gh_M) : Prop := ((v4 < (m 13 2) → 0 ≤ v4 ∧ v4 < 20 ∧ gh_i ((m 16 v4) * 9) ∧ gh_i (((m 16 v4) * 9) + v1) ∧ ∀ v5 : Int, v5 = ((m 16 v4) * 9) + v1 → 0 ≤ v5 ∧ v5 < 72 ∧ 0 ≤ v4 ∧ v4 < 20 ∧ w_Chart_endsOfRow v4 (m 17 v4) v1 m (fun r1337 => ∀ v6 : Int, v6 = gh_ior_f (m 31 v5) r1337 → (((v2 = 0) → (0 ≤ v5 ∧ v5 < 72))) ∧ ∀ v2' : Int, v2' = (if (¬ (v2 = 0) ∨ (¬ (v6 = (m 31 v5)))) then (1:Int) else 0) → 0 ≤ v5 ∧ v5 < 72 ∧ gh_i (v4 + 1) ∧ K19 v2' (v4 + 1) (gh_u m 31 v5 v6))) ∧ (¬ (v4 < (m 13 2)) → gh_i (v3 + 1) ∧ K4 v2 (v3 + 1) m))
def f_Chart_findEnds_4 (v1 : Int) (Q : Int → gh_M → Prop) (K4 : Int → Int → gh_M → Prop) (v2 : Int) (v3 : Int) (m : gh_M) : Prop := (((¬ (v2 = 0) ∧ (v3 ≤ 72)) → gh_M2 (fun K19 v2 v4 m => f_Chart_findEnds_19 v1 v3 K4 K19 v2 v4 m) 0 0 m) ∧ (¬ (¬ (v2 = 0) ∧ (v3 ≤ 72)) → Q 0 m))
def w_Chart_findEnds (v1 : Int) (m : gh_M) (Q : Int → gh_M → Prop) : Prop := gh_M2 (fun K4 v2 v3 m => f_Chart_findEnds_4 v1 Q K4 v2 v3 m) 1 0 m
theorem b_Chart_findEnds_19 {E : gh_E} {v1 : Int} {v3 : Int} {K4 : Int → Int → gh_M → Prop} {Q : Int → gh_M → Prop} {K19 : Int → Int → gh_M → Prop} (d : Nat) (hK4 : ∀ (v2 : Int) (v3 : Int) (m : gh_M), gh_F m → K4 v2 v3 m → gh_T E (gh_yChart_findEnds.cls, prog_2_method_5_code, 7, false, 9) (d + 3) 4 [(0, 2, 30), (1, 0, v1), (2, 0, v2), (3, 0, v3)] [] m (fun r m1 => gh_F m1 ∧ Q r m1)) (hK : ∀ (v2 : Int) (v4 : Int) (m : gh_M), gh_F m → K19 v2 v4 m → gh_T E (gh_yChart_findEnds.cls, prog_2_method_5_code, 7, false, 9) (d + 3) 19 [(0, 2, 30), (1, 0, v1), (2, 0, v2), (3, 0, v3), (4, 0, v4)] [] m (fun r m1 => gh_F m1 ∧ Q r m1)) (v2 : Int) (v4 : Int) (m : gh_M) (hF : gh_F m) (h : f_Chart_findEnds_19 v1 v3 K4 K19 v2 v4 m) : gh_T E (gh_yChart_findEnds.cls, prog_2_method_5_code, 7, false, 9) (d + 3) 19 [(0, 2, 30), (1, 0, v1), (2, 0, v2), (3, 0, v3), (4, 0, v4)] [] m (fun r m1 => gh_F m1 ∧ Q r m1) := by
  have hK19 := hK
  unfold f_Chart_findEnds_19 at h
  refine gh_iload gd_Chart_findEnds_19 4 rfl ?_
  refine gh_aload_n gd_Chart_findEnds_21 0 rfl (by decide) ?_
  refine gf_30_0 gd_Chart_findEnds_22 gh_k413 hF ?_
  refine gf_13_2 gd_Chart_findEnds_25 gh_k267 hF rfl ?_
  obtain ⟨hA, hB⟩ := h
  refine gh_jge (tgt := 112) gd_Chart_findEnds_28 (by decide) (fun c1328 => ?_) (fun c1328 => ?_)
  · have h := hA c1328
    refine gh_aload_n gd_Chart_findEnds_31 0 rfl (by decide) ?_
    refine gf_30_0 gd_Chart_findEnds_32 gh_k413 hF ?_
    refine gf_13_5 gd_Chart_findEnds_35 gh_k279 hF ?_
    refine gh_iload gd_Chart_findEnds_38 4 rfl ?_
    obtain ⟨q1329, h⟩ := h
    obtain ⟨q1330, h⟩ := h
    refine la_16 gd_Chart_findEnds_40 hF q1329 q1330 rfl ?_
    refine gh_bipush gd_Chart_findEnds_41 (by decide) (gh_r0 rfl) ?_
    obtain ⟨q1331, h⟩ := h
    refine gh_imul gd_Chart_findEnds_43 q1331 ?_
    refine gh_iload_n gd_Chart_findEnds_44 1 rfl ?_
    obtain ⟨q1332, h⟩ := h
    refine gh_iadd gd_Chart_findEnds_45 q1332 ?_
    refine gh_name (fun v5 hn => ?_)
    have h := h v5 hn
    refine gh_istore (L2 := [(5, 0, v5), (0, 2, 30), (1, 0, v1), (2, 0, v2), (3, 0, v3), (4, 0, v4)]) gd_Chart_findEnds_46 (by decide) rfl ?_
    refine gh_aload_n gd_Chart_findEnds_48 1 rfl (by decide) ?_
    refine gf_30_4 gd_Chart_findEnds_49 gh_k418 hF ?_
    refine gh_iload gd_Chart_findEnds_52 0 rfl ?_
    obtain ⟨q1333, h⟩ := h
    obtain ⟨q1334, h⟩ := h
    refine la_31 gd_Chart_findEnds_54 hF q1333 q1334 rfl ?_
    refine gh_aload_n gd_Chart_findEnds_55 1 rfl (by decide) ?_
    refine gh_iload gd_Chart_findEnds_56 5 rfl ?_
    refine gh_aload_n gd_Chart_findEnds_58 1 rfl (by decide) ?_
    refine gf_30_0 gd_Chart_findEnds_59 gh_k413 hF ?_
    refine gf_13_6 gd_Chart_findEnds_62 gh_k288 hF ?_
    refine gh_iload gd_Chart_findEnds_65 5 rfl ?_
    obtain ⟨q1335, h⟩ := h
    obtain ⟨q1336, h⟩ := h
    refine la_17 gd_Chart_findEnds_67 hF q1335 q1336 rfl ?_
    refine gh_iload_n gd_Chart_findEnds_68 2 rfl ?_
    refine cv_Chart_endsOfRow (d := d + 2) gd_Chart_findEnds_69 gh_k1086 hF (Nat.le_of_ble_eq_true rfl) (gh_C.pw (s_Chart_endsOfRow d v4 (m 17 v4) v1 hF h) (fun r1337 h => ?_))
    refine gh_ior gd_Chart_findEnds_72 ?_
    refine gh_name (fun v6 hn => ?_)
    have h := h v6 hn
    refine gh_istore (L2 := [(6, 0, v6), (5, 0, v5), (0, 2, 30), (1, 0, v1), (2, 0, v2), (3, 0, v3), (4, 0, v4)]) gd_Chart_findEnds_73 (by decide) rfl ?_
    refine gh_iload_n gd_Chart_findEnds_75 4 rfl ?_
    obtain ⟨hk, h⟩ := h
    have k1341 : ∀ x1342 : Int, x1342 = (if (¬ (v2 = 0) ∨ (¬ (v6 = (m 31 v5)))) then (1:Int) else 0) → gh_T E (gh_yChart_findEnds.cls, prog_2_method_5_code, 7, false, 9) (d + 3) 96 [(6, 0, v6), (5, 0, v5), (0, 2, 30), (1, 0, v1), (2, 0, v2), (3, 0, v3), (4, 0, v4)] [(0, x1342)] m (fun r m1 => gh_F m1 ∧ Q r m1) := by
      rintro _ rfl
      refine gh_name (fun v2' hn => ?_)
      have h := h v2' hn
      refine gh_istore_n (L2 := [(2, 0, v2'), (6, 0, v6), (5, 0, v5), (0, 2, 30), (1, 0, v1), (3, 0, v3), (4, 0, v4)]) gd_Chart_findEnds_96 (by decide) rfl ?_
      refine gh_aload_n gd_Chart_findEnds_97 3 rfl (by decide) ?_
      refine gf_30_4 gd_Chart_findEnds_98 gh_k418 hF ?_
      refine gh_iload gd_Chart_findEnds_101 2 rfl ?_
      refine gh_iload gd_Chart_findEnds_103 1 rfl ?_
      obtain ⟨q1343, h⟩ := h
      obtain ⟨q1344, h⟩ := h
      refine sa_31 gd_Chart_findEnds_105 hF q1343 q1344 (fun hF => ?_)
      obtain ⟨q1345, h⟩ := h
      refine gh_iinc (L2 := [(4, 0, v4 + 1), (2, 0, v2'), (6, 0, v6), (5, 0, v5), (0, 2, 30), (1, 0, v1), (3, 0, v3)]) gd_Chart_findEnds_106 6 rfl q1345 (by decide) rfl ?_
      refine gh_goto (tgt := 19) gd_Chart_findEnds_109 (by decide) ?_
      refine gh_pick (L2 := [(0, 2, 30), (1, 0, v1), (2, 0, v2'), (3, 0, v3), (4, 0, v4 + 1)]) [4, 5, 1, 6, 0] rfl ?_
      exact hK19 v2' (v4 + 1) (gh_u m 31 v5 v6) hF h
    refine gh_zne (tgt := 91) gd_Chart_findEnds_76 (by decide) (fun c1346 => ?_) (fun c1346 => ?_)
    · have hz : True := trivial
      have hk := hk c1346
      refine gh_iload gd_Chart_findEnds_79 0 rfl ?_
      refine gh_aload_n gd_Chart_findEnds_81 2 rfl (by decide) ?_
      refine gf_30_4 gd_Chart_findEnds_82 gh_k418 hF ?_
      refine gh_iload gd_Chart_findEnds_85 1 rfl ?_
      obtain ⟨q1339, hk⟩ := hk
      have q1340 := hk
      refine la_31 gd_Chart_findEnds_87 hF q1339 q1340 rfl ?_
      refine gh_jeq (tgt := 95) gd_Chart_findEnds_88 (by decide) (fun c1347 => ?_) (fun c1347 => ?_)
      · have hz : True := trivial
        refine gh_iconst gd_Chart_findEnds_95 (gh_r0 rfl) ?_
        exact k1341 _ (if_neg (c := (¬ (v2 = 0) ∨ (¬ (v6 = (m 31 v5))))) (fun z => z.elim (fun w => w c1346) (not_not_intro c1347))).symm
      · have hz : True := trivial
        refine gh_iconst gd_Chart_findEnds_91 (gh_r0 rfl) ?_
        refine gh_goto (tgt := 96) gd_Chart_findEnds_92 (by decide) ?_
        exact k1341 _ (if_pos (c := (¬ (v2 = 0) ∨ (¬ (v6 = (m 31 v5))))) (Or.inr c1347)).symm
    · have hz : True := trivial
      refine gh_iconst gd_Chart_findEnds_91 (gh_r0 rfl) ?_
      refine gh_goto (tgt := 96) gd_Chart_findEnds_92 (by decide) ?_
      exact k1341 _ (if_pos (c := (¬ (v2 = 0) ∨ (¬ (v6 = (m 31 v5))))) (Or.inl c1346)).symm
  · have h := hB c1328
    obtain ⟨q1348, h⟩ := h
    refine gh_iinc (L2 := [(3, 0, v3 + 1), (0, 2, 30), (1, 0, v1), (2, 0, v2), (4, 0, v4)]) gd_Chart_findEnds_112 3 rfl q1348 (by decide) rfl ?_
    refine gh_goto (tgt := 4) gd_Chart_findEnds_115 (by decide) ?_
    refine gh_pick (L2 := [(0, 2, 30), (1, 0, v1), (2, 0, v2), (3, 0, v3 + 1)]) [1, 2, 3, 0] rfl ?_
    exact hK4 v2 (v3 + 1) m hF h
theorem b_Chart_findEnds_4 {E : gh_E} {v1 : Int} {Q : Int → gh_M → Prop} {K4 : Int → Int → gh_M → Prop} (d : Nat) (hK : ∀ (v2 : Int) (v3 : Int) (m : gh_M), gh_F m → K4 v2 v3 m → gh_T E (gh_yChart_findEnds.cls, prog_2_method_5_code, 7, false, 9) (d + 3) 4 [(0, 2, 30), (1, 0, v1), (2, 0, v2), (3, 0, v3)] [] m (fun r m1 => gh_F m1 ∧ Q r m1)) (v2 : Int) (v3 : Int) (m : gh_M) (hF : gh_F m) (h : f_Chart_findEnds_4 v1 Q K4 v2 v3 m) : gh_T E (gh_yChart_findEnds.cls, prog_2_method_5_code, 7, false, 9) (d + 3) 4 [(0, 2, 30), (1, 0, v1), (2, 0, v2), (3, 0, v3)] [] m (fun r m1 => gh_F m1 ∧ Q r m1) := by
  have hK4 := hK
  unfold f_Chart_findEnds_4 at h
  refine gh_iload_n gd_Chart_findEnds_4 2 rfl ?_
  obtain ⟨hA, hB⟩ := h
  have k1326 : (¬ (v2 = 0) ∧ (v3 ≤ 72)) → gh_T E (gh_yChart_findEnds.cls, prog_2_method_5_code, 7, false, 9) (d + 3) 14 [(0, 2, 30), (1, 0, v1), (2, 0, v2), (3, 0, v3)] [] m (fun r m1 => gh_F m1 ∧ Q r m1) := by
    intro c
    have h := hA c
    refine gh_iconst gd_Chart_findEnds_14 (gh_r0 rfl) ?_
    refine gh_istore_n (L2 := [(2, 0, 0), (0, 2, 30), (1, 0, v1), (3, 0, v3)]) gd_Chart_findEnds_15 (by decide) rfl ?_
    refine gh_iconst gd_Chart_findEnds_16 (gh_r0 rfl) ?_
    refine gh_istore (L2 := [(4, 0, 0), (2, 0, 0), (0, 2, 30), (1, 0, v1), (3, 0, v3)]) gd_Chart_findEnds_17 (by decide) rfl ?_
    refine gh_pick (L2 := [(0, 2, 30), (1, 0, v1), (2, 0, 0), (3, 0, v3), (4, 0, 0)]) [2, 3, 1, 4, 0] rfl ?_
    exact gh_M2_sound (T := fun v2 v4 m => gh_T E (gh_yChart_findEnds.cls, prog_2_method_5_code, 7, false, 9) (d + 3) 19 [(0, 2, 30), (1, 0, v1), (2, 0, v2), (3, 0, v3), (4, 0, v4)] [] m (fun r m1 => gh_F m1 ∧ Q r m1)) (fun _ _ m => gh_F m) (fun K19 v2 v4 m hK hF h => b_Chart_findEnds_19 d hK4 hK v2 v4 m hF h) 0 0 m hF h
  have k1327 : ¬ (¬ (v2 = 0) ∧ (v3 ≤ 72)) → gh_T E (gh_yChart_findEnds.cls, prog_2_method_5_code, 7, false, 9) (d + 3) 118 [(0, 2, 30), (1, 0, v1), (2, 0, v2), (3, 0, v3)] [] m (fun r m1 => gh_F m1 ∧ Q r m1) := by
    intro c
    have h := hB c
    exact gh_ret9 rfl gd_Chart_findEnds_118 ⟨hF, h⟩
  refine gh_zeq (tgt := 118) gd_Chart_findEnds_5 (by decide) (fun c1349 => ?_) (fun c1349 => ?_)
  · have hz : True := trivial
    exact k1327 (fun z => z.1 c1349)
  · have hz : True := trivial
    refine gh_iload_n gd_Chart_findEnds_8 3 rfl ?_
    refine gh_bipush gd_Chart_findEnds_9 (by decide) (gh_r0 rfl) ?_
    refine gh_jgt (tgt := 118) gd_Chart_findEnds_11 (by decide) (fun c1350 => ?_) (fun c1350 => ?_)
    · have hz : True := trivial
      exact k1326 ⟨c1349, c1350⟩
    · have hz : True := trivial
      exact k1327 (fun z => c1350 z.2)
theorem s_Chart_findEnds {E : gh_E} {m : gh_M} {Q : Int → gh_M → Prop} (d : Nat) (v1 : Int) (hF : gh_F m) (h : w_Chart_findEnds v1 m Q) : gh_C E gh_yChart_findEnds prog_2_method_5_code 7 none 9 (d + 3) [(2, 30), (0, v1)] m (fun r m1 => gh_F m1 ∧ Q r m1) := by
  refine gh_enter2 (L := [(0, 2, 30), (1, 0, v1)]) (by decide +kernel) gh_rt9 (Nat.le_of_ble_eq_true rfl) rfl rfl ?_
  unfold w_Chart_findEnds at h
  refine gh_iconst gd_Chart_findEnds_0 (gh_r0 rfl) ?_
  refine gh_istore_n (L2 := [(2, 0, 1), (0, 2, 30), (1, 0, v1)]) gd_Chart_findEnds_1 (by decide) rfl ?_
  refine gh_iconst gd_Chart_findEnds_2 (gh_r0 rfl) ?_
  refine gh_istore_n (L2 := [(3, 0, 0), (2, 0, 1), (0, 2, 30), (1, 0, v1)]) gd_Chart_findEnds_3 (by decide) rfl ?_
  refine gh_pick (L2 := [(0, 2, 30), (1, 0, v1), (2, 0, 1), (3, 0, 0)]) [2, 3, 1, 0] rfl ?_
  exact gh_M2_sound (T := fun v2 v3 m => gh_T E (gh_yChart_findEnds.cls, prog_2_method_5_code, 7, false, 9) (d + 3) 4 [(0, 2, 30), (1, 0, v1), (2, 0, v2), (3, 0, v3)] [] m (fun r m1 => gh_F m1 ∧ Q r m1)) (fun _ _ m => gh_F m) (fun K4 v2 v3 m hK hF h => b_Chart_findEnds_4 d hK v2 v3 m hF h) 1 0 m hF h
def f_Chart_enter_32_13 (v1 : Int) (v2 : Int) (v4 : Int) (Q : Int → gh_M → Prop) (K13 : Int → gh_M → Prop) (v5 : Int) (m : gh_M) : Prop := ∃ J53 : gh_M → Prop, (∀ (m : gh_M), J53 m → w_Chart_beyond v1 v2 m (fun r1389 => Q r1389 m)) ∧ (((¬ (v5 ≤ (m 26 3)) ∨ (v4 = (-1))) → J53 m) ∧ (¬ (¬ (v5 ≤ (m 26 3)) ∨ (v4 = (-1))) → 0 ≤ v5 ∧ v5 < 9 ∧ 0 ≤ v5 ∧ v5 < 9 ∧ gh_i (v5 + 1) ∧ K13 (v5 + 1) (gh_u m 32 v5 (gh_ior_f (m 32 v5) (gh_ishl_f (gh_iand_f (gh_ishr_f v2 v5) 1) v4)))))
def w_Chart_enter_32 (v1 : Int) (v2 : Int) (m : gh_M) (Q : Int → gh_M → Prop) : Prop := k_Grammar_nameOf v1 m ∧ ∀ v4 : Int, v4 = x_Grammar_nameOf v1 m → gh_M1 (fun K13 v5 m => f_Chart_enter_32_13 v1 v2 v4 Q K13 v5 m) 0 m
theorem b_Chart_enter_32_13 {E : gh_E} {v1 : Int} {v2 : Int} {v4 : Int} {Q : Int → gh_M → Prop} {K13 : Int → gh_M → Prop} (d : Nat) (hK : ∀ (v5 : Int) (m : gh_M), gh_F m → K13 v5 m → gh_T E (gh_yChart_enter.cls, prog_2_method_11_code, 6, false, 0) (d + 2) 13 [(0, 2, 30), (1, 0, v1), (2, 0, v2), (3, 2, 32), (4, 0, v4), (5, 0, v5)] [] m (fun r m1 => gh_F m1 ∧ Q r m1)) (v5 : Int) (m : gh_M) (hF : gh_F m) (h : f_Chart_enter_32_13 v1 v2 v4 Q K13 v5 m) : gh_T E (gh_yChart_enter.cls, prog_2_method_11_code, 6, false, 0) (d + 2) 13 [(0, 2, 30), (1, 0, v1), (2, 0, v2), (3, 2, 32), (4, 0, v4), (5, 0, v5)] [] m (fun r m1 => gh_F m1 ∧ Q r m1) := by
  have hK13 := hK
  unfold f_Chart_enter_32_13 at h
  refine gh_iload gd_Chart_enter_13 5 rfl ?_
  refine gh_aload_n gd_Chart_enter_15 0 rfl (by decide) ?_
  refine gf_30_2 gd_Chart_enter_16 gh_k415 hF ?_
  refine gf_26_3 gd_Chart_enter_19 gh_k380 hF rfl ?_
  obtain ⟨J53, hJ53, h⟩ := h
  have hJ53 : ∀ (m : gh_M), gh_F m → J53 m → gh_T E (gh_yChart_enter.cls, prog_2_method_11_code, 6, false, 0) (d + 2) 53 [(0, 2, 30), (1, 0, v1), (2, 0, v2)] [] m (fun r m1 => gh_F m1 ∧ Q r m1) := by
    intro m hF hj
    have h := hJ53 m hj
    refine gh_aload_n gd_Chart_enter_53 0 rfl (by decide) ?_
    refine gh_iload_n gd_Chart_enter_54 1 rfl ?_
    refine gh_iload_n gd_Chart_enter_55 2 rfl ?_
    refine cv_Chart_beyond (d := d + 1) gd_Chart_enter_56 gh_k1091 hF (Nat.le_of_ble_eq_true rfl) (gh_C.pw (s_Chart_beyond d v1 v2 hF h) (fun r1389 h => ?_))
    exact gh_ret0 rfl gd_Chart_enter_59 ⟨hF, h⟩
  obtain ⟨hA, hB⟩ := h
  have k1391 : (¬ (v5 ≤ (m 26 3)) ∨ (v4 = (-1))) → gh_T E (gh_yChart_enter.cls, prog_2_method_11_code, 6, false, 0) (d + 2) 53 [(0, 2, 30), (1, 0, v1), (2, 0, v2), (3, 2, 32), (4, 0, v4), (5, 0, v5)] [] m (fun r m1 => gh_F m1 ∧ Q r m1) := by
    intro c
    have h := hA c
    refine gh_pick (L2 := [(0, 2, 30), (1, 0, v1), (2, 0, v2)]) [0, 1, 2] rfl ?_
    exact hJ53 m hF h
  have k1392 : ¬ (¬ (v5 ≤ (m 26 3)) ∨ (v4 = (-1))) → gh_T E (gh_yChart_enter.cls, prog_2_method_11_code, 6, false, 0) (d + 2) 31 [(0, 2, 30), (1, 0, v1), (2, 0, v2), (3, 2, 32), (4, 0, v4), (5, 0, v5)] [] m (fun r m1 => gh_F m1 ∧ Q r m1) := by
    intro c
    have h := hB c
    refine gh_aload_n gd_Chart_enter_31 3 rfl (by decide) ?_
    refine gh_iload gd_Chart_enter_32 5 rfl ?_
    refine gh_dup2 gd_Chart_enter_34 (by decide) (by decide) ?_
    obtain ⟨q1393, h⟩ := h
    obtain ⟨q1394, h⟩ := h
    refine la_32 gd_Chart_enter_35 hF q1393 q1394 rfl ?_
    refine gh_iload_n gd_Chart_enter_36 2 rfl ?_
    refine gh_iload gd_Chart_enter_37 5 rfl ?_
    refine gh_ishr gd_Chart_enter_39 ?_
    refine gh_iconst gd_Chart_enter_40 (gh_r0 rfl) ?_
    refine gh_iand gd_Chart_enter_41 ?_
    refine gh_iload gd_Chart_enter_42 4 rfl ?_
    refine gh_ishl gd_Chart_enter_44 ?_
    refine gh_ior gd_Chart_enter_45 ?_
    obtain ⟨q1395, h⟩ := h
    obtain ⟨q1396, h⟩ := h
    refine sa_32 gd_Chart_enter_46 hF q1395 q1396 (fun hF => ?_)
    obtain ⟨q1397, h⟩ := h
    refine gh_iinc (L2 := [(5, 0, v5 + 1), (0, 2, 30), (1, 0, v1), (2, 0, v2), (3, 2, 32), (4, 0, v4)]) gd_Chart_enter_47 5 rfl q1397 (by decide) rfl ?_
    refine gh_goto (tgt := 13) gd_Chart_enter_50 (by decide) ?_
    refine gh_pick (L2 := [(0, 2, 30), (1, 0, v1), (2, 0, v2), (3, 2, 32), (4, 0, v4), (5, 0, v5 + 1)]) [1, 2, 3, 4, 5, 0] rfl ?_
    exact hK13 (v5 + 1) (gh_u m 32 v5 (gh_ior_f (m 32 v5) (gh_ishl_f (gh_iand_f (gh_ishr_f v2 v5) 1) v4))) hF h
  refine gh_jgt (tgt := 53) gd_Chart_enter_22 (by decide) (fun c1398 => ?_) (fun c1398 => ?_)
  · have hz : True := trivial
    refine gh_iload gd_Chart_enter_25 4 rfl ?_
    refine gh_iconst gd_Chart_enter_27 (gh_r0 rfl) ?_
    refine gh_jeq (tgt := 53) gd_Chart_enter_28 (by decide) (fun c1399 => ?_) (fun c1399 => ?_)
    · have hz : True := trivial
      exact k1391 (Or.inr c1399)
    · have hz : True := trivial
      exact k1392 (fun z => z.elim (fun w => w c1398) c1399)
  · have hz : True := trivial
    exact k1391 (Or.inl c1398)
theorem s_Chart_enter_32 {E : gh_E} {m : gh_M} {Q : Int → gh_M → Prop} (d : Nat) (v1 : Int) (v2 : Int) (hF : gh_F m) (h : w_Chart_enter_32 v1 v2 m Q) : gh_C E gh_yChart_enter prog_2_method_11_code 6 (some .int) 0 (d + 2) [(2, 30), (0, v1), (0, v2), (2, 32)] m (fun r m1 => gh_F m1 ∧ Q r m1) := by
  refine gh_enter2 (L := [(0, 2, 30), (1, 0, v1), (2, 0, v2), (3, 2, 32)]) (by decide +kernel) gh_rt0 (Nat.le_of_ble_eq_true rfl) rfl rfl ?_
  unfold w_Chart_enter_32 at h
  refine gh_aload_n gd_Chart_enter_0 0 rfl (by decide) ?_
  refine gf_30_0 gd_Chart_enter_1 gh_k413 hF ?_
  refine gh_iload_n gd_Chart_enter_4 1 rfl ?_
  obtain ⟨q1388, h⟩ := h
  refine cv_Grammar_nameOf (d := d + 1) gd_Chart_enter_5 gh_k1095 hF (Nat.le_of_ble_eq_true rfl) (gh_C.pe (e_Grammar_nameOf (d + 1) v1 hF q1388) ?_)
  refine gh_name (fun v4 hn => ?_)
  have h := h v4 hn
  refine gh_istore (L2 := [(4, 0, v4), (0, 2, 30), (1, 0, v1), (2, 0, v2), (3, 2, 32)]) gd_Chart_enter_8 (by decide) rfl ?_
  refine gh_iconst gd_Chart_enter_10 (gh_r0 rfl) ?_
  refine gh_istore (L2 := [(5, 0, 0), (4, 0, v4), (0, 2, 30), (1, 0, v1), (2, 0, v2), (3, 2, 32)]) gd_Chart_enter_11 (by decide) rfl ?_
  refine gh_pick (L2 := [(0, 2, 30), (1, 0, v1), (2, 0, v2), (3, 2, 32), (4, 0, v4), (5, 0, 0)]) [2, 3, 4, 5, 1, 0] rfl ?_
  exact gh_M1_sound (T := fun v5 m => gh_T E (gh_yChart_enter.cls, prog_2_method_11_code, 6, false, 0) (d + 2) 13 [(0, 2, 30), (1, 0, v1), (2, 0, v2), (3, 2, 32), (4, 0, v4), (5, 0, v5)] [] m (fun r m1 => gh_F m1 ∧ Q r m1)) (fun _ m => gh_F m) (fun K13 v5 m hK hF h => b_Chart_enter_32_13 d hK v5 m hF h) 0 m hF h
def f_Chart_goThrough_32_25 (v1 : Int) (v2 : Int) (v4 : Int) (v5 : Int) (K8 : Int → Int → gh_M → Prop) (K25 : Int → gh_M → Prop) (v6 : Int) (m : gh_M) : Prop := ((v6 ≤ (m 26 3) → 0 ≤ v6 ∧ v6 < 9 ∧ gh_i ((m 34 v6) + (gh_iand_f (gh_ishr_f v4 v6) 1)) ∧ 0 ≤ v6 ∧ v6 < 9 ∧ gh_i (v6 + 1) ∧ K25 (v6 + 1) (gh_u m 34 v6 ((m 34 v6) + (gh_iand_f (gh_ishr_f v4 v6) 1)))) ∧ (¬ (v6 ≤ (m 26 3)) → 0 ≤ v1 ∧ v1 < 20 ∧ ∃ J93 : Int → gh_M → Prop, (∀ (v4' : Int) (m : gh_M), J93 v4' m → gh_i (v5 + 1) ∧ K8 v4' (v5 + 1) m) ∧ ((v5 < (m 17 v1) → k_Grammar_partAt v1 v5 m ∧ w_Chart_enter_32 (x_Grammar_partAt v1 v5 m) v4 m (fun r1386 m1387 => J93 r1386 m1387)) ∧ (¬ (v5 < (m 17 v1)) → J93 v4 m))))
def f_Chart_goThrough_32_8 (v1 : Int) (v2 : Int) (Q : Int → gh_M → Prop) (K8 : Int → Int → gh_M → Prop) (v4 : Int) (v5 : Int) (m : gh_M) : Prop := 0 ≤ v1 ∧ v1 < 20 ∧ ((v5 ≤ (m 17 v1) → gh_M1 (fun K25 v6 m => f_Chart_goThrough_32_25 v1 v2 v4 v5 K8 K25 v6 m) v2 m) ∧ (¬ (v5 ≤ (m 17 v1)) → Q 0 m))
def w_Chart_goThrough_32 (v1 : Int) (v2 : Int) (m : gh_M) (Q : Int → gh_M → Prop) : Prop := ∀ v4 : Int, v4 = gh_ishl_f 1 v2 → gh_M2 (fun K8 v4 v5 m => f_Chart_goThrough_32_8 v1 v2 Q K8 v4 v5 m) v4 0 m
theorem b_Chart_goThrough_32_25 {E : gh_E} {v1 : Int} {v2 : Int} {v4 : Int} {v5 : Int} {K8 : Int → Int → gh_M → Prop} {Q : Int → gh_M → Prop} {K25 : Int → gh_M → Prop} (d : Nat) (hK8 : ∀ (v4 : Int) (v5 : Int) (m : gh_M), gh_F m → K8 v4 v5 m → gh_T E (gh_yChart_goThrough.cls, prog_2_method_9_code, 7, false, 9) (d + 3) 8 [(0, 2, 30), (1, 0, v1), (2, 0, v2), (3, 2, 32), (4, 0, v4), (5, 0, v5)] [] m (fun r m1 => gh_F m1 ∧ Q r m1)) (hK : ∀ (v6 : Int) (m : gh_M), gh_F m → K25 v6 m → gh_T E (gh_yChart_goThrough.cls, prog_2_method_9_code, 7, false, 9) (d + 3) 25 [(0, 2, 30), (1, 0, v1), (2, 0, v2), (3, 2, 32), (4, 0, v4), (5, 0, v5), (6, 0, v6)] [] m (fun r m1 => gh_F m1 ∧ Q r m1)) (v6 : Int) (m : gh_M) (hF : gh_F m) (h : f_Chart_goThrough_32_25 v1 v2 v4 v5 K8 K25 v6 m) : gh_T E (gh_yChart_goThrough.cls, prog_2_method_9_code, 7, false, 9) (d + 3) 25 [(0, 2, 30), (1, 0, v1), (2, 0, v2), (3, 2, 32), (4, 0, v4), (5, 0, v5), (6, 0, v6)] [] m (fun r m1 => gh_F m1 ∧ Q r m1) := by
  have hK25 := hK
  unfold f_Chart_goThrough_32_25 at h
  refine gh_iload gd_Chart_goThrough_25 6 rfl ?_
  refine gh_aload_n gd_Chart_goThrough_27 0 rfl (by decide) ?_
  refine gf_30_2 gd_Chart_goThrough_28 gh_k415 hF ?_
  refine gf_26_3 gd_Chart_goThrough_31 gh_k380 hF rfl ?_
  obtain ⟨hA, hB⟩ := h
  refine gh_jgt (tgt := 60) gd_Chart_goThrough_34 (by decide) (fun c1374 => ?_) (fun c1374 => ?_)
  · have h := hA c1374
    refine gh_aload_n gd_Chart_goThrough_37 0 rfl (by decide) ?_
    refine gf_30_7 gd_Chart_goThrough_38 gh_k421 hF ?_
    refine gh_iload gd_Chart_goThrough_41 6 rfl ?_
    refine gh_dup2 gd_Chart_goThrough_43 (by decide) (by decide) ?_
    obtain ⟨q1375, h⟩ := h
    obtain ⟨q1376, h⟩ := h
    refine la_34 gd_Chart_goThrough_44 hF q1375 q1376 rfl ?_
    refine gh_iload gd_Chart_goThrough_45 4 rfl ?_
    refine gh_iload gd_Chart_goThrough_47 6 rfl ?_
    refine gh_ishr gd_Chart_goThrough_49 ?_
    refine gh_iconst gd_Chart_goThrough_50 (gh_r0 rfl) ?_
    refine gh_iand gd_Chart_goThrough_51 ?_
    obtain ⟨q1377, h⟩ := h
    refine gh_iadd gd_Chart_goThrough_52 q1377 ?_
    obtain ⟨q1378, h⟩ := h
    obtain ⟨q1379, h⟩ := h
    refine sa_34 gd_Chart_goThrough_53 hF q1378 q1379 (fun hF => ?_)
    obtain ⟨q1380, h⟩ := h
    refine gh_iinc (L2 := [(6, 0, v6 + 1), (0, 2, 30), (1, 0, v1), (2, 0, v2), (3, 2, 32), (4, 0, v4), (5, 0, v5)]) gd_Chart_goThrough_54 6 rfl q1380 (by decide) rfl ?_
    refine gh_goto (tgt := 25) gd_Chart_goThrough_57 (by decide) ?_
    refine gh_pick (L2 := [(0, 2, 30), (1, 0, v1), (2, 0, v2), (3, 2, 32), (4, 0, v4), (5, 0, v5), (6, 0, v6 + 1)]) [1, 2, 3, 4, 5, 6, 0] rfl ?_
    exact hK25 (v6 + 1) (gh_u m 34 v6 ((m 34 v6) + (gh_iand_f (gh_ishr_f v4 v6) 1))) hF h
  · have h := hB c1374
    refine gh_iload gd_Chart_goThrough_60 5 rfl ?_
    refine gh_aload_n gd_Chart_goThrough_62 0 rfl (by decide) ?_
    refine gf_30_0 gd_Chart_goThrough_63 gh_k413 hF ?_
    refine gf_13_6 gd_Chart_goThrough_66 gh_k288 hF ?_
    refine gh_iload_n gd_Chart_goThrough_69 1 rfl ?_
    obtain ⟨q1381, h⟩ := h
    obtain ⟨q1382, h⟩ := h
    refine la_17 gd_Chart_goThrough_70 hF q1381 q1382 rfl ?_
    obtain ⟨J93, hJ93, h⟩ := h
    have hJ93 : ∀ (v4' : Int) (m : gh_M), gh_F m → J93 v4' m → gh_T E (gh_yChart_goThrough.cls, prog_2_method_9_code, 7, false, 9) (d + 3) 93 [(0, 2, 30), (1, 0, v1), (2, 0, v2), (3, 2, 32), (4, 0, v4'), (5, 0, v5)] [] m (fun r m1 => gh_F m1 ∧ Q r m1) := by
      intro v4' m hF hj
      have h := hJ93 v4' m hj
      obtain ⟨q1383, h⟩ := h
      refine gh_iinc (L2 := [(5, 0, v5 + 1), (0, 2, 30), (1, 0, v1), (2, 0, v2), (3, 2, 32), (4, 0, v4')]) gd_Chart_goThrough_93 5 rfl q1383 (by decide) rfl ?_
      refine gh_goto (tgt := 8) gd_Chart_goThrough_96 (by decide) ?_
      refine gh_pick (L2 := [(0, 2, 30), (1, 0, v1), (2, 0, v2), (3, 2, 32), (4, 0, v4'), (5, 0, v5 + 1)]) [1, 2, 3, 4, 5, 0] rfl ?_
      exact hK8 v4' (v5 + 1) m hF h
    obtain ⟨hA, hB⟩ := h
    refine gh_jge (tgt := 93) gd_Chart_goThrough_71 (by decide) (fun c1384 => ?_) (fun c1384 => ?_)
    · have h := hA c1384
      refine gh_aload_n gd_Chart_goThrough_74 0 rfl (by decide) ?_
      refine gh_aload_n gd_Chart_goThrough_75 0 rfl (by decide) ?_
      refine gf_30_0 gd_Chart_goThrough_76 gh_k413 hF ?_
      refine gh_iload_n gd_Chart_goThrough_79 1 rfl ?_
      refine gh_iload gd_Chart_goThrough_80 5 rfl ?_
      obtain ⟨q1385, h⟩ := h
      refine cv_Grammar_partAt (d := d + 2) gd_Chart_goThrough_82 gh_k1090 hF (Nat.le_of_ble_eq_true rfl) (gh_C.pe (e_Grammar_partAt (d + 2) v1 v5 hF q1385) ?_)
      refine gh_iload gd_Chart_goThrough_85 4 rfl ?_
      refine gh_aload_n gd_Chart_goThrough_87 3 rfl (by decide) ?_
      refine cv_Chart_enter (d := d + 2) gd_Chart_goThrough_88 gh_k1108 hF (Nat.le_of_ble_eq_true rfl) (gh_C.mono (s_Chart_enter_32 d (x_Grammar_partAt v1 v5 m) v4 hF h) (fun r1386 m1387 hq => ?_))
      obtain ⟨hF, h⟩ := hq
      refine gh_istore (L2 := [(4, 0, r1386), (0, 2, 30), (1, 0, v1), (2, 0, v2), (3, 2, 32), (5, 0, v5), (6, 0, v6)]) gd_Chart_goThrough_91 (by decide) rfl ?_
      refine gh_pick (L2 := [(0, 2, 30), (1, 0, v1), (2, 0, v2), (3, 2, 32), (4, 0, r1386), (5, 0, v5)]) [1, 2, 3, 4, 0, 5] rfl ?_
      exact hJ93 r1386 m1387 hF h
    · have h := hB c1384
      refine gh_pick (L2 := [(0, 2, 30), (1, 0, v1), (2, 0, v2), (3, 2, 32), (4, 0, v4), (5, 0, v5)]) [0, 1, 2, 3, 4, 5] rfl ?_
      exact hJ93 v4 m hF h
theorem b_Chart_goThrough_32_8 {E : gh_E} {v1 : Int} {v2 : Int} {Q : Int → gh_M → Prop} {K8 : Int → Int → gh_M → Prop} (d : Nat) (hK : ∀ (v4 : Int) (v5 : Int) (m : gh_M), gh_F m → K8 v4 v5 m → gh_T E (gh_yChart_goThrough.cls, prog_2_method_9_code, 7, false, 9) (d + 3) 8 [(0, 2, 30), (1, 0, v1), (2, 0, v2), (3, 2, 32), (4, 0, v4), (5, 0, v5)] [] m (fun r m1 => gh_F m1 ∧ Q r m1)) (v4 : Int) (v5 : Int) (m : gh_M) (hF : gh_F m) (h : f_Chart_goThrough_32_8 v1 v2 Q K8 v4 v5 m) : gh_T E (gh_yChart_goThrough.cls, prog_2_method_9_code, 7, false, 9) (d + 3) 8 [(0, 2, 30), (1, 0, v1), (2, 0, v2), (3, 2, 32), (4, 0, v4), (5, 0, v5)] [] m (fun r m1 => gh_F m1 ∧ Q r m1) := by
  have hK8 := hK
  unfold f_Chart_goThrough_32_8 at h
  refine gh_iload gd_Chart_goThrough_8 5 rfl ?_
  refine gh_aload_n gd_Chart_goThrough_10 0 rfl (by decide) ?_
  refine gf_30_0 gd_Chart_goThrough_11 gh_k413 hF ?_
  refine gf_13_6 gd_Chart_goThrough_14 gh_k288 hF ?_
  refine gh_iload_n gd_Chart_goThrough_17 1 rfl ?_
  obtain ⟨q1371, h⟩ := h
  obtain ⟨q1372, h⟩ := h
  refine la_17 gd_Chart_goThrough_18 hF q1371 q1372 rfl ?_
  obtain ⟨hA, hB⟩ := h
  refine gh_jgt (tgt := 99) gd_Chart_goThrough_19 (by decide) (fun c1373 => ?_) (fun c1373 => ?_)
  · have h := hA c1373
    refine gh_iload_n gd_Chart_goThrough_22 2 rfl ?_
    refine gh_istore (L2 := [(6, 0, v2), (0, 2, 30), (1, 0, v1), (2, 0, v2), (3, 2, 32), (4, 0, v4), (5, 0, v5)]) gd_Chart_goThrough_23 (by decide) rfl ?_
    refine gh_pick (L2 := [(0, 2, 30), (1, 0, v1), (2, 0, v2), (3, 2, 32), (4, 0, v4), (5, 0, v5), (6, 0, v2)]) [1, 2, 3, 4, 5, 6, 0] rfl ?_
    exact gh_M1_sound (T := fun v6 m => gh_T E (gh_yChart_goThrough.cls, prog_2_method_9_code, 7, false, 9) (d + 3) 25 [(0, 2, 30), (1, 0, v1), (2, 0, v2), (3, 2, 32), (4, 0, v4), (5, 0, v5), (6, 0, v6)] [] m (fun r m1 => gh_F m1 ∧ Q r m1)) (fun _ m => gh_F m) (fun K25 v6 m hK hF h => b_Chart_goThrough_32_25 d hK8 hK v6 m hF h) v2 m hF h
  · have h := hB c1373
    exact gh_ret9 rfl gd_Chart_goThrough_99 ⟨hF, h⟩
theorem s_Chart_goThrough_32 {E : gh_E} {m : gh_M} {Q : Int → gh_M → Prop} (d : Nat) (v1 : Int) (v2 : Int) (hF : gh_F m) (h : w_Chart_goThrough_32 v1 v2 m Q) : gh_C E gh_yChart_goThrough prog_2_method_9_code 7 none 9 (d + 3) [(2, 30), (0, v1), (0, v2), (2, 32)] m (fun r m1 => gh_F m1 ∧ Q r m1) := by
  refine gh_enter2 (L := [(0, 2, 30), (1, 0, v1), (2, 0, v2), (3, 2, 32)]) (by decide +kernel) gh_rt9 (Nat.le_of_ble_eq_true rfl) rfl rfl ?_
  unfold w_Chart_goThrough_32 at h
  refine gh_iconst gd_Chart_goThrough_0 (gh_r0 rfl) ?_
  refine gh_iload_n gd_Chart_goThrough_1 2 rfl ?_
  refine gh_ishl gd_Chart_goThrough_2 ?_
  refine gh_name (fun v4 hn => ?_)
  have h := h v4 hn
  refine gh_istore (L2 := [(4, 0, v4), (0, 2, 30), (1, 0, v1), (2, 0, v2), (3, 2, 32)]) gd_Chart_goThrough_3 (by decide) rfl ?_
  refine gh_iconst gd_Chart_goThrough_5 (gh_r0 rfl) ?_
  refine gh_istore (L2 := [(5, 0, 0), (4, 0, v4), (0, 2, 30), (1, 0, v1), (2, 0, v2), (3, 2, 32)]) gd_Chart_goThrough_6 (by decide) rfl ?_
  refine gh_pick (L2 := [(0, 2, 30), (1, 0, v1), (2, 0, v2), (3, 2, 32), (4, 0, v4), (5, 0, 0)]) [2, 3, 4, 5, 1, 0] rfl ?_
  exact gh_M2_sound (T := fun v4 v5 m => gh_T E (gh_yChart_goThrough.cls, prog_2_method_9_code, 7, false, 9) (d + 3) 8 [(0, 2, 30), (1, 0, v1), (2, 0, v2), (3, 2, 32), (4, 0, v4), (5, 0, v5)] [] m (fun r m1 => gh_F m1 ∧ Q r m1)) (fun _ _ m => gh_F m) (fun K8 v4 v5 m hK hF h => b_Chart_goThrough_32_8 d hK v4 v5 m hF h) v4 0 m hF h
def f_Chart_lookAhead_32_37 (v1 : Int) (v2 : Int) (v4 : Int) (v5 : Int) (v6 : Int) (K8 : Int → Int → gh_M → Prop) (K37 : Int → gh_M → Prop) (v7 : Int) (m : gh_M) : Prop := ∃ J86 : gh_M → Prop, (∀ (m : gh_M), J86 m → w_Chart_enter_32 v6 v4 m (fun r1407 m1408 => gh_i (v5 + 1) ∧ K8 r1407 (v5 + 1) m1408)) ∧ (((¬ (v7 ≤ (m 26 3)) ∨ (v6 ≤ 0)) → J86 m) ∧ (¬ (¬ (v7 ≤ (m 26 3)) ∨ (v6 ≤ 0)) → 0 ≤ v7 ∧ v7 < 9 ∧ 0 ≤ v7 ∧ v7 < 9 ∧ gh_i (v7 + 1) ∧ K37 (v7 + 1) (gh_u m 35 v7 (gh_ior_f (m 35 v7) (if (gh_iand_f (gh_ishr_f v4 v7) 1) = 0 then 0 else v6)))))
def f_Chart_lookAhead_32_8 (v1 : Int) (v2 : Int) (Q : Int → gh_M → Prop) (K8 : Int → Int → gh_M → Prop) (v4 : Int) (v5 : Int) (m : gh_M) : Prop := 0 ≤ v1 ∧ v1 < 20 ∧ ((v5 < (m 17 v1) → k_Grammar_partAt v1 v5 m ∧ ∀ v6 : Int, v6 = x_Grammar_partAt v1 v5 m → gh_M1 (fun K37 v7 m => f_Chart_lookAhead_32_37 v1 v2 v4 v5 v6 K8 K37 v7 m) v2 m) ∧ (¬ (v5 < (m 17 v1)) → Q 0 m))
def w_Chart_lookAhead_32 (v1 : Int) (v2 : Int) (m : gh_M) (Q : Int → gh_M → Prop) : Prop := ∀ v4 : Int, v4 = gh_ishl_f 1 v2 → gh_M2 (fun K8 v4 v5 m => f_Chart_lookAhead_32_8 v1 v2 Q K8 v4 v5 m) v4 0 m
theorem b_Chart_lookAhead_32_37 {E : gh_E} {v1 : Int} {v2 : Int} {v4 : Int} {v5 : Int} {v6 : Int} {K8 : Int → Int → gh_M → Prop} {Q : Int → gh_M → Prop} {K37 : Int → gh_M → Prop} (d : Nat) (hK8 : ∀ (v4 : Int) (v5 : Int) (m : gh_M), gh_F m → K8 v4 v5 m → gh_T E (gh_yChart_lookAhead.cls, prog_2_method_10_code, 8, false, 9) (d + 3) 8 [(0, 2, 30), (1, 0, v1), (2, 0, v2), (3, 2, 32), (4, 0, v4), (5, 0, v5)] [] m (fun r m1 => gh_F m1 ∧ Q r m1)) (hK : ∀ (v7 : Int) (m : gh_M), gh_F m → K37 v7 m → gh_T E (gh_yChart_lookAhead.cls, prog_2_method_10_code, 8, false, 9) (d + 3) 37 [(0, 2, 30), (1, 0, v1), (2, 0, v2), (3, 2, 32), (4, 0, v4), (5, 0, v5), (6, 0, v6), (7, 0, v7)] [] m (fun r m1 => gh_F m1 ∧ Q r m1)) (v7 : Int) (m : gh_M) (hF : gh_F m) (h : f_Chart_lookAhead_32_37 v1 v2 v4 v5 v6 K8 K37 v7 m) : gh_T E (gh_yChart_lookAhead.cls, prog_2_method_10_code, 8, false, 9) (d + 3) 37 [(0, 2, 30), (1, 0, v1), (2, 0, v2), (3, 2, 32), (4, 0, v4), (5, 0, v5), (6, 0, v6), (7, 0, v7)] [] m (fun r m1 => gh_F m1 ∧ Q r m1) := by
  have hK37 := hK
  unfold f_Chart_lookAhead_32_37 at h
  refine gh_iload gd_Chart_lookAhead_37 7 rfl ?_
  refine gh_aload_n gd_Chart_lookAhead_39 0 rfl (by decide) ?_
  refine gf_30_2 gd_Chart_lookAhead_40 gh_k415 hF ?_
  refine gf_26_3 gd_Chart_lookAhead_43 gh_k380 hF rfl ?_
  obtain ⟨J86, hJ86, h⟩ := h
  have hJ86 : ∀ (m : gh_M), gh_F m → J86 m → gh_T E (gh_yChart_lookAhead.cls, prog_2_method_10_code, 8, false, 9) (d + 3) 86 [(0, 2, 30), (1, 0, v1), (2, 0, v2), (3, 2, 32), (4, 0, v4), (5, 0, v5), (6, 0, v6)] [] m (fun r m1 => gh_F m1 ∧ Q r m1) := by
    intro m hF hj
    have h := hJ86 m hj
    refine gh_aload_n gd_Chart_lookAhead_86 0 rfl (by decide) ?_
    refine gh_iload gd_Chart_lookAhead_87 6 rfl ?_
    refine gh_iload gd_Chart_lookAhead_89 4 rfl ?_
    refine gh_aload_n gd_Chart_lookAhead_91 3 rfl (by decide) ?_
    refine cv_Chart_enter (d := d + 2) gd_Chart_lookAhead_92 gh_k1108 hF (Nat.le_of_ble_eq_true rfl) (gh_C.mono (s_Chart_enter_32 d v6 v4 hF h) (fun r1407 m1408 hq => ?_))
    obtain ⟨hF, h⟩ := hq
    refine gh_istore (L2 := [(4, 0, r1407), (0, 2, 30), (1, 0, v1), (2, 0, v2), (3, 2, 32), (5, 0, v5), (6, 0, v6)]) gd_Chart_lookAhead_95 (by decide) rfl ?_
    obtain ⟨q1409, h⟩ := h
    refine gh_iinc (L2 := [(5, 0, v5 + 1), (4, 0, r1407), (0, 2, 30), (1, 0, v1), (2, 0, v2), (3, 2, 32), (6, 0, v6)]) gd_Chart_lookAhead_97 5 rfl q1409 (by decide) rfl ?_
    refine gh_goto (tgt := 8) gd_Chart_lookAhead_100 (by decide) ?_
    refine gh_pick (L2 := [(0, 2, 30), (1, 0, v1), (2, 0, v2), (3, 2, 32), (4, 0, r1407), (5, 0, v5 + 1)]) [2, 3, 4, 5, 1, 0] rfl ?_
    exact hK8 r1407 (v5 + 1) m1408 hF h
  obtain ⟨hA, hB⟩ := h
  have k1410 : (¬ (v7 ≤ (m 26 3)) ∨ (v6 ≤ 0)) → gh_T E (gh_yChart_lookAhead.cls, prog_2_method_10_code, 8, false, 9) (d + 3) 86 [(0, 2, 30), (1, 0, v1), (2, 0, v2), (3, 2, 32), (4, 0, v4), (5, 0, v5), (6, 0, v6), (7, 0, v7)] [] m (fun r m1 => gh_F m1 ∧ Q r m1) := by
    intro c
    have h := hA c
    refine gh_pick (L2 := [(0, 2, 30), (1, 0, v1), (2, 0, v2), (3, 2, 32), (4, 0, v4), (5, 0, v5), (6, 0, v6)]) [0, 1, 2, 3, 4, 5, 6] rfl ?_
    exact hJ86 m hF h
  have k1411 : ¬ (¬ (v7 ≤ (m 26 3)) ∨ (v6 ≤ 0)) → gh_T E (gh_yChart_lookAhead.cls, prog_2_method_10_code, 8, false, 9) (d + 3) 54 [(0, 2, 30), (1, 0, v1), (2, 0, v2), (3, 2, 32), (4, 0, v4), (5, 0, v5), (6, 0, v6), (7, 0, v7)] [] m (fun r m1 => gh_F m1 ∧ Q r m1) := by
    intro c
    have h := hB c
    refine gh_aload_n gd_Chart_lookAhead_54 0 rfl (by decide) ?_
    refine gf_30_8 gd_Chart_lookAhead_55 gh_k423 hF ?_
    refine gh_iload gd_Chart_lookAhead_58 7 rfl ?_
    refine gh_dup2 gd_Chart_lookAhead_60 (by decide) (by decide) ?_
    obtain ⟨q1412, h⟩ := h
    obtain ⟨q1413, h⟩ := h
    refine la_35 gd_Chart_lookAhead_61 hF q1412 q1413 rfl ?_
    refine gh_iload gd_Chart_lookAhead_62 4 rfl ?_
    refine gh_iload gd_Chart_lookAhead_64 7 rfl ?_
    refine gh_ishr gd_Chart_lookAhead_66 ?_
    refine gh_iconst gd_Chart_lookAhead_67 (gh_r0 rfl) ?_
    refine gh_iand gd_Chart_lookAhead_68 ?_
    have k1414 : ∀ x1415 : Int, x1415 = (if (gh_iand_f (gh_ishr_f v4 v7) 1) = 0 then 0 else v6) → gh_T E (gh_yChart_lookAhead.cls, prog_2_method_10_code, 8, false, 9) (d + 3) 78 [(0, 2, 30), (1, 0, v1), (2, 0, v2), (3, 2, 32), (4, 0, v4), (5, 0, v5), (6, 0, v6), (7, 0, v7)] [(0, x1415), (0, m 35 v7), (0, v7), (2, 35)] m (fun r m1 => gh_F m1 ∧ Q r m1) := by
      rintro _ rfl
      refine gh_ior gd_Chart_lookAhead_78 ?_
      obtain ⟨q1416, h⟩ := h
      obtain ⟨q1417, h⟩ := h
      refine sa_35 gd_Chart_lookAhead_79 hF q1416 q1417 (fun hF => ?_)
      obtain ⟨q1418, h⟩ := h
      refine gh_iinc (L2 := [(7, 0, v7 + 1), (0, 2, 30), (1, 0, v1), (2, 0, v2), (3, 2, 32), (4, 0, v4), (5, 0, v5), (6, 0, v6)]) gd_Chart_lookAhead_80 7 rfl q1418 (by decide) rfl ?_
      refine gh_goto (tgt := 37) gd_Chart_lookAhead_83 (by decide) ?_
      refine gh_pick (L2 := [(0, 2, 30), (1, 0, v1), (2, 0, v2), (3, 2, 32), (4, 0, v4), (5, 0, v5), (6, 0, v6), (7, 0, v7 + 1)]) [1, 2, 3, 4, 5, 6, 7, 0] rfl ?_
      exact hK37 (v7 + 1) (gh_u m 35 v7 (gh_ior_f (m 35 v7) (if (gh_iand_f (gh_ishr_f v4 v7) 1) = 0 then 0 else v6))) hF h
    refine gh_zne (tgt := 76) gd_Chart_lookAhead_69 (by decide) (fun c1419 => ?_) (fun c1419 => ?_)
    · have hz : True := trivial
      refine gh_iconst gd_Chart_lookAhead_72 (gh_r0 rfl) ?_
      refine gh_goto (tgt := 78) gd_Chart_lookAhead_73 (by decide) ?_
      exact k1414 _ (by rw [if_pos c1419])
    · have hz : True := trivial
      refine gh_iload gd_Chart_lookAhead_76 6 rfl ?_
      exact k1414 _ (by rw [if_neg c1419])
  refine gh_jgt (tgt := 86) gd_Chart_lookAhead_46 (by decide) (fun c1420 => ?_) (fun c1420 => ?_)
  · have hz : True := trivial
    refine gh_iload gd_Chart_lookAhead_49 6 rfl ?_
    refine gh_zle (tgt := 86) gd_Chart_lookAhead_51 (by decide) (fun c1421 => ?_) (fun c1421 => ?_)
    · have hz : True := trivial
      exact k1410 (Or.inr c1421)
    · have hz : True := trivial
      exact k1411 (fun z => z.elim (fun w => w c1420) c1421)
  · have hz : True := trivial
    exact k1410 (Or.inl c1420)
theorem b_Chart_lookAhead_32_8 {E : gh_E} {v1 : Int} {v2 : Int} {Q : Int → gh_M → Prop} {K8 : Int → Int → gh_M → Prop} (d : Nat) (hK : ∀ (v4 : Int) (v5 : Int) (m : gh_M), gh_F m → K8 v4 v5 m → gh_T E (gh_yChart_lookAhead.cls, prog_2_method_10_code, 8, false, 9) (d + 3) 8 [(0, 2, 30), (1, 0, v1), (2, 0, v2), (3, 2, 32), (4, 0, v4), (5, 0, v5)] [] m (fun r m1 => gh_F m1 ∧ Q r m1)) (v4 : Int) (v5 : Int) (m : gh_M) (hF : gh_F m) (h : f_Chart_lookAhead_32_8 v1 v2 Q K8 v4 v5 m) : gh_T E (gh_yChart_lookAhead.cls, prog_2_method_10_code, 8, false, 9) (d + 3) 8 [(0, 2, 30), (1, 0, v1), (2, 0, v2), (3, 2, 32), (4, 0, v4), (5, 0, v5)] [] m (fun r m1 => gh_F m1 ∧ Q r m1) := by
  have hK8 := hK
  unfold f_Chart_lookAhead_32_8 at h
  refine gh_iload gd_Chart_lookAhead_8 5 rfl ?_
  refine gh_aload_n gd_Chart_lookAhead_10 0 rfl (by decide) ?_
  refine gf_30_0 gd_Chart_lookAhead_11 gh_k413 hF ?_
  refine gf_13_6 gd_Chart_lookAhead_14 gh_k288 hF ?_
  refine gh_iload_n gd_Chart_lookAhead_17 1 rfl ?_
  obtain ⟨q1403, h⟩ := h
  obtain ⟨q1404, h⟩ := h
  refine la_17 gd_Chart_lookAhead_18 hF q1403 q1404 rfl ?_
  obtain ⟨hA, hB⟩ := h
  refine gh_jge (tgt := 103) gd_Chart_lookAhead_19 (by decide) (fun c1405 => ?_) (fun c1405 => ?_)
  · have h := hA c1405
    refine gh_aload_n gd_Chart_lookAhead_22 0 rfl (by decide) ?_
    refine gf_30_0 gd_Chart_lookAhead_23 gh_k413 hF ?_
    refine gh_iload_n gd_Chart_lookAhead_26 1 rfl ?_
    refine gh_iload gd_Chart_lookAhead_27 5 rfl ?_
    obtain ⟨q1406, h⟩ := h
    refine cv_Grammar_partAt (d := d + 2) gd_Chart_lookAhead_29 gh_k1090 hF (Nat.le_of_ble_eq_true rfl) (gh_C.pe (e_Grammar_partAt (d + 2) v1 v5 hF q1406) ?_)
    refine gh_name (fun v6 hn => ?_)
    have h := h v6 hn
    refine gh_istore (L2 := [(6, 0, v6), (0, 2, 30), (1, 0, v1), (2, 0, v2), (3, 2, 32), (4, 0, v4), (5, 0, v5)]) gd_Chart_lookAhead_32 (by decide) rfl ?_
    refine gh_iload_n gd_Chart_lookAhead_34 3 rfl ?_
    refine gh_istore (L2 := [(7, 0, v2), (6, 0, v6), (0, 2, 30), (1, 0, v1), (2, 0, v2), (3, 2, 32), (4, 0, v4), (5, 0, v5)]) gd_Chart_lookAhead_35 (by decide) rfl ?_
    refine gh_pick (L2 := [(0, 2, 30), (1, 0, v1), (2, 0, v2), (3, 2, 32), (4, 0, v4), (5, 0, v5), (6, 0, v6), (7, 0, v2)]) [2, 3, 4, 5, 6, 7, 1, 0] rfl ?_
    exact gh_M1_sound (T := fun v7 m => gh_T E (gh_yChart_lookAhead.cls, prog_2_method_10_code, 8, false, 9) (d + 3) 37 [(0, 2, 30), (1, 0, v1), (2, 0, v2), (3, 2, 32), (4, 0, v4), (5, 0, v5), (6, 0, v6), (7, 0, v7)] [] m (fun r m1 => gh_F m1 ∧ Q r m1)) (fun _ m => gh_F m) (fun K37 v7 m hK hF h => b_Chart_lookAhead_32_37 d hK8 hK v7 m hF h) v2 m hF h
  · have h := hB c1405
    exact gh_ret9 rfl gd_Chart_lookAhead_103 ⟨hF, h⟩
theorem s_Chart_lookAhead_32 {E : gh_E} {m : gh_M} {Q : Int → gh_M → Prop} (d : Nat) (v1 : Int) (v2 : Int) (hF : gh_F m) (h : w_Chart_lookAhead_32 v1 v2 m Q) : gh_C E gh_yChart_lookAhead prog_2_method_10_code 8 none 9 (d + 3) [(2, 30), (0, v1), (0, v2), (2, 32)] m (fun r m1 => gh_F m1 ∧ Q r m1) := by
  refine gh_enter2 (L := [(0, 2, 30), (1, 0, v1), (2, 0, v2), (3, 2, 32)]) (by decide +kernel) gh_rt9 (Nat.le_of_ble_eq_true rfl) rfl rfl ?_
  unfold w_Chart_lookAhead_32 at h
  refine gh_iconst gd_Chart_lookAhead_0 (gh_r0 rfl) ?_
  refine gh_iload_n gd_Chart_lookAhead_1 2 rfl ?_
  refine gh_ishl gd_Chart_lookAhead_2 ?_
  refine gh_name (fun v4 hn => ?_)
  have h := h v4 hn
  refine gh_istore (L2 := [(4, 0, v4), (0, 2, 30), (1, 0, v1), (2, 0, v2), (3, 2, 32)]) gd_Chart_lookAhead_3 (by decide) rfl ?_
  refine gh_iconst gd_Chart_lookAhead_5 (gh_r0 rfl) ?_
  refine gh_istore (L2 := [(5, 0, 0), (4, 0, v4), (0, 2, 30), (1, 0, v1), (2, 0, v2), (3, 2, 32)]) gd_Chart_lookAhead_6 (by decide) rfl ?_
  refine gh_pick (L2 := [(0, 2, 30), (1, 0, v1), (2, 0, v2), (3, 2, 32), (4, 0, v4), (5, 0, 0)]) [2, 3, 4, 5, 1, 0] rfl ?_
  exact gh_M2_sound (T := fun v4 v5 m => gh_T E (gh_yChart_lookAhead.cls, prog_2_method_10_code, 8, false, 9) (d + 3) 8 [(0, 2, 30), (1, 0, v1), (2, 0, v2), (3, 2, 32), (4, 0, v4), (5, 0, v5)] [] m (fun r m1 => gh_F m1 ∧ Q r m1)) (fun _ _ m => gh_F m) (fun K8 v4 v5 m hK hF h => b_Chart_lookAhead_32_8 d hK v4 v5 m hF h) v4 0 m hF h
