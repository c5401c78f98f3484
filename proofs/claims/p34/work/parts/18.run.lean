def f_Facts_followInRow_2 (v1 : Int) (Q : Int → gh_M → Prop) (K2 : Int → gh_M → Prop) (v2 : Int) (m : gh_M) : Prop := 0 ≤ v1 ∧ v1 < 20 ∧ ((v2 < (m 17 v1) → k_Grammar_nameAt v1 v2 m ∧ ∀ v3 : Int, v3 = x_Grammar_nameAt v1 v2 m → ∃ J82 : gh_M → Prop, (∀ (m : gh_M), J82 m → gh_i (v2 + 1) ∧ K2 (v2 + 1) m) ∧ ((v3 = (-1) → J82 m) ∧ (¬ (v3 = (-1)) → 0 ≤ v3 ∧ v3 < 8 ∧ gh_i (v2 + 1) ∧ w_Facts_firstOfRow v1 (v2 + 1) m (fun r665 => 0 ≤ v3 ∧ v3 < 8 ∧ gh_i (v2 + 1) ∧ w_Facts_isEmptyRow v1 (v2 + 1) (-1) (gh_u m 23 v3 (gh_ior_f (m 23 v3) r665)) (fun r670 => ((r670 = 0 → J82 (gh_u m 23 v3 (gh_ior_f (m 23 v3) r665))) ∧ (¬ (r670 = 0) → 0 ≤ v3 ∧ v3 < 8 ∧ 0 ≤ v1 ∧ v1 < 20 ∧ 0 ≤ m 16 v1 ∧ (m 16 v1) < 8 ∧ 0 ≤ v3 ∧ v3 < 8 ∧ J82 (gh_u (gh_u m 23 v3 (gh_ior_f (m 23 v3) r665)) 23 v3 (gh_ior_f ((gh_ior_f (m 23 v3) r665)) ((gh_u m 23 v3 (gh_ior_f (m 23 v3) r665)) 23 (m 16 v1))))))))))) ∧ (¬ (v2 < (m 17 v1)) → Q 0 m))
def w_Facts_followInRow (v1 : Int) (m : gh_M) (Q : Int → gh_M → Prop) : Prop := gh_M1 (fun K2 v2 m => f_Facts_followInRow_2 v1 Q K2 v2 m) 0 m
theorem b_Facts_followInRow_2 {E : gh_E} {v1 : Int} {Q : Int → gh_M → Prop} {K2 : Int → gh_M → Prop} (d : Nat) (hK : ∀ (v2 : Int) (m : gh_M), gh_F m → K2 v2 m → gh_T E (gh_yFacts_followInRow.cls, prog_4_method_16_code, 4, false, 9) (d + 3) 2 [(0, 2, 20), (1, 0, v1), (2, 0, v2)] [] m (fun r m1 => gh_F m1 ∧ Q r m1)) (v2 : Int) (m : gh_M) (hF : gh_F m) (h : f_Facts_followInRow_2 v1 Q K2 v2 m) : gh_T E (gh_yFacts_followInRow.cls, prog_4_method_16_code, 4, false, 9) (d + 3) 2 [(0, 2, 20), (1, 0, v1), (2, 0, v2)] [] m (fun r m1 => gh_F m1 ∧ Q r m1) := by
  have hK2 := hK
  unfold f_Facts_followInRow_2 at h
  refine gh_iload_n gd_Facts_followInRow_2 2 rfl ?_
  refine gh_aload_n gd_Facts_followInRow_3 0 rfl (by decide) ?_
  refine gf_20_0 gd_Facts_followInRow_4 gh_k239 hF ?_
  refine gf_13_6 gd_Facts_followInRow_7 gh_k205 hF ?_
  refine gh_iload_n gd_Facts_followInRow_10 1 rfl ?_
  obtain ⟨q656, h⟩ := h
  obtain ⟨q657, h⟩ := h
  refine la_17 gd_Facts_followInRow_11 hF q656 q657 rfl ?_
  obtain ⟨hA, hB⟩ := h
  refine gh_jge (tgt := 88) gd_Facts_followInRow_12 (by decide) (fun c658 => ?_) (fun c658 => ?_)
  · have h := hA c658
    refine gh_aload_n gd_Facts_followInRow_15 0 rfl (by decide) ?_
    refine gf_20_0 gd_Facts_followInRow_16 gh_k239 hF ?_
    refine gh_iload_n gd_Facts_followInRow_19 1 rfl ?_
    refine gh_iload_n gd_Facts_followInRow_20 2 rfl ?_
    obtain ⟨q659, h⟩ := h
    refine cv_Grammar_nameAt (d := d + 2) gd_Facts_followInRow_21 gh_k753 hF (Nat.le_of_ble_eq_true rfl) (gh_C.pe (e_Grammar_nameAt (d + 1) v1 v2 hF q659) ?_)
    refine gh_name (fun v3 hn => ?_)
    have h := h v3 hn
    refine gh_istore_n (L2 := [(3, 0, v3), (0, 2, 20), (1, 0, v1), (2, 0, v2)]) gd_Facts_followInRow_24 (by decide) rfl ?_
    refine gh_iload_n gd_Facts_followInRow_25 0 rfl ?_
    refine gh_iconst gd_Facts_followInRow_26 (gh_r0 rfl) ?_
    obtain ⟨J82, hJ82, h⟩ := h
    have hJ82 : ∀ (m : gh_M), gh_F m → J82 m → gh_T E (gh_yFacts_followInRow.cls, prog_4_method_16_code, 4, false, 9) (d + 3) 82 [(0, 2, 20), (1, 0, v1), (2, 0, v2)] [] m (fun r m1 => gh_F m1 ∧ Q r m1) := by
      intro m hF hj
      have h := hJ82 m hj
      obtain ⟨q660, h⟩ := h
      refine gh_iinc (L2 := [(2, 0, v2 + 1), (0, 2, 20), (1, 0, v1)]) gd_Facts_followInRow_82 2 rfl q660 (by decide) rfl ?_
      refine gh_goto (tgt := 2) gd_Facts_followInRow_85 (by decide) ?_
      refine gh_pick (L2 := [(0, 2, 20), (1, 0, v1), (2, 0, v2 + 1)]) [1, 2, 0] rfl ?_
      exact hK2 (v2 + 1) m hF h
    obtain ⟨hA, hB⟩ := h
    refine gh_jeq (tgt := 82) gd_Facts_followInRow_27 (by decide) (fun c661 => ?_) (fun c661 => ?_)
    · have h := hA c661
      refine gh_pick (L2 := [(0, 2, 20), (1, 0, v1), (2, 0, v2)]) [1, 2, 3] rfl ?_
      exact hJ82 m hF h
    · have h := hB c661
      refine gh_aload_n gd_Facts_followInRow_30 1 rfl (by decide) ?_
      refine gf_20_8 gd_Facts_followInRow_31 gh_k256 hF ?_
      refine gh_iload_n gd_Facts_followInRow_34 0 rfl ?_
      refine gh_dup2 gd_Facts_followInRow_35 (by decide) (by decide) ?_
      obtain ⟨q662, h⟩ := h
      obtain ⟨q663, h⟩ := h
      refine la_23 gd_Facts_followInRow_36 hF q662 q663 rfl ?_
      refine gh_aload_n gd_Facts_followInRow_37 1 rfl (by decide) ?_
      refine gh_iload_n gd_Facts_followInRow_38 2 rfl ?_
      refine gh_iload_n gd_Facts_followInRow_39 3 rfl ?_
      refine gh_iconst gd_Facts_followInRow_40 (gh_r0 rfl) ?_
      obtain ⟨q664, h⟩ := h
      refine gh_iadd gd_Facts_followInRow_41 q664 ?_
      refine cv_Facts_firstOfRow (d := d + 2) gd_Facts_followInRow_42 gh_k806 hF (Nat.le_of_ble_eq_true rfl) (gh_C.pw (s_Facts_firstOfRow d v1 (v2 + 1) hF h) (fun r665 h => ?_))
      refine gh_ior gd_Facts_followInRow_45 ?_
      obtain ⟨q667, h⟩ := h
      obtain ⟨q668, h⟩ := h
      refine sa_23 gd_Facts_followInRow_46 hF q667 q668 (fun hF => ?_)
      refine gh_aload_n gd_Facts_followInRow_47 1 rfl (by decide) ?_
      refine gh_iload_n gd_Facts_followInRow_48 2 rfl ?_
      refine gh_iload_n gd_Facts_followInRow_49 3 rfl ?_
      refine gh_iconst gd_Facts_followInRow_50 (gh_r0 rfl) ?_
      obtain ⟨q669, h⟩ := h
      refine gh_iadd gd_Facts_followInRow_51 q669 ?_
      refine gh_iconst gd_Facts_followInRow_52 (gh_r0 rfl) ?_
      refine cv_Facts_isEmptyRow (d := d + 2) gd_Facts_followInRow_53 gh_k749 hF (Nat.le_of_ble_eq_true rfl) (gh_C.pw (s_Facts_isEmptyRow d v1 (v2 + 1) (-1) hF h) (fun r670 h => ?_))
      obtain ⟨hA, hB⟩ := h
      refine gh_zeq (tgt := 82) gd_Facts_followInRow_56 (by decide) (fun c672 => ?_) (fun c672 => ?_)
      · have h := hA c672
        refine gh_pick (L2 := [(0, 2, 20), (1, 0, v1), (2, 0, v2)]) [1, 2, 3] rfl ?_
        exact hJ82 (gh_u m 23 v3 (gh_ior_f (m 23 v3) r665)) hF h
      · have h := hB c672
        refine gh_aload_n gd_Facts_followInRow_59 1 rfl (by decide) ?_
        refine gf_20_8 gd_Facts_followInRow_60 gh_k256 hF ?_
        refine gh_iload_n gd_Facts_followInRow_63 0 rfl ?_
        refine gh_dup2 gd_Facts_followInRow_64 (by decide) (by decide) ?_
        obtain ⟨q673, h⟩ := h
        obtain ⟨q674, h⟩ := h
        refine la_23 gd_Facts_followInRow_65 hF q673 q674 (gh_u_s _ _ _ _) ?_
        refine gh_aload_n gd_Facts_followInRow_66 1 rfl (by decide) ?_
        refine gf_20_8 gd_Facts_followInRow_67 gh_k256 hF ?_
        refine gh_aload_n gd_Facts_followInRow_70 1 rfl (by decide) ?_
        refine gf_20_0 gd_Facts_followInRow_71 gh_k239 hF ?_
        refine gf_13_5 gd_Facts_followInRow_74 gh_k200 hF ?_
        refine gh_iload_n gd_Facts_followInRow_77 2 rfl ?_
        obtain ⟨q675, h⟩ := h
        obtain ⟨q676, h⟩ := h
        refine la_16 gd_Facts_followInRow_78 hF q675 q676 (gh_u_a (by decide)) ?_
        obtain ⟨q677, h⟩ := h
        obtain ⟨q678, h⟩ := h
        refine la_23 gd_Facts_followInRow_79 hF q677 q678 rfl ?_
        refine gh_ior gd_Facts_followInRow_80 ?_
        obtain ⟨q679, h⟩ := h
        obtain ⟨q680, h⟩ := h
        refine sa_23 gd_Facts_followInRow_81 hF q679 q680 (fun hF => ?_)
        refine gh_pick (L2 := [(0, 2, 20), (1, 0, v1), (2, 0, v2)]) [1, 2, 3] rfl ?_
        exact hJ82 (gh_u (gh_u m 23 v3 (gh_ior_f (m 23 v3) r665)) 23 v3 (gh_ior_f ((gh_ior_f (m 23 v3) r665)) ((gh_u m 23 v3 (gh_ior_f (m 23 v3) r665)) 23 (m 16 v1)))) hF h
  · have h := hB c658
    exact gh_ret9 rfl gd_Facts_followInRow_88 ⟨hF, h⟩
theorem s_Facts_followInRow {E : gh_E} {m : gh_M} {Q : Int → gh_M → Prop} (d : Nat) (v1 : Int) (hF : gh_F m) (h : w_Facts_followInRow v1 m Q) : gh_C E gh_yFacts_followInRow prog_4_method_16_code 4 none 9 (d + 3) [(2, 20), (0, v1)] m (fun r m1 => gh_F m1 ∧ Q r m1) := by
  refine gh_enter2 (L := [(0, 2, 20), (1, 0, v1)]) (by decide +kernel) gh_rt9 (Nat.le_of_ble_eq_true rfl) rfl rfl ?_
  unfold w_Facts_followInRow at h
  refine gh_iconst gd_Facts_followInRow_0 (gh_r0 rfl) ?_
  refine gh_istore_n (L2 := [(2, 0, 0), (0, 2, 20), (1, 0, v1)]) gd_Facts_followInRow_1 (by decide) rfl ?_
  refine gh_pick (L2 := [(0, 2, 20), (1, 0, v1), (2, 0, 0)]) [1, 2, 0] rfl ?_
  exact gh_M1_sound (T := fun v2 m => gh_T E (gh_yFacts_followInRow.cls, prog_4_method_16_code, 4, false, 9) (d + 3) 2 [(0, 2, 20), (1, 0, v1), (2, 0, v2)] [] m (fun r m1 => gh_F m1 ∧ Q r m1)) (fun _ m => gh_F m) (fun K2 v2 m hK hF h => b_Facts_followInRow_2 d hK v2 m hF h) 0 m hF h
def f_Facts_findFollow_38 (v1 : Int) (K25 : Int → gh_M → Prop) (K38 : Int → gh_M → Prop) (v2 : Int) (m : gh_M) : Prop := ((v2 < (m 13 2) → ∃ J81 : gh_M → Prop, (∀ (m : gh_M), J81 m → gh_i (v2 + 1) ∧ K38 (v2 + 1) m) ∧ (((p_Facts_isUsefulRule v2 m) → (0 ≤ v2 ∧ v2 < 20))) ∧ (((¬ (p_Facts_isUsefulRule v2 m) ∨ ((gh_iand_f (gh_ishr_f (m 20 4) (m 16 v2)) 1) = 0)) → J81 m) ∧ (¬ (¬ (p_Facts_isUsefulRule v2 m) ∨ ((gh_iand_f (gh_ishr_f (m 20 4) (m 16 v2)) 1) = 0)) → w_Facts_followInRow v2 m (fun _ m689 => J81 m689)))) ∧ (¬ (v2 < (m 13 2)) → gh_i (v1 + 1) ∧ K25 (v1 + 1) m))
def f_Facts_findFollow_25 (Q : Int → gh_M → Prop) (K25 : Int → gh_M → Prop) (v1 : Int) (m : gh_M) : Prop := ((v1 < (m 13 1) → gh_M1 (fun K38 v2 m => f_Facts_findFollow_38 v1 K25 K38 v2 m) 0 m) ∧ (¬ (v1 < (m 13 1)) → Q 0 m))
def w_Facts_findFollow (m : gh_M) (Q : Int → gh_M → Prop) : Prop := gh_M1 (fun K25 v1 m => f_Facts_findFollow_25 Q K25 v1 m) 0 (gh_u (gh_fil m 23 8 0) 23 0 (gh_ishl_f (gh_iand_f ((gh_fil m 23 8 0) 20 4) 1) 26))
theorem b_Facts_findFollow_38 {E : gh_E} {v1 : Int} {K25 : Int → gh_M → Prop} {Q : Int → gh_M → Prop} {K38 : Int → gh_M → Prop} (d : Nat) (hK25 : ∀ (v1 : Int) (m : gh_M), gh_F m → K25 v1 m → gh_T E (gh_yFacts_findFollow.cls, prog_4_method_15_code, 3, false, 9) (d + 4) 25 [(0, 2, 20), (1, 0, v1)] [] m (fun r m1 => gh_F m1 ∧ Q r m1)) (hK : ∀ (v2 : Int) (m : gh_M), gh_F m → K38 v2 m → gh_T E (gh_yFacts_findFollow.cls, prog_4_method_15_code, 3, false, 9) (d + 4) 38 [(0, 2, 20), (1, 0, v1), (2, 0, v2)] [] m (fun r m1 => gh_F m1 ∧ Q r m1)) (v2 : Int) (m : gh_M) (hF : gh_F m) (h : f_Facts_findFollow_38 v1 K25 K38 v2 m) : gh_T E (gh_yFacts_findFollow.cls, prog_4_method_15_code, 3, false, 9) (d + 4) 38 [(0, 2, 20), (1, 0, v1), (2, 0, v2)] [] m (fun r m1 => gh_F m1 ∧ Q r m1) := by
  have hK38 := hK
  unfold f_Facts_findFollow_38 at h
  refine gh_iload_n gd_Facts_findFollow_38 2 rfl ?_
  refine gh_aload_n gd_Facts_findFollow_39 0 rfl (by decide) ?_
  refine gf_20_0 gd_Facts_findFollow_40 gh_k239 hF ?_
  refine gf_13_2 gd_Facts_findFollow_43 gh_k187 hF rfl ?_
  obtain ⟨hA, hB⟩ := h
  refine gh_jge (tgt := 87) gd_Facts_findFollow_46 (by decide) (fun c682 => ?_) (fun c682 => ?_)
  · have h := hA c682
    refine gh_aload_n gd_Facts_findFollow_49 0 rfl (by decide) ?_
    refine gh_iload_n gd_Facts_findFollow_50 2 rfl ?_
    refine cv_Facts_isUsefulRule (d := d + 3) gd_Facts_findFollow_51 gh_k802 hF (Nat.le_of_ble_eq_true rfl) (gh_C.pe (e_Facts_isUsefulRule (d + 3) v2 hF) ?_)
    obtain ⟨J81, hJ81, h⟩ := h
    have hJ81 : ∀ (m : gh_M), gh_F m → J81 m → gh_T E (gh_yFacts_findFollow.cls, prog_4_method_15_code, 3, false, 9) (d + 4) 81 [(0, 2, 20), (1, 0, v1), (2, 0, v2)] [] m (fun r m1 => gh_F m1 ∧ Q r m1) := by
      intro m hF hj
      have h := hJ81 m hj
      obtain ⟨q683, h⟩ := h
      refine gh_iinc (L2 := [(2, 0, v2 + 1), (0, 2, 20), (1, 0, v1)]) gd_Facts_findFollow_81 2 rfl q683 (by decide) rfl ?_
      refine gh_goto (tgt := 38) gd_Facts_findFollow_84 (by decide) ?_
      refine gh_pick (L2 := [(0, 2, 20), (1, 0, v1), (2, 0, v2 + 1)]) [1, 2, 0] rfl ?_
      exact hK38 (v2 + 1) m hF h
    obtain ⟨hk, hA, hB⟩ := h
    have k686 : (¬ (p_Facts_isUsefulRule v2 m) ∨ ((gh_iand_f (gh_ishr_f (m 20 4) (m 16 v2)) 1) = 0)) → gh_T E (gh_yFacts_findFollow.cls, prog_4_method_15_code, 3, false, 9) (d + 4) 81 [(0, 2, 20), (1, 0, v1), (2, 0, v2)] [] m (fun r m1 => gh_F m1 ∧ Q r m1) := by
      intro c
      have h := hA c
      exact hJ81 m hF h
    have k687 : ¬ (¬ (p_Facts_isUsefulRule v2 m) ∨ ((gh_iand_f (gh_ishr_f (m 20 4) (m 16 v2)) 1) = 0)) → gh_T E (gh_yFacts_findFollow.cls, prog_4_method_15_code, 3, false, 9) (d + 4) 76 [(0, 2, 20), (1, 0, v1), (2, 0, v2)] [] m (fun r m1 => gh_F m1 ∧ Q r m1) := by
      intro c
      have h := hB c
      refine gh_aload_n gd_Facts_findFollow_76 0 rfl (by decide) ?_
      refine gh_iload_n gd_Facts_findFollow_77 2 rfl ?_
      refine cv_Facts_followInRow (d := d + 3) gd_Facts_findFollow_78 gh_k815 hF (Nat.le_of_ble_eq_true rfl) (gh_C.mono (s_Facts_followInRow d v2 hF h) (fun r688 m689 hq => ?_))
      obtain ⟨hF, h⟩ := hq
      exact hJ81 m689 hF h
    refine gh_beq (tgt := 81) gd_Facts_findFollow_54 (by decide) (fun c690 => ?_) (fun c690 => ?_)
    · have hz : True := trivial
      have hk := hk c690
      refine gh_aload_n gd_Facts_findFollow_57 0 rfl (by decide) ?_
      refine gf_20_4 gd_Facts_findFollow_58 gh_k248 hF rfl ?_
      refine gh_aload_n gd_Facts_findFollow_61 0 rfl (by decide) ?_
      refine gf_20_0 gd_Facts_findFollow_62 gh_k239 hF ?_
      refine gf_13_5 gd_Facts_findFollow_65 gh_k200 hF ?_
      refine gh_iload_n gd_Facts_findFollow_68 2 rfl ?_
      obtain ⟨q684, hk⟩ := hk
      have q685 := hk
      refine la_16 gd_Facts_findFollow_69 hF q684 q685 rfl ?_
      refine gh_ishr gd_Facts_findFollow_70 ?_
      refine gh_iconst gd_Facts_findFollow_71 (gh_r0 rfl) ?_
      refine gh_iand gd_Facts_findFollow_72 ?_
      refine gh_zeq (tgt := 81) gd_Facts_findFollow_73 (by decide) (fun c691 => ?_) (fun c691 => ?_)
      · have hz : True := trivial
        exact k686 (Or.inr c691)
      · have hz : True := trivial
        exact k687 (fun z => z.elim (fun w => w c690) c691)
    · have hz : True := trivial
      exact k686 (Or.inl c690)
  · have h := hB c682
    obtain ⟨q692, h⟩ := h
    refine gh_iinc (L2 := [(1, 0, v1 + 1), (0, 2, 20), (2, 0, v2)]) gd_Facts_findFollow_87 1 rfl q692 (by decide) rfl ?_
    refine gh_goto (tgt := 25) gd_Facts_findFollow_90 (by decide) ?_
    refine gh_pick (L2 := [(0, 2, 20), (1, 0, v1 + 1)]) [1, 0] rfl ?_
    exact hK25 (v1 + 1) m hF h
theorem b_Facts_findFollow_25 {E : gh_E} {Q : Int → gh_M → Prop} {K25 : Int → gh_M → Prop} (d : Nat) (hK : ∀ (v1 : Int) (m : gh_M), gh_F m → K25 v1 m → gh_T E (gh_yFacts_findFollow.cls, prog_4_method_15_code, 3, false, 9) (d + 4) 25 [(0, 2, 20), (1, 0, v1)] [] m (fun r m1 => gh_F m1 ∧ Q r m1)) (v1 : Int) (m : gh_M) (hF : gh_F m) (h : f_Facts_findFollow_25 Q K25 v1 m) : gh_T E (gh_yFacts_findFollow.cls, prog_4_method_15_code, 3, false, 9) (d + 4) 25 [(0, 2, 20), (1, 0, v1)] [] m (fun r m1 => gh_F m1 ∧ Q r m1) := by
  have hK25 := hK
  unfold f_Facts_findFollow_25 at h
  refine gh_iload_n gd_Facts_findFollow_25 1 rfl ?_
  refine gh_aload_n gd_Facts_findFollow_26 0 rfl (by decide) ?_
  refine gf_20_0 gd_Facts_findFollow_27 gh_k239 hF ?_
  refine gf_13_1 gd_Facts_findFollow_30 gh_k182 hF rfl ?_
  obtain ⟨hA, hB⟩ := h
  refine gh_jge (tgt := 93) gd_Facts_findFollow_33 (by decide) (fun c681 => ?_) (fun c681 => ?_)
  · have h := hA c681
    refine gh_iconst gd_Facts_findFollow_36 (gh_r0 rfl) ?_
    refine gh_istore_n (L2 := [(2, 0, 0), (0, 2, 20), (1, 0, v1)]) gd_Facts_findFollow_37 (by decide) rfl ?_
    refine gh_pick (L2 := [(0, 2, 20), (1, 0, v1), (2, 0, 0)]) [1, 2, 0] rfl ?_
    exact gh_M1_sound (T := fun v2 m => gh_T E (gh_yFacts_findFollow.cls, prog_4_method_15_code, 3, false, 9) (d + 4) 38 [(0, 2, 20), (1, 0, v1), (2, 0, v2)] [] m (fun r m1 => gh_F m1 ∧ Q r m1)) (fun _ m => gh_F m) (fun K38 v2 m hK hF h => b_Facts_findFollow_38 d hK25 hK v2 m hF h) 0 m hF h
  · have h := hB c681
    exact gh_ret9 rfl gd_Facts_findFollow_93 ⟨hF, h⟩
theorem s_Facts_findFollow {E : gh_E} {m : gh_M} {Q : Int → gh_M → Prop} (d : Nat) (hF : gh_F m) (h : w_Facts_findFollow m Q) : gh_C E gh_yFacts_findFollow prog_4_method_15_code 3 none 9 (d + 4) [(2, 20)] m (fun r m1 => gh_F m1 ∧ Q r m1) := by
  refine gh_enter2 (L := [(0, 2, 20)]) (by decide +kernel) gh_rt9 (Nat.le_of_ble_eq_true rfl) rfl rfl ?_
  unfold w_Facts_findFollow at h
  refine gh_aload_n gd_Facts_findFollow_0 0 rfl (by decide) ?_
  refine gf_20_8 gd_Facts_findFollow_1 gh_k256 hF ?_
  refine gh_iconst gd_Facts_findFollow_4 (gh_r0 rfl) ?_
  refine gh_fillF (d := d + 3) gd_Facts_findFollow_5 gh_k770 (ga_23 hF) (Nat.le_of_ble_eq_true rfl) hF gn_23 (by decide) (fun hF => ?_)
  refine gh_aload_n gd_Facts_findFollow_8 0 rfl (by decide) ?_
  refine gf_20_8 gd_Facts_findFollow_9 gh_k256 hF ?_
  refine gh_iconst gd_Facts_findFollow_12 (gh_r0 rfl) ?_
  refine gh_aload_n gd_Facts_findFollow_13 0 rfl (by decide) ?_
  refine gf_20_4 gd_Facts_findFollow_14 gh_k248 hF rfl ?_
  refine gh_iconst gd_Facts_findFollow_17 (gh_r0 rfl) ?_
  refine gh_iand gd_Facts_findFollow_18 ?_
  refine gh_bipush gd_Facts_findFollow_19 (by decide) (gh_r0 rfl) ?_
  refine gh_ishl gd_Facts_findFollow_21 ?_
  refine sa_23 gd_Facts_findFollow_22 hF (by decide) (by decide) (fun hF => ?_)
  refine gh_iconst gd_Facts_findFollow_23 (gh_r0 rfl) ?_
  refine gh_istore_n (L2 := [(1, 0, 0), (0, 2, 20)]) gd_Facts_findFollow_24 (by decide) rfl ?_
  refine gh_pick (L2 := [(0, 2, 20), (1, 0, 0)]) [1, 0] rfl ?_
  exact gh_M1_sound (T := fun v1 m => gh_T E (gh_yFacts_findFollow.cls, prog_4_method_15_code, 3, false, 9) (d + 4) 25 [(0, 2, 20), (1, 0, v1)] [] m (fun r m1 => gh_F m1 ∧ Q r m1)) (fun _ m => gh_F m) (fun K25 v1 m hK hF h => b_Facts_findFollow_25 d hK v1 m hF h) 0 (gh_u (gh_fil m 23 8 0) 23 0 (gh_ishl_f (gh_iand_f ((gh_fil m 23 8 0) 20 4) 1) 26)) hF h
def f_Facts_findTable_2 (Q : Int → gh_M → Prop) (K2 : Int → gh_M → Prop) (v1 : Int) (m : gh_M) : Prop := ((v1 < (m 13 2) → 0 ≤ v1 ∧ v1 < 20 ∧ ∀ v2 : Int, v2 = m 16 v1 → 0 ≤ v1 ∧ v1 < 20 ∧ ∃ J82 : gh_M → Prop, (∀ (m : gh_M), J82 m → gh_i (v1 + 1) ∧ K2 (v1 + 1) m) ∧ (((¬ (p_Facts_isUsefulRule v1 (gh_u m 25 v1 0)) ∨ ((gh_iand_f (gh_ishr_f (m 20 4) v2) 1) = 0)) → J82 (gh_u m 25 v1 0)) ∧ (¬ (¬ (p_Facts_isUsefulRule v1 (gh_u m 25 v1 0)) ∨ ((gh_iand_f (gh_ishr_f (m 20 4) v2) 1) = 0)) → w_Facts_firstOfRow v1 0 (gh_u m 25 v1 0) (fun r701 => w_Facts_isEmptyRow v1 0 (-1) (gh_u m 25 v1 0) (fun r703 => ((¬ (r703 = 0) → (0 ≤ v2 ∧ v2 < 8))) ∧ 0 ≤ v1 ∧ v1 < 20 ∧ J82 (gh_u (gh_u m 25 v1 0) 25 v1 (gh_ior_f r701 (if r703 = 0 then 0 else (m 23 v2))))))))) ∧ (¬ (v1 < (m 13 2)) → Q 0 m))
def w_Facts_findTable (m : gh_M) (Q : Int → gh_M → Prop) : Prop := gh_M1 (fun K2 v1 m => f_Facts_findTable_2 Q K2 v1 m) 0 m
theorem b_Facts_findTable_2 {E : gh_E} {Q : Int → gh_M → Prop} {K2 : Int → gh_M → Prop} (d : Nat) (hK : ∀ (v1 : Int) (m : gh_M), gh_F m → K2 v1 m → gh_T E (gh_yFacts_findTable.cls, prog_4_method_17_code, 3, false, 9) (d + 3) 2 [(0, 2, 20), (1, 0, v1)] [] m (fun r m1 => gh_F m1 ∧ Q r m1)) (v1 : Int) (m : gh_M) (hF : gh_F m) (h : f_Facts_findTable_2 Q K2 v1 m) : gh_T E (gh_yFacts_findTable.cls, prog_4_method_17_code, 3, false, 9) (d + 3) 2 [(0, 2, 20), (1, 0, v1)] [] m (fun r m1 => gh_F m1 ∧ Q r m1) := by
  have hK2 := hK
  unfold f_Facts_findTable_2 at h
  refine gh_iload_n gd_Facts_findTable_2 1 rfl ?_
  refine gh_aload_n gd_Facts_findTable_3 0 rfl (by decide) ?_
  refine gf_20_0 gd_Facts_findTable_4 gh_k239 hF ?_
  refine gf_13_2 gd_Facts_findTable_7 gh_k187 hF rfl ?_
  obtain ⟨hA, hB⟩ := h
  refine gh_jge (tgt := 88) gd_Facts_findTable_10 (by decide) (fun c693 => ?_) (fun c693 => ?_)
  · have h := hA c693
    refine gh_aload_n gd_Facts_findTable_13 0 rfl (by decide) ?_
    refine gf_20_0 gd_Facts_findTable_14 gh_k239 hF ?_
    refine gf_13_5 gd_Facts_findTable_17 gh_k200 hF ?_
    refine gh_iload_n gd_Facts_findTable_20 1 rfl ?_
    obtain ⟨q694, h⟩ := h
    obtain ⟨q695, h⟩ := h
    refine la_16 gd_Facts_findTable_21 hF q694 q695 rfl ?_
    refine gh_name (fun v2 hn => ?_)
    have h := h v2 hn
    refine gh_istore_n (L2 := [(2, 0, v2), (0, 2, 20), (1, 0, v1)]) gd_Facts_findTable_22 (by decide) rfl ?_
    refine gh_aload_n gd_Facts_findTable_23 1 rfl (by decide) ?_
    refine gf_20_10 gd_Facts_findTable_24 gh_k260 hF ?_
    refine gh_iload_n gd_Facts_findTable_27 2 rfl ?_
    refine gh_iconst gd_Facts_findTable_28 (gh_r0 rfl) ?_
    obtain ⟨q696, h⟩ := h
    obtain ⟨q697, h⟩ := h
    refine sa_25 gd_Facts_findTable_29 hF q696 q697 (fun hF => ?_)
    refine gh_aload_n gd_Facts_findTable_30 1 rfl (by decide) ?_
    refine gh_iload_n gd_Facts_findTable_31 2 rfl ?_
    refine cv_Facts_isUsefulRule (d := d + 2) gd_Facts_findTable_32 gh_k802 hF (Nat.le_of_ble_eq_true rfl) (gh_C.pe (e_Facts_isUsefulRule (d + 2) v1 hF) ?_)
    obtain ⟨J82, hJ82, h⟩ := h
    have hJ82 : ∀ (m : gh_M), gh_F m → J82 m → gh_T E (gh_yFacts_findTable.cls, prog_4_method_17_code, 3, false, 9) (d + 3) 82 [(0, 2, 20), (1, 0, v1)] [] m (fun r m1 => gh_F m1 ∧ Q r m1) := by
      intro m hF hj
      have h := hJ82 m hj
      obtain ⟨q698, h⟩ := h
      refine gh_iinc (L2 := [(1, 0, v1 + 1), (0, 2, 20)]) gd_Facts_findTable_82 1 rfl q698 (by decide) rfl ?_
      refine gh_goto (tgt := 2) gd_Facts_findTable_85 (by decide) ?_
      refine gh_pick (L2 := [(0, 2, 20), (1, 0, v1 + 1)]) [1, 0] rfl ?_
      exact hK2 (v1 + 1) m hF h
    obtain ⟨hA, hB⟩ := h
    have k699 : (¬ (p_Facts_isUsefulRule v1 (gh_u m 25 v1 0)) ∨ ((gh_iand_f (gh_ishr_f (m 20 4) v2) 1) = 0)) → gh_T E (gh_yFacts_findTable.cls, prog_4_method_17_code, 3, false, 9) (d + 3) 82 [(2, 0, v2), (0, 2, 20), (1, 0, v1)] [] (gh_u m 25 v1 0) (fun r m1 => gh_F m1 ∧ Q r m1) := by
      intro c
      have h := hA c
      refine gh_pick (L2 := [(0, 2, 20), (1, 0, v1)]) [1, 2] rfl ?_
      exact hJ82 (gh_u m 25 v1 0) hF h
    have k700 : ¬ (¬ (p_Facts_isUsefulRule v1 (gh_u m 25 v1 0)) ∨ ((gh_iand_f (gh_ishr_f (m 20 4) v2) 1) = 0)) → gh_T E (gh_yFacts_findTable.cls, prog_4_method_17_code, 3, false, 9) (d + 3) 49 [(2, 0, v2), (0, 2, 20), (1, 0, v1)] [] (gh_u m 25 v1 0) (fun r m1 => gh_F m1 ∧ Q r m1) := by
      intro c
      have h := hB c
      refine gh_aload_n gd_Facts_findTable_49 1 rfl (by decide) ?_
      refine gf_20_10 gd_Facts_findTable_50 gh_k260 hF ?_
      refine gh_iload_n gd_Facts_findTable_53 2 rfl ?_
      refine gh_aload_n gd_Facts_findTable_54 1 rfl (by decide) ?_
      refine gh_iload_n gd_Facts_findTable_55 2 rfl ?_
      refine gh_iconst gd_Facts_findTable_56 (gh_r0 rfl) ?_
      refine cv_Facts_firstOfRow (d := d + 2) gd_Facts_findTable_57 gh_k806 hF (Nat.le_of_ble_eq_true rfl) (gh_C.pw (s_Facts_firstOfRow d v1 0 hF h) (fun r701 h => ?_))
      refine gh_aload_n gd_Facts_findTable_60 1 rfl (by decide) ?_
      refine gh_iload_n gd_Facts_findTable_61 2 rfl ?_
      refine gh_iconst gd_Facts_findTable_62 (gh_r0 rfl) ?_
      refine gh_iconst gd_Facts_findTable_63 (gh_r0 rfl) ?_
      refine cv_Facts_isEmptyRow (d := d + 2) gd_Facts_findTable_64 gh_k749 hF (Nat.le_of_ble_eq_true rfl) (gh_C.pw (s_Facts_isEmptyRow d v1 0 (-1) hF h) (fun r703 h => ?_))
      obtain ⟨hk, h⟩ := h
      have k707 : ∀ x708 : Int, x708 = (if r703 = 0 then 0 else (m 23 v2)) → gh_T E (gh_yFacts_findTable.cls, prog_4_method_17_code, 3, false, 9) (d + 3) 80 [(2, 0, v2), (0, 2, 20), (1, 0, v1)] [(0, x708), (0, r701), (0, v1), (2, 25)] (gh_u m 25 v1 0) (fun r m1 => gh_F m1 ∧ Q r m1) := by
        rintro _ rfl
        refine gh_ior gd_Facts_findTable_80 ?_
        obtain ⟨q709, h⟩ := h
        obtain ⟨q710, h⟩ := h
        refine sa_25 gd_Facts_findTable_81 hF q709 q710 (fun hF => ?_)
        refine gh_pick (L2 := [(0, 2, 20), (1, 0, v1)]) [1, 2] rfl ?_
        exact hJ82 (gh_u (gh_u m 25 v1 0) 25 v1 (gh_ior_f r701 (if r703 = 0 then 0 else (m 23 v2)))) hF h
      refine gh_zeq (tgt := 79) gd_Facts_findTable_67 (by decide) (fun c711 => ?_) (fun c711 => ?_)
      · have hz : True := trivial
        refine gh_iconst gd_Facts_findTable_79 (gh_r0 rfl) ?_
        exact k707 _ (by rw [if_pos c711])
      · have hz : True := trivial
        have hk := hk c711
        refine gh_aload_n gd_Facts_findTable_70 1 rfl (by decide) ?_
        refine gf_20_8 gd_Facts_findTable_71 gh_k256 hF ?_
        refine gh_iload_n gd_Facts_findTable_74 0 rfl ?_
        obtain ⟨q705, hk⟩ := hk
        have q706 := hk
        refine la_23 gd_Facts_findTable_75 hF q705 q706 (gh_u_a (by decide)) ?_
        refine gh_goto (tgt := 80) gd_Facts_findTable_76 (by decide) ?_
        exact k707 _ (by rw [if_neg c711])
    refine gh_beq (tgt := 82) gd_Facts_findTable_35 (by decide) (fun c712 => ?_) (fun c712 => ?_)
    · have hz : True := trivial
      refine gh_aload_n gd_Facts_findTable_38 1 rfl (by decide) ?_
      refine gf_20_4 gd_Facts_findTable_39 gh_k248 hF (gh_u_a (by decide)) ?_
      refine gh_iload_n gd_Facts_findTable_42 0 rfl ?_
      refine gh_ishr gd_Facts_findTable_43 ?_
      refine gh_iconst gd_Facts_findTable_44 (gh_r0 rfl) ?_
      refine gh_iand gd_Facts_findTable_45 ?_
      refine gh_zeq (tgt := 82) gd_Facts_findTable_46 (by decide) (fun c713 => ?_) (fun c713 => ?_)
      · have hz : True := trivial
        exact k699 (Or.inr c713)
      · have hz : True := trivial
        exact k700 (fun z => z.elim (fun w => w c712) c713)
    · have hz : True := trivial
      exact k699 (Or.inl c712)
  · have h := hB c693
    exact gh_ret9 rfl gd_Facts_findTable_88 ⟨hF, h⟩
theorem s_Facts_findTable {E : gh_E} {m : gh_M} {Q : Int → gh_M → Prop} (d : Nat) (hF : gh_F m) (h : w_Facts_findTable m Q) : gh_C E gh_yFacts_findTable prog_4_method_17_code 3 none 9 (d + 3) [(2, 20)] m (fun r m1 => gh_F m1 ∧ Q r m1) := by
  refine gh_enter2 (L := [(0, 2, 20)]) (by decide +kernel) gh_rt9 (Nat.le_of_ble_eq_true rfl) rfl rfl ?_
  unfold w_Facts_findTable at h
  refine gh_iconst gd_Facts_findTable_0 (gh_r0 rfl) ?_
  refine gh_istore_n (L2 := [(1, 0, 0), (0, 2, 20)]) gd_Facts_findTable_1 (by decide) rfl ?_
  refine gh_pick (L2 := [(0, 2, 20), (1, 0, 0)]) [1, 0] rfl ?_
  exact gh_M1_sound (T := fun v1 m => gh_T E (gh_yFacts_findTable.cls, prog_4_method_17_code, 3, false, 9) (d + 3) 2 [(0, 2, 20), (1, 0, v1)] [] m (fun r m1 => gh_F m1 ∧ Q r m1)) (fun _ m => gh_F m) (fun K2 v1 m hK hF h => b_Facts_findTable_2 d hK v1 m hF h) 0 m hF h
def w_Facts_find (m : gh_M) (Q : Int → gh_M → Prop) : Prop := w_Facts_findEmpty m (fun _ m715 => w_Facts_findLeast m715 (fun _ m717 => w_Facts_findUsefulRules m717 (fun _ m719 => w_Facts_spread 1048575 m719 (fun r720 => ∃ J44 : Int → Int → Prop, (∀ (y1 : Int) (z1 : Int), J44 y1 z1 → w_Facts_findOver (gh_u (gh_u m719 20 3 r720) 20 4 y1) (fun _ m723 => w_Facts_findFirst m723 (fun _ m725 => w_Facts_findFollow m725 (fun _ m727 => w_Facts_findTable m727 (fun _ m729 => Q 0 m729))))) ∧ (((gh_iand_f (m719 20 2) 1) = 0 → J44 0 20) ∧ (¬ ((gh_iand_f (m719 20 2) 1) = 0) → w_Facts_spread (m719 20 5) (gh_u m719 20 3 r720) (fun r731 => J44 r731 20)))))))
theorem s_Facts_find {E : gh_E} {m : gh_M} {Q : Int → gh_M → Prop} (d : Nat) (hF : gh_F m) (h : w_Facts_find m Q) : gh_C E gh_yFacts_find prog_4_method_2_code 1 none 9 (d + 5) [(2, 20)] m (fun r m1 => gh_F m1 ∧ Q r m1) := by
  refine gh_enter2 (L := [(0, 2, 20)]) (by decide +kernel) gh_rt9 (Nat.le_of_ble_eq_true rfl) rfl rfl ?_
  unfold w_Facts_find at h
  refine gh_aload_n gd_Facts_find_0 0 rfl (by decide) ?_
  refine cv_Facts_findEmpty (d := d + 4) gd_Facts_find_1 gh_k745 hF (Nat.le_of_ble_eq_true rfl) (gh_C.mono (s_Facts_findEmpty (d + 1) hF h) (fun r714 m715 hq => ?_))
  obtain ⟨hF, h⟩ := hq
  refine gh_aload_n gd_Facts_find_4 0 rfl (by decide) ?_
  refine cv_Facts_findLeast (d := d + 4) gd_Facts_find_5 gh_k765 hF (Nat.le_of_ble_eq_true rfl) (gh_C.mono (s_Facts_findLeast (d + 1) hF h) (fun r716 m717 hq => ?_))
  obtain ⟨hF, h⟩ := hq
  refine gh_aload_n gd_Facts_find_8 0 rfl (by decide) ?_
  refine cv_Facts_findUsefulRules (d := d + 4) gd_Facts_find_9 gh_k778 hF (Nat.le_of_ble_eq_true rfl) (gh_C.mono (s_Facts_findUsefulRules (d + 1) hF h) (fun r718 m719 hq => ?_))
  obtain ⟨hF, h⟩ := hq
  refine gh_aload_n gd_Facts_find_12 0 rfl (by decide) ?_
  refine gh_aload_n gd_Facts_find_13 0 rfl (by decide) ?_
  refine gh_ldc (n := 1048575) gd_Facts_find_14 gh_k782 (by decide) (gh_r0 rfl) ?_
  refine cv_Facts_spread (d := d + 4) gd_Facts_find_16 gh_k783 hF (Nat.le_of_ble_eq_true rfl) (gh_C.pw (s_Facts_spread (d + 1) 1048575 hF h) (fun r720 h => ?_))
  refine pf_20_3 gd_Facts_find_19 gh_k246 hF (fun hF => ?_)
  refine gh_aload_n gd_Facts_find_22 0 rfl (by decide) ?_
  refine gh_aload_n gd_Facts_find_23 0 rfl (by decide) ?_
  refine gf_20_2 gd_Facts_find_24 gh_k242 hF (gh_u_i (by decide)) ?_
  refine gh_iconst gd_Facts_find_27 (gh_r0 rfl) ?_
  refine gh_iand gd_Facts_find_28 ?_
  obtain ⟨J44, hJ44, h⟩ := h
  have hJ44 : ∀ (y1 : Int) (z1 : Int), gh_F (gh_u m719 20 3 r720) → J44 y1 z1 → gh_T E (gh_yFacts_find.cls, prog_4_method_2_code, 1, false, 9) (d + 5) 44 [(0, 2, 20)] [(0, y1), (2, 20)] (gh_u m719 20 3 r720) (fun r m1 => gh_F m1 ∧ Q r m1) := by
    intro y1 z1 hF hj
    have h := hJ44 y1 z1 hj
    refine pf_20_4 gd_Facts_find_44 gh_k248 hF (fun hF => ?_)
    refine gh_aload_n gd_Facts_find_47 0 rfl (by decide) ?_
    refine cv_Facts_findOver (d := d + 4) gd_Facts_find_48 gh_k791 hF (Nat.le_of_ble_eq_true rfl) (gh_C.mono (s_Facts_findOver (d + 1) hF h) (fun r722 m723 hq => ?_))
    obtain ⟨hF, h⟩ := hq
    refine gh_aload_n gd_Facts_find_51 0 rfl (by decide) ?_
    refine cv_Facts_findFirst (d := d + 4) gd_Facts_find_52 gh_k798 hF (Nat.le_of_ble_eq_true rfl) (gh_C.mono (s_Facts_findFirst (d + 1) hF h) (fun r724 m725 hq => ?_))
    obtain ⟨hF, h⟩ := hq
    refine gh_aload_n gd_Facts_find_55 0 rfl (by decide) ?_
    refine cv_Facts_findFollow (d := d + 4) gd_Facts_find_56 gh_k811 hF (Nat.le_of_ble_eq_true rfl) (gh_C.mono (s_Facts_findFollow d hF h) (fun r726 m727 hq => ?_))
    obtain ⟨hF, h⟩ := hq
    refine gh_aload_n gd_Facts_find_59 0 rfl (by decide) ?_
    refine cv_Facts_findTable (d := d + 4) gd_Facts_find_60 gh_k819 hF (Nat.le_of_ble_eq_true rfl) (gh_C.mono (s_Facts_findTable (d + 1) hF h) (fun r728 m729 hq => ?_))
    obtain ⟨hF, h⟩ := hq
    exact gh_ret9 rfl gd_Facts_find_63 ⟨hF, h⟩
  obtain ⟨hA, hB⟩ := h
  refine gh_zne (tgt := 36) gd_Facts_find_29 (by decide) (fun c730 => ?_) (fun c730 => ?_)
  · have h := hA c730
    refine gh_iconst gd_Facts_find_32 (gh_r0 rfl) ?_
    refine gh_goto (tgt := 44) gd_Facts_find_33 (by decide) ?_
    exact hJ44 0 20 hF h
  · have h := hB c730
    refine gh_aload_n gd_Facts_find_36 0 rfl (by decide) ?_
    refine gh_aload_n gd_Facts_find_37 0 rfl (by decide) ?_
    refine gf_20_5 gd_Facts_find_38 gh_k250 hF (gh_u_i (by decide)) ?_
    refine cv_Facts_spread (d := d + 4) gd_Facts_find_41 gh_k783 hF (Nat.le_of_ble_eq_true rfl) (gh_C.pw (s_Facts_spread (d + 1) (m719 20 5) hF h) (fun r731 h => ?_))
    exact hJ44 r731 20 hF h
def w_Wants_forgetBehind (v1 : Int) (m : gh_M) (Q : Int → gh_M → Prop) : Prop := gh_i (v1 + 1) ∧ gh_i ((gh_ishl_f 1 (v1 + 1)) - 1) ∧ Q 0 (gh_u (gh_u m 36 4 (gh_iand_f (m 36 4) ((gh_ishl_f 1 (v1 + 1)) - 1))) 36 7 (min (m 36 7) v1))
theorem s_Wants_forgetBehind {E : gh_E} {m : gh_M} {Q : Int → gh_M → Prop} (d : Nat) (v1 : Int) (hF : gh_F m) (h : w_Wants_forgetBehind v1 m Q) : gh_C E gh_yWants_forgetBehind prog_12_method_2_code 2 none 9 (d + 1) [(2, 36), (0, v1)] m (fun r m1 => gh_F m1 ∧ Q r m1) := by
  refine gh_enter2 (L := [(0, 2, 36), (1, 0, v1)]) (by decide +kernel) gh_rt9 (Nat.le_of_ble_eq_true rfl) rfl rfl ?_
  unfold w_Wants_forgetBehind at h
  refine gh_aload_n gd_Wants_forgetBehind_0 0 rfl (by decide) ?_
  refine gh_dup gd_Wants_forgetBehind_1 (by decide) ?_
  refine gf_36_4 gd_Wants_forgetBehind_2 gh_k370 hF rfl ?_
  refine gh_iconst gd_Wants_forgetBehind_5 (gh_r0 rfl) ?_
  refine gh_iload_n gd_Wants_forgetBehind_6 1 rfl ?_
  refine gh_iconst gd_Wants_forgetBehind_7 (gh_r0 rfl) ?_
  obtain ⟨q733, h⟩ := h
  refine gh_iadd gd_Wants_forgetBehind_8 q733 ?_
  refine gh_ishl gd_Wants_forgetBehind_9 ?_
  refine gh_iconst gd_Wants_forgetBehind_10 (gh_r0 rfl) ?_
  obtain ⟨q734, h⟩ := h
  refine gh_isub gd_Wants_forgetBehind_11 q734 ?_
  refine gh_iand gd_Wants_forgetBehind_12 ?_
  refine pf_36_4 gd_Wants_forgetBehind_13 gh_k370 hF (fun hF => ?_)
  refine gh_aload_n gd_Wants_forgetBehind_16 0 rfl (by decide) ?_
  refine gh_aload_n gd_Wants_forgetBehind_17 0 rfl (by decide) ?_
  refine gf_36_7 gd_Wants_forgetBehind_18 gh_k373 hF (gh_u_i (by decide)) ?_
  refine gh_iload_n gd_Wants_forgetBehind_21 1 rfl ?_
  refine gh_pr_min gd_Wants_forgetBehind_22 gh_k831 (Nat.le_of_ble_eq_true rfl) ?_
  refine pf_36_7 gd_Wants_forgetBehind_25 gh_k373 hF (fun hF => ?_)
  exact gh_ret9 rfl gd_Wants_forgetBehind_28 ⟨hF, h⟩
def w_Forest_forgetBehind (v1 : Int) (m : gh_M) (Q : Int → gh_M → Prop) : Prop := Q 0 (gh_u m 41 11 (min (m 41 11) v1))
theorem s_Forest_forgetBehind {E : gh_E} {m : gh_M} {Q : Int → gh_M → Prop} (d : Nat) (v1 : Int) (hF : gh_F m) (h : w_Forest_forgetBehind v1 m Q) : gh_C E gh_yForest_forgetBehind prog_5_method_2_code 2 none 9 (d + 1) [(2, 41), (0, v1)] m (fun r m1 => gh_F m1 ∧ Q r m1) := by
  refine gh_enter2 (L := [(0, 2, 41), (1, 0, v1)]) (by decide +kernel) gh_rt9 (Nat.le_of_ble_eq_true rfl) rfl rfl ?_
  unfold w_Forest_forgetBehind at h
  refine gh_aload_n gd_Forest_forgetBehind_0 0 rfl (by decide) ?_
  refine gh_aload_n gd_Forest_forgetBehind_1 0 rfl (by decide) ?_
  refine gf_41_11 gd_Forest_forgetBehind_2 gh_k414 hF rfl ?_
  refine gh_iload_n gd_Forest_forgetBehind_5 1 rfl ?_
  refine gh_pr_min gd_Forest_forgetBehind_6 gh_k836 (Nat.le_of_ble_eq_true rfl) ?_
  refine pf_41_11 gd_Forest_forgetBehind_9 gh_k414 hF (fun hF => ?_)
  exact gh_ret9 rfl gd_Forest_forgetBehind_12 ⟨hF, h⟩
def w_House_textChanged (v1 : Int) (m : gh_M) (Q : Int → gh_M → Prop) : Prop := w_Wants_forgetBehind v1 (gh_u m 30 3 0) (fun _ m736 => w_Forest_forgetBehind v1 m736 (fun _ m738 => Q 0 (gh_u m738 47 4 0)))
theorem s_House_textChanged {E : gh_E} {m : gh_M} {Q : Int → gh_M → Prop} (d : Nat) (v1 : Int) (hF : gh_F m) (h : w_House_textChanged v1 m Q) : gh_C E gh_yHouse_textChanged prog_1_method_37_code 2 none 9 (d + 2) [(2, 2), (0, v1)] m (fun r m1 => gh_F m1 ∧ Q r m1) := by
  refine gh_enter2 (L := [(0, 2, 2), (1, 0, v1)]) (by decide +kernel) gh_rt9 (Nat.le_of_ble_eq_true rfl) rfl rfl ?_
  unfold w_House_textChanged at h
  refine gh_aload_n gd_House_textChanged_0 0 rfl (by decide) ?_
  refine gf_2_5 gd_House_textChanged_1 gh_k545 hF ?_
  refine gh_iconst gd_House_textChanged_4 (gh_r0 rfl) ?_
  refine pf_30_3 gd_House_textChanged_5 gh_k333 hF (by decide) (fun hF => ?_)
  refine gh_aload_n gd_House_textChanged_8 0 rfl (by decide) ?_
  refine gf_2_6 gd_House_textChanged_9 gh_k546 hF ?_
  refine gh_iload_n gd_House_textChanged_12 1 rfl ?_
  refine cv_Wants_forgetBehind (d := d + 1) gd_House_textChanged_13 gh_k827 hF (Nat.le_of_ble_eq_true rfl) (gh_C.mono (s_Wants_forgetBehind d v1 hF h) (fun r735 m736 hq => ?_))
  obtain ⟨hF, h⟩ := hq
  refine gh_aload_n gd_House_textChanged_16 0 rfl (by decide) ?_
  refine gf_2_7 gd_House_textChanged_17 gh_k547 hF ?_
  refine gh_iload_n gd_House_textChanged_20 1 rfl ?_
  refine cv_Forest_forgetBehind (d := d + 1) gd_House_textChanged_21 gh_k832 hF (Nat.le_of_ble_eq_true rfl) (gh_C.mono (s_Forest_forgetBehind d v1 hF h) (fun r737 m738 hq => ?_))
  obtain ⟨hF, h⟩ := hq
  refine gh_aload_n gd_House_textChanged_24 0 rfl (by decide) ?_
  refine gf_2_8 gd_House_textChanged_25 gh_k548 hF ?_
  refine gh_iconst gd_House_textChanged_28 (gh_r0 rfl) ?_
  refine pf_47_4 gd_House_textChanged_29 gh_k453 hF (fun hF => ?_)
  exact gh_ret9 rfl gd_House_textChanged_32 ⟨hF, h⟩
def w_Grammar_clear (m : gh_M) (Q : Int → gh_M → Prop) : Prop := Q 0 (gh_u (gh_u (gh_u m 13 0 0) 13 1 0) 13 2 0)
theorem s_Grammar_clear {E : gh_E} {m : gh_M} {Q : Int → gh_M → Prop} (d : Nat) (hF : gh_F m) (h : w_Grammar_clear m Q) : gh_C E gh_yGrammar_clear prog_6_method_2_code 1 none 9 (d + 0) [(2, 13)] m (fun r m1 => gh_F m1 ∧ Q r m1) := by
  refine gh_enter2 (L := [(0, 2, 13)]) (by decide +kernel) gh_rt9 (Nat.le_of_ble_eq_true rfl) rfl rfl ?_
  unfold w_Grammar_clear at h
  refine gh_aload_n gd_Grammar_clear_0 0 rfl (by decide) ?_
  refine gh_iconst gd_Grammar_clear_1 (gh_r0 rfl) ?_
  refine pf_13_0 gd_Grammar_clear_2 gh_k178 hF (fun hF => ?_)
  refine gh_aload_n gd_Grammar_clear_5 0 rfl (by decide) ?_
  refine gh_iconst gd_Grammar_clear_6 (gh_r0 rfl) ?_
  refine pf_13_1 gd_Grammar_clear_7 gh_k181 hF (fun hF => ?_)
  refine gh_aload_n gd_Grammar_clear_10 0 rfl (by decide) ?_
  refine gh_iconst gd_Grammar_clear_11 (gh_r0 rfl) ?_
  refine pf_13_2 gd_Grammar_clear_12 gh_k186 hF (fun hF => ?_)
  exact gh_ret9 rfl gd_Grammar_clear_15 ⟨hF, h⟩
def w_Grammar_startName (v1 : Int) (m : gh_M) (Q : Int → gh_M → Prop) : Prop := (((m 13 1) < 8 → 0 ≤ m 13 1 ∧ (m 13 1) < 8 ∧ 0 ≤ m 13 1 ∧ (m 13 1) < 8 ∧ 0 ≤ m 13 1 ∧ (m 13 1) < 8 ∧ gh_i ((m 13 1) + 1) ∧ Q 0 (gh_u (gh_u (gh_u (gh_u m 18 (m 13 1) v1) 14 (m 13 1) (m 13 2)) 15 (m 13 1) 0) 13 1 ((m 13 1) + 1))) ∧ (¬ ((m 13 1) < 8) → Q 0 m))
theorem s_Grammar_startName {E : gh_E} {m : gh_M} {Q : Int → gh_M → Prop} (d : Nat) (v1 : Int) (hF : gh_F m) (h : w_Grammar_startName v1 m Q) : gh_C E gh_yGrammar_startName prog_6_method_3_code 2 none 9 (d + 0) [(2, 13), (0, v1)] m (fun r m1 => gh_F m1 ∧ Q r m1) := by
  refine gh_enter2 (L := [(0, 2, 13), (1, 0, v1)]) (by decide +kernel) gh_rt9 (Nat.le_of_ble_eq_true rfl) rfl rfl ?_
  unfold w_Grammar_startName at h
  refine gh_aload_n gd_Grammar_startName_0 0 rfl (by decide) ?_
  refine gf_13_1 gd_Grammar_startName_1 gh_k181 hF rfl ?_
  refine gh_bipush gd_Grammar_startName_4 (by decide) (gh_r0 rfl) ?_
  obtain ⟨hA, hB⟩ := h
  refine gh_jge (tgt := 52) gd_Grammar_startName_6 (by decide) (fun c745 => ?_) (fun c745 => ?_)
  · have h := hA c745
    refine gh_aload_n gd_Grammar_startName_9 0 rfl (by decide) ?_
    refine gf_13_7 gd_Grammar_startName_10 gh_k212 hF ?_
    refine gh_aload_n gd_Grammar_startName_13 0 rfl (by decide) ?_
    refine gf_13_1 gd_Grammar_startName_14 gh_k181 hF rfl ?_
    refine gh_iload_n gd_Grammar_startName_17 1 rfl ?_
    obtain ⟨q746, h⟩ := h
    obtain ⟨q747, h⟩ := h
    refine sa_18 gd_Grammar_startName_18 hF q746 q747 (fun hF => ?_)
    refine gh_aload_n gd_Grammar_startName_19 0 rfl (by decide) ?_
    refine gf_13_3 gd_Grammar_startName_20 gh_k191 hF ?_
    refine gh_aload_n gd_Grammar_startName_23 0 rfl (by decide) ?_
    refine gf_13_1 gd_Grammar_startName_24 gh_k181 hF (gh_u_a (by decide)) ?_
    refine gh_aload_n gd_Grammar_startName_27 0 rfl (by decide) ?_
    refine gf_13_2 gd_Grammar_startName_28 gh_k186 hF (gh_u_a (by decide)) ?_
    obtain ⟨q748, h⟩ := h
    obtain ⟨q749, h⟩ := h
    refine sa_14 gd_Grammar_startName_31 hF q748 q749 (fun hF => ?_)
    refine gh_aload_n gd_Grammar_startName_32 0 rfl (by decide) ?_
    refine gf_13_4 gd_Grammar_startName_33 gh_k197 hF ?_
    refine gh_aload_n gd_Grammar_startName_36 0 rfl (by decide) ?_
    refine gf_13_1 gd_Grammar_startName_37 gh_k181 hF ((gh_u_a (by decide)).trans (gh_u_a (by decide))) ?_
    refine gh_iconst gd_Grammar_startName_40 (gh_r0 rfl) ?_
    obtain ⟨q750, h⟩ := h
    obtain ⟨q751, h⟩ := h
    refine sa_15 gd_Grammar_startName_41 hF q750 q751 (fun hF => ?_)
    refine gh_aload_n gd_Grammar_startName_42 0 rfl (by decide) ?_
    refine gh_dup gd_Grammar_startName_43 (by decide) ?_
    refine gf_13_1 gd_Grammar_startName_44 gh_k181 hF ((gh_u_a (by decide)).trans ((gh_u_a (by decide)).trans (gh_u_a (by decide)))) ?_
    refine gh_iconst gd_Grammar_startName_47 (gh_r0 rfl) ?_
    obtain ⟨q752, h⟩ := h
    refine gh_iadd gd_Grammar_startName_48 q752 ?_
    refine pf_13_1 gd_Grammar_startName_49 gh_k181 hF (fun hF => ?_)
    exact gh_ret9 rfl gd_Grammar_startName_52 ⟨hF, h⟩
  · have h := hB c745
    exact gh_ret9 rfl gd_Grammar_startName_52 ⟨hF, h⟩
def w_Grammar_startRule (m : gh_M) (Q : Int → gh_M → Prop) : Prop := (((¬ ((m 13 2) < 20) ∨ ((m 13 1) ≤ 0)) → Q 0 m) ∧ (¬ (¬ ((m 13 2) < 20) ∨ ((m 13 1) ≤ 0)) → gh_i ((m 13 1) - 1) ∧ 0 ≤ m 13 2 ∧ (m 13 2) < 20 ∧ 0 ≤ m 13 2 ∧ (m 13 2) < 20 ∧ gh_i ((m 13 1) - 1) ∧ 0 ≤ (m 13 1) - 1 ∧ ((m 13 1) - 1) < 8 ∧ gh_i ((m 15 ((m 13 1) - 1)) + 1) ∧ 0 ≤ (m 13 1) - 1 ∧ ((m 13 1) - 1) < 8 ∧ gh_i ((m 13 2) + 1) ∧ Q 0 (gh_u (gh_u (gh_u (gh_u m 16 (m 13 2) ((m 13 1) - 1)) 17 (m 13 2) 0) 15 ((m 13 1) - 1) ((m 15 ((m 13 1) - 1)) + 1)) 13 2 ((m 13 2) + 1))))
theorem s_Grammar_startRule {E : gh_E} {m : gh_M} {Q : Int → gh_M → Prop} (d : Nat) (hF : gh_F m) (h : w_Grammar_startRule m Q) : gh_C E gh_yGrammar_startRule prog_6_method_4_code 1 none 9 (d + 0) [(2, 13)] m (fun r m1 => gh_F m1 ∧ Q r m1) := by
  refine gh_enter2 (L := [(0, 2, 13)]) (by decide +kernel) gh_rt9 (Nat.le_of_ble_eq_true rfl) rfl rfl ?_
  unfold w_Grammar_startRule at h
  refine gh_aload_n gd_Grammar_startRule_0 0 rfl (by decide) ?_
  refine gf_13_2 gd_Grammar_startRule_1 gh_k186 hF rfl ?_
  refine gh_bipush gd_Grammar_startRule_4 (by decide) (gh_r0 rfl) ?_
  obtain ⟨hA, hB⟩ := h
  have k776 : (¬ ((m 13 2) < 20) ∨ ((m 13 1) ≤ 0)) → gh_T E (gh_yGrammar_startRule.cls, prog_6_method_4_code, 1, false, 9) (d + 0) 66 [(0, 2, 13)] [] m (fun r m1 => gh_F m1 ∧ Q r m1) := by
    intro c
    have h := hA c
    exact gh_ret9 rfl gd_Grammar_startRule_66 ⟨hF, h⟩
  have k777 : ¬ (¬ ((m 13 2) < 20) ∨ ((m 13 1) ≤ 0)) → gh_T E (gh_yGrammar_startRule.cls, prog_6_method_4_code, 1, false, 9) (d + 0) 16 [(0, 2, 13)] [] m (fun r m1 => gh_F m1 ∧ Q r m1) := by
    intro c
    have h := hB c
    refine gh_aload_n gd_Grammar_startRule_16 0 rfl (by decide) ?_
    refine gf_13_5 gd_Grammar_startRule_17 gh_k199 hF ?_
    refine gh_aload_n gd_Grammar_startRule_20 0 rfl (by decide) ?_
    refine gf_13_2 gd_Grammar_startRule_21 gh_k186 hF rfl ?_
    refine gh_aload_n gd_Grammar_startRule_24 0 rfl (by decide) ?_
    refine gf_13_1 gd_Grammar_startRule_25 gh_k181 hF rfl ?_
    refine gh_iconst gd_Grammar_startRule_28 (gh_r0 rfl) ?_
    obtain ⟨q778, h⟩ := h
    refine gh_isub gd_Grammar_startRule_29 q778 ?_
    obtain ⟨q779, h⟩ := h
    obtain ⟨q780, h⟩ := h
    refine sa_16 gd_Grammar_startRule_30 hF q779 q780 (fun hF => ?_)
    refine gh_aload_n gd_Grammar_startRule_31 0 rfl (by decide) ?_
    refine gf_13_6 gd_Grammar_startRule_32 gh_k204 hF ?_
    refine gh_aload_n gd_Grammar_startRule_35 0 rfl (by decide) ?_
    refine gf_13_2 gd_Grammar_startRule_36 gh_k186 hF (gh_u_a (by decide)) ?_
    refine gh_iconst gd_Grammar_startRule_39 (gh_r0 rfl) ?_
    obtain ⟨q781, h⟩ := h
    obtain ⟨q782, h⟩ := h
    refine sa_17 gd_Grammar_startRule_40 hF q781 q782 (fun hF => ?_)
    refine gh_aload_n gd_Grammar_startRule_41 0 rfl (by decide) ?_
    refine gf_13_4 gd_Grammar_startRule_42 gh_k197 hF ?_
    refine gh_aload_n gd_Grammar_startRule_45 0 rfl (by decide) ?_
    refine gf_13_1 gd_Grammar_startRule_46 gh_k181 hF ((gh_u_a (by decide)).trans (gh_u_a (by decide))) ?_
    refine gh_iconst gd_Grammar_startRule_49 (gh_r0 rfl) ?_
    obtain ⟨q783, h⟩ := h
    refine gh_isub gd_Grammar_startRule_50 q783 ?_
    refine gh_dup2 gd_Grammar_startRule_51 (by decide) (by decide) ?_
    obtain ⟨q784, h⟩ := h
    obtain ⟨q785, h⟩ := h
    refine la_15 gd_Grammar_startRule_52 hF q784 q785 ((gh_u_a (by decide)).trans (gh_u_a (by decide))) ?_
    refine gh_iconst gd_Grammar_startRule_53 (gh_r0 rfl) ?_
    obtain ⟨q786, h⟩ := h
    refine gh_iadd gd_Grammar_startRule_54 q786 ?_
    obtain ⟨q787, h⟩ := h
    obtain ⟨q788, h⟩ := h
    refine sa_15 gd_Grammar_startRule_55 hF q787 q788 (fun hF => ?_)
    refine gh_aload_n gd_Grammar_startRule_56 0 rfl (by decide) ?_
    refine gh_dup gd_Grammar_startRule_57 (by decide) ?_
    refine gf_13_2 gd_Grammar_startRule_58 gh_k186 hF ((gh_u_a (by decide)).trans ((gh_u_a (by decide)).trans (gh_u_a (by decide)))) ?_
    refine gh_iconst gd_Grammar_startRule_61 (gh_r0 rfl) ?_
    obtain ⟨q789, h⟩ := h
    refine gh_iadd gd_Grammar_startRule_62 q789 ?_
    refine pf_13_2 gd_Grammar_startRule_63 gh_k186 hF (fun hF => ?_)
    exact gh_ret9 rfl gd_Grammar_startRule_66 ⟨hF, h⟩
  refine gh_jge (tgt := 66) gd_Grammar_startRule_6 (by decide) (fun c790 => ?_) (fun c790 => ?_)
  · have hz : True := trivial
    refine gh_aload_n gd_Grammar_startRule_9 0 rfl (by decide) ?_
    refine gf_13_1 gd_Grammar_startRule_10 gh_k181 hF rfl ?_
    refine gh_zle (tgt := 66) gd_Grammar_startRule_13 (by decide) (fun c791 => ?_) (fun c791 => ?_)
    · have hz : True := trivial
      exact k776 (Or.inr c791)
    · have hz : True := trivial
      exact k777 (fun z => z.elim (fun w => w c790) c791)
  · have hz : True := trivial
    exact k776 (Or.inl c790)
def w_Grammar_addPart (v1 : Int) (m : gh_M) (Q : Int → gh_M → Prop) : Prop := gh_i ((m 13 2) - 1) ∧ ∀ v2 : Int, v2 = (m 13 2) - 1 → ((¬ (v2 < 0) → (0 ≤ v2 ∧ v2 < 20))) ∧ (((¬ (v2 < 0) ∧ ((m 17 v2) < 4)) → gh_i (v2 * 4) ∧ 0 ≤ v2 ∧ v2 < 20 ∧ gh_i ((v2 * 4) + (m 17 v2)) ∧ 0 ≤ (v2 * 4) + (m 17 v2) ∧ ((v2 * 4) + (m 17 v2)) < 80 ∧ 0 ≤ v2 ∧ v2 < 20 ∧ gh_i ((m 17 v2) + 1) ∧ 0 ≤ v2 ∧ v2 < 20 ∧ Q 0 (gh_u (gh_u m 19 ((v2 * 4) + (m 17 v2)) v1) 17 v2 ((m 17 v2) + 1))) ∧ (¬ (¬ (v2 < 0) ∧ ((m 17 v2) < 4)) → Q 0 m))
theorem s_Grammar_addPart {E : gh_E} {m : gh_M} {Q : Int → gh_M → Prop} (d : Nat) (v1 : Int) (hF : gh_F m) (h : w_Grammar_addPart v1 m Q) : gh_C E gh_yGrammar_addPart prog_6_method_5_code 3 none 9 (d + 0) [(2, 13), (0, v1)] m (fun r m1 => gh_F m1 ∧ Q r m1) := by
  refine gh_enter2 (L := [(0, 2, 13), (1, 0, v1)]) (by decide +kernel) gh_rt9 (Nat.le_of_ble_eq_true rfl) rfl rfl ?_
  unfold w_Grammar_addPart at h
  refine gh_aload_n gd_Grammar_addPart_0 0 rfl (by decide) ?_
  refine gf_13_2 gd_Grammar_addPart_1 gh_k186 hF rfl ?_
  refine gh_iconst gd_Grammar_addPart_4 (gh_r0 rfl) ?_
  obtain ⟨q792, h⟩ := h
  refine gh_isub gd_Grammar_addPart_5 q792 ?_
  refine gh_name (fun v2 hn => ?_)
  have h := h v2 hn
  refine gh_istore_n (L2 := [(2, 0, v2), (0, 2, 13), (1, 0, v1)]) gd_Grammar_addPart_6 (by decide) rfl ?_
  refine gh_iload_n gd_Grammar_addPart_7 0 rfl ?_
  obtain ⟨hk, hA, hB⟩ := h
  have k795 : (¬ (v2 < 0) ∧ ((m 17 v2) < 4)) → gh_T E (gh_yGrammar_addPart.cls, prog_6_method_5_code, 3, false, 9) (d + 0) 21 [(2, 0, v2), (0, 2, 13), (1, 0, v1)] [] m (fun r m1 => gh_F m1 ∧ Q r m1) := by
    intro c
    have h := hA c
    refine gh_aload_n gd_Grammar_addPart_21 1 rfl (by decide) ?_
    refine gf_13_8 gd_Grammar_addPart_22 gh_k213 hF ?_
    refine gh_iload_n gd_Grammar_addPart_25 0 rfl ?_
    refine gh_iconst gd_Grammar_addPart_26 (gh_r0 rfl) ?_
    obtain ⟨q797, h⟩ := h
    refine gh_imul gd_Grammar_addPart_27 q797 ?_
    refine gh_aload_n gd_Grammar_addPart_28 1 rfl (by decide) ?_
    refine gf_13_6 gd_Grammar_addPart_29 gh_k204 hF ?_
    refine gh_iload_n gd_Grammar_addPart_32 0 rfl ?_
    obtain ⟨q798, h⟩ := h
    obtain ⟨q799, h⟩ := h
    refine la_17 gd_Grammar_addPart_33 hF q798 q799 rfl ?_
    obtain ⟨q800, h⟩ := h
    refine gh_iadd gd_Grammar_addPart_34 q800 ?_
    refine gh_iload_n gd_Grammar_addPart_35 2 rfl ?_
    obtain ⟨q801, h⟩ := h
    obtain ⟨q802, h⟩ := h
    refine sa_19 gd_Grammar_addPart_36 hF q801 q802 (fun hF => ?_)
    refine gh_aload_n gd_Grammar_addPart_37 1 rfl (by decide) ?_
    refine gf_13_6 gd_Grammar_addPart_38 gh_k204 hF ?_
    refine gh_iload_n gd_Grammar_addPart_41 0 rfl ?_
    refine gh_dup2 gd_Grammar_addPart_42 (by decide) (by decide) ?_
    obtain ⟨q803, h⟩ := h
    obtain ⟨q804, h⟩ := h
    refine la_17 gd_Grammar_addPart_43 hF q803 q804 (gh_u_a (by decide)) ?_
    refine gh_iconst gd_Grammar_addPart_44 (gh_r0 rfl) ?_
    obtain ⟨q805, h⟩ := h
    refine gh_iadd gd_Grammar_addPart_45 q805 ?_
    obtain ⟨q806, h⟩ := h
    obtain ⟨q807, h⟩ := h
    refine sa_17 gd_Grammar_addPart_46 hF q806 q807 (fun hF => ?_)
    exact gh_ret9 rfl gd_Grammar_addPart_47 ⟨hF, h⟩
  have k796 : ¬ (¬ (v2 < 0) ∧ ((m 17 v2) < 4)) → gh_T E (gh_yGrammar_addPart.cls, prog_6_method_5_code, 3, false, 9) (d + 0) 47 [(2, 0, v2), (0, 2, 13), (1, 0, v1)] [] m (fun r m1 => gh_F m1 ∧ Q r m1) := by
    intro c
    have h := hB c
    exact gh_ret9 rfl gd_Grammar_addPart_47 ⟨hF, h⟩
  refine gh_zlt (tgt := 47) gd_Grammar_addPart_8 (by decide) (fun c808 => ?_) (fun c808 => ?_)
  · have hz : True := trivial
    exact k796 (fun z => z.1 c808)
  · have hz : True := trivial
    have hk := hk c808
    refine gh_aload_n gd_Grammar_addPart_11 1 rfl (by decide) ?_
    refine gf_13_6 gd_Grammar_addPart_12 gh_k204 hF ?_
    refine gh_iload_n gd_Grammar_addPart_15 0 rfl ?_
    obtain ⟨q793, hk⟩ := hk
    have q794 := hk
    refine la_17 gd_Grammar_addPart_16 hF q793 q794 rfl ?_
    refine gh_iconst gd_Grammar_addPart_17 (gh_r0 rfl) ?_
    refine gh_jge (tgt := 47) gd_Grammar_addPart_18 (by decide) (fun c809 => ?_) (fun c809 => ?_)
    · have hz : True := trivial
      exact k795 ⟨c808, c809⟩
    · have hz : True := trivial
      exact k796 (fun z => c809 z.2)
def f_Draft_copyRule_13_6 (v2 : Int) (Q : Int → gh_M → Prop) (K6 : Int → gh_M → Prop) (v3 : Int) (m : gh_M) : Prop := 0 ≤ v2 ∧ v2 < 20 ∧ ((((v3 < (m 9 v2)) ∧ (v3 < 4)) → gh_i (v2 * 4) ∧ gh_i ((v2 * 4) + v3) ∧ 0 ≤ (v2 * 4) + v3 ∧ ((v2 * 4) + v3) < 80 ∧ ∀ v4 : Int, v4 = m 10 ((v2 * 4) + v3) → gh_i ((-1) - v4) ∧ ∀ v5 : Int, v5 = (-1) - v4 → ∃ J62 : Int → Prop, (∀ (y0 : Int), J62 y0 → (((v4 ≤ 0) → (gh_i ((-1) - y0)))) ∧ w_Grammar_addPart (if v4 ≤ 0 then ((-1) - y0) else v4) m (fun _ m825 => gh_i (v3 + 1) ∧ K6 (v3 + 1) m825)) ∧ ((v5 < 8 → gh_i ((m 6 1) + v5) ∧ J62 ((m 6 1) + v5)) ∧ (¬ (v5 < 8) → w_Draft_find v5 m (fun r830 => J62 r830)))) ∧ (¬ ((v3 < (m 9 v2)) ∧ (v3 < 4)) → Q 0 m))
def w_Draft_copyRule_13 (v2 : Int) (m : gh_M) (Q : Int → gh_M → Prop) : Prop := w_Grammar_startRule m (fun _ m811 => gh_M1 (fun K6 v3 m => f_Draft_copyRule_13_6 v2 Q K6 v3 m) 0 m811)
theorem b_Draft_copyRule_13_6 {E : gh_E} {v2 : Int} {Q : Int → gh_M → Prop} {K6 : Int → gh_M → Prop} (d : Nat) (hK : ∀ (v3 : Int) (m : gh_M), gh_F m → K6 v3 m → gh_T E (gh_yDraft_copyRule.cls, prog_3_method_12_code, 7, false, 9) (d + 1) 6 [(0, 2, 6), (1, 2, 13), (2, 0, v2), (3, 0, v3)] [] m (fun r m1 => gh_F m1 ∧ Q r m1)) (v3 : Int) (m : gh_M) (hF : gh_F m) (h : f_Draft_copyRule_13_6 v2 Q K6 v3 m) : gh_T E (gh_yDraft_copyRule.cls, prog_3_method_12_code, 7, false, 9) (d + 1) 6 [(0, 2, 6), (1, 2, 13), (2, 0, v2), (3, 0, v3)] [] m (fun r m1 => gh_F m1 ∧ Q r m1) := by
  have hK6 := hK
  unfold f_Draft_copyRule_13_6 at h
  refine gh_iload_n gd_Draft_copyRule_6 3 rfl ?_
  refine gh_aload_n gd_Draft_copyRule_7 0 rfl (by decide) ?_
  refine gf_6_5 gd_Draft_copyRule_8 gh_k124 hF ?_
  refine gh_iload_n gd_Draft_copyRule_11 2 rfl ?_
  obtain ⟨q812, h⟩ := h
  obtain ⟨q813, h⟩ := h
  refine la_9 gd_Draft_copyRule_12 hF q812 q813 rfl ?_
  obtain ⟨hA, hB⟩ := h
  have k814 : ((v3 < (m 9 v2)) ∧ (v3 < 4)) → gh_T E (gh_yDraft_copyRule.cls, prog_3_method_12_code, 7, false, 9) (d + 1) 21 [(0, 2, 6), (1, 2, 13), (2, 0, v2), (3, 0, v3)] [] m (fun r m1 => gh_F m1 ∧ Q r m1) := by
    intro c
    have h := hA c
    refine gh_aload_n gd_Draft_copyRule_21 0 rfl (by decide) ?_
    refine gf_6_6 gd_Draft_copyRule_22 gh_k125 hF ?_
    refine gh_iload_n gd_Draft_copyRule_25 2 rfl ?_
    refine gh_iconst gd_Draft_copyRule_26 (gh_r0 rfl) ?_
    obtain ⟨q816, h⟩ := h
    refine gh_imul gd_Draft_copyRule_27 q816 ?_
    refine gh_iload_n gd_Draft_copyRule_28 3 rfl ?_
    obtain ⟨q817, h⟩ := h
    refine gh_iadd gd_Draft_copyRule_29 q817 ?_
    obtain ⟨q818, h⟩ := h
    obtain ⟨q819, h⟩ := h
    refine la_10 gd_Draft_copyRule_30 hF q818 q819 rfl ?_
    refine gh_name (fun v4 hn => ?_)
    have h := h v4 hn
    refine gh_istore (L2 := [(4, 0, v4), (0, 2, 6), (1, 2, 13), (2, 0, v2), (3, 0, v3)]) gd_Draft_copyRule_31 (by decide) rfl ?_
    refine gh_iconst gd_Draft_copyRule_33 (gh_r0 rfl) ?_
    refine gh_iload gd_Draft_copyRule_34 0 rfl ?_
    obtain ⟨q820, h⟩ := h
    refine gh_isub gd_Draft_copyRule_36 q820 ?_
    refine gh_name (fun v5 hn => ?_)
    have h := h v5 hn
    refine gh_istore (L2 := [(5, 0, v5), (4, 0, v4), (0, 2, 6), (1, 2, 13), (2, 0, v2), (3, 0, v3)]) gd_Draft_copyRule_37 (by decide) rfl ?_
    refine gh_iload gd_Draft_copyRule_39 0 rfl ?_
    refine gh_bipush gd_Draft_copyRule_41 (by decide) (gh_r0 rfl) ?_
    obtain ⟨J62, hJ62, h⟩ := h
    have hJ62 : ∀ (y0 : Int), gh_F m → J62 y0 → gh_T E (gh_yDraft_copyRule.cls, prog_3_method_12_code, 7, false, 9) (d + 1) 62 [(0, 2, 6), (1, 2, 13), (2, 0, v2), (3, 0, v3), (4, 0, v4)] [(0, y0)] m (fun r m1 => gh_F m1 ∧ Q r m1) := by
      intro y0 hF hj
      have h := hJ62 y0 hj
      refine gh_istore (L2 := [(6, 0, y0), (0, 2, 6), (1, 2, 13), (2, 0, v2), (3, 0, v3), (4, 0, v4)]) gd_Draft_copyRule_62 (by decide) rfl ?_
      refine gh_aload_n gd_Draft_copyRule_64 2 rfl (by decide) ?_
      refine gh_iload gd_Draft_copyRule_65 5 rfl ?_
      obtain ⟨hk, h⟩ := h
      have k822 : ∀ x823 : Int, x823 = (if v4 ≤ 0 then ((-1) - y0) else v4) → gh_T E (gh_yDraft_copyRule.cls, prog_3_method_12_code, 7, false, 9) (d + 1) 79 [(6, 0, y0), (0, 2, 6), (1, 2, 13), (2, 0, v2), (3, 0, v3), (4, 0, v4)] [(0, x823), (2, 13)] m (fun r m1 => gh_F m1 ∧ Q r m1) := by
        rintro _ rfl
        refine cv_Grammar_addPart (d := d) gd_Draft_copyRule_79 gh_k737 hF (Nat.le_of_ble_eq_true rfl) (gh_C.mono (s_Grammar_addPart d (if v4 ≤ 0 then ((-1) - y0) else v4) hF h) (fun r824 m825 hq => ?_))
        obtain ⟨hF, h⟩ := hq
        obtain ⟨q826, h⟩ := h
        refine gh_iinc (L2 := [(3, 0, v3 + 1), (6, 0, y0), (0, 2, 6), (1, 2, 13), (2, 0, v2), (4, 0, v4)]) gd_Draft_copyRule_82 4 rfl q826 (by decide) rfl ?_
        refine gh_goto (tgt := 6) gd_Draft_copyRule_85 (by decide) ?_
        refine gh_pick (L2 := [(0, 2, 6), (1, 2, 13), (2, 0, v2), (3, 0, v3 + 1)]) [2, 3, 4, 0] rfl ?_
        exact hK6 (v3 + 1) m825 hF h
      refine gh_zle (tgt := 75) gd_Draft_copyRule_67 (by decide) (fun c827 => ?_) (fun c827 => ?_)
      · have hz : True := trivial
        have hk := hk c827
        refine gh_iconst gd_Draft_copyRule_75 (gh_r0 rfl) ?_
        refine gh_iload gd_Draft_copyRule_76 0 rfl ?_
        have q821 := hk
        refine gh_isub gd_Draft_copyRule_78 q821 ?_
        exact k822 _ (by rw [if_pos c827])
      · have hz : True := trivial
        refine gh_iload gd_Draft_copyRule_70 5 rfl ?_
        refine gh_goto (tgt := 79) gd_Draft_copyRule_72 (by decide) ?_
        exact k822 _ (by rw [if_neg c827])
    obtain ⟨hA, hB⟩ := h
    refine gh_jge (tgt := 56) gd_Draft_copyRule_43 (by decide) (fun c828 => ?_) (fun c828 => ?_)
    · have h := hA c828
      refine gh_aload_n gd_Draft_copyRule_46 2 rfl (by decide) ?_
      refine gf_6_1 gd_Draft_copyRule_47 gh_k118 hF rfl ?_
      refine gh_iload gd_Draft_copyRule_50 0 rfl ?_
      obtain ⟨q829, h⟩ := h
      refine gh_iadd gd_Draft_copyRule_52 q829 ?_
      refine gh_goto (tgt := 62) gd_Draft_copyRule_53 (by decide) ?_
      refine gh_pick (L2 := [(0, 2, 6), (1, 2, 13), (2, 0, v2), (3, 0, v3), (4, 0, v4)]) [2, 3, 4, 5, 1] rfl ?_
      exact hJ62 ((m 6 1) + v5) hF h
    · have h := hB c828
      refine gh_aload_n gd_Draft_copyRule_56 2 rfl (by decide) ?_
      refine gh_iload gd_Draft_copyRule_57 0 rfl ?_
      refine cv_Draft_find (d := d) gd_Draft_copyRule_59 gh_k736 hF (Nat.le_of_ble_eq_true rfl) (gh_C.pw (s_Draft_find d v5 hF h) (fun r830 h => ?_))
      refine gh_pick (L2 := [(0, 2, 6), (1, 2, 13), (2, 0, v2), (3, 0, v3), (4, 0, v4)]) [2, 3, 4, 5, 1] rfl ?_
      exact hJ62 r830 hF h
  have k815 : ¬ ((v3 < (m 9 v2)) ∧ (v3 < 4)) → gh_T E (gh_yDraft_copyRule.cls, prog_3_method_12_code, 7, false, 9) (d + 1) 88 [(0, 2, 6), (1, 2, 13), (2, 0, v2), (3, 0, v3)] [] m (fun r m1 => gh_F m1 ∧ Q r m1) := by
    intro c
    have h := hB c
    exact gh_ret9 rfl gd_Draft_copyRule_88 ⟨hF, h⟩
  refine gh_jge (tgt := 88) gd_Draft_copyRule_13 (by decide) (fun c832 => ?_) (fun c832 => ?_)
  · have hz : True := trivial
    refine gh_iload_n gd_Draft_copyRule_16 3 rfl ?_
    refine gh_iconst gd_Draft_copyRule_17 (gh_r0 rfl) ?_
    refine gh_jge (tgt := 88) gd_Draft_copyRule_18 (by decide) (fun c833 => ?_) (fun c833 => ?_)
    · have hz : True := trivial
      exact k814 ⟨c832, c833⟩
    · have hz : True := trivial
      exact k815 (fun z => c833 z.2)
  · have hz : True := trivial
    exact k815 (fun z => c832 z.1)
theorem s_Draft_copyRule_13 {E : gh_E} {m : gh_M} {Q : Int → gh_M → Prop} (d : Nat) (v2 : Int) (hF : gh_F m) (h : w_Draft_copyRule_13 v2 m Q) : gh_C E gh_yDraft_copyRule prog_3_method_12_code 7 none 9 (d + 1) [(2, 6), (2, 13), (0, v2)] m (fun r m1 => gh_F m1 ∧ Q r m1) := by
  refine gh_enter2 (L := [(0, 2, 6), (1, 2, 13), (2, 0, v2)]) (by decide +kernel) gh_rt9 (Nat.le_of_ble_eq_true rfl) rfl rfl ?_
  unfold w_Draft_copyRule_13 at h
  refine gh_aload_n gd_Draft_copyRule_0 1 rfl (by decide) ?_
  refine cv_Grammar_startRule (d := d) gd_Draft_copyRule_1 gh_k732 hF (Nat.le_of_ble_eq_true rfl) (gh_C.mono (s_Grammar_startRule d hF h) (fun r810 m811 hq => ?_))
  obtain ⟨hF, h⟩ := hq
  refine gh_iconst gd_Draft_copyRule_4 (gh_r0 rfl) ?_
  refine gh_istore_n (L2 := [(3, 0, 0), (0, 2, 6), (1, 2, 13), (2, 0, v2)]) gd_Draft_copyRule_5 (by decide) rfl ?_
  refine gh_pick (L2 := [(0, 2, 6), (1, 2, 13), (2, 0, v2), (3, 0, 0)]) [1, 2, 3, 0] rfl ?_
  exact gh_M1_sound (T := fun v3 m => gh_T E (gh_yDraft_copyRule.cls, prog_3_method_12_code, 7, false, 9) (d + 1) 6 [(0, 2, 6), (1, 2, 13), (2, 0, v2), (3, 0, v3)] [] m (fun r m1 => gh_F m1 ∧ Q r m1)) (fun _ m => gh_F m) (fun K6 v3 m hK hF h => b_Draft_copyRule_13_6 d hK v3 m hF h) 0 m811 hF h
def f_Draft_fill_13_77 (v2 : Int) (v3 : Int) (v4 : Int) (K24 : Int → gh_M → Prop) (K77 : Int → gh_M → Prop) (v5 : Int) (m : gh_M) : Prop := ∃ J118 : gh_M → Prop, (∀ (m : gh_M), J118 m → gh_i (v3 + 1) ∧ K24 (v3 + 1) m) ∧ ((((v5 < (m 6 3)) ∧ (v5 < 20)) → 0 ≤ v5 ∧ v5 < 20 ∧ ∃ J112 : gh_M → Prop, (∀ (m : gh_M), J112 m → gh_i (v5 + 1) ∧ K77 (v5 + 1) m) ∧ (((m 8 v5) = v4 → w_Draft_copyRule_13 v5 m (fun _ m775 => J112 m775)) ∧ (¬ ((m 8 v5) = v4) → J112 m))) ∧ (¬ ((v5 < (m 6 3)) ∧ (v5 < 20)) → J118 m))
def f_Draft_fill_13_24 (v2 : Int) (Q : Int → gh_M → Prop) (K24 : Int → gh_M → Prop) (v3 : Int) (m : gh_M) : Prop := ((v3 < v2 → (((v3 < (m 6 1)) → (0 ≤ v3 ∧ v3 < 8))) ∧ w_Grammar_startName (if v3 < (m 6 1) then (m 7 v3) else 0) m (fun _ m762 => ((¬ (v3 < (m762 6 1)) → (gh_i (8 + v3) ∧ gh_i ((8 + v3) - (m762 6 1))))) ∧ ∀ v4 : Int, v4 = (if v3 < (m762 6 1) then v3 else ((8 + v3) - (m762 6 1))) → gh_M1 (fun K77 v5 m => f_Draft_fill_13_77 v2 v3 v4 K24 K77 v5 m) 0 m762)) ∧ (¬ (v3 < v2) → Q 0 m))
def w_Draft_fill_13 (m : gh_M) (Q : Int → gh_M → Prop) : Prop := w_Grammar_clear m (fun _ m754 => k_Draft_allNames (gh_u m754 13 0 (m754 6 1)) ∧ ∀ v2 : Int, v2 = min (x_Draft_allNames (gh_u m754 13 0 (m754 6 1))) 8 → gh_M1 (fun K24 v3 m => f_Draft_fill_13_24 v2 Q K24 v3 m) 0 (gh_u m754 13 0 (m754 6 1)))
theorem b_Draft_fill_13_77 {E : gh_E} {v2 : Int} {v3 : Int} {v4 : Int} {K24 : Int → gh_M → Prop} {Q : Int → gh_M → Prop} {K77 : Int → gh_M → Prop} (d : Nat) (hK24 : ∀ (v3 : Int) (m : gh_M), gh_F m → K24 v3 m → gh_T E (gh_yDraft_fill.cls, prog_3_method_11_code, 6, false, 9) (d + 2) 24 [(0, 2, 6), (1, 2, 13), (2, 0, v2), (3, 0, v3)] [] m (fun r m1 => gh_F m1 ∧ Q r m1)) (hK : ∀ (v5 : Int) (m : gh_M), gh_F m → K77 v5 m → gh_T E (gh_yDraft_fill.cls, prog_3_method_11_code, 6, false, 9) (d + 2) 77 [(0, 2, 6), (1, 2, 13), (2, 0, v2), (3, 0, v3), (4, 0, v4), (5, 0, v5)] [] m (fun r m1 => gh_F m1 ∧ Q r m1)) (v5 : Int) (m : gh_M) (hF : gh_F m) (h : f_Draft_fill_13_77 v2 v3 v4 K24 K77 v5 m) : gh_T E (gh_yDraft_fill.cls, prog_3_method_11_code, 6, false, 9) (d + 2) 77 [(0, 2, 6), (1, 2, 13), (2, 0, v2), (3, 0, v3), (4, 0, v4), (5, 0, v5)] [] m (fun r m1 => gh_F m1 ∧ Q r m1) := by
  have hK77 := hK
  unfold f_Draft_fill_13_77 at h
  refine gh_iload gd_Draft_fill_77 5 rfl ?_
  refine gh_aload_n gd_Draft_fill_79 0 rfl (by decide) ?_
  refine gf_6_3 gd_Draft_fill_80 gh_k121 hF rfl ?_
  obtain ⟨J118, hJ118, h⟩ := h
  have hJ118 : ∀ (m : gh_M), gh_F m → J118 m → gh_T E (gh_yDraft_fill.cls, prog_3_method_11_code, 6, false, 9) (d + 2) 118 [(0, 2, 6), (1, 2, 13), (2, 0, v2), (3, 0, v3)] [] m (fun r m1 => gh_F m1 ∧ Q r m1) := by
    intro m hF hj
    have h := hJ118 m hj
    obtain ⟨q767, h⟩ := h
    refine gh_iinc (L2 := [(3, 0, v3 + 1), (0, 2, 6), (1, 2, 13), (2, 0, v2)]) gd_Draft_fill_118 3 rfl q767 (by decide) rfl ?_
    refine gh_goto (tgt := 24) gd_Draft_fill_121 (by decide) ?_
    refine gh_pick (L2 := [(0, 2, 6), (1, 2, 13), (2, 0, v2), (3, 0, v3 + 1)]) [1, 2, 3, 0] rfl ?_
    exact hK24 (v3 + 1) m hF h
  obtain ⟨hA, hB⟩ := h
  have k768 : ((v5 < (m 6 3)) ∧ (v5 < 20)) → gh_T E (gh_yDraft_fill.cls, prog_3_method_11_code, 6, false, 9) (d + 2) 93 [(0, 2, 6), (1, 2, 13), (2, 0, v2), (3, 0, v3), (4, 0, v4), (5, 0, v5)] [] m (fun r m1 => gh_F m1 ∧ Q r m1) := by
    intro c
    have h := hA c
    refine gh_aload_n gd_Draft_fill_93 0 rfl (by decide) ?_
    refine gf_6_4 gd_Draft_fill_94 gh_k123 hF ?_
    refine gh_iload gd_Draft_fill_97 5 rfl ?_
    obtain ⟨q770, h⟩ := h
    obtain ⟨q771, h⟩ := h
    refine la_8 gd_Draft_fill_99 hF q770 q771 rfl ?_
    refine gh_iload gd_Draft_fill_100 4 rfl ?_
    obtain ⟨J112, hJ112, h⟩ := h
    have hJ112 : ∀ (m : gh_M), gh_F m → J112 m → gh_T E (gh_yDraft_fill.cls, prog_3_method_11_code, 6, false, 9) (d + 2) 112 [(0, 2, 6), (1, 2, 13), (2, 0, v2), (3, 0, v3), (4, 0, v4), (5, 0, v5)] [] m (fun r m1 => gh_F m1 ∧ Q r m1) := by
      intro m hF hj
      have h := hJ112 m hj
      obtain ⟨q772, h⟩ := h
      refine gh_iinc (L2 := [(5, 0, v5 + 1), (0, 2, 6), (1, 2, 13), (2, 0, v2), (3, 0, v3), (4, 0, v4)]) gd_Draft_fill_112 5 rfl q772 (by decide) rfl ?_
      refine gh_goto (tgt := 77) gd_Draft_fill_115 (by decide) ?_
      refine gh_pick (L2 := [(0, 2, 6), (1, 2, 13), (2, 0, v2), (3, 0, v3), (4, 0, v4), (5, 0, v5 + 1)]) [1, 2, 3, 4, 5, 0] rfl ?_
      exact hK77 (v5 + 1) m hF h
    obtain ⟨hA, hB⟩ := h
    refine gh_jne (tgt := 112) gd_Draft_fill_102 (by decide) (fun c773 => ?_) (fun c773 => ?_)
    · have h := hA c773
      refine gh_aload_n gd_Draft_fill_105 0 rfl (by decide) ?_
      refine gh_aload_n gd_Draft_fill_106 1 rfl (by decide) ?_
      refine gh_iload gd_Draft_fill_107 5 rfl ?_
      refine cv_Draft_copyRule (d := d + 1) gd_Draft_fill_109 gh_k728 hF (Nat.le_of_ble_eq_true rfl) (gh_C.mono (s_Draft_copyRule_13 d v5 hF h) (fun r774 m775 hq => ?_))
      obtain ⟨hF, h⟩ := hq
      exact hJ112 m775 hF h
    · have h := hB c773
      exact hJ112 m hF h
  have k769 : ¬ ((v5 < (m 6 3)) ∧ (v5 < 20)) → gh_T E (gh_yDraft_fill.cls, prog_3_method_11_code, 6, false, 9) (d + 2) 118 [(0, 2, 6), (1, 2, 13), (2, 0, v2), (3, 0, v3), (4, 0, v4), (5, 0, v5)] [] m (fun r m1 => gh_F m1 ∧ Q r m1) := by
    intro c
    have h := hB c
    refine gh_pick (L2 := [(0, 2, 6), (1, 2, 13), (2, 0, v2), (3, 0, v3)]) [0, 1, 2, 3] rfl ?_
    exact hJ118 m hF h
  refine gh_jge (tgt := 118) gd_Draft_fill_83 (by decide) (fun c834 => ?_) (fun c834 => ?_)
  · have hz : True := trivial
    refine gh_iload gd_Draft_fill_86 5 rfl ?_
    refine gh_bipush gd_Draft_fill_88 (by decide) (gh_r0 rfl) ?_
    refine gh_jge (tgt := 118) gd_Draft_fill_90 (by decide) (fun c835 => ?_) (fun c835 => ?_)
    · have hz : True := trivial
      exact k768 ⟨c834, c835⟩
    · have hz : True := trivial
      exact k769 (fun z => c835 z.2)
  · have hz : True := trivial
    exact k769 (fun z => c834 z.1)
theorem b_Draft_fill_13_24 {E : gh_E} {v2 : Int} {Q : Int → gh_M → Prop} {K24 : Int → gh_M → Prop} (d : Nat) (hK : ∀ (v3 : Int) (m : gh_M), gh_F m → K24 v3 m → gh_T E (gh_yDraft_fill.cls, prog_3_method_11_code, 6, false, 9) (d + 2) 24 [(0, 2, 6), (1, 2, 13), (2, 0, v2), (3, 0, v3)] [] m (fun r m1 => gh_F m1 ∧ Q r m1)) (v3 : Int) (m : gh_M) (hF : gh_F m) (h : f_Draft_fill_13_24 v2 Q K24 v3 m) : gh_T E (gh_yDraft_fill.cls, prog_3_method_11_code, 6, false, 9) (d + 2) 24 [(0, 2, 6), (1, 2, 13), (2, 0, v2), (3, 0, v3)] [] m (fun r m1 => gh_F m1 ∧ Q r m1) := by
  have hK24 := hK
  unfold f_Draft_fill_13_24 at h
  refine gh_iload_n gd_Draft_fill_24 3 rfl ?_
  refine gh_iload_n gd_Draft_fill_25 2 rfl ?_
  obtain ⟨hA, hB⟩ := h
  refine gh_jge (tgt := 124) gd_Draft_fill_26 (by decide) (fun c756 => ?_) (fun c756 => ?_)
  · have h := hA c756
    refine gh_aload_n gd_Draft_fill_29 1 rfl (by decide) ?_
    refine gh_iload_n gd_Draft_fill_30 3 rfl ?_
    refine gh_aload_n gd_Draft_fill_31 0 rfl (by decide) ?_
    refine gf_6_1 gd_Draft_fill_32 gh_k118 hF rfl ?_
    obtain ⟨hk, h⟩ := h
    have k759 : ∀ x760 : Int, x760 = (if v3 < (m 6 1) then (m 7 v3) else 0) → gh_T E (gh_yDraft_fill.cls, prog_3_method_11_code, 6, false, 9) (d + 2) 48 [(0, 2, 6), (1, 2, 13), (2, 0, v2), (3, 0, v3)] [(0, x760), (2, 13)] m (fun r m1 => gh_F m1 ∧ Q r m1) := by
      rintro _ rfl
      refine cv_Grammar_startName (d := d + 1) gd_Draft_fill_48 gh_k724 hF (Nat.le_of_ble_eq_true rfl) (gh_C.mono (s_Grammar_startName (d + 1) (if v3 < (m 6 1) then (m 7 v3) else 0) hF h) (fun r761 m762 hq => ?_))
      obtain ⟨hF, h⟩ := hq
      refine gh_iload_n gd_Draft_fill_51 3 rfl ?_
      refine gh_aload_n gd_Draft_fill_52 0 rfl (by decide) ?_
      refine gf_6_1 gd_Draft_fill_53 gh_k118 hF rfl ?_
      obtain ⟨hk, h⟩ := h
      have k765 : ∀ x766 : Int, x766 = (if v3 < (m762 6 1) then v3 else ((8 + v3) - (m762 6 1))) → gh_T E (gh_yDraft_fill.cls, prog_3_method_11_code, 6, false, 9) (d + 2) 72 [(0, 2, 6), (1, 2, 13), (2, 0, v2), (3, 0, v3)] [(0, x766)] m762 (fun r m1 => gh_F m1 ∧ Q r m1) := by
        rintro _ rfl
        refine gh_name (fun v4 hn => ?_)
        have h := h v4 hn
        refine gh_istore (L2 := [(4, 0, v4), (0, 2, 6), (1, 2, 13), (2, 0, v2), (3, 0, v3)]) gd_Draft_fill_72 (by decide) rfl ?_
        refine gh_iconst gd_Draft_fill_74 (gh_r0 rfl) ?_
        refine gh_istore (L2 := [(5, 0, 0), (4, 0, v4), (0, 2, 6), (1, 2, 13), (2, 0, v2), (3, 0, v3)]) gd_Draft_fill_75 (by decide) rfl ?_
        refine gh_pick (L2 := [(0, 2, 6), (1, 2, 13), (2, 0, v2), (3, 0, v3), (4, 0, v4), (5, 0, 0)]) [2, 3, 4, 5, 1, 0] rfl ?_
        exact gh_M1_sound (T := fun v5 m => gh_T E (gh_yDraft_fill.cls, prog_3_method_11_code, 6, false, 9) (d + 2) 77 [(0, 2, 6), (1, 2, 13), (2, 0, v2), (3, 0, v3), (4, 0, v4), (5, 0, v5)] [] m (fun r m1 => gh_F m1 ∧ Q r m1)) (fun _ m => gh_F m) (fun K77 v5 m hK hF h => b_Draft_fill_13_77 d hK24 hK v5 m hF h) 0 m762 hF h
      refine gh_jge (tgt := 63) gd_Draft_fill_56 (by decide) (fun c836 => ?_) (fun c836 => ?_)
      · have hz : True := trivial
        refine gh_iload_n gd_Draft_fill_59 3 rfl ?_
        refine gh_goto (tgt := 72) gd_Draft_fill_60 (by decide) ?_
        exact k765 _ (by rw [if_pos c836])
      · have hz : True := trivial
        have hk := hk c836
        refine gh_bipush gd_Draft_fill_63 (by decide) (gh_r0 rfl) ?_
        refine gh_iload_n gd_Draft_fill_65 3 rfl ?_
        obtain ⟨q763, hk⟩ := hk
        refine gh_iadd gd_Draft_fill_66 q763 ?_
        refine gh_aload_n gd_Draft_fill_67 0 rfl (by decide) ?_
        refine gf_6_1 gd_Draft_fill_68 gh_k118 hF rfl ?_
        have q764 := hk
        refine gh_isub gd_Draft_fill_71 q764 ?_
        exact k765 _ (by rw [if_neg c836])
    refine gh_jge (tgt := 47) gd_Draft_fill_35 (by decide) (fun c837 => ?_) (fun c837 => ?_)
    · have hz : True := trivial
      have hk := hk c837
      refine gh_aload_n gd_Draft_fill_38 0 rfl (by decide) ?_
      refine gf_6_0 gd_Draft_fill_39 gh_k117 hF ?_
      refine gh_iload_n gd_Draft_fill_42 3 rfl ?_
      obtain ⟨q757, hk⟩ := hk
      have q758 := hk
      refine la_7 gd_Draft_fill_43 hF q757 q758 rfl ?_
      refine gh_goto (tgt := 48) gd_Draft_fill_44 (by decide) ?_
      exact k759 _ (by rw [if_pos c837])
    · have hz : True := trivial
      refine gh_iconst gd_Draft_fill_47 (gh_r0 rfl) ?_
      exact k759 _ (by rw [if_neg c837])
  · have h := hB c756
    exact gh_ret9 rfl gd_Draft_fill_124 ⟨hF, h⟩
theorem s_Draft_fill_13 {E : gh_E} {m : gh_M} {Q : Int → gh_M → Prop} (d : Nat) (hF : gh_F m) (h : w_Draft_fill_13 m Q) : gh_C E gh_yDraft_fill prog_3_method_11_code 6 none 9 (d + 2) [(2, 6), (2, 13)] m (fun r m1 => gh_F m1 ∧ Q r m1) := by
  refine gh_enter2 (L := [(0, 2, 6), (1, 2, 13)]) (by decide +kernel) gh_rt9 (Nat.le_of_ble_eq_true rfl) rfl rfl ?_
  unfold w_Draft_fill_13 at h
  refine gh_aload_n gd_Draft_fill_0 1 rfl (by decide) ?_
  refine cv_Grammar_clear (d := d + 1) gd_Draft_fill_1 gh_k718 hF (Nat.le_of_ble_eq_true rfl) (gh_C.mono (s_Grammar_clear (d + 1) hF h) (fun r753 m754 hq => ?_))
  obtain ⟨hF, h⟩ := hq
  refine gh_aload_n gd_Draft_fill_4 1 rfl (by decide) ?_
  refine gh_aload_n gd_Draft_fill_5 0 rfl (by decide) ?_
  refine gf_6_1 gd_Draft_fill_6 gh_k118 hF rfl ?_
  refine pf_13_0 gd_Draft_fill_9 gh_k180 hF (fun hF => ?_)
  refine gh_aload_n gd_Draft_fill_12 0 rfl (by decide) ?_
  obtain ⟨q755, h⟩ := h
  refine cv_Draft_allNames (d := d + 1) gd_Draft_fill_13 gh_k722 hF (Nat.le_of_ble_eq_true rfl) (gh_C.pe (e_Draft_allNames (d + 1)  hF q755) ?_)
  refine gh_bipush gd_Draft_fill_16 (by decide) (gh_r0 rfl) ?_
  refine gh_pr_min gd_Draft_fill_18 gh_k723 (Nat.le_of_ble_eq_true rfl) ?_
  refine gh_name (fun v2 hn => ?_)
  have h := h v2 hn
  refine gh_istore_n (L2 := [(2, 0, v2), (0, 2, 6), (1, 2, 13)]) gd_Draft_fill_21 (by decide) rfl ?_
  refine gh_iconst gd_Draft_fill_22 (gh_r0 rfl) ?_
  refine gh_istore_n (L2 := [(3, 0, 0), (2, 0, v2), (0, 2, 6), (1, 2, 13)]) gd_Draft_fill_23 (by decide) rfl ?_
  refine gh_pick (L2 := [(0, 2, 6), (1, 2, 13), (2, 0, v2), (3, 0, 0)]) [2, 3, 1, 0] rfl ?_
  exact gh_M1_sound (T := fun v3 m => gh_T E (gh_yDraft_fill.cls, prog_3_method_11_code, 6, false, 9) (d + 2) 24 [(0, 2, 6), (1, 2, 13), (2, 0, v2), (3, 0, v3)] [] m (fun r m1 => gh_F m1 ∧ Q r m1)) (fun _ m => gh_F m) (fun K24 v3 m hK hF h => b_Draft_fill_13_24 d hK v3 m hF h) 0 (gh_u m754 13 0 (m754 6 1)) hF h
def w_House_read (m : gh_M) (Q : Int → gh_M → Prop) : Prop := w_Reader_run m (fun r739 m740 => ((r739 = 0 → gh_i ((-10) - (m740 5 1)) ∧ Q ((-10) - (m740 5 1)) m740) ∧ (¬ (r739 = 0) → w_Draft_fill_13 m740 (fun _ m744 => w_Facts_find m744 (fun _ m839 => w_House_textChanged (-1) (gh_u (gh_u (gh_u m839 2 10 1) 26 3 0) 58 2 0) (fun _ m841 => Q (m841 13 2) m841))))))
theorem s_House_read {E : gh_E} {m : gh_M} {Q : Int → gh_M → Prop} (d : Nat) (hF : gh_F m) (h : w_House_read m Q) : gh_C E gh_yHouse_read prog_1_method_5_code 1 (some .int) 0 (d + 6) [(2, 2)] m (fun r m1 => gh_F m1 ∧ Q r m1) := by
  refine gh_enter2 (L := [(0, 2, 2)]) (by decide +kernel) gh_rt0 (Nat.le_of_ble_eq_true rfl) rfl rfl ?_
  unfold w_House_read at h
  refine gh_aload_n gd_House_read_0 0 rfl (by decide) ?_
  refine gf_2_1 gd_House_read_1 gh_k541 hF ?_
  refine cv_Reader_run (d := d + 5) gd_House_read_4 gh_k578 hF (Nat.le_of_ble_eq_true rfl) (gh_C.mono (s_Reader_run (d + 1) hF h) (fun r739 m740 hq => ?_))
  obtain ⟨hF, h⟩ := hq
  obtain ⟨hA, hB⟩ := h
  refine gh_zne (tgt := 21) gd_House_read_7 (by decide) (fun c741 => ?_) (fun c741 => ?_)
  · have h := hA c741
    refine gh_bipush gd_House_read_10 (by decide) (gh_r0 rfl) ?_
    refine gh_aload_n gd_House_read_12 0 rfl (by decide) ?_
    refine gf_2_1 gd_House_read_13 gh_k541 hF ?_
    refine gf_5_1 gd_House_read_16 gh_k144 hF rfl ?_
    obtain ⟨q742, h⟩ := h
    refine gh_isub gd_House_read_19 q742 ?_
    exact gh_ret0 rfl gd_House_read_20 ⟨hF, h⟩
  · have h := hB c741
    refine gh_aload_n gd_House_read_21 0 rfl (by decide) ?_
    refine gf_2_1 gd_House_read_22 gh_k541 hF ?_
    refine gf_5_0 gd_House_read_25 gh_k142 hF ?_
    refine gh_aload_n gd_House_read_28 0 rfl (by decide) ?_
    refine gf_2_2 gd_House_read_29 gh_k542 hF ?_
    refine cv_Draft_fill (d := d + 5) gd_House_read_32 gh_k714 hF (Nat.le_of_ble_eq_true rfl) (gh_C.mono (s_Draft_fill_13 (d + 3) hF h) (fun r743 m744 hq => ?_))
    obtain ⟨hF, h⟩ := hq
    refine gh_aload_n gd_House_read_35 0 rfl (by decide) ?_
    refine gf_2_3 gd_House_read_36 gh_k543 hF ?_
    refine cv_Facts_find (d := d + 5) gd_House_read_39 gh_k741 hF (Nat.le_of_ble_eq_true rfl) (gh_C.mono (s_Facts_find d hF h) (fun r838 m839 hq => ?_))
    obtain ⟨hF, h⟩ := hq
    refine gh_aload_n gd_House_read_42 0 rfl (by decide) ?_
    refine gh_iconst gd_House_read_43 (gh_r0 rfl) ?_
    refine pf_2_10 gd_House_read_44 gh_k550 hF (by decide) (fun hF => ?_)
    refine gh_aload_n gd_House_read_47 0 rfl (by decide) ?_
    refine gf_2_4 gd_House_read_48 gh_k544 hF ?_
    refine gh_iconst gd_House_read_51 (gh_r0 rfl) ?_
    refine pf_26_3 gd_House_read_52 gh_k297 hF (fun hF => ?_)
    refine gh_aload_n gd_House_read_55 0 rfl (by decide) ?_
    refine gf_2_9 gd_House_read_56 gh_k549 hF ?_
    refine gh_iconst gd_House_read_59 (gh_r0 rfl) ?_
    refine pf_58_2 gd_House_read_60 gh_k510 hF (by decide) (fun hF => ?_)
    refine gh_aload_n gd_House_read_63 0 rfl (by decide) ?_
    refine gh_iconst gd_House_read_64 (gh_r0 rfl) ?_
    refine cv_House_textChanged (d := d + 5) gd_House_read_65 gh_k823 hF (Nat.le_of_ble_eq_true rfl) (gh_C.mono (s_House_textChanged (d + 3) (-1) hF h) (fun r840 m841 hq => ?_))
    obtain ⟨hF, h⟩ := hq
    refine gh_aload_n gd_House_read_68 0 rfl (by decide) ?_
    refine gf_2_2 gd_House_read_69 gh_k542 hF ?_
    refine gf_13_2 gd_House_read_72 gh_k190 hF rfl ?_
    exact gh_ret0 rfl gd_House_read_75 ⟨hF, h⟩
def w_House_fault (v1 : Int) (m : gh_M) (Q : Int → Prop) : Prop := ((v1 = 0 → Q (m 5 1)) ∧ ((v1 = 1 → Q (m 5 2)) ∧ (¬ (v1 = 0) → ¬ (v1 = 1) → Q (-1002))))
theorem s_House_fault {E : gh_E} {m : gh_M} {Q : Int → Prop} (d : Nat) (v1 : Int) (hF : gh_F m) (h : w_House_fault v1 m Q) : gh_C E gh_yHouse_fault prog_1_method_6_code 2 (some .int) 0 (d + 0) [(2, 2), (0, v1)] m (fun r m1 => m1 = m ∧ Q r) := by
  refine gh_enter2 (L := [(0, 2, 2), (1, 0, v1)]) (by decide +kernel) gh_rt0 (Nat.le_of_ble_eq_true rfl) rfl rfl ?_
  unfold w_House_fault at h
  refine gh_iload_n gd_House_fault_0 1 rfl ?_
  obtain ⟨hA, h⟩ := h
  by_cases c842 : v1 = 0
  · have h := hA c842
    refine gh_lookup (tgt := 28) gd_House_fault_1 (by decide) (by rw [c842]; decide) ?_
    refine gh_aload_n gd_House_fault_28 0 rfl (by decide) ?_
    refine gf_2_1 gd_House_fault_29 gh_k541 hF ?_
    refine gf_5_1 gd_House_fault_32 gh_k144 hF rfl ?_
    exact gh_ret0 rfl gd_House_fault_35 ⟨rfl, h⟩
  obtain ⟨hA, h⟩ := h
  by_cases c843 : v1 = 1
  · have h := hA c843
    refine gh_lookup (tgt := 36) gd_House_fault_1 (by decide) (by rw [c843]; decide) ?_
    refine gh_aload_n gd_House_fault_36 0 rfl (by decide) ?_
    refine gf_2_1 gd_House_fault_37 gh_k541 hF ?_
    refine gf_5_2 gd_House_fault_40 gh_k146 hF rfl ?_
    exact gh_ret0 rfl gd_House_fault_43 ⟨rfl, h⟩
  have n844 : ¬ (v1 = 0) := c842
  have n845 : ¬ (v1 = 1) := c843
  refine gh_lookup (tgt := 44) gd_House_fault_1 (by decide) (by simp [Op.lookupswitch.offset]; rw [if_neg (Ne.symm n844), if_neg (Ne.symm n845)]; rfl) ?_
  have h := h c842 c843
  refine gh_sipush gd_House_fault_44 (by decide) (gh_r0 rfl) ?_
  exact gh_ret0 rfl gd_House_fault_47 ⟨rfl, h⟩
def f_Grammar_allParts_4 (Q : Int → Prop) (m : gh_M) (K4 : Int → Int → Prop) (v1 : Int) (v2 : Int) : Prop := ((v2 < (m 13 2) → 0 ≤ v2 ∧ v2 < 20 ∧ gh_i (v1 + (m 17 v2)) ∧ ∀ v1' : Int, v1' = v1 + (m 17 v2) → gh_i (v2 + 1) ∧ K4 v1' (v2 + 1)) ∧ (¬ (v2 < (m 13 2)) → Q v1))
def w_Grammar_allParts (m : gh_M) (Q : Int → Prop) : Prop := gh_L2 (fun K4 v1 v2 => f_Grammar_allParts_4 Q m K4 v1 v2) 0 0
theorem b_Grammar_allParts_4 {E : gh_E} {Q : Int → Prop} {K4 : Int → Int → Prop} (d : Nat) {m : gh_M} (hK : ∀ (v1 : Int) (v2 : Int), gh_F m → K4 v1 v2 → gh_T E (gh_yGrammar_allParts.cls, prog_6_method_10_code, 3, false, 0) (d + 0) 4 [(0, 2, 13), (1, 0, v1), (2, 0, v2)] [] m (fun r m1 => m1 = m ∧ Q r)) (v1 : Int) (v2 : Int) (hF : gh_F m) (h : f_Grammar_allParts_4 Q m K4 v1 v2) : gh_T E (gh_yGrammar_allParts.cls, prog_6_method_10_code, 3, false, 0) (d + 0) 4 [(0, 2, 13), (1, 0, v1), (2, 0, v2)] [] m (fun r m1 => m1 = m ∧ Q r) := by
  have hK4 := hK
  unfold f_Grammar_allParts_4 at h
  refine gh_iload_n gd_Grammar_allParts_4 2 rfl ?_
  refine gh_aload_n gd_Grammar_allParts_5 0 rfl (by decide) ?_
  refine gf_13_2 gd_Grammar_allParts_6 gh_k186 hF rfl ?_
  obtain ⟨hA, hB⟩ := h
  refine gh_jge (tgt := 27) gd_Grammar_allParts_9 (by decide) (fun c846 => ?_) (fun c846 => ?_)
  · have h := hA c846
    refine gh_iload_n gd_Grammar_allParts_12 1 rfl ?_
    refine gh_aload_n gd_Grammar_allParts_13 0 rfl (by decide) ?_
    refine gf_13_6 gd_Grammar_allParts_14 gh_k204 hF ?_
    refine gh_iload_n gd_Grammar_allParts_17 2 rfl ?_
    obtain ⟨q847, h⟩ := h
    obtain ⟨q848, h⟩ := h
    refine la_17 gd_Grammar_allParts_18 hF q847 q848 rfl ?_
    obtain ⟨q849, h⟩ := h
    refine gh_iadd gd_Grammar_allParts_19 q849 ?_
    refine gh_name (fun v1' hn => ?_)
    have h := h v1' hn
    refine gh_istore_n (L2 := [(1, 0, v1'), (0, 2, 13), (2, 0, v2)]) gd_Grammar_allParts_20 (by decide) rfl ?_
    obtain ⟨q850, h⟩ := h
    refine gh_iinc (L2 := [(2, 0, v2 + 1), (1, 0, v1'), (0, 2, 13)]) gd_Grammar_allParts_21 2 rfl q850 (by decide) rfl ?_
    refine gh_goto (tgt := 4) gd_Grammar_allParts_24 (by decide) ?_
    refine gh_pick (L2 := [(0, 2, 13), (1, 0, v1'), (2, 0, v2 + 1)]) [2, 1, 0] rfl ?_
    exact hK4 v1' (v2 + 1) hF h
  · have h := hB c846
    refine gh_iload_n gd_Grammar_allParts_27 1 rfl ?_
    exact gh_ret0 rfl gd_Grammar_allParts_28 ⟨rfl, h⟩
theorem s_Grammar_allParts {E : gh_E} {m : gh_M} {Q : Int → Prop} (d : Nat) (hF : gh_F m) (h : w_Grammar_allParts m Q) : gh_C E gh_yGrammar_allParts prog_6_method_10_code 3 (some .int) 0 (d + 0) [(2, 13)] m (fun r m1 => m1 = m ∧ Q r) := by
  refine gh_enter2 (L := [(0, 2, 13)]) (by decide +kernel) gh_rt0 (Nat.le_of_ble_eq_true rfl) rfl rfl ?_
  unfold w_Grammar_allParts at h
  refine gh_iconst gd_Grammar_allParts_0 (gh_r0 rfl) ?_
  refine gh_istore_n (L2 := [(1, 0, 0), (0, 2, 13)]) gd_Grammar_allParts_1 (by decide) rfl ?_
  refine gh_iconst gd_Grammar_allParts_2 (gh_r0 rfl) ?_
  refine gh_istore_n (L2 := [(2, 0, 0), (1, 0, 0), (0, 2, 13)]) gd_Grammar_allParts_3 (by decide) rfl ?_
  refine gh_pick (L2 := [(0, 2, 13), (1, 0, 0), (2, 0, 0)]) [2, 1, 0] rfl ?_
  exact gh_L2_sound (T := fun v1 v2 => gh_T E (gh_yGrammar_allParts.cls, prog_6_method_10_code, 3, false, 0) (d + 0) 4 [(0, 2, 13), (1, 0, v1), (2, 0, v2)] [] m (fun r m1 => m1 = m ∧ Q r)) (fun _ _ => gh_F m) (fun K4 v1 v2 hK hF h => b_Grammar_allParts_4 d hK v1 v2 hF h) 0 0 hF h
def f_Facts_clashes_31 (v1 : Int) (v2 : Int) (K4 : Int → Int → Prop) (m : gh_M) (K31 : Int → Int → Int → Prop) (v3 : Int) (v4 : Int) (v5 : Int) : Prop := k_Grammar_behindRules v2 m ∧ ((v5 < (x_Grammar_behindRules v2 m) → 0 ≤ v5 ∧ v5 < 20 ∧ ∀ v4' : Int, v4' = gh_ior_f v4 (gh_iand_f v3 (m 25 v5)) → 0 ≤ v5 ∧ v5 < 20 ∧ ∀ v3' : Int, v3' = gh_ior_f v3 (m 25 v5) → gh_i (v5 + 1) ∧ K31 v3' v4' (v5 + 1)) ∧ (¬ (v5 < (x_Grammar_behindRules v2 m)) → gh_i (v1 + (gh_pop v4)) ∧ ∀ v1' : Int, v1' = v1 + (gh_pop v4) → gh_i (v2 + 1) ∧ K4 v1' (v2 + 1)))
def f_Facts_clashes_4 (Q : Int → Prop) (m : gh_M) (K4 : Int → Int → Prop) (v1 : Int) (v2 : Int) : Prop := ((v2 < (m 13 1) → 0 ≤ v2 ∧ v2 < 8 ∧ ∀ v5 : Int, v5 = m 14 v2 → gh_L3 (fun K31 v3 v4 v5 => f_Facts_clashes_31 v1 v2 K4 m K31 v3 v4 v5) 0 0 v5) ∧ (¬ (v2 < (m 13 1)) → Q v1))
def w_Facts_clashes (m : gh_M) (Q : Int → Prop) : Prop := gh_L2 (fun K4 v1 v2 => f_Facts_clashes_4 Q m K4 v1 v2) 0 0
theorem b_Facts_clashes_31 {E : gh_E} {v1 : Int} {v2 : Int} {K4 : Int → Int → Prop} {Q : Int → Prop} {K31 : Int → Int → Int → Prop} (d : Nat) {m : gh_M} (hK4 : ∀ (v1 : Int) (v2 : Int), gh_F m → K4 v1 v2 → gh_T E (gh_yFacts_clashes.cls, prog_4_method_19_code, 6, false, 0) (d + 1) 4 [(0, 2, 20), (1, 0, v1), (2, 0, v2)] [] m (fun r m1 => m1 = m ∧ Q r)) (hK : ∀ (v3 : Int) (v4 : Int) (v5 : Int), gh_F m → K31 v3 v4 v5 → gh_T E (gh_yFacts_clashes.cls, prog_4_method_19_code, 6, false, 0) (d + 1) 31 [(0, 2, 20), (1, 0, v1), (2, 0, v2), (3, 0, v3), (4, 0, v4), (5, 0, v5)] [] m (fun r m1 => m1 = m ∧ Q r)) (v3 : Int) (v4 : Int) (v5 : Int) (hF : gh_F m) (h : f_Facts_clashes_31 v1 v2 K4 m K31 v3 v4 v5) : gh_T E (gh_yFacts_clashes.cls, prog_4_method_19_code, 6, false, 0) (d + 1) 31 [(0, 2, 20), (1, 0, v1), (2, 0, v2), (3, 0, v3), (4, 0, v4), (5, 0, v5)] [] m (fun r m1 => m1 = m ∧ Q r) := by
  have hK31 := hK
  unfold f_Facts_clashes_31 at h
  refine gh_iload gd_Facts_clashes_31 5 rfl ?_
  refine gh_aload_n gd_Facts_clashes_33 0 rfl (by decide) ?_
  refine gf_20_0 gd_Facts_clashes_34 gh_k239 hF ?_
  refine gh_iload_n gd_Facts_clashes_37 2 rfl ?_
  obtain ⟨q854, h⟩ := h
  refine cv_Grammar_behindRules (d := d) gd_Facts_clashes_38 gh_k853 hF (Nat.le_of_ble_eq_true rfl) (gh_C.pe (e_Grammar_behindRules d v2 hF q854) ?_)
  obtain ⟨hA, hB⟩ := h
  refine gh_jge (tgt := 74) gd_Facts_clashes_41 (by decide) (fun c855 => ?_) (fun c855 => ?_)
  · have h := hA c855
    refine gh_iload gd_Facts_clashes_44 4 rfl ?_
    refine gh_iload_n gd_Facts_clashes_46 3 rfl ?_
    refine gh_aload_n gd_Facts_clashes_47 0 rfl (by decide) ?_
    refine gf_20_10 gd_Facts_clashes_48 gh_k260 hF ?_
    refine gh_iload gd_Facts_clashes_51 5 rfl ?_
    obtain ⟨q856, h⟩ := h
    obtain ⟨q857, h⟩ := h
    refine la_25 gd_Facts_clashes_53 hF q856 q857 rfl ?_
    refine gh_iand gd_Facts_clashes_54 ?_
    refine gh_ior gd_Facts_clashes_55 ?_
    refine gh_name (fun v4' hn => ?_)
    have h := h v4' hn
    refine gh_istore (L2 := [(4, 0, v4'), (0, 2, 20), (1, 0, v1), (2, 0, v2), (3, 0, v3), (5, 0, v5)]) gd_Facts_clashes_56 (by decide) rfl ?_
    refine gh_iload_n gd_Facts_clashes_58 4 rfl ?_
    refine gh_aload_n gd_Facts_clashes_59 1 rfl (by decide) ?_
    refine gf_20_10 gd_Facts_clashes_60 gh_k260 hF ?_
    refine gh_iload gd_Facts_clashes_63 5 rfl ?_
    obtain ⟨q858, h⟩ := h
    obtain ⟨q859, h⟩ := h
    refine la_25 gd_Facts_clashes_65 hF q858 q859 rfl ?_
    refine gh_ior gd_Facts_clashes_66 ?_
    refine gh_name (fun v3' hn => ?_)
    have h := h v3' hn
    refine gh_istore_n (L2 := [(3, 0, v3'), (4, 0, v4'), (0, 2, 20), (1, 0, v1), (2, 0, v2), (5, 0, v5)]) gd_Facts_clashes_67 (by decide) rfl ?_
    obtain ⟨q860, h⟩ := h
    refine gh_iinc (L2 := [(5, 0, v5 + 1), (3, 0, v3'), (4, 0, v4'), (0, 2, 20), (1, 0, v1), (2, 0, v2)]) gd_Facts_clashes_68 5 rfl q860 (by decide) rfl ?_
    refine gh_goto (tgt := 31) gd_Facts_clashes_71 (by decide) ?_
    refine gh_pick (L2 := [(0, 2, 20), (1, 0, v1), (2, 0, v2), (3, 0, v3'), (4, 0, v4'), (5, 0, v5 + 1)]) [3, 4, 5, 1, 2, 0] rfl ?_
    exact hK31 v3' v4' (v5 + 1) hF h
  · have h := hB c855
    refine gh_iload_n gd_Facts_clashes_74 1 rfl ?_
    refine gh_iload gd_Facts_clashes_75 4 rfl ?_
    refine gh_pr_gh_pop gd_Facts_clashes_77 gh_k857 (Nat.le_of_ble_eq_true rfl) ?_
    obtain ⟨q861, h⟩ := h
    refine gh_iadd gd_Facts_clashes_80 q861 ?_
    refine gh_name (fun v1' hn => ?_)
    have h := h v1' hn
    refine gh_istore_n (L2 := [(1, 0, v1'), (0, 2, 20), (2, 0, v2), (3, 0, v3), (4, 0, v4), (5, 0, v5)]) gd_Facts_clashes_81 (by decide) rfl ?_
    obtain ⟨q862, h⟩ := h
    refine gh_iinc (L2 := [(2, 0, v2 + 1), (1, 0, v1'), (0, 2, 20), (3, 0, v3), (4, 0, v4), (5, 0, v5)]) gd_Facts_clashes_82 2 rfl q862 (by decide) rfl ?_
    refine gh_goto (tgt := 4) gd_Facts_clashes_85 (by decide) ?_
    refine gh_pick (L2 := [(0, 2, 20), (1, 0, v1'), (2, 0, v2 + 1)]) [2, 1, 0] rfl ?_
    exact hK4 v1' (v2 + 1) hF h
theorem b_Facts_clashes_4 {E : gh_E} {Q : Int → Prop} {K4 : Int → Int → Prop} (d : Nat) {m : gh_M} (hK : ∀ (v1 : Int) (v2 : Int), gh_F m → K4 v1 v2 → gh_T E (gh_yFacts_clashes.cls, prog_4_method_19_code, 6, false, 0) (d + 1) 4 [(0, 2, 20), (1, 0, v1), (2, 0, v2)] [] m (fun r m1 => m1 = m ∧ Q r)) (v1 : Int) (v2 : Int) (hF : gh_F m) (h : f_Facts_clashes_4 Q m K4 v1 v2) : gh_T E (gh_yFacts_clashes.cls, prog_4_method_19_code, 6, false, 0) (d + 1) 4 [(0, 2, 20), (1, 0, v1), (2, 0, v2)] [] m (fun r m1 => m1 = m ∧ Q r) := by
  have hK4 := hK
  unfold f_Facts_clashes_4 at h
  refine gh_iload_n gd_Facts_clashes_4 2 rfl ?_
  refine gh_aload_n gd_Facts_clashes_5 0 rfl (by decide) ?_
  refine gf_20_0 gd_Facts_clashes_6 gh_k239 hF ?_
  refine gf_13_1 gd_Facts_clashes_9 gh_k182 hF rfl ?_
  obtain ⟨hA, hB⟩ := h
  refine gh_jge (tgt := 88) gd_Facts_clashes_12 (by decide) (fun c851 => ?_) (fun c851 => ?_)
  · have h := hA c851
    refine gh_iconst gd_Facts_clashes_15 (gh_r0 rfl) ?_
    refine gh_istore_n (L2 := [(3, 0, 0), (0, 2, 20), (1, 0, v1), (2, 0, v2)]) gd_Facts_clashes_16 (by decide) rfl ?_
    refine gh_iconst gd_Facts_clashes_17 (gh_r0 rfl) ?_
    refine gh_istore (L2 := [(4, 0, 0), (3, 0, 0), (0, 2, 20), (1, 0, v1), (2, 0, v2)]) gd_Facts_clashes_18 (by decide) rfl ?_
    refine gh_aload_n gd_Facts_clashes_20 2 rfl (by decide) ?_
    refine gf_20_0 gd_Facts_clashes_21 gh_k239 hF ?_
    refine gf_13_3 gd_Facts_clashes_24 gh_k196 hF ?_
    refine gh_iload_n gd_Facts_clashes_27 4 rfl ?_
    obtain ⟨q852, h⟩ := h
    obtain ⟨q853, h⟩ := h
    refine la_14 gd_Facts_clashes_28 hF q852 q853 rfl ?_
    refine gh_name (fun v5 hn => ?_)
    have h := h v5 hn
    refine gh_istore (L2 := [(5, 0, v5), (4, 0, 0), (3, 0, 0), (0, 2, 20), (1, 0, v1), (2, 0, v2)]) gd_Facts_clashes_29 (by decide) rfl ?_
    refine gh_pick (L2 := [(0, 2, 20), (1, 0, v1), (2, 0, v2), (3, 0, 0), (4, 0, 0), (5, 0, v5)]) [3, 4, 5, 2, 1, 0] rfl ?_
    exact gh_L3_sound (T := fun v3 v4 v5 => gh_T E (gh_yFacts_clashes.cls, prog_4_method_19_code, 6, false, 0) (d + 1) 31 [(0, 2, 20), (1, 0, v1), (2, 0, v2), (3, 0, v3), (4, 0, v4), (5, 0, v5)] [] m (fun r m1 => m1 = m ∧ Q r)) (fun _ _ _ => gh_F m) (fun K31 v3 v4 v5 hK hF h => b_Facts_clashes_31 d hK4 hK v3 v4 v5 hF h) 0 0 v5 hF h
  · have h := hB c851
    refine gh_iload_n gd_Facts_clashes_88 1 rfl ?_
    exact gh_ret0 rfl gd_Facts_clashes_89 ⟨rfl, h⟩
theorem s_Facts_clashes {E : gh_E} {m : gh_M} {Q : Int → Prop} (d : Nat) (hF : gh_F m) (h : w_Facts_clashes m Q) : gh_C E gh_yFacts_clashes prog_4_method_19_code 6 (some .int) 0 (d + 1) [(2, 20)] m (fun r m1 => m1 = m ∧ Q r) := by
  refine gh_enter2 (L := [(0, 2, 20)]) (by decide +kernel) gh_rt0 (Nat.le_of_ble_eq_true rfl) rfl rfl ?_
  unfold w_Facts_clashes at h
  refine gh_iconst gd_Facts_clashes_0 (gh_r0 rfl) ?_
  refine gh_istore_n (L2 := [(1, 0, 0), (0, 2, 20)]) gd_Facts_clashes_1 (by decide) rfl ?_
  refine gh_iconst gd_Facts_clashes_2 (gh_r0 rfl) ?_
  refine gh_istore_n (L2 := [(2, 0, 0), (1, 0, 0), (0, 2, 20)]) gd_Facts_clashes_3 (by decide) rfl ?_
  refine gh_pick (L2 := [(0, 2, 20), (1, 0, 0), (2, 0, 0)]) [2, 1, 0] rfl ?_
  exact gh_L2_sound (T := fun v1 v2 => gh_T E (gh_yFacts_clashes.cls, prog_4_method_19_code, 6, false, 0) (d + 1) 4 [(0, 2, 20), (1, 0, v1), (2, 0, v2)] [] m (fun r m1 => m1 = m ∧ Q r)) (fun _ _ => gh_F m) (fun K4 v1 v2 hK hF h => b_Facts_clashes_4 d hK v1 v2 hF h) 0 0 hF h
def w_House_sum (v1 : Int) (m : gh_M) (Q : Int → Prop) : Prop := (((¬ (v1 < 0) ∧ (v1 ≤ 6)) → (((m 2 10) = 0 → Q (-1003)) ∧ (¬ ((m 2 10) = 0) → ((v1 = 0 → Q (m 13 0)) ∧ ((v1 = 1 → Q (m 13 1)) ∧ ((v1 = 2 → Q (m 13 2)) ∧ ((v1 = 3 → w_Grammar_allParts m (fun r870 => Q r870)) ∧ ((v1 = 4 → Q (m 26 3)) ∧ ((v1 = 5 → w_Facts_clashes m (fun r874 => Q r874)) ∧ (¬ (v1 = 0) → ¬ (v1 = 1) → ¬ (v1 = 2) → ¬ (v1 = 3) → ¬ (v1 = 4) → ¬ (v1 = 5) → Q (m 47 4))))))))))) ∧ (¬ (¬ (v1 < 0) ∧ (v1 ≤ 6)) → Q (-1002)))
theorem s_House_sum {E : gh_E} {m : gh_M} {Q : Int → Prop} (d : Nat) (v1 : Int) (hF : gh_F m) (h : w_House_sum v1 m Q) : gh_C E gh_yHouse_sum prog_1_method_7_code 2 (some .int) 0 (d + 2) [(2, 2), (0, v1)] m (fun r m1 => m1 = m ∧ Q r) := by
  refine gh_enter2 (L := [(0, 2, 2), (1, 0, v1)]) (by decide +kernel) gh_rt0 (Nat.le_of_ble_eq_true rfl) rfl rfl ?_
  unfold w_House_sum at h
  refine gh_iload_n gd_House_sum_0 1 rfl ?_
  obtain ⟨hA, hB⟩ := h
  have k863 : (¬ (v1 < 0) ∧ (v1 ≤ 6)) → gh_T E (gh_yHouse_sum.cls, prog_1_method_7_code, 2, false, 0) (d + 2) 14 [(0, 2, 2), (1, 0, v1)] [] m (fun r m1 => m1 = m ∧ Q r) := by
    intro c
    have h := hA c
    refine gh_aload_n gd_House_sum_14 0 rfl (by decide) ?_
    refine gf_2_10 gd_House_sum_15 gh_k550 hF rfl ?_
    obtain ⟨hA, hB⟩ := h
    refine gh_zne (tgt := 25) gd_House_sum_18 (by decide) (fun c865 => ?_) (fun c865 => ?_)
    · have h := hA c865
      refine gh_sipush gd_House_sum_21 (by decide) (gh_r0 rfl) ?_
      exact gh_ret0 rfl gd_House_sum_24 ⟨rfl, h⟩
    · have h := hB c865
      refine gh_iload_n gd_House_sum_25 1 rfl ?_
      obtain ⟨hA, h⟩ := h
      by_cases c866 : v1 = 0
      · have h := hA c866
        refine gh_tabIn (tgt := 64) gd_House_sum_26 (by rw [c866]; decide) (by rw [c866]; decide) (by rw [c866]; rfl) (by decide) ?_
        refine gh_aload_n gd_House_sum_64 0 rfl (by decide) ?_
        refine gf_2_2 gd_House_sum_65 gh_k542 hF ?_
        refine gf_13_0 gd_House_sum_68 gh_k179 hF rfl ?_
        exact gh_ret0 rfl gd_House_sum_71 ⟨rfl, h⟩
      obtain ⟨hA, h⟩ := h
      by_cases c867 : v1 = 1
      · have h := hA c867
        refine gh_tabIn (tgt := 72) gd_House_sum_26 (by rw [c867]; decide) (by rw [c867]; decide) (by rw [c867]; rfl) (by decide) ?_
        refine gh_aload_n gd_House_sum_72 0 rfl (by decide) ?_
        refine gf_2_2 gd_House_sum_73 gh_k542 hF ?_
        refine gf_13_1 gd_House_sum_76 gh_k185 hF rfl ?_
        exact gh_ret0 rfl gd_House_sum_79 ⟨rfl, h⟩
      obtain ⟨hA, h⟩ := h
      by_cases c868 : v1 = 2
      · have h := hA c868
        refine gh_tabIn (tgt := 80) gd_House_sum_26 (by rw [c868]; decide) (by rw [c868]; decide) (by rw [c868]; rfl) (by decide) ?_
        refine gh_aload_n gd_House_sum_80 0 rfl (by decide) ?_
        refine gf_2_2 gd_House_sum_81 gh_k542 hF ?_
        refine gf_13_2 gd_House_sum_84 gh_k190 hF rfl ?_
        exact gh_ret0 rfl gd_House_sum_87 ⟨rfl, h⟩
      obtain ⟨hA, h⟩ := h
      by_cases c869 : v1 = 3
      · have h := hA c869
        refine gh_tabIn (tgt := 88) gd_House_sum_26 (by rw [c869]; decide) (by rw [c869]; decide) (by rw [c869]; rfl) (by decide) ?_
        refine gh_aload_n gd_House_sum_88 0 rfl (by decide) ?_
        refine gf_2_2 gd_House_sum_89 gh_k542 hF ?_
        refine cv_Grammar_allParts (d := d + 1) gd_House_sum_92 gh_k845 hF (Nat.le_of_ble_eq_true rfl) (gh_C.pw (s_Grammar_allParts (d + 1) hF h) (fun r870 h => ?_))
        exact gh_ret0 rfl gd_House_sum_95 ⟨rfl, h⟩
      obtain ⟨hA, h⟩ := h
      by_cases c872 : v1 = 4
      · have h := hA c872
        refine gh_tabIn (tgt := 96) gd_House_sum_26 (by rw [c872]; decide) (by rw [c872]; decide) (by rw [c872]; rfl) (by decide) ?_
        refine gh_aload_n gd_House_sum_96 0 rfl (by decide) ?_
        refine gf_2_4 gd_House_sum_97 gh_k544 hF ?_
        refine gf_26_3 gd_House_sum_100 gh_k297 hF rfl ?_
        exact gh_ret0 rfl gd_House_sum_103 ⟨rfl, h⟩
      obtain ⟨hA, h⟩ := h
      by_cases c873 : v1 = 5
      · have h := hA c873
        refine gh_tabIn (tgt := 104) gd_House_sum_26 (by rw [c873]; decide) (by rw [c873]; decide) (by rw [c873]; rfl) (by decide) ?_
        refine gh_aload_n gd_House_sum_104 0 rfl (by decide) ?_
        refine gf_2_3 gd_House_sum_105 gh_k543 hF ?_
        refine cv_Facts_clashes (d := d + 1) gd_House_sum_108 gh_k849 hF (Nat.le_of_ble_eq_true rfl) (gh_C.pw (s_Facts_clashes d hF h) (fun r874 h => ?_))
        exact gh_ret0 rfl gd_House_sum_111 ⟨rfl, h⟩
      have n876 : ¬ (v1 = 0) := c866
      have n877 : ¬ (v1 = 1) := c867
      have n878 : ¬ (v1 = 2) := c868
      have n879 : ¬ (v1 = 3) := c869
      have n880 : ¬ (v1 = 4) := c872
      have n881 : ¬ (v1 = 5) := c873
      refine gh_tabOut (tgt := 112) gd_House_sum_26 (by omega) (by decide) ?_
      have h := h c866 c867 c868 c869 c872 c873
      refine gh_aload_n gd_House_sum_112 0 rfl (by decide) ?_
      refine gf_2_8 gd_House_sum_113 gh_k548 hF ?_
      refine gf_47_4 gd_House_sum_116 gh_k453 hF rfl ?_
      exact gh_ret0 rfl gd_House_sum_119 ⟨rfl, h⟩
  have k864 : ¬ (¬ (v1 < 0) ∧ (v1 ≤ 6)) → gh_T E (gh_yHouse_sum.cls, prog_1_method_7_code, 2, false, 0) (d + 2) 10 [(0, 2, 2), (1, 0, v1)] [] m (fun r m1 => m1 = m ∧ Q r) := by
    intro c
    have h := hB c
    refine gh_sipush gd_House_sum_10 (by decide) (gh_r0 rfl) ?_
    exact gh_ret0 rfl gd_House_sum_13 ⟨rfl, h⟩
  refine gh_zlt (tgt := 10) gd_House_sum_1 (by decide) (fun c882 => ?_) (fun c882 => ?_)
  · have hz : True := trivial
    exact k864 (fun z => z.1 c882)
  · have hz : True := trivial
    refine gh_iload_n gd_House_sum_4 1 rfl ?_
    refine gh_bipush gd_House_sum_5 (by decide) (gh_r0 rfl) ?_
    refine gh_jle (tgt := 14) gd_House_sum_7 (by decide) (fun c883 => ?_) (fun c883 => ?_)
    · have hz : True := trivial
      exact k863 ⟨c882, c883⟩
    · have hz : True := trivial
      exact k864 (fun z => c883 z.2)
def w_House_put (v1 : Int) (m : gh_M) (Q : Int → gh_M → Prop) : Prop := (((¬ (v1 < 0) ∧ (v1 < 26)) → (((m 2 10) = 0 → Q (-1003) m) ∧ (¬ ((m 2 10) = 0) → (((m 26 3) < 8 → w_House_textChanged (m 26 3) m (fun _ m889 => 0 ≤ m889 26 3 ∧ (m889 26 3) < 8 ∧ gh_i ((m889 26 3) + 1) ∧ Q (((m889 26 3) + 1)) (gh_u (gh_u m889 27 (m889 26 3) v1) 26 3 ((m889 26 3) + 1)))) ∧ (¬ ((m 26 3) < 8) → Q (-1004) m))))) ∧ (¬ (¬ (v1 < 0) ∧ (v1 < 26)) → Q (-1002) m))
theorem s_House_put {E : gh_E} {m : gh_M} {Q : Int → gh_M → Prop} (d : Nat) (v1 : Int) (hF : gh_F m) (h : w_House_put v1 m Q) : gh_C E gh_yHouse_put prog_1_method_15_code 2 (some .int) 0 (d + 3) [(2, 2), (0, v1)] m (fun r m1 => gh_F m1 ∧ Q r m1) := by
  refine gh_enter2 (L := [(0, 2, 2), (1, 0, v1)]) (by decide +kernel) gh_rt0 (Nat.le_of_ble_eq_true rfl) rfl rfl ?_
  unfold w_House_put at h
  refine gh_iload_n gd_House_put_0 1 rfl ?_
  obtain ⟨hA, hB⟩ := h
  have k884 : (¬ (v1 < 0) ∧ (v1 < 26)) → gh_T E (gh_yHouse_put.cls, prog_1_method_15_code, 2, false, 0) (d + 3) 14 [(0, 2, 2), (1, 0, v1)] [] m (fun r m1 => gh_F m1 ∧ Q r m1) := by
    intro c
    have h := hA c
    refine gh_aload_n gd_House_put_14 0 rfl (by decide) ?_
    refine gf_2_10 gd_House_put_15 gh_k550 hF rfl ?_
    obtain ⟨hA, hB⟩ := h
    refine gh_zne (tgt := 25) gd_House_put_18 (by decide) (fun c886 => ?_) (fun c886 => ?_)
    · have h := hA c886
      refine gh_sipush gd_House_put_21 (by decide) (gh_r0 rfl) ?_
      exact gh_ret0 rfl gd_House_put_24 ⟨hF, h⟩
    · have h := hB c886
      refine gh_aload_n gd_House_put_25 0 rfl (by decide) ?_
      refine gf_2_4 gd_House_put_26 gh_k544 hF ?_
      refine gf_26_3 gd_House_put_29 gh_k297 hF rfl ?_
      refine gh_bipush gd_House_put_32 (by decide) (gh_r0 rfl) ?_
      obtain ⟨hA, hB⟩ := h
      refine gh_jlt (tgt := 41) gd_House_put_34 (by decide) (fun c887 => ?_) (fun c887 => ?_)
      · have h := hA c887
        refine gh_aload_n gd_House_put_41 0 rfl (by decide) ?_
        refine gh_aload_n gd_House_put_42 0 rfl (by decide) ?_
        refine gf_2_4 gd_House_put_43 gh_k544 hF ?_
        refine gf_26_3 gd_House_put_46 gh_k297 hF rfl ?_
        refine cv_House_textChanged (d := d + 2) gd_House_put_49 gh_k823 hF (Nat.le_of_ble_eq_true rfl) (gh_C.mono (s_House_textChanged d (m 26 3) hF h) (fun r888 m889 hq => ?_))
        obtain ⟨hF, h⟩ := hq
        refine gh_aload_n gd_House_put_52 0 rfl (by decide) ?_
        refine gf_2_4 gd_House_put_53 gh_k544 hF ?_
        refine gf_26_2 gd_House_put_56 gh_k293 hF ?_
        refine gh_aload_n gd_House_put_59 0 rfl (by decide) ?_
        refine gf_2_4 gd_House_put_60 gh_k544 hF ?_
        refine gf_26_3 gd_House_put_63 gh_k297 hF rfl ?_
        refine gh_iload_n gd_House_put_66 1 rfl ?_
        obtain ⟨q890, h⟩ := h
        obtain ⟨q891, h⟩ := h
        refine sa_27 gd_House_put_67 hF q890 q891 (fun hF => ?_)
        refine gh_aload_n gd_House_put_68 0 rfl (by decide) ?_
        refine gf_2_4 gd_House_put_69 gh_k544 hF ?_
        refine gh_dup gd_House_put_72 (by decide) ?_
        refine gf_26_3 gd_House_put_73 gh_k297 hF (gh_u_a (by decide)) ?_
        refine gh_iconst gd_House_put_76 (gh_r0 rfl) ?_
        obtain ⟨q892, h⟩ := h
        refine gh_iadd gd_House_put_77 q892 ?_
        refine pf_26_3 gd_House_put_78 gh_k297 hF (fun hF => ?_)
        refine gh_aload_n gd_House_put_81 0 rfl (by decide) ?_
        refine gf_2_4 gd_House_put_82 gh_k544 hF ?_
        refine gf_26_3 gd_House_put_85 gh_k297 hF (gh_u_s _ _ _ _) ?_
        exact gh_ret0 rfl gd_House_put_88 ⟨hF, h⟩
      · have h := hB c887
        refine gh_sipush gd_House_put_37 (by decide) (gh_r0 rfl) ?_
        exact gh_ret0 rfl gd_House_put_40 ⟨hF, h⟩
  have k885 : ¬ (¬ (v1 < 0) ∧ (v1 < 26)) → gh_T E (gh_yHouse_put.cls, prog_1_method_15_code, 2, false, 0) (d + 3) 10 [(0, 2, 2), (1, 0, v1)] [] m (fun r m1 => gh_F m1 ∧ Q r m1) := by
    intro c
    have h := hB c
    refine gh_sipush gd_House_put_10 (by decide) (gh_r0 rfl) ?_
    exact gh_ret0 rfl gd_House_put_13 ⟨hF, h⟩
  refine gh_zlt (tgt := 10) gd_House_put_1 (by decide) (fun c893 => ?_) (fun c893 => ?_)
  · have hz : True := trivial
    exact k885 (fun z => z.1 c893)
  · have hz : True := trivial
    refine gh_iload_n gd_House_put_4 1 rfl ?_
    refine gh_bipush gd_House_put_5 (by decide) (gh_r0 rfl) ?_
    refine gh_jlt (tgt := 14) gd_House_put_7 (by decide) (fun c894 => ?_) (fun c894 => ?_)
    · have hz : True := trivial
      exact k884 ⟨c893, c894⟩
    · have hz : True := trivial
      exact k885 (fun z => c894 z.2)
def w_Text_draw (v1 : Int) (m : gh_M) (Q : Int → gh_M → Prop) : Prop := gh_i (25173 * (m 26 8)) ∧ gh_i ((25173 * (m 26 8)) + 13849) ∧ 0 ≤ (25173 * (m 26 8)) + 13849 ∧ ((¬ (v1 ≤ 0) → (0 ≤ (((25173 * (m 26 8)) + 13849) % 65536) ∧ 0 ≤ ((((25173 * (m 26 8)) + 13849) % 65536)) / 16 ∧ 0 < v1))) ∧ Q (if v1 ≤ 0 then 0 else ((((((25173 * (m 26 8)) + 13849) % 65536)) / 16) % v1)) (gh_u m 26 8 (((25173 * (m 26 8)) + 13849) % 65536))
theorem s_Text_draw {E : gh_E} {m : gh_M} {Q : Int → gh_M → Prop} (d : Nat) (v1 : Int) (hF : gh_F m) (h : w_Text_draw v1 m Q) : gh_C E gh_yText_draw prog_11_method_5_code 2 (some .int) 0 (d + 0) [(2, 26), (0, v1)] m (fun r m1 => gh_F m1 ∧ Q r m1) := by
  refine gh_enter2 (L := [(0, 2, 26), (1, 0, v1)]) (by decide +kernel) gh_rt0 (Nat.le_of_ble_eq_true rfl) rfl rfl ?_
  unfold w_Text_draw at h
  refine gh_aload_n gd_Text_draw_0 0 rfl (by decide) ?_
  refine gh_sipush gd_Text_draw_1 (by decide) (gh_r0 rfl) ?_
  refine gh_aload_n gd_Text_draw_4 0 rfl (by decide) ?_
  refine gf_26_8 gd_Text_draw_5 gh_k303 hF rfl ?_
  obtain ⟨q895, h⟩ := h
  refine gh_imul gd_Text_draw_8 q895 ?_
  refine gh_sipush gd_Text_draw_9 (by decide) (gh_r0 rfl) ?_
  obtain ⟨q896, h⟩ := h
  refine gh_iadd gd_Text_draw_12 q896 ?_
  refine gh_ldc (n := 65536) gd_Text_draw_13 gh_k887 (by decide) (gh_r0 rfl) ?_
  obtain ⟨q897, h⟩ := h
  refine gh_irem gd_Text_draw_15 q897 (by decide) ?_
  refine pf_26_8 gd_Text_draw_16 gh_k303 hF (fun hF => ?_)
  refine gh_iload_n gd_Text_draw_19 1 rfl ?_
  obtain ⟨hk, h⟩ := h
  have k901 : ∀ x902 : Int, x902 = (if v1 ≤ 0 then 0 else ((((((25173 * (m 26 8)) + 13849) % 65536)) / 16) % v1)) → gh_T E (gh_yText_draw.cls, prog_11_method_5_code, 2, false, 0) (d + 0) 36 [(0, 2, 26), (1, 0, v1)] [(0, x902)] (gh_u m 26 8 (((25173 * (m 26 8)) + 13849) % 65536)) (fun r m1 => gh_F m1 ∧ Q r m1) := by
    rintro _ rfl
    exact gh_ret0 rfl gd_Text_draw_36 ⟨hF, h⟩
  refine gh_zle (tgt := 35) gd_Text_draw_20 (by decide) (fun c903 => ?_) (fun c903 => ?_)
  · have hz : True := trivial
    refine gh_iconst gd_Text_draw_35 (gh_r0 rfl) ?_
    exact k901 _ (by rw [if_pos c903])
  · have hz : True := trivial
    have hk := hk c903
    refine gh_aload_n gd_Text_draw_23 0 rfl (by decide) ?_
    refine gf_26_8 gd_Text_draw_24 gh_k303 hF (gh_u_s _ _ _ _) ?_
    refine gh_bipush gd_Text_draw_27 (by decide) (gh_r0 rfl) ?_
    obtain ⟨q898, hk⟩ := hk
    refine gh_idiv gd_Text_draw_29 q898 (by decide) ?_
    refine gh_iload_n gd_Text_draw_30 1 rfl ?_
    obtain ⟨q899, hk⟩ := hk
    have q900 := hk
    refine gh_irem gd_Text_draw_31 q899 q900 ?_
    refine gh_goto (tgt := 36) gd_Text_draw_32 (by decide) ?_
    exact k901 _ (by rw [if_neg c903])
def f_Text_bitAt_4 (v0 : Int) (Q : Int → Prop) (m : gh_M) (K4 : Int → Int → Prop) (v2 : Int) (v3 : Int) : Prop := ((v3 < 26 → ∃ J27 : Int → Prop, (∀ (v2' : Int), J27 v2' → gh_i (v3 + 1) ∧ K4 v2' (v3 + 1)) ∧ (((gh_iand_f (gh_ishr_f v0 v3) 1) = 0 → J27 v2) ∧ (¬ ((gh_iand_f (gh_ishr_f v0 v3) 1) = 0) → ((v2 = 0 → Q v3) ∧ (¬ (v2 = 0) → gh_i (v2 + (-1)) ∧ J27 (v2 + (-1))))))) ∧ (¬ (v3 < 26) → Q (-1)))
def w_Text_bitAt (v0 : Int) (v1 : Int) (m : gh_M) (Q : Int → Prop) : Prop := gh_L2 (fun K4 v2 v3 => f_Text_bitAt_4 v0 Q m K4 v2 v3) v1 0
theorem b_Text_bitAt_4 {E : gh_E} {v0 : Int} {Q : Int → Prop} {K4 : Int → Int → Prop} (d : Nat) {m : gh_M} (hK : ∀ (v2 : Int) (v3 : Int), gh_F m → K4 v2 v3 → gh_T E (gh_yText_bitAt.cls, prog_11_method_8_code, 4, false, 0) (d + 0) 4 [(0, 0, v0), (2, 0, v2), (3, 0, v3)] [] m (fun r m1 => m1 = m ∧ Q r)) (v2 : Int) (v3 : Int) (hF : gh_F m) (h : f_Text_bitAt_4 v0 Q m K4 v2 v3) : gh_T E (gh_yText_bitAt.cls, prog_11_method_8_code, 4, false, 0) (d + 0) 4 [(0, 0, v0), (2, 0, v2), (3, 0, v3)] [] m (fun r m1 => m1 = m ∧ Q r) := by
  have hK4 := hK
  unfold f_Text_bitAt_4 at h
  refine gh_iload_n gd_Text_bitAt_4 2 rfl ?_
  refine gh_bipush gd_Text_bitAt_5 (by decide) (gh_r0 rfl) ?_
  obtain ⟨hA, hB⟩ := h
  refine gh_jge (tgt := 33) gd_Text_bitAt_7 (by decide) (fun c904 => ?_) (fun c904 => ?_)
  · have h := hA c904
    refine gh_iload_n gd_Text_bitAt_10 0 rfl ?_
    refine gh_iload_n gd_Text_bitAt_11 2 rfl ?_
    refine gh_ishr gd_Text_bitAt_12 ?_
    refine gh_iconst gd_Text_bitAt_13 (gh_r0 rfl) ?_
    refine gh_iand gd_Text_bitAt_14 ?_
    obtain ⟨J27, hJ27, h⟩ := h
    have hJ27 : ∀ (v2' : Int), gh_F m → J27 v2' → gh_T E (gh_yText_bitAt.cls, prog_11_method_8_code, 4, false, 0) (d + 0) 27 [(0, 0, v0), (2, 0, v2'), (3, 0, v3)] [] m (fun r m1 => m1 = m ∧ Q r) := by
      intro v2' hF hj
      have h := hJ27 v2' hj
      obtain ⟨q905, h⟩ := h
      refine gh_iinc (L2 := [(3, 0, v3 + 1), (0, 0, v0), (2, 0, v2')]) gd_Text_bitAt_27 2 rfl q905 (by decide) rfl ?_
      refine gh_goto (tgt := 4) gd_Text_bitAt_30 (by decide) ?_
      refine gh_pick (L2 := [(0, 0, v0), (2, 0, v2'), (3, 0, v3 + 1)]) [1, 2, 0] rfl ?_
      exact hK4 v2' (v3 + 1) hF h
    obtain ⟨hA, hB⟩ := h
    refine gh_zeq (tgt := 27) gd_Text_bitAt_15 (by decide) (fun c906 => ?_) (fun c906 => ?_)
    · have h := hA c906
      exact hJ27 v2 hF h
    · have h := hB c906
      refine gh_iload_n gd_Text_bitAt_18 1 rfl ?_
      obtain ⟨hA, hB⟩ := h
      refine gh_zne (tgt := 24) gd_Text_bitAt_19 (by decide) (fun c907 => ?_) (fun c907 => ?_)
      · have h := hA c907
        refine gh_iload_n gd_Text_bitAt_22 2 rfl ?_
        exact gh_ret0 rfl gd_Text_bitAt_23 ⟨rfl, h⟩
      · have h := hB c907
        obtain ⟨q908, h⟩ := h
        refine gh_iinc (L2 := [(2, 0, v2 + (-1)), (0, 0, v0), (3, 0, v3)]) gd_Text_bitAt_24 1 rfl q908 (by decide) rfl ?_
        refine gh_pick (L2 := [(0, 0, v0), (2, 0, v2 + (-1)), (3, 0, v3)]) [1, 0, 2] rfl ?_
        exact hJ27 (v2 + (-1)) hF h
  · have h := hB c904
    refine gh_iconst gd_Text_bitAt_33 (gh_r0 rfl) ?_
    exact gh_ret0 rfl gd_Text_bitAt_34 ⟨rfl, h⟩
theorem s_Text_bitAt {E : gh_E} {m : gh_M} {Q : Int → Prop} (d : Nat) (v0 : Int) (v1 : Int) (hF : gh_F m) (h : w_Text_bitAt v0 v1 m Q) : gh_C E gh_yText_bitAt prog_11_method_8_code 4 (some .int) 0 (d + 0) [(0, v0), (0, v1)] m (fun r m1 => m1 = m ∧ Q r) := by
  refine gh_enter2 (L := [(0, 0, v0), (1, 0, v1)]) (by decide +kernel) gh_rt0 (Nat.le_of_ble_eq_true rfl) rfl rfl ?_
  unfold w_Text_bitAt at h
  refine gh_iload_n gd_Text_bitAt_0 1 rfl ?_
  refine gh_istore_n (L2 := [(2, 0, v1), (0, 0, v0), (1, 0, v1)]) gd_Text_bitAt_1 (by decide) rfl ?_
  refine gh_iconst gd_Text_bitAt_2 (gh_r0 rfl) ?_
  refine gh_istore_n (L2 := [(3, 0, 0), (2, 0, v1), (0, 0, v0), (1, 0, v1)]) gd_Text_bitAt_3 (by decide) rfl ?_
  refine gh_pick (L2 := [(0, 0, v0), (2, 0, v1), (3, 0, 0)]) [2, 1, 0] rfl ?_
  exact gh_L2_sound (T := fun v2 v3 => gh_T E (gh_yText_bitAt.cls, prog_11_method_8_code, 4, false, 0) (d + 0) 4 [(0, 0, v0), (2, 0, v2), (3, 0, v3)] [] m (fun r m1 => m1 = m ∧ Q r)) (fun _ _ => gh_F m) (fun K4 v2 v3 hK hF h => b_Text_bitAt_4 d hK v2 v3 hF h) v1 0 hF h
def f_Text_putRule_98 (r915 : Int) (Q : Int → gh_M → Prop) (K98 : Int → gh_M → Prop) (v5 : Int) (m : gh_M) : Prop := ((v5 < 0 → Q 1 m) ∧ (¬ (v5 < 0) → k_Grammar_partAt r915 v5 m ∧ 0 ≤ m 26 6 ∧ (m 26 6) < 241 ∧ gh_i ((m 26 6) + 1) ∧ gh_i (v5 + (-1)) ∧ K98 (v5 + (-1)) (gh_u (gh_u m 29 (m 26 6) (x_Grammar_partAt r915 v5 m)) 26 6 ((m 26 6) + 1))))
def w_Text_putRule (v1 : Int) (m : gh_M) (Q : Int → gh_M → Prop) : Prop := k_Grammar_behindRules v1 m ∧ 0 ≤ v1 ∧ v1 < 8 ∧ gh_i ((gh_ishl_f 1 (x_Grammar_behindRules v1 m)) - (gh_ishl_f 1 (m 14 v1))) ∧ ∀ v2 : Int, v2 = (gh_ishl_f 1 (x_Grammar_behindRules v1 m)) - (gh_ishl_f 1 (m 14 v1)) → ∀ v3 : Int, v3 = gh_iand_f (m 20 5) v2 → w_Text_draw (gh_pop v3) m (fun r913 m914 => w_Text_bitAt v3 r913 m914 (fun r915 => ((¬ (r915 < 0) → (((r915 < 20) → (0 ≤ r915 ∧ r915 < 20 ∧ gh_i ((m914 26 6) + (m914 17 r915))))))) ∧ (((¬ (r915 < 0) ∧ ((r915 < 20) ∧ (((m914 26 6) + (m914 17 r915)) ≤ 241))) → 0 ≤ r915 ∧ r915 < 20 ∧ gh_i ((m914 17 r915) - 1) ∧ ∀ v5 : Int, v5 = (m914 17 r915) - 1 → gh_M1 (fun K98 v5 m => f_Text_putRule_98 r915 Q K98 v5 m) v5 m914) ∧ (¬ (¬ (r915 < 0) ∧ ((r915 < 20) ∧ (((m914 26 6) + (m914 17 r915)) ≤ 241))) → Q 0 m914))))
theorem b_Text_putRule_98 {E : gh_E} {r915 : Int} {Q : Int → gh_M → Prop} {K98 : Int → gh_M → Prop} (d : Nat) (hK : ∀ (v5 : Int) (m : gh_M), gh_F m → K98 v5 m → gh_T E (gh_yText_putRule.cls, prog_11_method_6_code, 6, false, 8) (d + 1) 98 [(0, 2, 26), (4, 0, r915), (5, 0, v5)] [] m (fun r m1 => gh_F m1 ∧ Q r m1)) (v5 : Int) (m : gh_M) (hF : gh_F m) (h : f_Text_putRule_98 r915 Q K98 v5 m) : gh_T E (gh_yText_putRule.cls, prog_11_method_6_code, 6, false, 8) (d + 1) 98 [(0, 2, 26), (4, 0, r915), (5, 0, v5)] [] m (fun r m1 => gh_F m1 ∧ Q r m1) := by
  have hK98 := hK
  unfold f_Text_putRule_98 at h
  refine gh_iload gd_Text_putRule_98 2 rfl ?_
  obtain ⟨hA, hB⟩ := h
  refine gh_zlt (tgt := 139) gd_Text_putRule_100 (by decide) (fun c925 => ?_) (fun c925 => ?_)
  · have h := hA c925
    refine gh_iconst gd_Text_putRule_139 (gh_r0 rfl) ?_
    exact gh_ret8 rfl gd_Text_putRule_140 (by decide) ⟨hF, h⟩
  · have h := hB c925
    refine gh_aload_n gd_Text_putRule_103 0 rfl (by decide) ?_
    refine gf_26_5 gd_Text_putRule_104 gh_k300 hF ?_
    refine gh_aload_n gd_Text_putRule_107 0 rfl (by decide) ?_
    refine gf_26_6 gd_Text_putRule_108 gh_k301 hF rfl ?_
    refine gh_aload_n gd_Text_putRule_111 0 rfl (by decide) ?_
    refine gf_26_0 gd_Text_putRule_112 gh_k290 hF ?_
    refine gh_iload gd_Text_putRule_115 1 rfl ?_
    refine gh_iload gd_Text_putRule_117 2 rfl ?_
    obtain ⟨q926, h⟩ := h
    refine cv_Grammar_partAt (d := d) gd_Text_putRule_119 gh_k891 hF (Nat.le_of_ble_eq_true rfl) (gh_C.pe (e_Grammar_partAt d r915 v5 hF q926) ?_)
    obtain ⟨q927, h⟩ := h
    obtain ⟨q928, h⟩ := h
    refine sa_29 gd_Text_putRule_122 hF q927 q928 (fun hF => ?_)
    refine gh_aload_n gd_Text_putRule_123 0 rfl (by decide) ?_
    refine gh_dup gd_Text_putRule_124 (by decide) ?_
    refine gf_26_6 gd_Text_putRule_125 gh_k301 hF (gh_u_a (by decide)) ?_
    refine gh_iconst gd_Text_putRule_128 (gh_r0 rfl) ?_
    obtain ⟨q929, h⟩ := h
    refine gh_iadd gd_Text_putRule_129 q929 ?_
    refine pf_26_6 gd_Text_putRule_130 gh_k301 hF (fun hF => ?_)
    obtain ⟨q930, h⟩ := h
    refine gh_iinc (L2 := [(5, 0, v5 + (-1)), (0, 2, 26), (4, 0, r915)]) gd_Text_putRule_133 2 rfl q930 (by decide) rfl ?_
    refine gh_goto (tgt := 98) gd_Text_putRule_136 (by decide) ?_
    refine gh_pick (L2 := [(0, 2, 26), (4, 0, r915), (5, 0, v5 + (-1))]) [1, 2, 0] rfl ?_
    exact hK98 (v5 + (-1)) (gh_u (gh_u m 29 (m 26 6) (x_Grammar_partAt r915 v5 m)) 26 6 ((m 26 6) + 1)) hF h
theorem s_Text_putRule {E : gh_E} {m : gh_M} {Q : Int → gh_M → Prop} (d : Nat) (v1 : Int) (hF : gh_F m) (h : w_Text_putRule v1 m Q) : gh_C E gh_yText_putRule prog_11_method_6_code 6 (some .boolean) 8 (d + 1) [(2, 26), (0, v1)] m (fun r m1 => gh_F m1 ∧ Q r m1) := by
  refine gh_enter2 (L := [(0, 2, 26), (1, 0, v1)]) (by decide +kernel) gh_rt8 (Nat.le_of_ble_eq_true rfl) rfl rfl ?_
  unfold w_Text_putRule at h
  refine gh_iconst gd_Text_putRule_0 (gh_r0 rfl) ?_
  refine gh_aload_n gd_Text_putRule_1 0 rfl (by decide) ?_
  refine gf_26_0 gd_Text_putRule_2 gh_k290 hF ?_
  refine gh_iload_n gd_Text_putRule_5 1 rfl ?_
  obtain ⟨q909, h⟩ := h
  refine cv_Grammar_behindRules (d := d) gd_Text_putRule_6 gh_k881 hF (Nat.le_of_ble_eq_true rfl) (gh_C.pe (e_Grammar_behindRules d v1 hF q909) ?_)
  refine gh_ishl gd_Text_putRule_9 ?_
  refine gh_iconst gd_Text_putRule_10 (gh_r0 rfl) ?_
  refine gh_aload_n gd_Text_putRule_11 0 rfl (by decide) ?_
  refine gf_26_0 gd_Text_putRule_12 gh_k290 hF ?_
  refine gf_13_3 gd_Text_putRule_15 gh_k193 hF ?_
  refine gh_iload_n gd_Text_putRule_18 1 rfl ?_
  obtain ⟨q910, h⟩ := h
  obtain ⟨q911, h⟩ := h
  refine la_14 gd_Text_putRule_19 hF q910 q911 rfl ?_
  refine gh_ishl gd_Text_putRule_20 ?_
  obtain ⟨q912, h⟩ := h
  refine gh_isub gd_Text_putRule_21 q912 ?_
  refine gh_name (fun v2 hn => ?_)
  have h := h v2 hn
  refine gh_istore_n (L2 := [(2, 0, v2), (0, 2, 26), (1, 0, v1)]) gd_Text_putRule_22 (by decide) rfl ?_
  refine gh_aload_n gd_Text_putRule_23 1 rfl (by decide) ?_
  refine gf_26_1 gd_Text_putRule_24 gh_k291 hF ?_
  refine gf_20_5 gd_Text_putRule_27 gh_k251 hF rfl ?_
  refine gh_iload_n gd_Text_putRule_30 0 rfl ?_
  refine gh_iand gd_Text_putRule_31 ?_
  refine gh_name (fun v3 hn => ?_)
  have h := h v3 hn
  refine gh_istore_n (L2 := [(3, 0, v3), (2, 0, v2), (0, 2, 26), (1, 0, v1)]) gd_Text_putRule_32 (by decide) rfl ?_
  refine gh_iload_n gd_Text_putRule_33 0 rfl ?_
  refine gh_aload_n gd_Text_putRule_34 2 rfl (by decide) ?_
  refine gh_iload_n gd_Text_putRule_35 0 rfl ?_
  refine gh_pr_gh_pop gd_Text_putRule_36 gh_k882 (Nat.le_of_ble_eq_true rfl) ?_
  refine cv_Text_draw (d := d) gd_Text_putRule_39 gh_k883 hF (Nat.le_of_ble_eq_true rfl) (gh_C.mono (s_Text_draw d (gh_pop v3) hF h) (fun r913 m914 hq => ?_))
  obtain ⟨hF, h⟩ := hq
  refine cv_Text_bitAt (d := d) gd_Text_putRule_42 gh_k888 (Nat.le_of_ble_eq_true rfl) (gh_C.pw (s_Text_bitAt d v3 r913 hF h) (fun r915 h => ?_))
  refine gh_istore (L2 := [(4, 0, r915), (3, 0, v3), (2, 0, v2), (0, 2, 26), (1, 0, v1)]) gd_Text_putRule_45 (by decide) rfl ?_
  refine gh_iload gd_Text_putRule_47 0 rfl ?_
  obtain ⟨hk, hA, hB⟩ := h
  have k920 : (¬ (r915 < 0) ∧ ((r915 < 20) ∧ (((m914 26 6) + (m914 17 r915)) ≤ 241))) → gh_T E (gh_yText_putRule.cls, prog_11_method_6_code, 6, false, 8) (d + 1) 84 [(4, 0, r915), (3, 0, v3), (2, 0, v2), (0, 2, 26), (1, 0, v1)] [] m914 (fun r m1 => gh_F m1 ∧ Q r m1) := by
    intro c
    have h := hA c
    refine gh_aload_n gd_Text_putRule_84 3 rfl (by decide) ?_
    refine gf_26_0 gd_Text_putRule_85 gh_k290 hF ?_
    refine gf_13_6 gd_Text_putRule_88 gh_k209 hF ?_
    refine gh_iload gd_Text_putRule_91 0 rfl ?_
    obtain ⟨q922, h⟩ := h
    obtain ⟨q923, h⟩ := h
    refine la_17 gd_Text_putRule_93 hF q922 q923 rfl ?_
    refine gh_iconst gd_Text_putRule_94 (gh_r0 rfl) ?_
    obtain ⟨q924, h⟩ := h
    refine gh_isub gd_Text_putRule_95 q924 ?_
    refine gh_name (fun v5 hn => ?_)
    have h := h v5 hn
    refine gh_istore (L2 := [(5, 0, v5), (4, 0, r915), (3, 0, v3), (2, 0, v2), (0, 2, 26), (1, 0, v1)]) gd_Text_putRule_96 (by decide) rfl ?_
    refine gh_pick (L2 := [(0, 2, 26), (4, 0, r915), (5, 0, v5)]) [4, 1, 0] rfl ?_
    exact gh_M1_sound (T := fun v5 m => gh_T E (gh_yText_putRule.cls, prog_11_method_6_code, 6, false, 8) (d + 1) 98 [(0, 2, 26), (4, 0, r915), (5, 0, v5)] [] m (fun r m1 => gh_F m1 ∧ Q r m1)) (fun _ m => gh_F m) (fun K98 v5 m hK hF h => b_Text_putRule_98 d hK v5 m hF h) v5 m914 hF h
  have k921 : ¬ (¬ (r915 < 0) ∧ ((r915 < 20) ∧ (((m914 26 6) + (m914 17 r915)) ≤ 241))) → gh_T E (gh_yText_putRule.cls, prog_11_method_6_code, 6, false, 8) (d + 1) 82 [(4, 0, r915), (3, 0, v3), (2, 0, v2), (0, 2, 26), (1, 0, v1)] [] m914 (fun r m1 => gh_F m1 ∧ Q r m1) := by
    intro c
    have h := hB c
    refine gh_iconst gd_Text_putRule_82 (gh_r0 rfl) ?_
    exact gh_ret8 rfl gd_Text_putRule_83 (by decide) ⟨hF, h⟩
  refine gh_zlt (tgt := 82) gd_Text_putRule_49 (by decide) (fun c931 => ?_) (fun c931 => ?_)
  · have hz : True := trivial
    exact k921 (fun z => z.1 c931)
  · have hz : True := trivial
    have hk := hk c931
    refine gh_iload gd_Text_putRule_52 0 rfl ?_
    refine gh_bipush gd_Text_putRule_54 (by decide) (gh_r0 rfl) ?_
    refine gh_jge (tgt := 82) gd_Text_putRule_56 (by decide) (fun c932 => ?_) (fun c932 => ?_)
    · have hz : True := trivial
      have hk := hk c932
      refine gh_aload_n gd_Text_putRule_59 3 rfl (by decide) ?_
      refine gf_26_6 gd_Text_putRule_60 gh_k301 hF rfl ?_
      refine gh_aload_n gd_Text_putRule_63 3 rfl (by decide) ?_
      refine gf_26_0 gd_Text_putRule_64 gh_k290 hF ?_
      refine gf_13_6 gd_Text_putRule_67 gh_k209 hF ?_
      refine gh_iload gd_Text_putRule_70 0 rfl ?_
      obtain ⟨q917, hk⟩ := hk
      obtain ⟨q918, hk⟩ := hk
      refine la_17 gd_Text_putRule_72 hF q917 q918 rfl ?_
      have q919 := hk
      refine gh_iadd gd_Text_putRule_73 q919 ?_
      refine gh_aload_n gd_Text_putRule_74 3 rfl (by decide) ?_
      refine gf_26_5 gd_Text_putRule_75 gh_k300 hF ?_
      refine ll_29 gd_Text_putRule_78 hF ?_
      refine gh_jle (tgt := 84) gd_Text_putRule_79 (by decide) (fun c933 => ?_) (fun c933 => ?_)
      · have hz : True := trivial
        exact k920 ⟨c931, ⟨c932, c933⟩⟩
      · have hz : True := trivial
        exact k921 (fun z => (fun z => c933 z.2) z.2)
    · have hz : True := trivial
      exact k921 (fun z => (fun z => c932 z.1) z.2)
def w_Text_putLetter (v1 : Int) (m : gh_M) (Q : Int → gh_M → Prop) : Prop := w_Text_draw (gh_pop v1) m (fun r934 m935 => w_Text_bitAt v1 r934 m935 (fun r936 => (((¬ (r936 = (-1)) ∧ ((m935 26 7) < 8)) → 0 ≤ m935 26 7 ∧ (m935 26 7) < 8 ∧ gh_i ((m935 26 7) + 1) ∧ Q 1 (gh_u (gh_u m935 28 (m935 26 7) r936) 26 7 ((m935 26 7) + 1))) ∧ (¬ (¬ (r936 = (-1)) ∧ ((m935 26 7) < 8)) → Q 0 m935))))
theorem s_Text_putLetter {E : gh_E} {m : gh_M} {Q : Int → gh_M → Prop} (d : Nat) (v1 : Int) (hF : gh_F m) (h : w_Text_putLetter v1 m Q) : gh_C E gh_yText_putLetter prog_11_method_7_code 3 (some .boolean) 8 (d + 1) [(2, 26), (0, v1)] m (fun r m1 => gh_F m1 ∧ Q r m1) := by
  refine gh_enter2 (L := [(0, 2, 26), (1, 0, v1)]) (by decide +kernel) gh_rt8 (Nat.le_of_ble_eq_true rfl) rfl rfl ?_
  unfold w_Text_putLetter at h
  refine gh_iload_n gd_Text_putLetter_0 1 rfl ?_
  refine gh_aload_n gd_Text_putLetter_1 0 rfl (by decide) ?_
  refine gh_iload_n gd_Text_putLetter_2 1 rfl ?_
  refine gh_pr_gh_pop gd_Text_putLetter_3 gh_k882 (Nat.le_of_ble_eq_true rfl) ?_
  refine cv_Text_draw (d := d) gd_Text_putLetter_6 gh_k883 hF (Nat.le_of_ble_eq_true rfl) (gh_C.mono (s_Text_draw d (gh_pop v1) hF h) (fun r934 m935 hq => ?_))
  obtain ⟨hF, h⟩ := hq
  refine cv_Text_bitAt (d := d) gd_Text_putLetter_9 gh_k888 (Nat.le_of_ble_eq_true rfl) (gh_C.pw (s_Text_bitAt d v1 r934 hF h) (fun r936 h => ?_))
  refine gh_istore_n (L2 := [(2, 0, r936), (0, 2, 26), (1, 0, v1)]) gd_Text_putLetter_12 (by decide) rfl ?_
  refine gh_iload_n gd_Text_putLetter_13 0 rfl ?_
  refine gh_iconst gd_Text_putLetter_14 (gh_r0 rfl) ?_
  obtain ⟨hA, hB⟩ := h
  have k938 : (¬ (r936 = (-1)) ∧ ((m935 26 7) < 8)) → gh_T E (gh_yText_putLetter.cls, prog_11_method_7_code, 3, false, 8) (d + 1) 29 [(2, 0, r936), (0, 2, 26), (1, 0, v1)] [] m935 (fun r m1 => gh_F m1 ∧ Q r m1) := by
    intro c
    have h := hA c
    refine gh_aload_n gd_Text_putLetter_29 1 rfl (by decide) ?_
    refine gf_26_4 gd_Text_putLetter_30 gh_k299 hF ?_
    refine gh_aload_n gd_Text_putLetter_33 1 rfl (by decide) ?_
    refine gf_26_7 gd_Text_putLetter_34 gh_k302 hF rfl ?_
    refine gh_iload_n gd_Text_putLetter_37 0 rfl ?_
    obtain ⟨q940, h⟩ := h
    obtain ⟨q941, h⟩ := h
    refine sa_28 gd_Text_putLetter_38 hF q940 q941 (fun hF => ?_)
    refine gh_aload_n gd_Text_putLetter_39 1 rfl (by decide) ?_
    refine gh_dup gd_Text_putLetter_40 (by decide) ?_
    refine gf_26_7 gd_Text_putLetter_41 gh_k302 hF (gh_u_a (by decide)) ?_
    refine gh_iconst gd_Text_putLetter_44 (gh_r0 rfl) ?_
    obtain ⟨q942, h⟩ := h
    refine gh_iadd gd_Text_putLetter_45 q942 ?_
    refine pf_26_7 gd_Text_putLetter_46 gh_k302 hF (fun hF => ?_)
    refine gh_iconst gd_Text_putLetter_49 (gh_r0 rfl) ?_
    exact gh_ret8 rfl gd_Text_putLetter_50 (by decide) ⟨hF, h⟩
  have k939 : ¬ (¬ (r936 = (-1)) ∧ ((m935 26 7) < 8)) → gh_T E (gh_yText_putLetter.cls, prog_11_method_7_code, 3, false, 8) (d + 1) 27 [(2, 0, r936), (0, 2, 26), (1, 0, v1)] [] m935 (fun r m1 => gh_F m1 ∧ Q r m1) := by
    intro c
    have h := hB c
    refine gh_iconst gd_Text_putLetter_27 (gh_r0 rfl) ?_
    exact gh_ret8 rfl gd_Text_putLetter_28 (by decide) ⟨hF, h⟩
  refine gh_jeq (tgt := 27) gd_Text_putLetter_15 (by decide) (fun c943 => ?_) (fun c943 => ?_)
  · have hz : True := trivial
    exact k939 (fun z => z.1 c943)
  · have hz : True := trivial
    refine gh_aload_n gd_Text_putLetter_18 1 rfl (by decide) ?_
    refine gf_26_7 gd_Text_putLetter_19 gh_k302 hF rfl ?_
    refine gh_bipush gd_Text_putLetter_22 (by decide) (gh_r0 rfl) ?_
    refine gh_jlt (tgt := 29) gd_Text_putLetter_24 (by decide) (fun c944 => ?_) (fun c944 => ?_)
    · have hz : True := trivial
      exact k938 ⟨c943, c944⟩
    · have hz : True := trivial
      exact k939 (fun z => c944 z.2)
def f_Text_compose_38 (Q : Int → gh_M → Prop) (K38 : Int → gh_M → Prop) (v2 : Int) (m : gh_M) : Prop := (((m 26 6) ≤ 0 → 0 ≤ m 26 7 ∧ 0 + (m 26 7) ≤ 8 ∧ 0 + (m 26 7) ≤ 8 ∧ Q 1 (gh_u (gh_cpy m 28 0 27 0 (m 26 7)) 26 3 ((gh_cpy m 28 0 27 0 (m 26 7)) 26 7))) ∧ (¬ ((m 26 6) ≤ 0) → ((v2 = 60 → Q 0 m) ∧ (¬ (v2 = 60) → gh_i ((m 26 6) - 1) ∧ 0 ≤ ((m 26 6) - 1) ∧ (((m 26 6) - 1)) < 241 ∧ k_Grammar_nameOf (m 29 (((m 26 6) - 1))) (gh_u m 26 6 ((m 26 6) - 1)) ∧ ∀ v3 : Int, v3 = x_Grammar_nameOf (m 29 (((m 26 6) - 1))) (gh_u m 26 6 ((m 26 6) - 1)) → ∃ J114 : gh_M → Prop, (∀ (m : gh_M), J114 m → gh_i (v2 + 1) ∧ K38 (v2 + 1) m) ∧ ((v3 = (-1) → 0 ≤ ((m 26 6) - 1) ∧ (((m 26 6) - 1)) < 241 ∧ w_Text_putLetter (m 29 (((m 26 6) - 1))) (gh_u m 26 6 ((m 26 6) - 1)) (fun r959 m960 => ((r959 = 0 → Q 0 m960) ∧ (¬ (r959 = 0) → J114 m960)))) ∧ (¬ (v3 = (-1)) → w_Text_putRule v3 (gh_u m 26 6 ((m 26 6) - 1)) (fun r962 m963 => ((r962 = 0 → Q 0 m963) ∧ (¬ (r962 = 0) → J114 m963)))))))))
def w_Text_compose (v1 : Int) (m : gh_M) (Q : Int → gh_M → Prop) : Prop := (((gh_iand_f (m 20 2) 1) = 0 → Q 0 m) ∧ (¬ ((gh_iand_f (m 20 2) 1) = 0) → gh_M1 (fun K38 v2 m => f_Text_compose_38 Q K38 v2 m) 0 (gh_u (gh_u (gh_u (gh_u m 26 8 v1) 26 7 0) 29 0 (-1)) 26 6 1)))
theorem b_Text_compose_38 {E : gh_E} {Q : Int → gh_M → Prop} {K38 : Int → gh_M → Prop} (d : Nat) (hK : ∀ (v2 : Int) (m : gh_M), gh_F m → K38 v2 m → gh_T E (gh_yText_compose.cls, prog_11_method_4_code, 4, false, 8) (d + 2) 38 [(0, 2, 26), (2, 0, v2)] [] m (fun r m1 => gh_F m1 ∧ Q r m1)) (v2 : Int) (m : gh_M) (hF : gh_F m) (h : f_Text_compose_38 Q K38 v2 m) : gh_T E (gh_yText_compose.cls, prog_11_method_4_code, 4, false, 8) (d + 2) 38 [(0, 2, 26), (2, 0, v2)] [] m (fun r m1 => gh_F m1 ∧ Q r m1) := by
  have hK38 := hK
  unfold f_Text_compose_38 at h
  refine gh_aload_n gd_Text_compose_38 0 rfl (by decide) ?_
  refine gf_26_6 gd_Text_compose_39 gh_k301 hF rfl ?_
  obtain ⟨hA, hB⟩ := h
  refine gh_zle (tgt := 120) gd_Text_compose_42 (by decide) (fun c946 => ?_) (fun c946 => ?_)
  · have h := hA c946
    refine gh_aload_n gd_Text_compose_120 0 rfl (by decide) ?_
    refine gf_26_4 gd_Text_compose_121 gh_k299 hF ?_
    refine gh_iconst gd_Text_compose_124 (gh_r0 rfl) ?_
    refine gh_aload_n gd_Text_compose_125 0 rfl (by decide) ?_
    refine gf_26_2 gd_Text_compose_126 gh_k292 hF ?_
    refine gh_iconst gd_Text_compose_129 (gh_r0 rfl) ?_
    refine gh_aload_n gd_Text_compose_130 0 rfl (by decide) ?_
    refine gf_26_7 gd_Text_compose_131 gh_k302 hF rfl ?_
    obtain ⟨q947, h⟩ := h
    obtain ⟨q948, h⟩ := h
    obtain ⟨q949, h⟩ := h
    refine gh_copyF gd_Text_compose_134 gh_k896 gh_k898 gh_k897 gh_k70 (ga_28 hF) (ga_27 hF) (by decide) (by decide) (by decide) q947 q948 q949 (Nat.le_of_ble_eq_true rfl) hF gn_27 (fun hF => ?_)
    refine gh_aload_n gd_Text_compose_137 0 rfl (by decide) ?_
    refine gh_aload_n gd_Text_compose_138 0 rfl (by decide) ?_
    refine gf_26_7 gd_Text_compose_139 gh_k302 hF rfl ?_
    refine pf_26_3 gd_Text_compose_142 gh_k294 hF (fun hF => ?_)
    refine gh_iconst gd_Text_compose_145 (gh_r0 rfl) ?_
    exact gh_ret8 rfl gd_Text_compose_146 (by decide) ⟨hF, h⟩
  · have h := hB c946
    refine gh_iload_n gd_Text_compose_45 1 rfl ?_
    refine gh_bipush gd_Text_compose_46 (by decide) (gh_r0 rfl) ?_
    obtain ⟨hA, hB⟩ := h
    refine gh_jne (tgt := 53) gd_Text_compose_48 (by decide) (fun c950 => ?_) (fun c950 => ?_)
    · have h := hA c950
      refine gh_iconst gd_Text_compose_51 (gh_r0 rfl) ?_
      exact gh_ret8 rfl gd_Text_compose_52 (by decide) ⟨hF, h⟩
    · have h := hB c950
      refine gh_aload_n gd_Text_compose_53 0 rfl (by decide) ?_
      refine gh_dup gd_Text_compose_54 (by decide) ?_
      refine gf_26_6 gd_Text_compose_55 gh_k301 hF rfl ?_
      refine gh_iconst gd_Text_compose_58 (gh_r0 rfl) ?_
      obtain ⟨q951, h⟩ := h
      refine gh_isub gd_Text_compose_59 q951 ?_
      refine pf_26_6 gd_Text_compose_60 gh_k301 hF (fun hF => ?_)
      refine gh_aload_n gd_Text_compose_63 0 rfl (by decide) ?_
      refine gf_26_0 gd_Text_compose_64 gh_k290 hF ?_
      refine gh_aload_n gd_Text_compose_67 0 rfl (by decide) ?_
      refine gf_26_5 gd_Text_compose_68 gh_k300 hF ?_
      refine gh_aload_n gd_Text_compose_71 0 rfl (by decide) ?_
      refine gf_26_6 gd_Text_compose_72 gh_k301 hF (gh_u_s _ _ _ _) ?_
      obtain ⟨q952, h⟩ := h
      obtain ⟨q953, h⟩ := h
      refine la_29 gd_Text_compose_75 hF q952 q953 (gh_u_a (by decide)) ?_
      obtain ⟨q954, h⟩ := h
      refine cv_Grammar_nameOf (d := d + 1) gd_Text_compose_76 gh_k876 hF (Nat.le_of_ble_eq_true rfl) (gh_C.pe (e_Grammar_nameOf (d + 1) (m 29 (((m 26 6) - 1))) hF q954) ?_)
      refine gh_name (fun v3 hn => ?_)
      have h := h v3 hn
      refine gh_istore_n (L2 := [(3, 0, v3), (0, 2, 26), (2, 0, v2)]) gd_Text_compose_79 (by decide) rfl ?_
      refine gh_iload_n gd_Text_compose_80 0 rfl ?_
      refine gh_iconst gd_Text_compose_81 (gh_r0 rfl) ?_
      obtain ⟨J114, hJ114, h⟩ := h
      have hJ114 : ∀ (m : gh_M), gh_F m → J114 m → gh_T E (gh_yText_compose.cls, prog_11_method_4_code, 4, false, 8) (d + 2) 114 [(0, 2, 26), (2, 0, v2)] [] m (fun r m1 => gh_F m1 ∧ Q r m1) := by
        intro m hF hj
        have h := hJ114 m hj
        obtain ⟨q955, h⟩ := h
        refine gh_iinc (L2 := [(2, 0, v2 + 1), (0, 2, 26)]) gd_Text_compose_114 1 rfl q955 (by decide) rfl ?_
        refine gh_goto (tgt := 38) gd_Text_compose_117 (by decide) ?_
        refine gh_pick (L2 := [(0, 2, 26), (2, 0, v2 + 1)]) [1, 0] rfl ?_
        exact hK38 (v2 + 1) m hF h
      obtain ⟨hA, hB⟩ := h
      refine gh_jeq (tgt := 96) gd_Text_compose_82 (by decide) (fun c956 => ?_) (fun c956 => ?_)
      · have h := hA c956
        refine gh_aload_n gd_Text_compose_96 1 rfl (by decide) ?_
        refine gh_aload_n gd_Text_compose_97 1 rfl (by decide) ?_
        refine gf_26_5 gd_Text_compose_98 gh_k300 hF ?_
        refine gh_aload_n gd_Text_compose_101 1 rfl (by decide) ?_
        refine gf_26_6 gd_Text_compose_102 gh_k301 hF (gh_u_s _ _ _ _) ?_
        obtain ⟨q957, h⟩ := h
        obtain ⟨q958, h⟩ := h
        refine la_29 gd_Text_compose_105 hF q957 q958 (gh_u_a (by decide)) ?_
        refine cv_Text_putLetter (d := d + 1) gd_Text_compose_106 gh_k892 hF (Nat.le_of_ble_eq_true rfl) (gh_C.mono (s_Text_putLetter d (m 29 (((m 26 6) - 1))) hF h) (fun r959 m960 hq => ?_))
        obtain ⟨hF, h⟩ := hq
        obtain ⟨hA, hB⟩ := h
        refine gh_zne (tgt := 114) gd_Text_compose_109 (by decide) (fun c961 => ?_) (fun c961 => ?_)
        · have h := hA c961
          refine gh_iconst gd_Text_compose_112 (gh_r0 rfl) ?_
          exact gh_ret8 rfl gd_Text_compose_113 (by decide) ⟨hF, h⟩
        · have h := hB c961
          refine gh_pick (L2 := [(0, 2, 26), (2, 0, v2)]) [1, 2] rfl ?_
          exact hJ114 m960 hF h
      · have h := hB c956
        refine gh_aload_n gd_Text_compose_85 1 rfl (by decide) ?_
        refine gh_iload_n gd_Text_compose_86 0 rfl ?_
        refine cv_Text_putRule (d := d + 1) gd_Text_compose_87 gh_k877 hF (Nat.le_of_ble_eq_true rfl) (gh_C.mono (s_Text_putRule d v3 hF h) (fun r962 m963 hq => ?_))
        obtain ⟨hF, h⟩ := hq
        obtain ⟨hA, hB⟩ := h
        refine gh_zeq (tgt := 112) gd_Text_compose_90 (by decide) (fun c964 => ?_) (fun c964 => ?_)
        · have h := hA c964
          refine gh_iconst gd_Text_compose_112 (gh_r0 rfl) ?_
          exact gh_ret8 rfl gd_Text_compose_113 (by decide) ⟨hF, h⟩
        · have h := hB c964
          refine gh_goto (tgt := 114) gd_Text_compose_93 (by decide) ?_
          refine gh_pick (L2 := [(0, 2, 26), (2, 0, v2)]) [1, 2] rfl ?_
          exact hJ114 m963 hF h
theorem s_Text_compose {E : gh_E} {m : gh_M} {Q : Int → gh_M → Prop} (d : Nat) (v1 : Int) (hF : gh_F m) (h : w_Text_compose v1 m Q) : gh_C E gh_yText_compose prog_11_method_4_code 4 (some .boolean) 8 (d + 2) [(2, 26), (0, v1)] m (fun r m1 => gh_F m1 ∧ Q r m1) := by
  refine gh_enter2 (L := [(0, 2, 26), (1, 0, v1)]) (by decide +kernel) gh_rt8 (Nat.le_of_ble_eq_true rfl) rfl rfl ?_
  unfold w_Text_compose at h
  refine gh_aload_n gd_Text_compose_0 0 rfl (by decide) ?_
  refine gf_26_1 gd_Text_compose_1 gh_k291 hF ?_
  refine gf_20_2 gd_Text_compose_4 gh_k243 hF rfl ?_
  refine gh_iconst gd_Text_compose_7 (gh_r0 rfl) ?_
  refine gh_iand gd_Text_compose_8 ?_
  obtain ⟨hA, hB⟩ := h
  refine gh_zne (tgt := 14) gd_Text_compose_9 (by decide) (fun c945 => ?_) (fun c945 => ?_)
  · have h := hA c945
    refine gh_iconst gd_Text_compose_12 (gh_r0 rfl) ?_
    exact gh_ret8 rfl gd_Text_compose_13 (by decide) ⟨hF, h⟩
  · have h := hB c945
    refine gh_aload_n gd_Text_compose_14 0 rfl (by decide) ?_
    refine gh_iload_n gd_Text_compose_15 1 rfl ?_
    refine pf_26_8 gd_Text_compose_16 gh_k303 hF (fun hF => ?_)
    refine gh_aload_n gd_Text_compose_19 0 rfl (by decide) ?_
    refine gh_iconst gd_Text_compose_20 (gh_r0 rfl) ?_
    refine pf_26_7 gd_Text_compose_21 gh_k302 hF (fun hF => ?_)
    refine gh_aload_n gd_Text_compose_24 0 rfl (by decide) ?_
    refine gf_26_5 gd_Text_compose_25 gh_k300 hF ?_
    refine gh_iconst gd_Text_compose_28 (gh_r0 rfl) ?_
    refine gh_iconst gd_Text_compose_29 (gh_r0 rfl) ?_
    refine sa_29 gd_Text_compose_30 hF (by decide) (by decide) (fun hF => ?_)
    refine gh_aload_n gd_Text_compose_31 0 rfl (by decide) ?_
    refine gh_iconst gd_Text_compose_32 (gh_r0 rfl) ?_
    refine pf_26_6 gd_Text_compose_33 gh_k301 hF (fun hF => ?_)
    refine gh_iconst gd_Text_compose_36 (gh_r0 rfl) ?_
    refine gh_istore_n (L2 := [(2, 0, 0), (0, 2, 26), (1, 0, v1)]) gd_Text_compose_37 (by decide) rfl ?_
    refine gh_pick (L2 := [(0, 2, 26), (2, 0, 0)]) [1, 0] rfl ?_
    exact gh_M1_sound (T := fun v2 m => gh_T E (gh_yText_compose.cls, prog_11_method_4_code, 4, false, 8) (d + 2) 38 [(0, 2, 26), (2, 0, v2)] [] m (fun r m1 => gh_F m1 ∧ Q r m1)) (fun _ m => gh_F m) (fun K38 v2 m hK hF h => b_Text_compose_38 d hK v2 m hF h) 0 (gh_u (gh_u (gh_u (gh_u m 26 8 v1) 26 7 0) 29 0 (-1)) 26 6 1) hF h
def w_House_made (v1 : Int) (m : gh_M) (Q : Int → gh_M → Prop) : Prop := (((¬ (v1 < 0) ∧ (v1 < 65536)) → (((m 2 10) = 0 → Q (-1003) m) ∧ (¬ ((m 2 10) = 0) → w_Text_compose v1 m (fun r968 m969 => ((r968 = 0 → Q (-1) m969) ∧ (¬ (r968 = 0) → w_House_textChanged 0 m969 (fun _ m972 => Q (m972 26 3) m972))))))) ∧ (¬ (¬ (v1 < 0) ∧ (v1 < 65536)) → Q (-1002) m))
theorem s_House_made {E : gh_E} {m : gh_M} {Q : Int → gh_M → Prop} (d : Nat) (v1 : Int) (hF : gh_F m) (h : w_House_made v1 m Q) : gh_C E gh_yHouse_made prog_1_method_17_code 2 (some .int) 0 (d + 3) [(2, 2), (0, v1)] m (fun r m1 => gh_F m1 ∧ Q r m1) := by
  refine gh_enter2 (L := [(0, 2, 2), (1, 0, v1)]) (by decide +kernel) gh_rt0 (Nat.le_of_ble_eq_true rfl) rfl rfl ?_
  unfold w_House_made at h
  refine gh_iload_n gd_House_made_0 1 rfl ?_
  obtain ⟨hA, hB⟩ := h
  have k965 : (¬ (v1 < 0) ∧ (v1 < 65536)) → gh_T E (gh_yHouse_made.cls, prog_1_method_17_code, 2, false, 0) (d + 3) 14 [(0, 2, 2), (1, 0, v1)] [] m (fun r m1 => gh_F m1 ∧ Q r m1) := by
    intro c
    have h := hA c
    refine gh_aload_n gd_House_made_14 0 rfl (by decide) ?_
    refine gf_2_10 gd_House_made_15 gh_k550 hF rfl ?_
    obtain ⟨hA, hB⟩ := h
    refine gh_zne (tgt := 25) gd_House_made_18 (by decide) (fun c967 => ?_) (fun c967 => ?_)
    · have h := hA c967
      refine gh_sipush gd_House_made_21 (by decide) (gh_r0 rfl) ?_
      exact gh_ret0 rfl gd_House_made_24 ⟨hF, h⟩
    · have h := hB c967
      refine gh_aload_n gd_House_made_25 0 rfl (by decide) ?_
      refine gf_2_4 gd_House_made_26 gh_k544 hF ?_
      refine gh_iload_n gd_House_made_29 1 rfl ?_
      refine cv_Text_compose (d := d + 2) gd_House_made_30 gh_k872 hF (Nat.le_of_ble_eq_true rfl) (gh_C.mono (s_Text_compose d v1 hF h) (fun r968 m969 hq => ?_))
      obtain ⟨hF, h⟩ := hq
      obtain ⟨hA, hB⟩ := h
      refine gh_zne (tgt := 38) gd_House_made_33 (by decide) (fun c970 => ?_) (fun c970 => ?_)
      · have h := hA c970
        refine gh_iconst gd_House_made_36 (gh_r0 rfl) ?_
        exact gh_ret0 rfl gd_House_made_37 ⟨hF, h⟩
      · have h := hB c970
        refine gh_aload_n gd_House_made_38 0 rfl (by decide) ?_
        refine gh_iconst gd_House_made_39 (gh_r0 rfl) ?_
        refine cv_House_textChanged (d := d + 2) gd_House_made_40 gh_k823 hF (Nat.le_of_ble_eq_true rfl) (gh_C.mono (s_House_textChanged d 0 hF h) (fun r971 m972 hq => ?_))
        obtain ⟨hF, h⟩ := hq
        refine gh_aload_n gd_House_made_43 0 rfl (by decide) ?_
        refine gf_2_4 gd_House_made_44 gh_k544 hF ?_
        refine gf_26_3 gd_House_made_47 gh_k297 hF rfl ?_
        exact gh_ret0 rfl gd_House_made_50 ⟨hF, h⟩
  have k966 : ¬ (¬ (v1 < 0) ∧ (v1 < 65536)) → gh_T E (gh_yHouse_made.cls, prog_1_method_17_code, 2, false, 0) (d + 3) 10 [(0, 2, 2), (1, 0, v1)] [] m (fun r m1 => gh_F m1 ∧ Q r m1) := by
    intro c
    have h := hB c
    refine gh_sipush gd_House_made_10 (by decide) (gh_r0 rfl) ?_
    exact gh_ret0 rfl gd_House_made_13 ⟨hF, h⟩
  refine gh_zlt (tgt := 10) gd_House_made_1 (by decide) (fun c973 => ?_) (fun c973 => ?_)
  · have hz : True := trivial
    exact k966 (fun z => z.1 c973)
  · have hz : True := trivial
    refine gh_iload_n gd_House_made_4 1 rfl ?_
    refine gh_ldc (n := 65536) gd_House_made_5 gh_k871 (by decide) (gh_r0 rfl) ?_
    refine gh_jlt (tgt := 14) gd_House_made_7 (by decide) (fun c974 => ?_) (fun c974 => ?_)
    · have hz : True := trivial
      exact k965 ⟨c973, c974⟩
    · have hz : True := trivial
      exact k966 (fun z => c974 z.2)
def f_Chart_beyond_15 (v1 : Int) (v2 : Int) (v3 : Int) (Q : Int → Prop) (m : gh_M) (K15 : Int → Int → Prop) (v4 : Int) (v5 : Int) : Prop := ((v5 ≤ (m 26 3) → ∃ J85 : Int → Prop, (∀ (v4' : Int), J85 v4' → gh_i (v5 + 1) ∧ K15 v4' (v5 + 1)) ∧ (((gh_iand_f (gh_ishr_f v2 v5) 1) = 0 → J85 v4) ∧ (¬ ((gh_iand_f (gh_ishr_f v2 v5) 1) = 0) → ((v3 = (-1) → k_Text_fits v1 v5 m ∧ ((p_Text_fits v1 v5 m → gh_i (v5 + 1) ∧ ∀ v4' : Int, v4' = gh_ior_f v4 (gh_ishl_f 1 (v5 + 1)) → J85 v4') ∧ (¬ (p_Text_fits v1 v5 m) → J85 v4))) ∧ (¬ (v3 = (-1)) → gh_i (v3 * 9) ∧ gh_i ((v3 * 9) + v5) ∧ 0 ≤ (v3 * 9) + v5 ∧ ((v3 * 9) + v5) < 72 ∧ ∀ v4' : Int, v4' = gh_ior_f v4 (m 31 ((v3 * 9) + v5)) → J85 v4'))))) ∧ (¬ (v5 ≤ (m 26 3)) → Q v4))
def w_Chart_beyond (v1 : Int) (v2 : Int) (m : gh_M) (Q : Int → Prop) : Prop := k_Grammar_nameOf v1 m ∧ ∀ v3 : Int, v3 = x_Grammar_nameOf v1 m → gh_L2 (fun K15 v4 v5 => f_Chart_beyond_15 v1 v2 v3 Q m K15 v4 v5) 0 0
theorem b_Chart_beyond_15 {E : gh_E} {v1 : Int} {v2 : Int} {v3 : Int} {Q : Int → Prop} {K15 : Int → Int → Prop} (d : Nat) {m : gh_M} (hK : ∀ (v4 : Int) (v5 : Int), gh_F m → K15 v4 v5 → gh_T E (gh_yChart_beyond.cls, prog_2_method_7_code, 6, false, 0) (d + 1) 15 [(0, 2, 30), (1, 0, v1), (2, 0, v2), (3, 0, v3), (4, 0, v4), (5, 0, v5)] [] m (fun r m1 => m1 = m ∧ Q r)) (v4 : Int) (v5 : Int) (hF : gh_F m) (h : f_Chart_beyond_15 v1 v2 v3 Q m K15 v4 v5) : gh_T E (gh_yChart_beyond.cls, prog_2_method_7_code, 6, false, 0) (d + 1) 15 [(0, 2, 30), (1, 0, v1), (2, 0, v2), (3, 0, v3), (4, 0, v4), (5, 0, v5)] [] m (fun r m1 => m1 = m ∧ Q r) := by
  have hK15 := hK
  unfold f_Chart_beyond_15 at h
  refine gh_iload gd_Chart_beyond_15 5 rfl ?_
  refine gh_aload_n gd_Chart_beyond_17 0 rfl (by decide) ?_
  refine gf_30_2 gd_Chart_beyond_18 gh_k331 hF ?_
  refine gf_26_3 gd_Chart_beyond_21 gh_k296 hF rfl ?_
  obtain ⟨hA, hB⟩ := h
  refine gh_jgt (tgt := 91) gd_Chart_beyond_24 (by decide) (fun c976 => ?_) (fun c976 => ?_)
  · have h := hA c976
    refine gh_iload_n gd_Chart_beyond_27 2 rfl ?_
    refine gh_iload gd_Chart_beyond_28 5 rfl ?_
    refine gh_ishr gd_Chart_beyond_30 ?_
    refine gh_iconst gd_Chart_beyond_31 (gh_r0 rfl) ?_
    refine gh_iand gd_Chart_beyond_32 ?_
    obtain ⟨J85, hJ85, h⟩ := h
    have hJ85 : ∀ (v4' : Int), gh_F m → J85 v4' → gh_T E (gh_yChart_beyond.cls, prog_2_method_7_code, 6, false, 0) (d + 1) 85 [(0, 2, 30), (1, 0, v1), (2, 0, v2), (3, 0, v3), (4, 0, v4'), (5, 0, v5)] [] m (fun r m1 => m1 = m ∧ Q r) := by
      intro v4' hF hj
      have h := hJ85 v4' hj
      obtain ⟨q977, h⟩ := h
      refine gh_iinc (L2 := [(5, 0, v5 + 1), (0, 2, 30), (1, 0, v1), (2, 0, v2), (3, 0, v3), (4, 0, v4')]) gd_Chart_beyond_85 5 rfl q977 (by decide) rfl ?_
      refine gh_goto (tgt := 15) gd_Chart_beyond_88 (by decide) ?_
      refine gh_pick (L2 := [(0, 2, 30), (1, 0, v1), (2, 0, v2), (3, 0, v3), (4, 0, v4'), (5, 0, v5 + 1)]) [1, 2, 3, 4, 5, 0] rfl ?_
      exact hK15 v4' (v5 + 1) hF h
    obtain ⟨hA, hB⟩ := h
    refine gh_zeq (tgt := 85) gd_Chart_beyond_33 (by decide) (fun c978 => ?_) (fun c978 => ?_)
    · have h := hA c978
      exact hJ85 v4 hF h
    · have h := hB c978
      refine gh_iload_n gd_Chart_beyond_36 3 rfl ?_
      refine gh_iconst gd_Chart_beyond_37 (gh_r0 rfl) ?_
      obtain ⟨hA, hB⟩ := h
      refine gh_jeq (tgt := 61) gd_Chart_beyond_38 (by decide) (fun c979 => ?_) (fun c979 => ?_)
      · have h := hA c979
        refine gh_aload_n gd_Chart_beyond_61 0 rfl (by decide) ?_
        refine gf_30_2 gd_Chart_beyond_62 gh_k331 hF ?_
        refine gh_iload_n gd_Chart_beyond_65 1 rfl ?_
        refine gh_iload gd_Chart_beyond_66 5 rfl ?_
        obtain ⟨q980, h⟩ := h
        refine cv_Text_fits (d := d) gd_Chart_beyond_68 gh_k926 hF (Nat.le_of_ble_eq_true rfl) (gh_C.pe (e_Text_fits d v1 v5 hF q980) ?_)
        obtain ⟨hA, hB⟩ := h
        refine gh_beq (tgt := 85) gd_Chart_beyond_71 (by decide) (fun c981 => ?_) (fun c981 => ?_)
        · have h := hA c981
          refine gh_iload gd_Chart_beyond_74 4 rfl ?_
          refine gh_iconst gd_Chart_beyond_76 (gh_r0 rfl) ?_
          refine gh_iload gd_Chart_beyond_77 5 rfl ?_
          refine gh_iconst gd_Chart_beyond_79 (gh_r0 rfl) ?_
          obtain ⟨q982, h⟩ := h
          refine gh_iadd gd_Chart_beyond_80 q982 ?_
          refine gh_ishl gd_Chart_beyond_81 ?_
          refine gh_ior gd_Chart_beyond_82 ?_
          refine gh_name (fun v4' hn => ?_)
          have h := h v4' hn
          refine gh_istore (L2 := [(4, 0, v4'), (0, 2, 30), (1, 0, v1), (2, 0, v2), (3, 0, v3), (5, 0, v5)]) gd_Chart_beyond_83 (by decide) rfl ?_
          refine gh_pick (L2 := [(0, 2, 30), (1, 0, v1), (2, 0, v2), (3, 0, v3), (4, 0, v4'), (5, 0, v5)]) [1, 2, 3, 4, 0, 5] rfl ?_
          exact hJ85 v4' hF h
        · have h := hB c981
          exact hJ85 v4 hF h
      · have h := hB c979
        refine gh_iload gd_Chart_beyond_41 4 rfl ?_
        refine gh_aload_n gd_Chart_beyond_43 0 rfl (by decide) ?_
        refine gf_30_4 gd_Chart_beyond_44 gh_k334 hF ?_
        refine gh_iload_n gd_Chart_beyond_47 3 rfl ?_
        refine gh_bipush gd_Chart_beyond_48 (by decide) (gh_r0 rfl) ?_
        obtain ⟨q983, h⟩ := h
        refine gh_imul gd_Chart_beyond_50 q983 ?_
        refine gh_iload gd_Chart_beyond_51 5 rfl ?_
        obtain ⟨q984, h⟩ := h
        refine gh_iadd gd_Chart_beyond_53 q984 ?_
        obtain ⟨q985, h⟩ := h
        obtain ⟨q986, h⟩ := h
        refine la_31 gd_Chart_beyond_54 hF q985 q986 rfl ?_
        refine gh_ior gd_Chart_beyond_55 ?_
        refine gh_name (fun v4' hn => ?_)
        have h := h v4' hn
        refine gh_istore (L2 := [(4, 0, v4'), (0, 2, 30), (1, 0, v1), (2, 0, v2), (3, 0, v3), (5, 0, v5)]) gd_Chart_beyond_56 (by decide) rfl ?_
        refine gh_goto (tgt := 85) gd_Chart_beyond_58 (by decide) ?_
        refine gh_pick (L2 := [(0, 2, 30), (1, 0, v1), (2, 0, v2), (3, 0, v3), (4, 0, v4'), (5, 0, v5)]) [1, 2, 3, 4, 0, 5] rfl ?_
        exact hJ85 v4' hF h
  · have h := hB c976
    refine gh_iload gd_Chart_beyond_91 4 rfl ?_
    exact gh_ret0 rfl gd_Chart_beyond_93 ⟨rfl, h⟩
theorem s_Chart_beyond {E : gh_E} {m : gh_M} {Q : Int → Prop} (d : Nat) (v1 : Int) (v2 : Int) (hF : gh_F m) (h : w_Chart_beyond v1 v2 m Q) : gh_C E gh_yChart_beyond prog_2_method_7_code 6 (some .int) 0 (d + 1) [(2, 30), (0, v1), (0, v2)] m (fun r m1 => m1 = m ∧ Q r) := by
  refine gh_enter2 (L := [(0, 2, 30), (1, 0, v1), (2, 0, v2)]) (by decide +kernel) gh_rt0 (Nat.le_of_ble_eq_true rfl) rfl rfl ?_
  unfold w_Chart_beyond at h
  refine gh_aload_n gd_Chart_beyond_0 0 rfl (by decide) ?_
  refine gf_30_0 gd_Chart_beyond_1 gh_k329 hF ?_
  refine gh_iload_n gd_Chart_beyond_4 1 rfl ?_
  obtain ⟨q975, h⟩ := h
  refine cv_Grammar_nameOf (d := d) gd_Chart_beyond_5 gh_k925 hF (Nat.le_of_ble_eq_true rfl) (gh_C.pe (e_Grammar_nameOf d v1 hF q975) ?_)
  refine gh_name (fun v3 hn => ?_)
  have h := h v3 hn
  refine gh_istore_n (L2 := [(3, 0, v3), (0, 2, 30), (1, 0, v1), (2, 0, v2)]) gd_Chart_beyond_8 (by decide) rfl ?_
  refine gh_iconst gd_Chart_beyond_9 (gh_r0 rfl) ?_
  refine gh_istore (L2 := [(4, 0, 0), (3, 0, v3), (0, 2, 30), (1, 0, v1), (2, 0, v2)]) gd_Chart_beyond_10 (by decide) rfl ?_
  refine gh_iconst gd_Chart_beyond_12 (gh_r0 rfl) ?_
  refine gh_istore (L2 := [(5, 0, 0), (4, 0, 0), (3, 0, v3), (0, 2, 30), (1, 0, v1), (2, 0, v2)]) gd_Chart_beyond_13 (by decide) rfl ?_
  refine gh_pick (L2 := [(0, 2, 30), (1, 0, v1), (2, 0, v2), (3, 0, v3), (4, 0, 0), (5, 0, 0)]) [3, 4, 5, 2, 1, 0] rfl ?_
  exact gh_L2_sound (T := fun v4 v5 => gh_T E (gh_yChart_beyond.cls, prog_2_method_7_code, 6, false, 0) (d + 1) 15 [(0, 2, 30), (1, 0, v1), (2, 0, v2), (3, 0, v3), (4, 0, v4), (5, 0, v5)] [] m (fun r m1 => m1 = m ∧ Q r)) (fun _ _ => gh_F m) (fun K15 v4 v5 hK hF h => b_Chart_beyond_15 d hK v4 v5 hF h) 0 0 hF h
def f_Chart_endsOfRow_8 (v1 : Int) (v2 : Int) (Q : Int → Prop) (m : gh_M) (K8 : Int → Int → Prop) (v4 : Int) (v5 : Int) : Prop := (((¬ (v5 < v2) ∨ (v4 = 0)) → Q v4) ∧ (¬ (¬ (v5 < v2) ∨ (v4 = 0)) → k_Grammar_partAt v1 v5 m ∧ w_Chart_beyond (x_Grammar_partAt v1 v5 m) v4 m (fun r990 => gh_i (v5 + 1) ∧ K8 r990 (v5 + 1))))
def w_Chart_endsOfRow (v1 : Int) (v2 : Int) (v3 : Int) (m : gh_M) (Q : Int → Prop) : Prop := ∀ v4 : Int, v4 = gh_ishl_f 1 v3 → gh_L2 (fun K8 v4 v5 => f_Chart_endsOfRow_8 v1 v2 Q m K8 v4 v5) v4 0
theorem b_Chart_endsOfRow_8 {E : gh_E} {v1 : Int} {v2 : Int} {Q : Int → Prop} {K8 : Int → Int → Prop} (d : Nat) {m : gh_M} (hK : ∀ (v4 : Int) (v5 : Int), gh_F m → K8 v4 v5 → gh_T E (gh_yChart_endsOfRow.cls, prog_2_method_6_code, 6, false, 0) (d + 2) 8 [(0, 2, 30), (1, 0, v1), (2, 0, v2), (4, 0, v4), (5, 0, v5)] [] m (fun r m1 => m1 = m ∧ Q r)) (v4 : Int) (v5 : Int) (hF : gh_F m) (h : f_Chart_endsOfRow_8 v1 v2 Q m K8 v4 v5) : gh_T E (gh_yChart_endsOfRow.cls, prog_2_method_6_code, 6, false, 0) (d + 2) 8 [(0, 2, 30), (1, 0, v1), (2, 0, v2), (4, 0, v4), (5, 0, v5)] [] m (fun r m1 => m1 = m ∧ Q r) := by
  have hK8 := hK
  unfold f_Chart_endsOfRow_8 at h
  refine gh_iload gd_Chart_endsOfRow_8 4 rfl ?_
  refine gh_iload_n gd_Chart_endsOfRow_10 2 rfl ?_
  obtain ⟨hA, hB⟩ := h
  have k987 : (¬ (v5 < v2) ∨ (v4 = 0)) → gh_T E (gh_yChart_endsOfRow.cls, prog_2_method_6_code, 6, false, 0) (d + 2) 43 [(0, 2, 30), (1, 0, v1), (2, 0, v2), (4, 0, v4), (5, 0, v5)] [] m (fun r m1 => m1 = m ∧ Q r) := by
    intro c
    have h := hA c
    refine gh_iload gd_Chart_endsOfRow_43 3 rfl ?_
    exact gh_ret0 rfl gd_Chart_endsOfRow_45 ⟨rfl, h⟩
  have k988 : ¬ (¬ (v5 < v2) ∨ (v4 = 0)) → gh_T E (gh_yChart_endsOfRow.cls, prog_2_method_6_code, 6, false, 0) (d + 2) 19 [(0, 2, 30), (1, 0, v1), (2, 0, v2), (4, 0, v4), (5, 0, v5)] [] m (fun r m1 => m1 = m ∧ Q r) := by
    intro c
    have h := hB c
    refine gh_aload_n gd_Chart_endsOfRow_19 0 rfl (by decide) ?_
    refine gh_aload_n gd_Chart_endsOfRow_20 0 rfl (by decide) ?_
    refine gf_30_0 gd_Chart_endsOfRow_21 gh_k329 hF ?_
    refine gh_iload_n gd_Chart_endsOfRow_24 1 rfl ?_
    refine gh_iload gd_Chart_endsOfRow_25 4 rfl ?_
    obtain ⟨q989, h⟩ := h
    refine cv_Grammar_partAt (d := d + 1) gd_Chart_endsOfRow_27 gh_k920 hF (Nat.le_of_ble_eq_true rfl) (gh_C.pe (e_Grammar_partAt (d + 1) v1 v5 hF q989) ?_)
    refine gh_iload gd_Chart_endsOfRow_30 3 rfl ?_
    refine cv_Chart_beyond (d := d + 1) gd_Chart_endsOfRow_32 gh_k921 hF (Nat.le_of_ble_eq_true rfl) (gh_C.pw (s_Chart_beyond d (x_Grammar_partAt v1 v5 m) v4 hF h) (fun r990 h => ?_))
    refine gh_istore (L2 := [(4, 0, r990), (0, 2, 30), (1, 0, v1), (2, 0, v2), (5, 0, v5)]) gd_Chart_endsOfRow_35 (by decide) rfl ?_
    obtain ⟨q992, h⟩ := h
    refine gh_iinc (L2 := [(5, 0, v5 + 1), (4, 0, r990), (0, 2, 30), (1, 0, v1), (2, 0, v2)]) gd_Chart_endsOfRow_37 4 rfl q992 (by decide) rfl ?_
    refine gh_goto (tgt := 8) gd_Chart_endsOfRow_40 (by decide) ?_
    refine gh_pick (L2 := [(0, 2, 30), (1, 0, v1), (2, 0, v2), (4, 0, r990), (5, 0, v5 + 1)]) [2, 3, 4, 1, 0] rfl ?_
    exact hK8 r990 (v5 + 1) hF h
  refine gh_jge (tgt := 43) gd_Chart_endsOfRow_11 (by decide) (fun c993 => ?_) (fun c993 => ?_)
  · have hz : True := trivial
    refine gh_iload gd_Chart_endsOfRow_14 3 rfl ?_
    refine gh_zeq (tgt := 43) gd_Chart_endsOfRow_16 (by decide) (fun c994 => ?_) (fun c994 => ?_)
    · have hz : True := trivial
      exact k987 (Or.inr c994)
    · have hz : True := trivial
      exact k988 (fun z => z.elim (fun w => w c993) c994)
  · have hz : True := trivial
    exact k987 (Or.inl c993)
theorem s_Chart_endsOfRow {E : gh_E} {m : gh_M} {Q : Int → Prop} (d : Nat) (v1 : Int) (v2 : Int) (v3 : Int) (hF : gh_F m) (h : w_Chart_endsOfRow v1 v2 v3 m Q) : gh_C E gh_yChart_endsOfRow prog_2_method_6_code 6 (some .int) 0 (d + 2) [(2, 30), (0, v1), (0, v2), (0, v3)] m (fun r m1 => m1 = m ∧ Q r) := by
  refine gh_enter2 (L := [(0, 2, 30), (1, 0, v1), (2, 0, v2), (3, 0, v3)]) (by decide +kernel) gh_rt0 (Nat.le_of_ble_eq_true rfl) rfl rfl ?_
  unfold w_Chart_endsOfRow at h
  refine gh_iconst gd_Chart_endsOfRow_0 (gh_r0 rfl) ?_
  refine gh_iload_n gd_Chart_endsOfRow_1 3 rfl ?_
  refine gh_ishl gd_Chart_endsOfRow_2 ?_
  refine gh_name (fun v4 hn => ?_)
  have h := h v4 hn
  refine gh_istore (L2 := [(4, 0, v4), (0, 2, 30), (1, 0, v1), (2, 0, v2), (3, 0, v3)]) gd_Chart_endsOfRow_3 (by decide) rfl ?_
  refine gh_iconst gd_Chart_endsOfRow_5 (gh_r0 rfl) ?_
  refine gh_istore (L2 := [(5, 0, 0), (4, 0, v4), (0, 2, 30), (1, 0, v1), (2, 0, v2), (3, 0, v3)]) gd_Chart_endsOfRow_6 (by decide) rfl ?_
  refine gh_pick (L2 := [(0, 2, 30), (1, 0, v1), (2, 0, v2), (4, 0, v4), (5, 0, 0)]) [2, 3, 4, 1, 0] rfl ?_
  exact gh_L2_sound (T := fun v4 v5 => gh_T E (gh_yChart_endsOfRow.cls, prog_2_method_6_code, 6, false, 0) (d + 2) 8 [(0, 2, 30), (1, 0, v1), (2, 0, v2), (4, 0, v4), (5, 0, v5)] [] m (fun r m1 => m1 = m ∧ Q r)) (fun _ _ => gh_F m) (fun K8 v4 v5 hK hF h => b_Chart_endsOfRow_8 d hK v4 v5 hF h) v4 0 hF h
def f_Chart_findEnds_19 (v1 : Int) (v3 : Int) (K4 : Int → Int → gh_M → Prop) (K19 : Int → Int → gh_M → Prop) (v2 : Int) (v4 : Int) (m : gh_M) : Prop := ((v4 < (m 13 2) → 0 ≤ v4 ∧ v4 < 20 ∧ gh_i ((m 16 v4) * 9) ∧ gh_i (((m 16 v4) * 9) + v1) ∧ ∀ v5 : Int, v5 = ((m 16 v4) * 9) + v1 → 0 ≤ v5 ∧ v5 < 72 ∧ 0 ≤ v4 ∧ v4 < 20 ∧ w_Chart_endsOfRow v4 (m 17 v4) v1 m (fun r1006 => ∀ v6 : Int, v6 = gh_ior_f (m 31 v5) r1006 → (((v2 = 0) → (0 ≤ v5 ∧ v5 < 72))) ∧ ∀ v2' : Int, v2' = (if (¬ (v2 = 0) ∨ (¬ (v6 = (m 31 v5)))) then (1:Int) else 0) → 0 ≤ v5 ∧ v5 < 72 ∧ gh_i (v4 + 1) ∧ K19 v2' (v4 + 1) (gh_u m 31 v5 v6))) ∧ (¬ (v4 < (m 13 2)) → gh_i (v3 + 1) ∧ K4 v2 (v3 + 1) m))
def f_Chart_findEnds_4 (v1 : Int) (Q : Int → gh_M → Prop) (K4 : Int → Int → gh_M → Prop) (v2 : Int) (v3 : Int) (m : gh_M) : Prop := (((¬ (v2 = 0) ∧ (v3 ≤ 72)) → gh_M2 (fun K19 v2 v4 m => f_Chart_findEnds_19 v1 v3 K4 K19 v2 v4 m) 0 0 m) ∧ (¬ (¬ (v2 = 0) ∧ (v3 ≤ 72)) → Q 0 m))
def w_Chart_findEnds (v1 : Int) (m : gh_M) (Q : Int → gh_M → Prop) : Prop := gh_M2 (fun K4 v2 v3 m => f_Chart_findEnds_4 v1 Q K4 v2 v3 m) 1 0 m
theorem b_Chart_findEnds_19 {E : gh_E} {v1 : Int} {v3 : Int} {K4 : Int → Int → gh_M → Prop} {Q : Int → gh_M → Prop} {K19 : Int → Int → gh_M → Prop} (d : Nat) (hK4 : ∀ (v2 : Int) (v3 : Int) (m : gh_M), gh_F m → K4 v2 v3 m → gh_T E (gh_yChart_findEnds.cls, prog_2_method_5_code, 7, false, 9) (d + 3) 4 [(0, 2, 30), (1, 0, v1), (2, 0, v2), (3, 0, v3)] [] m (fun r m1 => gh_F m1 ∧ Q r m1)) (hK : ∀ (v2 : Int) (v4 : Int) (m : gh_M), gh_F m → K19 v2 v4 m → gh_T E (gh_yChart_findEnds.cls, prog_2_method_5_code, 7, false, 9) (d + 3) 19 [(0, 2, 30), (1, 0, v1), (2, 0, v2), (3, 0, v3), (4, 0, v4)] [] m (fun r m1 => gh_F m1 ∧ Q r m1)) (v2 : Int) (v4 : Int) (m : gh_M) (hF : gh_F m) (h : f_Chart_findEnds_19 v1 v3 K4 K19 v2 v4 m) : gh_T E (gh_yChart_findEnds.cls, prog_2_method_5_code, 7, false, 9) (d + 3) 19 [(0, 2, 30), (1, 0, v1), (2, 0, v2), (3, 0, v3), (4, 0, v4)] [] m (fun r m1 => gh_F m1 ∧ Q r m1) := by
  have hK19 := hK
  unfold f_Chart_findEnds_19 at h
  refine gh_iload gd_Chart_findEnds_19 4 rfl ?_
  refine gh_aload_n gd_Chart_findEnds_21 0 rfl (by decide) ?_
  refine gf_30_0 gd_Chart_findEnds_22 gh_k329 hF ?_
  refine gf_13_2 gd_Chart_findEnds_25 gh_k189 hF rfl ?_
  obtain ⟨hA, hB⟩ := h
  refine gh_jge (tgt := 112) gd_Chart_findEnds_28 (by decide) (fun c997 => ?_) (fun c997 => ?_)
  · have h := hA c997
    refine gh_aload_n gd_Chart_findEnds_31 0 rfl (by decide) ?_
    refine gf_30_0 gd_Chart_findEnds_32 gh_k329 hF ?_
    refine gf_13_5 gd_Chart_findEnds_35 gh_k202 hF ?_
    refine gh_iload gd_Chart_findEnds_38 4 rfl ?_
    obtain ⟨q998, h⟩ := h
    obtain ⟨q999, h⟩ := h
    refine la_16 gd_Chart_findEnds_40 hF q998 q999 rfl ?_
    refine gh_bipush gd_Chart_findEnds_41 (by decide) (gh_r0 rfl) ?_
    obtain ⟨q1000, h⟩ := h
    refine gh_imul gd_Chart_findEnds_43 q1000 ?_
    refine gh_iload_n gd_Chart_findEnds_44 1 rfl ?_
    obtain ⟨q1001, h⟩ := h
    refine gh_iadd gd_Chart_findEnds_45 q1001 ?_
    refine gh_name (fun v5 hn => ?_)
    have h := h v5 hn
    refine gh_istore (L2 := [(5, 0, v5), (0, 2, 30), (1, 0, v1), (2, 0, v2), (3, 0, v3), (4, 0, v4)]) gd_Chart_findEnds_46 (by decide) rfl ?_
    refine gh_aload_n gd_Chart_findEnds_48 1 rfl (by decide) ?_
    refine gf_30_4 gd_Chart_findEnds_49 gh_k334 hF ?_
    refine gh_iload gd_Chart_findEnds_52 0 rfl ?_
    obtain ⟨q1002, h⟩ := h
    obtain ⟨q1003, h⟩ := h
    refine la_31 gd_Chart_findEnds_54 hF q1002 q1003 rfl ?_
    refine gh_aload_n gd_Chart_findEnds_55 1 rfl (by decide) ?_
    refine gh_iload gd_Chart_findEnds_56 5 rfl ?_
    refine gh_aload_n gd_Chart_findEnds_58 1 rfl (by decide) ?_
    refine gf_30_0 gd_Chart_findEnds_59 gh_k329 hF ?_
    refine gf_13_6 gd_Chart_findEnds_62 gh_k208 hF ?_
    refine gh_iload gd_Chart_findEnds_65 5 rfl ?_
    obtain ⟨q1004, h⟩ := h
    obtain ⟨q1005, h⟩ := h
    refine la_17 gd_Chart_findEnds_67 hF q1004 q1005 rfl ?_
    refine gh_iload_n gd_Chart_findEnds_68 2 rfl ?_
    refine cv_Chart_endsOfRow (d := d + 2) gd_Chart_findEnds_69 gh_k916 hF (Nat.le_of_ble_eq_true rfl) (gh_C.pw (s_Chart_endsOfRow d v4 (m 17 v4) v1 hF h) (fun r1006 h => ?_))
    refine gh_ior gd_Chart_findEnds_72 ?_
    refine gh_name (fun v6 hn => ?_)
    have h := h v6 hn
    refine gh_istore (L2 := [(6, 0, v6), (5, 0, v5), (0, 2, 30), (1, 0, v1), (2, 0, v2), (3, 0, v3), (4, 0, v4)]) gd_Chart_findEnds_73 (by decide) rfl ?_
    refine gh_iload_n gd_Chart_findEnds_75 4 rfl ?_
    obtain ⟨hk, h⟩ := h
    have k1010 : ∀ x1011 : Int, x1011 = (if (¬ (v2 = 0) ∨ (¬ (v6 = (m 31 v5)))) then (1:Int) else 0) → gh_T E (gh_yChart_findEnds.cls, prog_2_method_5_code, 7, false, 9) (d + 3) 96 [(6, 0, v6), (5, 0, v5), (0, 2, 30), (1, 0, v1), (2, 0, v2), (3, 0, v3), (4, 0, v4)] [(0, x1011)] m (fun r m1 => gh_F m1 ∧ Q r m1) := by
      rintro _ rfl
      refine gh_name (fun v2' hn => ?_)
      have h := h v2' hn
      refine gh_istore_n (L2 := [(2, 0, v2'), (6, 0, v6), (5, 0, v5), (0, 2, 30), (1, 0, v1), (3, 0, v3), (4, 0, v4)]) gd_Chart_findEnds_96 (by decide) rfl ?_
      refine gh_aload_n gd_Chart_findEnds_97 3 rfl (by decide) ?_
      refine gf_30_4 gd_Chart_findEnds_98 gh_k334 hF ?_
      refine gh_iload gd_Chart_findEnds_101 2 rfl ?_
      refine gh_iload gd_Chart_findEnds_103 1 rfl ?_
      obtain ⟨q1012, h⟩ := h
      obtain ⟨q1013, h⟩ := h
      refine sa_31 gd_Chart_findEnds_105 hF q1012 q1013 (fun hF => ?_)
      obtain ⟨q1014, h⟩ := h
      refine gh_iinc (L2 := [(4, 0, v4 + 1), (2, 0, v2'), (6, 0, v6), (5, 0, v5), (0, 2, 30), (1, 0, v1), (3, 0, v3)]) gd_Chart_findEnds_106 6 rfl q1014 (by decide) rfl ?_
      refine gh_goto (tgt := 19) gd_Chart_findEnds_109 (by decide) ?_
      refine gh_pick (L2 := [(0, 2, 30), (1, 0, v1), (2, 0, v2'), (3, 0, v3), (4, 0, v4 + 1)]) [4, 5, 1, 6, 0] rfl ?_
      exact hK19 v2' (v4 + 1) (gh_u m 31 v5 v6) hF h
    refine gh_zne (tgt := 91) gd_Chart_findEnds_76 (by decide) (fun c1015 => ?_) (fun c1015 => ?_)
    · have hz : True := trivial
      have hk := hk c1015
      refine gh_iload gd_Chart_findEnds_79 0 rfl ?_
      refine gh_aload_n gd_Chart_findEnds_81 2 rfl (by decide) ?_
      refine gf_30_4 gd_Chart_findEnds_82 gh_k334 hF ?_
      refine gh_iload gd_Chart_findEnds_85 1 rfl ?_
      obtain ⟨q1008, hk⟩ := hk
      have q1009 := hk
      refine la_31 gd_Chart_findEnds_87 hF q1008 q1009 rfl ?_
      refine gh_jeq (tgt := 95) gd_Chart_findEnds_88 (by decide) (fun c1016 => ?_) (fun c1016 => ?_)
      · have hz : True := trivial
        refine gh_iconst gd_Chart_findEnds_95 (gh_r0 rfl) ?_
        exact k1010 _ (if_neg (c := (¬ (v2 = 0) ∨ (¬ (v6 = (m 31 v5))))) (fun z => z.elim (fun w => w c1015) (not_not_intro c1016))).symm
      · have hz : True := trivial
        refine gh_iconst gd_Chart_findEnds_91 (gh_r0 rfl) ?_
        refine gh_goto (tgt := 96) gd_Chart_findEnds_92 (by decide) ?_
        exact k1010 _ (if_pos (c := (¬ (v2 = 0) ∨ (¬ (v6 = (m 31 v5))))) (Or.inr c1016)).symm
    · have hz : True := trivial
      refine gh_iconst gd_Chart_findEnds_91 (gh_r0 rfl) ?_
      refine gh_goto (tgt := 96) gd_Chart_findEnds_92 (by decide) ?_
      exact k1010 _ (if_pos (c := (¬ (v2 = 0) ∨ (¬ (v6 = (m 31 v5))))) (Or.inl c1015)).symm
  · have h := hB c997
    obtain ⟨q1017, h⟩ := h
    refine gh_iinc (L2 := [(3, 0, v3 + 1), (0, 2, 30), (1, 0, v1), (2, 0, v2), (4, 0, v4)]) gd_Chart_findEnds_112 3 rfl q1017 (by decide) rfl ?_
    refine gh_goto (tgt := 4) gd_Chart_findEnds_115 (by decide) ?_
    refine gh_pick (L2 := [(0, 2, 30), (1, 0, v1), (2, 0, v2), (3, 0, v3 + 1)]) [1, 2, 3, 0] rfl ?_
    exact hK4 v2 (v3 + 1) m hF h
theorem b_Chart_findEnds_4 {E : gh_E} {v1 : Int} {Q : Int → gh_M → Prop} {K4 : Int → Int → gh_M → Prop} (d : Nat) (hK : ∀ (v2 : Int) (v3 : Int) (m : gh_M), gh_F m → K4 v2 v3 m → gh_T E (gh_yChart_findEnds.cls, prog_2_method_5_code, 7, false, 9) (d + 3) 4 [(0, 2, 30), (1, 0, v1), (2, 0, v2), (3, 0, v3)] [] m (fun r m1 => gh_F m1 ∧ Q r m1)) (v2 : Int) (v3 : Int) (m : gh_M) (hF : gh_F m) (h : f_Chart_findEnds_4 v1 Q K4 v2 v3 m) : gh_T E (gh_yChart_findEnds.cls, prog_2_method_5_code, 7, false, 9) (d + 3) 4 [(0, 2, 30), (1, 0, v1), (2, 0, v2), (3, 0, v3)] [] m (fun r m1 => gh_F m1 ∧ Q r m1) := by
  have hK4 := hK
  unfold f_Chart_findEnds_4 at h
  refine gh_iload_n gd_Chart_findEnds_4 2 rfl ?_
  obtain ⟨hA, hB⟩ := h
  have k995 : (¬ (v2 = 0) ∧ (v3 ≤ 72)) → gh_T E (gh_yChart_findEnds.cls, prog_2_method_5_code, 7, false, 9) (d + 3) 14 [(0, 2, 30), (1, 0, v1), (2, 0, v2), (3, 0, v3)] [] m (fun r m1 => gh_F m1 ∧ Q r m1) := by
    intro c
    have h := hA c
    refine gh_iconst gd_Chart_findEnds_14 (gh_r0 rfl) ?_
    refine gh_istore_n (L2 := [(2, 0, 0), (0, 2, 30), (1, 0, v1), (3, 0, v3)]) gd_Chart_findEnds_15 (by decide) rfl ?_
    refine gh_iconst gd_Chart_findEnds_16 (gh_r0 rfl) ?_
    refine gh_istore (L2 := [(4, 0, 0), (2, 0, 0), (0, 2, 30), (1, 0, v1), (3, 0, v3)]) gd_Chart_findEnds_17 (by decide) rfl ?_
    refine gh_pick (L2 := [(0, 2, 30), (1, 0, v1), (2, 0, 0), (3, 0, v3), (4, 0, 0)]) [2, 3, 1, 4, 0] rfl ?_
    exact gh_M2_sound (T := fun v2 v4 m => gh_T E (gh_yChart_findEnds.cls, prog_2_method_5_code, 7, false, 9) (d + 3) 19 [(0, 2, 30), (1, 0, v1), (2, 0, v2), (3, 0, v3), (4, 0, v4)] [] m (fun r m1 => gh_F m1 ∧ Q r m1)) (fun _ _ m => gh_F m) (fun K19 v2 v4 m hK hF h => b_Chart_findEnds_19 d hK4 hK v2 v4 m hF h) 0 0 m hF h
  have k996 : ¬ (¬ (v2 = 0) ∧ (v3 ≤ 72)) → gh_T E (gh_yChart_findEnds.cls, prog_2_method_5_code, 7, false, 9) (d + 3) 118 [(0, 2, 30), (1, 0, v1), (2, 0, v2), (3, 0, v3)] [] m (fun r m1 => gh_F m1 ∧ Q r m1) := by
    intro c
    have h := hB c
    exact gh_ret9 rfl gd_Chart_findEnds_118 ⟨hF, h⟩
  refine gh_zeq (tgt := 118) gd_Chart_findEnds_5 (by decide) (fun c1018 => ?_) (fun c1018 => ?_)
  · have hz : True := trivial
    exact k996 (fun z => z.1 c1018)
  · have hz : True := trivial
    refine gh_iload_n gd_Chart_findEnds_8 3 rfl ?_
    refine gh_bipush gd_Chart_findEnds_9 (by decide) (gh_r0 rfl) ?_
    refine gh_jgt (tgt := 118) gd_Chart_findEnds_11 (by decide) (fun c1019 => ?_) (fun c1019 => ?_)
    · have hz : True := trivial
      exact k995 ⟨c1018, c1019⟩
    · have hz : True := trivial
      exact k996 (fun z => c1019 z.2)
theorem s_Chart_findEnds {E : gh_E} {m : gh_M} {Q : Int → gh_M → Prop} (d : Nat) (v1 : Int) (hF : gh_F m) (h : w_Chart_findEnds v1 m Q) : gh_C E gh_yChart_findEnds prog_2_method_5_code 7 none 9 (d + 3) [(2, 30), (0, v1)] m (fun r m1 => gh_F m1 ∧ Q r m1) := by
  refine gh_enter2 (L := [(0, 2, 30), (1, 0, v1)]) (by decide +kernel) gh_rt9 (Nat.le_of_ble_eq_true rfl) rfl rfl ?_
  unfold w_Chart_findEnds at h
  refine gh_iconst gd_Chart_findEnds_0 (gh_r0 rfl) ?_
  refine gh_istore_n (L2 := [(2, 0, 1), (0, 2, 30), (1, 0, v1)]) gd_Chart_findEnds_1 (by decide) rfl ?_
  refine gh_iconst gd_Chart_findEnds_2 (gh_r0 rfl) ?_
  refine gh_istore_n (L2 := [(3, 0, 0), (2, 0, 1), (0, 2, 30), (1, 0, v1)]) gd_Chart_findEnds_3 (by decide) rfl ?_
  refine gh_pick (L2 := [(0, 2, 30), (1, 0, v1), (2, 0, 1), (3, 0, 0)]) [2, 3, 1, 0] rfl ?_
  exact gh_M2_sound (T := fun v2 v3 m => gh_T E (gh_yChart_findEnds.cls, prog_2_method_5_code, 7, false, 9) (d + 3) 4 [(0, 2, 30), (1, 0, v1), (2, 0, v2), (3, 0, v3)] [] m (fun r m1 => gh_F m1 ∧ Q r m1)) (fun _ _ m => gh_F m) (fun K4 v2 v3 m hK hF h => b_Chart_findEnds_4 d hK v2 v3 m hF h) 1 0 m hF h
def f_Chart_enter_32_13 (v1 : Int) (v2 : Int) (v4 : Int) (Q : Int → gh_M → Prop) (K13 : Int → gh_M → Prop) (v5 : Int) (m : gh_M) : Prop := ∃ J53 : gh_M → Prop, (∀ (m : gh_M), J53 m → w_Chart_beyond v1 v2 m (fun r1058 => Q r1058 m)) ∧ (((¬ (v5 ≤ (m 26 3)) ∨ (v4 = (-1))) → J53 m) ∧ (¬ (¬ (v5 ≤ (m 26 3)) ∨ (v4 = (-1))) → 0 ≤ v5 ∧ v5 < 9 ∧ 0 ≤ v5 ∧ v5 < 9 ∧ gh_i (v5 + 1) ∧ K13 (v5 + 1) (gh_u m 32 v5 (gh_ior_f (m 32 v5) (gh_ishl_f (gh_iand_f (gh_ishr_f v2 v5) 1) v4)))))
def w_Chart_enter_32 (v1 : Int) (v2 : Int) (m : gh_M) (Q : Int → gh_M → Prop) : Prop := k_Grammar_nameOf v1 m ∧ ∀ v4 : Int, v4 = x_Grammar_nameOf v1 m → gh_M1 (fun K13 v5 m => f_Chart_enter_32_13 v1 v2 v4 Q K13 v5 m) 0 m
theorem b_Chart_enter_32_13 {E : gh_E} {v1 : Int} {v2 : Int} {v4 : Int} {Q : Int → gh_M → Prop} {K13 : Int → gh_M → Prop} (d : Nat) (hK : ∀ (v5 : Int) (m : gh_M), gh_F m → K13 v5 m → gh_T E (gh_yChart_enter.cls, prog_2_method_11_code, 6, false, 0) (d + 2) 13 [(0, 2, 30), (1, 0, v1), (2, 0, v2), (3, 2, 32), (4, 0, v4), (5, 0, v5)] [] m (fun r m1 => gh_F m1 ∧ Q r m1)) (v5 : Int) (m : gh_M) (hF : gh_F m) (h : f_Chart_enter_32_13 v1 v2 v4 Q K13 v5 m) : gh_T E (gh_yChart_enter.cls, prog_2_method_11_code, 6, false, 0) (d + 2) 13 [(0, 2, 30), (1, 0, v1), (2, 0, v2), (3, 2, 32), (4, 0, v4), (5, 0, v5)] [] m (fun r m1 => gh_F m1 ∧ Q r m1) := by
  have hK13 := hK
  unfold f_Chart_enter_32_13 at h
  refine gh_iload gd_Chart_enter_13 5 rfl ?_
  refine gh_aload_n gd_Chart_enter_15 0 rfl (by decide) ?_
  refine gf_30_2 gd_Chart_enter_16 gh_k331 hF ?_
  refine gf_26_3 gd_Chart_enter_19 gh_k296 hF rfl ?_
  obtain ⟨J53, hJ53, h⟩ := h
  have hJ53 : ∀ (m : gh_M), gh_F m → J53 m → gh_T E (gh_yChart_enter.cls, prog_2_method_11_code, 6, false, 0) (d + 2) 53 [(0, 2, 30), (1, 0, v1), (2, 0, v2)] [] m (fun r m1 => gh_F m1 ∧ Q r m1) := by
    intro m hF hj
    have h := hJ53 m hj
    refine gh_aload_n gd_Chart_enter_53 0 rfl (by decide) ?_
    refine gh_iload_n gd_Chart_enter_54 1 rfl ?_
    refine gh_iload_n gd_Chart_enter_55 2 rfl ?_
    refine cv_Chart_beyond (d := d + 1) gd_Chart_enter_56 gh_k921 hF (Nat.le_of_ble_eq_true rfl) (gh_C.pw (s_Chart_beyond d v1 v2 hF h) (fun r1058 h => ?_))
    exact gh_ret0 rfl gd_Chart_enter_59 ⟨hF, h⟩
  obtain ⟨hA, hB⟩ := h
  have k1060 : (¬ (v5 ≤ (m 26 3)) ∨ (v4 = (-1))) → gh_T E (gh_yChart_enter.cls, prog_2_method_11_code, 6, false, 0) (d + 2) 53 [(0, 2, 30), (1, 0, v1), (2, 0, v2), (3, 2, 32), (4, 0, v4), (5, 0, v5)] [] m (fun r m1 => gh_F m1 ∧ Q r m1) := by
    intro c
    have h := hA c
    refine gh_pick (L2 := [(0, 2, 30), (1, 0, v1), (2, 0, v2)]) [0, 1, 2] rfl ?_
    exact hJ53 m hF h
  have k1061 : ¬ (¬ (v5 ≤ (m 26 3)) ∨ (v4 = (-1))) → gh_T E (gh_yChart_enter.cls, prog_2_method_11_code, 6, false, 0) (d + 2) 31 [(0, 2, 30), (1, 0, v1), (2, 0, v2), (3, 2, 32), (4, 0, v4), (5, 0, v5)] [] m (fun r m1 => gh_F m1 ∧ Q r m1) := by
    intro c
    have h := hB c
    refine gh_aload_n gd_Chart_enter_31 3 rfl (by decide) ?_
    refine gh_iload gd_Chart_enter_32 5 rfl ?_
    refine gh_dup2 gd_Chart_enter_34 (by decide) (by decide) ?_
    obtain ⟨q1062, h⟩ := h
    obtain ⟨q1063, h⟩ := h
    refine la_32 gd_Chart_enter_35 hF q1062 q1063 rfl ?_
    refine gh_iload_n gd_Chart_enter_36 2 rfl ?_
    refine gh_iload gd_Chart_enter_37 5 rfl ?_
    refine gh_ishr gd_Chart_enter_39 ?_
    refine gh_iconst gd_Chart_enter_40 (gh_r0 rfl) ?_
    refine gh_iand gd_Chart_enter_41 ?_
    refine gh_iload gd_Chart_enter_42 4 rfl ?_
    refine gh_ishl gd_Chart_enter_44 ?_
    refine gh_ior gd_Chart_enter_45 ?_
    obtain ⟨q1064, h⟩ := h
    obtain ⟨q1065, h⟩ := h
    refine sa_32 gd_Chart_enter_46 hF q1064 q1065 (fun hF => ?_)
    obtain ⟨q1066, h⟩ := h
    refine gh_iinc (L2 := [(5, 0, v5 + 1), (0, 2, 30), (1, 0, v1), (2, 0, v2), (3, 2, 32), (4, 0, v4)]) gd_Chart_enter_47 5 rfl q1066 (by decide) rfl ?_
    refine gh_goto (tgt := 13) gd_Chart_enter_50 (by decide) ?_
    refine gh_pick (L2 := [(0, 2, 30), (1, 0, v1), (2, 0, v2), (3, 2, 32), (4, 0, v4), (5, 0, v5 + 1)]) [1, 2, 3, 4, 5, 0] rfl ?_
    exact hK13 (v5 + 1) (gh_u m 32 v5 (gh_ior_f (m 32 v5) (gh_ishl_f (gh_iand_f (gh_ishr_f v2 v5) 1) v4))) hF h
  refine gh_jgt (tgt := 53) gd_Chart_enter_22 (by decide) (fun c1067 => ?_) (fun c1067 => ?_)
  · have hz : True := trivial
    refine gh_iload gd_Chart_enter_25 4 rfl ?_
    refine gh_iconst gd_Chart_enter_27 (gh_r0 rfl) ?_
    refine gh_jeq (tgt := 53) gd_Chart_enter_28 (by decide) (fun c1068 => ?_) (fun c1068 => ?_)
    · have hz : True := trivial
      exact k1060 (Or.inr c1068)
    · have hz : True := trivial
      exact k1061 (fun z => z.elim (fun w => w c1067) c1068)
  · have hz : True := trivial
    exact k1060 (Or.inl c1067)
theorem s_Chart_enter_32 {E : gh_E} {m : gh_M} {Q : Int → gh_M → Prop} (d : Nat) (v1 : Int) (v2 : Int) (hF : gh_F m) (h : w_Chart_enter_32 v1 v2 m Q) : gh_C E gh_yChart_enter prog_2_method_11_code 6 (some .int) 0 (d + 2) [(2, 30), (0, v1), (0, v2), (2, 32)] m (fun r m1 => gh_F m1 ∧ Q r m1) := by
  refine gh_enter2 (L := [(0, 2, 30), (1, 0, v1), (2, 0, v2), (3, 2, 32)]) (by decide +kernel) gh_rt0 (Nat.le_of_ble_eq_true rfl) rfl rfl ?_
  unfold w_Chart_enter_32 at h
  refine gh_aload_n gd_Chart_enter_0 0 rfl (by decide) ?_
  refine gf_30_0 gd_Chart_enter_1 gh_k329 hF ?_
  refine gh_iload_n gd_Chart_enter_4 1 rfl ?_
  obtain ⟨q1057, h⟩ := h
  refine cv_Grammar_nameOf (d := d + 1) gd_Chart_enter_5 gh_k925 hF (Nat.le_of_ble_eq_true rfl) (gh_C.pe (e_Grammar_nameOf (d + 1) v1 hF q1057) ?_)
  refine gh_name (fun v4 hn => ?_)
  have h := h v4 hn
  refine gh_istore (L2 := [(4, 0, v4), (0, 2, 30), (1, 0, v1), (2, 0, v2), (3, 2, 32)]) gd_Chart_enter_8 (by decide) rfl ?_
  refine gh_iconst gd_Chart_enter_10 (gh_r0 rfl) ?_
  refine gh_istore (L2 := [(5, 0, 0), (4, 0, v4), (0, 2, 30), (1, 0, v1), (2, 0, v2), (3, 2, 32)]) gd_Chart_enter_11 (by decide) rfl ?_
  refine gh_pick (L2 := [(0, 2, 30), (1, 0, v1), (2, 0, v2), (3, 2, 32), (4, 0, v4), (5, 0, 0)]) [2, 3, 4, 5, 1, 0] rfl ?_
  exact gh_M1_sound (T := fun v5 m => gh_T E (gh_yChart_enter.cls, prog_2_method_11_code, 6, false, 0) (d + 2) 13 [(0, 2, 30), (1, 0, v1), (2, 0, v2), (3, 2, 32), (4, 0, v4), (5, 0, v5)] [] m (fun r m1 => gh_F m1 ∧ Q r m1)) (fun _ m => gh_F m) (fun K13 v5 m hK hF h => b_Chart_enter_32_13 d hK v5 m hF h) 0 m hF h
def f_Chart_goThrough_32_25 (v1 : Int) (v2 : Int) (v4 : Int) (v5 : Int) (K8 : Int → Int → gh_M → Prop) (K25 : Int → gh_M → Prop) (v6 : Int) (m : gh_M) : Prop := ((v6 ≤ (m 26 3) → 0 ≤ v6 ∧ v6 < 9 ∧ gh_i ((m 34 v6) + (gh_iand_f (gh_ishr_f v4 v6) 1)) ∧ 0 ≤ v6 ∧ v6 < 9 ∧ gh_i (v6 + 1) ∧ K25 (v6 + 1) (gh_u m 34 v6 ((m 34 v6) + (gh_iand_f (gh_ishr_f v4 v6) 1)))) ∧ (¬ (v6 ≤ (m 26 3)) → 0 ≤ v1 ∧ v1 < 20 ∧ ∃ J93 : Int → gh_M → Prop, (∀ (v4' : Int) (m : gh_M), J93 v4' m → gh_i (v5 + 1) ∧ K8 v4' (v5 + 1) m) ∧ ((v5 < (m 17 v1) → k_Grammar_partAt v1 v5 m ∧ w_Chart_enter_32 (x_Grammar_partAt v1 v5 m) v4 m (fun r1055 m1056 => J93 r1055 m1056)) ∧ (¬ (v5 < (m 17 v1)) → J93 v4 m))))
def f_Chart_goThrough_32_8 (v1 : Int) (v2 : Int) (Q : Int → gh_M → Prop) (K8 : Int → Int → gh_M → Prop) (v4 : Int) (v5 : Int) (m : gh_M) : Prop := 0 ≤ v1 ∧ v1 < 20 ∧ ((v5 ≤ (m 17 v1) → gh_M1 (fun K25 v6 m => f_Chart_goThrough_32_25 v1 v2 v4 v5 K8 K25 v6 m) v2 m) ∧ (¬ (v5 ≤ (m 17 v1)) → Q 0 m))
def w_Chart_goThrough_32 (v1 : Int) (v2 : Int) (m : gh_M) (Q : Int → gh_M → Prop) : Prop := ∀ v4 : Int, v4 = gh_ishl_f 1 v2 → gh_M2 (fun K8 v4 v5 m => f_Chart_goThrough_32_8 v1 v2 Q K8 v4 v5 m) v4 0 m
theorem b_Chart_goThrough_32_25 {E : gh_E} {v1 : Int} {v2 : Int} {v4 : Int} {v5 : Int} {K8 : Int → Int → gh_M → Prop} {Q : Int → gh_M → Prop} {K25 : Int → gh_M → Prop} (d : Nat) (hK8 : ∀ (v4 : Int) (v5 : Int) (m : gh_M), gh_F m → K8 v4 v5 m → gh_T E (gh_yChart_goThrough.cls, prog_2_method_9_code, 7, false, 9) (d + 3) 8 [(0, 2, 30), (1, 0, v1), (2, 0, v2), (3, 2, 32), (4, 0, v4), (5, 0, v5)] [] m (fun r m1 => gh_F m1 ∧ Q r m1)) (hK : ∀ (v6 : Int) (m : gh_M), gh_F m → K25 v6 m → gh_T E (gh_yChart_goThrough.cls, prog_2_method_9_code, 7, false, 9) (d + 3) 25 [(0, 2, 30), (1, 0, v1), (2, 0, v2), (3, 2, 32), (4, 0, v4), (5, 0, v5), (6, 0, v6)] [] m (fun r m1 => gh_F m1 ∧ Q r m1)) (v6 : Int) (m : gh_M) (hF : gh_F m) (h : f_Chart_goThrough_32_25 v1 v2 v4 v5 K8 K25 v6 m) : gh_T E (gh_yChart_goThrough.cls, prog_2_method_9_code, 7, false, 9) (d + 3) 25 [(0, 2, 30), (1, 0, v1), (2, 0, v2), (3, 2, 32), (4, 0, v4), (5, 0, v5), (6, 0, v6)] [] m (fun r m1 => gh_F m1 ∧ Q r m1) := by
  have hK25 := hK
  unfold f_Chart_goThrough_32_25 at h
  refine gh_iload gd_Chart_goThrough_25 6 rfl ?_
  refine gh_aload_n gd_Chart_goThrough_27 0 rfl (by decide) ?_
  refine gf_30_2 gd_Chart_goThrough_28 gh_k331 hF ?_
  refine gf_26_3 gd_Chart_goThrough_31 gh_k296 hF rfl ?_
  obtain ⟨hA, hB⟩ := h
  refine gh_jgt (tgt := 60) gd_Chart_goThrough_34 (by decide) (fun c1043 => ?_) (fun c1043 => ?_)
  · have h := hA c1043
    refine gh_aload_n gd_Chart_goThrough_37 0 rfl (by decide) ?_
    refine gf_30_7 gd_Chart_goThrough_38 gh_k337 hF ?_
    refine gh_iload gd_Chart_goThrough_41 6 rfl ?_
    refine gh_dup2 gd_Chart_goThrough_43 (by decide) (by decide) ?_
    obtain ⟨q1044, h⟩ := h
    obtain ⟨q1045, h⟩ := h
    refine la_34 gd_Chart_goThrough_44 hF q1044 q1045 rfl ?_
    refine gh_iload gd_Chart_goThrough_45 4 rfl ?_
    refine gh_iload gd_Chart_goThrough_47 6 rfl ?_
    refine gh_ishr gd_Chart_goThrough_49 ?_
    refine gh_iconst gd_Chart_goThrough_50 (gh_r0 rfl) ?_
    refine gh_iand gd_Chart_goThrough_51 ?_
    obtain ⟨q1046, h⟩ := h
    refine gh_iadd gd_Chart_goThrough_52 q1046 ?_
    obtain ⟨q1047, h⟩ := h
    obtain ⟨q1048, h⟩ := h
    refine sa_34 gd_Chart_goThrough_53 hF q1047 q1048 (fun hF => ?_)
    obtain ⟨q1049, h⟩ := h
    refine gh_iinc (L2 := [(6, 0, v6 + 1), (0, 2, 30), (1, 0, v1), (2, 0, v2), (3, 2, 32), (4, 0, v4), (5, 0, v5)]) gd_Chart_goThrough_54 6 rfl q1049 (by decide) rfl ?_
    refine gh_goto (tgt := 25) gd_Chart_goThrough_57 (by decide) ?_
    refine gh_pick (L2 := [(0, 2, 30), (1, 0, v1), (2, 0, v2), (3, 2, 32), (4, 0, v4), (5, 0, v5), (6, 0, v6 + 1)]) [1, 2, 3, 4, 5, 6, 0] rfl ?_
    exact hK25 (v6 + 1) (gh_u m 34 v6 ((m 34 v6) + (gh_iand_f (gh_ishr_f v4 v6) 1))) hF h
  · have h := hB c1043
    refine gh_iload gd_Chart_goThrough_60 5 rfl ?_
    refine gh_aload_n gd_Chart_goThrough_62 0 rfl (by decide) ?_
    refine gf_30_0 gd_Chart_goThrough_63 gh_k329 hF ?_
    refine gf_13_6 gd_Chart_goThrough_66 gh_k208 hF ?_
    refine gh_iload_n gd_Chart_goThrough_69 1 rfl ?_
    obtain ⟨q1050, h⟩ := h
    obtain ⟨q1051, h⟩ := h
    refine la_17 gd_Chart_goThrough_70 hF q1050 q1051 rfl ?_
    obtain ⟨J93, hJ93, h⟩ := h
    have hJ93 : ∀ (v4' : Int) (m : gh_M), gh_F m → J93 v4' m → gh_T E (gh_yChart_goThrough.cls, prog_2_method_9_code, 7, false, 9) (d + 3) 93 [(0, 2, 30), (1, 0, v1), (2, 0, v2), (3, 2, 32), (4, 0, v4'), (5, 0, v5)] [] m (fun r m1 => gh_F m1 ∧ Q r m1) := by
      intro v4' m hF hj
      have h := hJ93 v4' m hj
      obtain ⟨q1052, h⟩ := h
      refine gh_iinc (L2 := [(5, 0, v5 + 1), (0, 2, 30), (1, 0, v1), (2, 0, v2), (3, 2, 32), (4, 0, v4')]) gd_Chart_goThrough_93 5 rfl q1052 (by decide) rfl ?_
      refine gh_goto (tgt := 8) gd_Chart_goThrough_96 (by decide) ?_
      refine gh_pick (L2 := [(0, 2, 30), (1, 0, v1), (2, 0, v2), (3, 2, 32), (4, 0, v4'), (5, 0, v5 + 1)]) [1, 2, 3, 4, 5, 0] rfl ?_
      exact hK8 v4' (v5 + 1) m hF h
    obtain ⟨hA, hB⟩ := h
    refine gh_jge (tgt := 93) gd_Chart_goThrough_71 (by decide) (fun c1053 => ?_) (fun c1053 => ?_)
    · have h := hA c1053
      refine gh_aload_n gd_Chart_goThrough_74 0 rfl (by decide) ?_
      refine gh_aload_n gd_Chart_goThrough_75 0 rfl (by decide) ?_
      refine gf_30_0 gd_Chart_goThrough_76 gh_k329 hF ?_
      refine gh_iload_n gd_Chart_goThrough_79 1 rfl ?_
      refine gh_iload gd_Chart_goThrough_80 5 rfl ?_
      obtain ⟨q1054, h⟩ := h
      refine cv_Grammar_partAt (d := d + 2) gd_Chart_goThrough_82 gh_k920 hF (Nat.le_of_ble_eq_true rfl) (gh_C.pe (e_Grammar_partAt (d + 2) v1 v5 hF q1054) ?_)
      refine gh_iload gd_Chart_goThrough_85 4 rfl ?_
      refine gh_aload_n gd_Chart_goThrough_87 3 rfl (by decide) ?_
      refine cv_Chart_enter (d := d + 2) gd_Chart_goThrough_88 gh_k938 hF (Nat.le_of_ble_eq_true rfl) (gh_C.mono (s_Chart_enter_32 d (x_Grammar_partAt v1 v5 m) v4 hF h) (fun r1055 m1056 hq => ?_))
      obtain ⟨hF, h⟩ := hq
      refine gh_istore (L2 := [(4, 0, r1055), (0, 2, 30), (1, 0, v1), (2, 0, v2), (3, 2, 32), (5, 0, v5), (6, 0, v6)]) gd_Chart_goThrough_91 (by decide) rfl ?_
      refine gh_pick (L2 := [(0, 2, 30), (1, 0, v1), (2, 0, v2), (3, 2, 32), (4, 0, r1055), (5, 0, v5)]) [1, 2, 3, 4, 0, 5] rfl ?_
      exact hJ93 r1055 m1056 hF h
    · have h := hB c1053
      refine gh_pick (L2 := [(0, 2, 30), (1, 0, v1), (2, 0, v2), (3, 2, 32), (4, 0, v4), (5, 0, v5)]) [0, 1, 2, 3, 4, 5] rfl ?_
      exact hJ93 v4 m hF h
theorem b_Chart_goThrough_32_8 {E : gh_E} {v1 : Int} {v2 : Int} {Q : Int → gh_M → Prop} {K8 : Int → Int → gh_M → Prop} (d : Nat) (hK : ∀ (v4 : Int) (v5 : Int) (m : gh_M), gh_F m → K8 v4 v5 m → gh_T E (gh_yChart_goThrough.cls, prog_2_method_9_code, 7, false, 9) (d + 3) 8 [(0, 2, 30), (1, 0, v1), (2, 0, v2), (3, 2, 32), (4, 0, v4), (5, 0, v5)] [] m (fun r m1 => gh_F m1 ∧ Q r m1)) (v4 : Int) (v5 : Int) (m : gh_M) (hF : gh_F m) (h : f_Chart_goThrough_32_8 v1 v2 Q K8 v4 v5 m) : gh_T E (gh_yChart_goThrough.cls, prog_2_method_9_code, 7, false, 9) (d + 3) 8 [(0, 2, 30), (1, 0, v1), (2, 0, v2), (3, 2, 32), (4, 0, v4), (5, 0, v5)] [] m (fun r m1 => gh_F m1 ∧ Q r m1) := by
  have hK8 := hK
  unfold f_Chart_goThrough_32_8 at h
  refine gh_iload gd_Chart_goThrough_8 5 rfl ?_
  refine gh_aload_n gd_Chart_goThrough_10 0 rfl (by decide) ?_
  refine gf_30_0 gd_Chart_goThrough_11 gh_k329 hF ?_
  refine gf_13_6 gd_Chart_goThrough_14 gh_k208 hF ?_
  refine gh_iload_n gd_Chart_goThrough_17 1 rfl ?_
  obtain ⟨q1040, h⟩ := h
  obtain ⟨q1041, h⟩ := h
  refine la_17 gd_Chart_goThrough_18 hF q1040 q1041 rfl ?_
  obtain ⟨hA, hB⟩ := h
  refine gh_jgt (tgt := 99) gd_Chart_goThrough_19 (by decide) (fun c1042 => ?_) (fun c1042 => ?_)
  · have h := hA c1042
    refine gh_iload_n gd_Chart_goThrough_22 2 rfl ?_
    refine gh_istore (L2 := [(6, 0, v2), (0, 2, 30), (1, 0, v1), (2, 0, v2), (3, 2, 32), (4, 0, v4), (5, 0, v5)]) gd_Chart_goThrough_23 (by decide) rfl ?_
    refine gh_pick (L2 := [(0, 2, 30), (1, 0, v1), (2, 0, v2), (3, 2, 32), (4, 0, v4), (5, 0, v5), (6, 0, v2)]) [1, 2, 3, 4, 5, 6, 0] rfl ?_
    exact gh_M1_sound (T := fun v6 m => gh_T E (gh_yChart_goThrough.cls, prog_2_method_9_code, 7, false, 9) (d + 3) 25 [(0, 2, 30), (1, 0, v1), (2, 0, v2), (3, 2, 32), (4, 0, v4), (5, 0, v5), (6, 0, v6)] [] m (fun r m1 => gh_F m1 ∧ Q r m1)) (fun _ m => gh_F m) (fun K25 v6 m hK hF h => b_Chart_goThrough_32_25 d hK8 hK v6 m hF h) v2 m hF h
  · have h := hB c1042
    exact gh_ret9 rfl gd_Chart_goThrough_99 ⟨hF, h⟩
theorem s_Chart_goThrough_32 {E : gh_E} {m : gh_M} {Q : Int → gh_M → Prop} (d : Nat) (v1 : Int) (v2 : Int) (hF : gh_F m) (h : w_Chart_goThrough_32 v1 v2 m Q) : gh_C E gh_yChart_goThrough prog_2_method_9_code 7 none 9 (d + 3) [(2, 30), (0, v1), (0, v2), (2, 32)] m (fun r m1 => gh_F m1 ∧ Q r m1) := by
  refine gh_enter2 (L := [(0, 2, 30), (1, 0, v1), (2, 0, v2), (3, 2, 32)]) (by decide +kernel) gh_rt9 (Nat.le_of_ble_eq_true rfl) rfl rfl ?_
  unfold w_Chart_goThrough_32 at h
  refine gh_iconst gd_Chart_goThrough_0 (gh_r0 rfl) ?_
  refine gh_iload_n gd_Chart_goThrough_1 2 rfl ?_
  refine gh_ishl gd_Chart_goThrough_2 ?_
  refine gh_name (fun v4 hn => ?_)
  have h := h v4 hn
  refine gh_istore (L2 := [(4, 0, v4), (0, 2, 30), (1, 0, v1), (2, 0, v2), (3, 2, 32)]) gd_Chart_goThrough_3 (by decide) rfl ?_
  refine gh_iconst gd_Chart_goThrough_5 (gh_r0 rfl) ?_
  refine gh_istore (L2 := [(5, 0, 0), (4, 0, v4), (0, 2, 30), (1, 0, v1), (2, 0, v2), (3, 2, 32)]) gd_Chart_goThrough_6 (by decide) rfl ?_
  refine gh_pick (L2 := [(0, 2, 30), (1, 0, v1), (2, 0, v2), (3, 2, 32), (4, 0, v4), (5, 0, 0)]) [2, 3, 4, 5, 1, 0] rfl ?_
  exact gh_M2_sound (T := fun v4 v5 m => gh_T E (gh_yChart_goThrough.cls, prog_2_method_9_code, 7, false, 9) (d + 3) 8 [(0, 2, 30), (1, 0, v1), (2, 0, v2), (3, 2, 32), (4, 0, v4), (5, 0, v5)] [] m (fun r m1 => gh_F m1 ∧ Q r m1)) (fun _ _ m => gh_F m) (fun K8 v4 v5 m hK hF h => b_Chart_goThrough_32_8 d hK v4 v5 m hF h) v4 0 m hF h
def f_Chart_lookAhead_32_37 (v1 : Int) (v2 : Int) (v4 : Int) (v5 : Int) (v6 : Int) (K8 : Int → Int → gh_M → Prop) (K37 : Int → gh_M → Prop) (v7 : Int) (m : gh_M) : Prop := ∃ J86 : gh_M → Prop, (∀ (m : gh_M), J86 m → w_Chart_enter_32 v6 v4 m (fun r1076 m1077 => gh_i (v5 + 1) ∧ K8 r1076 (v5 + 1) m1077)) ∧ (((¬ (v7 ≤ (m 26 3)) ∨ (v6 ≤ 0)) → J86 m) ∧ (¬ (¬ (v7 ≤ (m 26 3)) ∨ (v6 ≤ 0)) → 0 ≤ v7 ∧ v7 < 9 ∧ 0 ≤ v7 ∧ v7 < 9 ∧ gh_i (v7 + 1) ∧ K37 (v7 + 1) (gh_u m 35 v7 (gh_ior_f (m 35 v7) (if (gh_iand_f (gh_ishr_f v4 v7) 1) = 0 then 0 else v6)))))
def f_Chart_lookAhead_32_8 (v1 : Int) (v2 : Int) (Q : Int → gh_M → Prop) (K8 : Int → Int → gh_M → Prop) (v4 : Int) (v5 : Int) (m : gh_M) : Prop := 0 ≤ v1 ∧ v1 < 20 ∧ ((v5 < (m 17 v1) → k_Grammar_partAt v1 v5 m ∧ ∀ v6 : Int, v6 = x_Grammar_partAt v1 v5 m → gh_M1 (fun K37 v7 m => f_Chart_lookAhead_32_37 v1 v2 v4 v5 v6 K8 K37 v7 m) v2 m) ∧ (¬ (v5 < (m 17 v1)) → Q 0 m))
def w_Chart_lookAhead_32 (v1 : Int) (v2 : Int) (m : gh_M) (Q : Int → gh_M → Prop) : Prop := ∀ v4 : Int, v4 = gh_ishl_f 1 v2 → gh_M2 (fun K8 v4 v5 m => f_Chart_lookAhead_32_8 v1 v2 Q K8 v4 v5 m) v4 0 m
theorem b_Chart_lookAhead_32_37 {E : gh_E} {v1 : Int} {v2 : Int} {v4 : Int} {v5 : Int} {v6 : Int} {K8 : Int → Int → gh_M → Prop} {Q : Int → gh_M → Prop} {K37 : Int → gh_M → Prop} (d : Nat) (hK8 : ∀ (v4 : Int) (v5 : Int) (m : gh_M), gh_F m → K8 v4 v5 m → gh_T E (gh_yChart_lookAhead.cls, prog_2_method_10_code, 8, false, 9) (d + 3) 8 [(0, 2, 30), (1, 0, v1), (2, 0, v2), (3, 2, 32), (4, 0, v4), (5, 0, v5)] [] m (fun r m1 => gh_F m1 ∧ Q r m1)) (hK : ∀ (v7 : Int) (m : gh_M), gh_F m → K37 v7 m → gh_T E (gh_yChart_lookAhead.cls, prog_2_method_10_code, 8, false, 9) (d + 3) 37 [(0, 2, 30), (1, 0, v1), (2, 0, v2), (3, 2, 32), (4, 0, v4), (5, 0, v5), (6, 0, v6), (7, 0, v7)] [] m (fun r m1 => gh_F m1 ∧ Q r m1)) (v7 : Int) (m : gh_M) (hF : gh_F m) (h : f_Chart_lookAhead_32_37 v1 v2 v4 v5 v6 K8 K37 v7 m) : gh_T E (gh_yChart_lookAhead.cls, prog_2_method_10_code, 8, false, 9) (d + 3) 37 [(0, 2, 30), (1, 0, v1), (2, 0, v2), (3, 2, 32), (4, 0, v4), (5, 0, v5), (6, 0, v6), (7, 0, v7)] [] m (fun r m1 => gh_F m1 ∧ Q r m1) := by
  have hK37 := hK
  unfold f_Chart_lookAhead_32_37 at h
  refine gh_iload gd_Chart_lookAhead_37 7 rfl ?_
  refine gh_aload_n gd_Chart_lookAhead_39 0 rfl (by decide) ?_
  refine gf_30_2 gd_Chart_lookAhead_40 gh_k331 hF ?_
  refine gf_26_3 gd_Chart_lookAhead_43 gh_k296 hF rfl ?_
  obtain ⟨J86, hJ86, h⟩ := h
  have hJ86 : ∀ (m : gh_M), gh_F m → J86 m → gh_T E (gh_yChart_lookAhead.cls, prog_2_method_10_code, 8, false, 9) (d + 3) 86 [(0, 2, 30), (1, 0, v1), (2, 0, v2), (3, 2, 32), (4, 0, v4), (5, 0, v5), (6, 0, v6)] [] m (fun r m1 => gh_F m1 ∧ Q r m1) := by
    intro m hF hj
    have h := hJ86 m hj
    refine gh_aload_n gd_Chart_lookAhead_86 0 rfl (by decide) ?_
    refine gh_iload gd_Chart_lookAhead_87 6 rfl ?_
    refine gh_iload gd_Chart_lookAhead_89 4 rfl ?_
    refine gh_aload_n gd_Chart_lookAhead_91 3 rfl (by decide) ?_
    refine cv_Chart_enter (d := d + 2) gd_Chart_lookAhead_92 gh_k938 hF (Nat.le_of_ble_eq_true rfl) (gh_C.mono (s_Chart_enter_32 d v6 v4 hF h) (fun r1076 m1077 hq => ?_))
    obtain ⟨hF, h⟩ := hq
    refine gh_istore (L2 := [(4, 0, r1076), (0, 2, 30), (1, 0, v1), (2, 0, v2), (3, 2, 32), (5, 0, v5), (6, 0, v6)]) gd_Chart_lookAhead_95 (by decide) rfl ?_
    obtain ⟨q1078, h⟩ := h
    refine gh_iinc (L2 := [(5, 0, v5 + 1), (4, 0, r1076), (0, 2, 30), (1, 0, v1), (2, 0, v2), (3, 2, 32), (6, 0, v6)]) gd_Chart_lookAhead_97 5 rfl q1078 (by decide) rfl ?_
    refine gh_goto (tgt := 8) gd_Chart_lookAhead_100 (by decide) ?_
    refine gh_pick (L2 := [(0, 2, 30), (1, 0, v1), (2, 0, v2), (3, 2, 32), (4, 0, r1076), (5, 0, v5 + 1)]) [2, 3, 4, 5, 1, 0] rfl ?_
    exact hK8 r1076 (v5 + 1) m1077 hF h
  obtain ⟨hA, hB⟩ := h
  have k1079 : (¬ (v7 ≤ (m 26 3)) ∨ (v6 ≤ 0)) → gh_T E (gh_yChart_lookAhead.cls, prog_2_method_10_code, 8, false, 9) (d + 3) 86 [(0, 2, 30), (1, 0, v1), (2, 0, v2), (3, 2, 32), (4, 0, v4), (5, 0, v5), (6, 0, v6), (7, 0, v7)] [] m (fun r m1 => gh_F m1 ∧ Q r m1) := by
    intro c
    have h := hA c
    refine gh_pick (L2 := [(0, 2, 30), (1, 0, v1), (2, 0, v2), (3, 2, 32), (4, 0, v4), (5, 0, v5), (6, 0, v6)]) [0, 1, 2, 3, 4, 5, 6] rfl ?_
    exact hJ86 m hF h
  have k1080 : ¬ (¬ (v7 ≤ (m 26 3)) ∨ (v6 ≤ 0)) → gh_T E (gh_yChart_lookAhead.cls, prog_2_method_10_code, 8, false, 9) (d + 3) 54 [(0, 2, 30), (1, 0, v1), (2, 0, v2), (3, 2, 32), (4, 0, v4), (5, 0, v5), (6, 0, v6), (7, 0, v7)] [] m (fun r m1 => gh_F m1 ∧ Q r m1) := by
    intro c
    have h := hB c
    refine gh_aload_n gd_Chart_lookAhead_54 0 rfl (by decide) ?_
    refine gf_30_8 gd_Chart_lookAhead_55 gh_k339 hF ?_
    refine gh_iload gd_Chart_lookAhead_58 7 rfl ?_
    refine gh_dup2 gd_Chart_lookAhead_60 (by decide) (by decide) ?_
    obtain ⟨q1081, h⟩ := h
    obtain ⟨q1082, h⟩ := h
    refine la_35 gd_Chart_lookAhead_61 hF q1081 q1082 rfl ?_
    refine gh_iload gd_Chart_lookAhead_62 4 rfl ?_
    refine gh_iload gd_Chart_lookAhead_64 7 rfl ?_
    refine gh_ishr gd_Chart_lookAhead_66 ?_
    refine gh_iconst gd_Chart_lookAhead_67 (gh_r0 rfl) ?_
    refine gh_iand gd_Chart_lookAhead_68 ?_
    have k1083 : ∀ x1084 : Int, x1084 = (if (gh_iand_f (gh_ishr_f v4 v7) 1) = 0 then 0 else v6) → gh_T E (gh_yChart_lookAhead.cls, prog_2_method_10_code, 8, false, 9) (d + 3) 78 [(0, 2, 30), (1, 0, v1), (2, 0, v2), (3, 2, 32), (4, 0, v4), (5, 0, v5), (6, 0, v6), (7, 0, v7)] [(0, x1084), (0, m 35 v7), (0, v7), (2, 35)] m (fun r m1 => gh_F m1 ∧ Q r m1) := by
      rintro _ rfl
      refine gh_ior gd_Chart_lookAhead_78 ?_
      obtain ⟨q1085, h⟩ := h
      obtain ⟨q1086, h⟩ := h
      refine sa_35 gd_Chart_lookAhead_79 hF q1085 q1086 (fun hF => ?_)
      obtain ⟨q1087, h⟩ := h
      refine gh_iinc (L2 := [(7, 0, v7 + 1), (0, 2, 30), (1, 0, v1), (2, 0, v2), (3, 2, 32), (4, 0, v4), (5, 0, v5), (6, 0, v6)]) gd_Chart_lookAhead_80 7 rfl q1087 (by decide) rfl ?_
      refine gh_goto (tgt := 37) gd_Chart_lookAhead_83 (by decide) ?_
      refine gh_pick (L2 := [(0, 2, 30), (1, 0, v1), (2, 0, v2), (3, 2, 32), (4, 0, v4), (5, 0, v5), (6, 0, v6), (7, 0, v7 + 1)]) [1, 2, 3, 4, 5, 6, 7, 0] rfl ?_
      exact hK37 (v7 + 1) (gh_u m 35 v7 (gh_ior_f (m 35 v7) (if (gh_iand_f (gh_ishr_f v4 v7) 1) = 0 then 0 else v6))) hF h
    refine gh_zne (tgt := 76) gd_Chart_lookAhead_69 (by decide) (fun c1088 => ?_) (fun c1088 => ?_)
    · have hz : True := trivial
      refine gh_iconst gd_Chart_lookAhead_72 (gh_r0 rfl) ?_
      refine gh_goto (tgt := 78) gd_Chart_lookAhead_73 (by decide) ?_
      exact k1083 _ (by rw [if_pos c1088])
    · have hz : True := trivial
      refine gh_iload gd_Chart_lookAhead_76 6 rfl ?_
      exact k1083 _ (by rw [if_neg c1088])
  refine gh_jgt (tgt := 86) gd_Chart_lookAhead_46 (by decide) (fun c1089 => ?_) (fun c1089 => ?_)
  · have hz : True := trivial
    refine gh_iload gd_Chart_lookAhead_49 6 rfl ?_
    refine gh_zle (tgt := 86) gd_Chart_lookAhead_51 (by decide) (fun c1090 => ?_) (fun c1090 => ?_)
    · have hz : True := trivial
      exact k1079 (Or.inr c1090)
    · have hz : True := trivial
      exact k1080 (fun z => z.elim (fun w => w c1089) c1090)
  · have hz : True := trivial
    exact k1079 (Or.inl c1089)
theorem b_Chart_lookAhead_32_8 {E : gh_E} {v1 : Int} {v2 : Int} {Q : Int → gh_M → Prop} {K8 : Int → Int → gh_M → Prop} (d : Nat) (hK : ∀ (v4 : Int) (v5 : Int) (m : gh_M), gh_F m → K8 v4 v5 m → gh_T E (gh_yChart_lookAhead.cls, prog_2_method_10_code, 8, false, 9) (d + 3) 8 [(0, 2, 30), (1, 0, v1), (2, 0, v2), (3, 2, 32), (4, 0, v4), (5, 0, v5)] [] m (fun r m1 => gh_F m1 ∧ Q r m1)) (v4 : Int) (v5 : Int) (m : gh_M) (hF : gh_F m) (h : f_Chart_lookAhead_32_8 v1 v2 Q K8 v4 v5 m) : gh_T E (gh_yChart_lookAhead.cls, prog_2_method_10_code, 8, false, 9) (d + 3) 8 [(0, 2, 30), (1, 0, v1), (2, 0, v2), (3, 2, 32), (4, 0, v4), (5, 0, v5)] [] m (fun r m1 => gh_F m1 ∧ Q r m1) := by
  have hK8 := hK
  unfold f_Chart_lookAhead_32_8 at h
  refine gh_iload gd_Chart_lookAhead_8 5 rfl ?_
  refine gh_aload_n gd_Chart_lookAhead_10 0 rfl (by decide) ?_
  refine gf_30_0 gd_Chart_lookAhead_11 gh_k329 hF ?_
  refine gf_13_6 gd_Chart_lookAhead_14 gh_k208 hF ?_
  refine gh_iload_n gd_Chart_lookAhead_17 1 rfl ?_
  obtain ⟨q1072, h⟩ := h
  obtain ⟨q1073, h⟩ := h
  refine la_17 gd_Chart_lookAhead_18 hF q1072 q1073 rfl ?_
  obtain ⟨hA, hB⟩ := h
  refine gh_jge (tgt := 103) gd_Chart_lookAhead_19 (by decide) (fun c1074 => ?_) (fun c1074 => ?_)
  · have h := hA c1074
    refine gh_aload_n gd_Chart_lookAhead_22 0 rfl (by decide) ?_
    refine gf_30_0 gd_Chart_lookAhead_23 gh_k329 hF ?_
    refine gh_iload_n gd_Chart_lookAhead_26 1 rfl ?_
    refine gh_iload gd_Chart_lookAhead_27 5 rfl ?_
    obtain ⟨q1075, h⟩ := h
    refine cv_Grammar_partAt (d := d + 2) gd_Chart_lookAhead_29 gh_k920 hF (Nat.le_of_ble_eq_true rfl) (gh_C.pe (e_Grammar_partAt (d + 2) v1 v5 hF q1075) ?_)
    refine gh_name (fun v6 hn => ?_)
    have h := h v6 hn
    refine gh_istore (L2 := [(6, 0, v6), (0, 2, 30), (1, 0, v1), (2, 0, v2), (3, 2, 32), (4, 0, v4), (5, 0, v5)]) gd_Chart_lookAhead_32 (by decide) rfl ?_
    refine gh_iload_n gd_Chart_lookAhead_34 3 rfl ?_
    refine gh_istore (L2 := [(7, 0, v2), (6, 0, v6), (0, 2, 30), (1, 0, v1), (2, 0, v2), (3, 2, 32), (4, 0, v4), (5, 0, v5)]) gd_Chart_lookAhead_35 (by decide) rfl ?_
    refine gh_pick (L2 := [(0, 2, 30), (1, 0, v1), (2, 0, v2), (3, 2, 32), (4, 0, v4), (5, 0, v5), (6, 0, v6), (7, 0, v2)]) [2, 3, 4, 5, 6, 7, 1, 0] rfl ?_
    exact gh_M1_sound (T := fun v7 m => gh_T E (gh_yChart_lookAhead.cls, prog_2_method_10_code, 8, false, 9) (d + 3) 37 [(0, 2, 30), (1, 0, v1), (2, 0, v2), (3, 2, 32), (4, 0, v4), (5, 0, v5), (6, 0, v6), (7, 0, v7)] [] m (fun r m1 => gh_F m1 ∧ Q r m1)) (fun _ m => gh_F m) (fun K37 v7 m hK hF h => b_Chart_lookAhead_32_37 d hK8 hK v7 m hF h) v2 m hF h
  · have h := hB c1074
    exact gh_ret9 rfl gd_Chart_lookAhead_103 ⟨hF, h⟩
theorem s_Chart_lookAhead_32 {E : gh_E} {m : gh_M} {Q : Int → gh_M → Prop} (d : Nat) (v1 : Int) (v2 : Int) (hF : gh_F m) (h : w_Chart_lookAhead_32 v1 v2 m Q) : gh_C E gh_yChart_lookAhead prog_2_method_10_code 8 none 9 (d + 3) [(2, 30), (0, v1), (0, v2), (2, 32)] m (fun r m1 => gh_F m1 ∧ Q r m1) := by
  refine gh_enter2 (L := [(0, 2, 30), (1, 0, v1), (2, 0, v2), (3, 2, 32)]) (by decide +kernel) gh_rt9 (Nat.le_of_ble_eq_true rfl) rfl rfl ?_
  unfold w_Chart_lookAhead_32 at h
  refine gh_iconst gd_Chart_lookAhead_0 (gh_r0 rfl) ?_
  refine gh_iload_n gd_Chart_lookAhead_1 2 rfl ?_
  refine gh_ishl gd_Chart_lookAhead_2 ?_
  refine gh_name (fun v4 hn => ?_)
  have h := h v4 hn
  refine gh_istore (L2 := [(4, 0, v4), (0, 2, 30), (1, 0, v1), (2, 0, v2), (3, 2, 32)]) gd_Chart_lookAhead_3 (by decide) rfl ?_
  refine gh_iconst gd_Chart_lookAhead_5 (gh_r0 rfl) ?_
  refine gh_istore (L2 := [(5, 0, 0), (4, 0, v4), (0, 2, 30), (1, 0, v1), (2, 0, v2), (3, 2, 32)]) gd_Chart_lookAhead_6 (by decide) rfl ?_
  refine gh_pick (L2 := [(0, 2, 30), (1, 0, v1), (2, 0, v2), (3, 2, 32), (4, 0, v4), (5, 0, 0)]) [2, 3, 4, 5, 1, 0] rfl ?_
  exact gh_M2_sound (T := fun v4 v5 m => gh_T E (gh_yChart_lookAhead.cls, prog_2_method_10_code, 8, false, 9) (d + 3) 8 [(0, 2, 30), (1, 0, v1), (2, 0, v2), (3, 2, 32), (4, 0, v4), (5, 0, v5)] [] m (fun r m1 => gh_F m1 ∧ Q r m1)) (fun _ _ m => gh_F m) (fun K8 v4 v5 m hK hF h => b_Chart_lookAhead_32_8 d hK v4 v5 m hF h) v4 0 m hF h
def f_Chart_await_32_63 (v2 : Int) (v3 : Int) (v4 : Int) (v5 : Int) (v6 : Int) (v4' : Int) (K28 : Int → Int → gh_M → Prop) (K63 : Int → gh_M → Prop) (v7 : Int) (m : gh_M) : Prop := ((v7 < (m 13 2) → 0 ≤ v7 ∧ v7 < 20 ∧ ∃ J131 : gh_M → Prop, (∀ (m : gh_M), J131 m → gh_i (v7 + 1) ∧ K63 (v7 + 1) m) ∧ (((gh_iand_f (gh_ishr_f v6 (m 16 v7)) 1) = 0 → J131 m) ∧ (¬ ((gh_iand_f (gh_ishr_f v6 (m 16 v7)) 1) = 0) → ((v2 = 0 → w_Chart_goThrough_32 v7 v3 m (fun _ m1039 => J131 m1039)) ∧ (¬ (v2 = 0) → ((p_Facts_isUsefulRule v7 m → w_Chart_lookAhead_32 v7 v3 m (fun _ m1071 => J131 m1071)) ∧ (¬ (p_Facts_isUsefulRule v7 m) → J131 m))))))) ∧ (¬ (v7 < (m 13 2)) → gh_i (v5 + 1) ∧ K28 v4' (v5 + 1) m))
def f_Chart_await_32_28 (v2 : Int) (v3 : Int) (K11 : Int → gh_M → Prop) (K28 : Int → Int → gh_M → Prop) (v4 : Int) (v5 : Int) (m : gh_M) : Prop := ∃ J143 : gh_M → Prop, (∀ (m : gh_M), J143 m → gh_i (v3 + 1) ∧ K11 (v3 + 1) m) ∧ (((v5 ≤ 8) → (0 ≤ v3 ∧ v3 < 9))) ∧ (((¬ (v5 ≤ 8) ∨ ((m 32 v3) = v4)) → J143 m) ∧ (¬ (¬ (v5 ≤ 8) ∨ ((m 32 v3) = v4)) → 0 ≤ v3 ∧ v3 < 9 ∧ ∀ v6 : Int, v6 = gh_iand_f (m 32 v3) (gh_ixor_f v4 (-1)) → ∀ v4' : Int, v4' = gh_ior_f v4 v6 → gh_M1 (fun K63 v7 m => f_Chart_await_32_63 v2 v3 v4 v5 v6 v4' K28 K63 v7 m) 0 m))
def f_Chart_await_32_11 (v2 : Int) (Q : Int → gh_M → Prop) (K11 : Int → gh_M → Prop) (v3 : Int) (m : gh_M) : Prop := ((v3 ≤ (m 26 3) → gh_M2 (fun K28 v4 v5 m => f_Chart_await_32_28 v2 v3 K11 K28 v4 v5 m) 0 0 m) ∧ (¬ (v3 ≤ (m 26 3)) → Q 0 m))
def w_Chart_await_32 (v2 : Int) (m : gh_M) (Q : Int → gh_M → Prop) : Prop := gh_M1 (fun K11 v3 m => f_Chart_await_32_11 v2 Q K11 v3 m) 0 (gh_u (gh_fil m 32 9 0) 32 0 1)
theorem b_Chart_await_32_63 {E : gh_E} {v2 : Int} {v3 : Int} {v4 : Int} {v5 : Int} {v6 : Int} {v4' : Int} {K28 : Int → Int → gh_M → Prop} {Q : Int → gh_M → Prop} {K63 : Int → gh_M → Prop} (d : Nat) (hK28 : ∀ (v4 : Int) (v5 : Int) (m : gh_M), gh_F m → K28 v4 v5 m → gh_T E (gh_yChart_await.cls, prog_2_method_8_code, 8, false, 9) (d + 4) 28 [(0, 2, 30), (1, 2, 32), (2, 0, v2), (3, 0, v3), (4, 0, v4), (5, 0, v5)] [] m (fun r m1 => gh_F m1 ∧ Q r m1)) (hK : ∀ (v7 : Int) (m : gh_M), gh_F m → K63 v7 m → gh_T E (gh_yChart_await.cls, prog_2_method_8_code, 8, false, 9) (d + 4) 63 [(0, 2, 30), (1, 2, 32), (2, 0, v2), (3, 0, v3), (4, 0, v4'), (5, 0, v5), (6, 0, v6), (7, 0, v7)] [] m (fun r m1 => gh_F m1 ∧ Q r m1)) (v7 : Int) (m : gh_M) (hF : gh_F m) (h : f_Chart_await_32_63 v2 v3 v4 v5 v6 v4' K28 K63 v7 m) : gh_T E (gh_yChart_await.cls, prog_2_method_8_code, 8, false, 9) (d + 4) 63 [(0, 2, 30), (1, 2, 32), (2, 0, v2), (3, 0, v3), (4, 0, v4'), (5, 0, v5), (6, 0, v6), (7, 0, v7)] [] m (fun r m1 => gh_F m1 ∧ Q r m1) := by
  have hK63 := hK
  unfold f_Chart_await_32_63 at h
  refine gh_iload gd_Chart_await_63 7 rfl ?_
  refine gh_aload_n gd_Chart_await_65 0 rfl (by decide) ?_
  refine gf_30_0 gd_Chart_await_66 gh_k329 hF ?_
  refine gf_13_2 gd_Chart_await_69 gh_k189 hF rfl ?_
  obtain ⟨hA, hB⟩ := h
  refine gh_jge (tgt := 137) gd_Chart_await_72 (by decide) (fun c1032 => ?_) (fun c1032 => ?_)
  · have h := hA c1032
    refine gh_iload gd_Chart_await_75 6 rfl ?_
    refine gh_aload_n gd_Chart_await_77 0 rfl (by decide) ?_
    refine gf_30_0 gd_Chart_await_78 gh_k329 hF ?_
    refine gf_13_5 gd_Chart_await_81 gh_k202 hF ?_
    refine gh_iload gd_Chart_await_84 7 rfl ?_
    obtain ⟨q1033, h⟩ := h
    obtain ⟨q1034, h⟩ := h
    refine la_16 gd_Chart_await_86 hF q1033 q1034 rfl ?_
    refine gh_ishr gd_Chart_await_87 ?_
    refine gh_iconst gd_Chart_await_88 (gh_r0 rfl) ?_
    refine gh_iand gd_Chart_await_89 ?_
    obtain ⟨J131, hJ131, h⟩ := h
    have hJ131 : ∀ (m : gh_M), gh_F m → J131 m → gh_T E (gh_yChart_await.cls, prog_2_method_8_code, 8, false, 9) (d + 4) 131 [(0, 2, 30), (1, 2, 32), (2, 0, v2), (3, 0, v3), (4, 0, v4'), (5, 0, v5), (6, 0, v6), (7, 0, v7)] [] m (fun r m1 => gh_F m1 ∧ Q r m1) := by
      intro m hF hj
      have h := hJ131 m hj
      obtain ⟨q1035, h⟩ := h
      refine gh_iinc (L2 := [(7, 0, v7 + 1), (0, 2, 30), (1, 2, 32), (2, 0, v2), (3, 0, v3), (4, 0, v4'), (5, 0, v5), (6, 0, v6)]) gd_Chart_await_131 7 rfl q1035 (by decide) rfl ?_
      refine gh_goto (tgt := 63) gd_Chart_await_134 (by decide) ?_
      refine gh_pick (L2 := [(0, 2, 30), (1, 2, 32), (2, 0, v2), (3, 0, v3), (4, 0, v4'), (5, 0, v5), (6, 0, v6), (7, 0, v7 + 1)]) [1, 2, 3, 4, 5, 6, 7, 0] rfl ?_
      exact hK63 (v7 + 1) m hF h
    obtain ⟨hA, hB⟩ := h
    refine gh_zne (tgt := 96) gd_Chart_await_90 (by decide) (fun c1036 => ?_) (fun c1036 => ?_)
    · have h := hA c1036
      refine gh_goto (tgt := 131) gd_Chart_await_93 (by decide) ?_
      exact hJ131 m hF h
    · have h := hB c1036
      refine gh_iload_n gd_Chart_await_96 2 rfl ?_
      obtain ⟨hA, hB⟩ := h
      refine gh_zne (tgt := 111) gd_Chart_await_97 (by decide) (fun c1037 => ?_) (fun c1037 => ?_)
      · have h := hA c1037
        refine gh_aload_n gd_Chart_await_100 0 rfl (by decide) ?_
        refine gh_iload gd_Chart_await_101 7 rfl ?_
        refine gh_iload_n gd_Chart_await_103 3 rfl ?_
        refine gh_aload_n gd_Chart_await_104 1 rfl (by decide) ?_
        refine cv_Chart_goThrough (d := d + 3) gd_Chart_await_105 gh_k934 hF (Nat.le_of_ble_eq_true rfl) (gh_C.mono (s_Chart_goThrough_32 d v7 v3 hF h) (fun r1038 m1039 hq => ?_))
        obtain ⟨hF, h⟩ := hq
        refine gh_goto (tgt := 131) gd_Chart_await_108 (by decide) ?_
        exact hJ131 m1039 hF h
      · have h := hB c1037
        refine gh_aload_n gd_Chart_await_111 0 rfl (by decide) ?_
        refine gf_30_1 gd_Chart_await_112 gh_k330 hF ?_
        refine gh_iload gd_Chart_await_115 7 rfl ?_
        refine cv_Facts_isUsefulRule (d := d + 3) gd_Chart_await_117 gh_k942 hF (Nat.le_of_ble_eq_true rfl) (gh_C.pe (e_Facts_isUsefulRule (d + 3) v7 hF) ?_)
        obtain ⟨hA, hB⟩ := h
        refine gh_beq (tgt := 131) gd_Chart_await_120 (by decide) (fun c1069 => ?_) (fun c1069 => ?_)
        · have h := hA c1069
          refine gh_aload_n gd_Chart_await_123 0 rfl (by decide) ?_
          refine gh_iload gd_Chart_await_124 7 rfl ?_
          refine gh_iload_n gd_Chart_await_126 3 rfl ?_
          refine gh_aload_n gd_Chart_await_127 1 rfl (by decide) ?_
          refine cv_Chart_lookAhead (d := d + 3) gd_Chart_await_128 gh_k943 hF (Nat.le_of_ble_eq_true rfl) (gh_C.mono (s_Chart_lookAhead_32 d v7 v3 hF h) (fun r1070 m1071 hq => ?_))
          obtain ⟨hF, h⟩ := hq
          exact hJ131 m1071 hF h
        · have h := hB c1069
          exact hJ131 m hF h
  · have h := hB c1032
    obtain ⟨q1091, h⟩ := h
    refine gh_iinc (L2 := [(5, 0, v5 + 1), (0, 2, 30), (1, 2, 32), (2, 0, v2), (3, 0, v3), (4, 0, v4'), (6, 0, v6), (7, 0, v7)]) gd_Chart_await_137 5 rfl q1091 (by decide) rfl ?_
    refine gh_goto (tgt := 28) gd_Chart_await_140 (by decide) ?_
    refine gh_pick (L2 := [(0, 2, 30), (1, 2, 32), (2, 0, v2), (3, 0, v3), (4, 0, v4'), (5, 0, v5 + 1)]) [1, 2, 3, 4, 5, 0] rfl ?_
    exact hK28 v4' (v5 + 1) m hF h
theorem b_Chart_await_32_28 {E : gh_E} {v2 : Int} {v3 : Int} {K11 : Int → gh_M → Prop} {Q : Int → gh_M → Prop} {K28 : Int → Int → gh_M → Prop} (d : Nat) (hK11 : ∀ (v3 : Int) (m : gh_M), gh_F m → K11 v3 m → gh_T E (gh_yChart_await.cls, prog_2_method_8_code, 8, false, 9) (d + 4) 11 [(0, 2, 30), (1, 2, 32), (2, 0, v2), (3, 0, v3)] [] m (fun r m1 => gh_F m1 ∧ Q r m1)) (hK : ∀ (v4 : Int) (v5 : Int) (m : gh_M), gh_F m → K28 v4 v5 m → gh_T E (gh_yChart_await.cls, prog_2_method_8_code, 8, false, 9) (d + 4) 28 [(0, 2, 30), (1, 2, 32), (2, 0, v2), (3, 0, v3), (4, 0, v4), (5, 0, v5)] [] m (fun r m1 => gh_F m1 ∧ Q r m1)) (v4 : Int) (v5 : Int) (m : gh_M) (hF : gh_F m) (h : f_Chart_await_32_28 v2 v3 K11 K28 v4 v5 m) : gh_T E (gh_yChart_await.cls, prog_2_method_8_code, 8, false, 9) (d + 4) 28 [(0, 2, 30), (1, 2, 32), (2, 0, v2), (3, 0, v3), (4, 0, v4), (5, 0, v5)] [] m (fun r m1 => gh_F m1 ∧ Q r m1) := by
  have hK28 := hK
  unfold f_Chart_await_32_28 at h
  refine gh_iload gd_Chart_await_28 5 rfl ?_
  refine gh_bipush gd_Chart_await_30 (by decide) (gh_r0 rfl) ?_
  obtain ⟨J143, hJ143, h⟩ := h
  have hJ143 : ∀ (m : gh_M), gh_F m → J143 m → gh_T E (gh_yChart_await.cls, prog_2_method_8_code, 8, false, 9) (d + 4) 143 [(0, 2, 30), (1, 2, 32), (2, 0, v2), (3, 0, v3)] [] m (fun r m1 => gh_F m1 ∧ Q r m1) := by
    intro m hF hj
    have h := hJ143 m hj
    obtain ⟨q1025, h⟩ := h
    refine gh_iinc (L2 := [(3, 0, v3 + 1), (0, 2, 30), (1, 2, 32), (2, 0, v2)]) gd_Chart_await_143 3 rfl q1025 (by decide) rfl ?_
    refine gh_goto (tgt := 11) gd_Chart_await_146 (by decide) ?_
    refine gh_pick (L2 := [(0, 2, 30), (1, 2, 32), (2, 0, v2), (3, 0, v3 + 1)]) [1, 2, 3, 0] rfl ?_
    exact hK11 (v3 + 1) m hF h
  obtain ⟨hk, hA, hB⟩ := h
  have k1028 : (¬ (v5 ≤ 8) ∨ ((m 32 v3) = v4)) → gh_T E (gh_yChart_await.cls, prog_2_method_8_code, 8, false, 9) (d + 4) 143 [(0, 2, 30), (1, 2, 32), (2, 0, v2), (3, 0, v3), (4, 0, v4), (5, 0, v5)] [] m (fun r m1 => gh_F m1 ∧ Q r m1) := by
    intro c
    have h := hA c
    refine gh_pick (L2 := [(0, 2, 30), (1, 2, 32), (2, 0, v2), (3, 0, v3)]) [0, 1, 2, 3] rfl ?_
    exact hJ143 m hF h
  have k1029 : ¬ (¬ (v5 ≤ 8) ∨ ((m 32 v3) = v4)) → gh_T E (gh_yChart_await.cls, prog_2_method_8_code, 8, false, 9) (d + 4) 43 [(0, 2, 30), (1, 2, 32), (2, 0, v2), (3, 0, v3), (4, 0, v4), (5, 0, v5)] [] m (fun r m1 => gh_F m1 ∧ Q r m1) := by
    intro c
    have h := hB c
    refine gh_aload_n gd_Chart_await_43 1 rfl (by decide) ?_
    refine gh_iload_n gd_Chart_await_44 3 rfl ?_
    obtain ⟨q1030, h⟩ := h
    obtain ⟨q1031, h⟩ := h
    refine la_32 gd_Chart_await_45 hF q1030 q1031 rfl ?_
    refine gh_iload gd_Chart_await_46 4 rfl ?_
    refine gh_iconst gd_Chart_await_48 (gh_r0 rfl) ?_
    refine gh_ixor gd_Chart_await_49 ?_
    refine gh_iand gd_Chart_await_50 ?_
    refine gh_name (fun v6 hn => ?_)
    have h := h v6 hn
    refine gh_istore (L2 := [(6, 0, v6), (0, 2, 30), (1, 2, 32), (2, 0, v2), (3, 0, v3), (4, 0, v4), (5, 0, v5)]) gd_Chart_await_51 (by decide) rfl ?_
    refine gh_iload gd_Chart_await_53 5 rfl ?_
    refine gh_iload gd_Chart_await_55 0 rfl ?_
    refine gh_ior gd_Chart_await_57 ?_
    refine gh_name (fun v4' hn => ?_)
    have h := h v4' hn
    refine gh_istore (L2 := [(4, 0, v4'), (6, 0, v6), (0, 2, 30), (1, 2, 32), (2, 0, v2), (3, 0, v3), (5, 0, v5)]) gd_Chart_await_58 (by decide) rfl ?_
    refine gh_iconst gd_Chart_await_60 (gh_r0 rfl) ?_
    refine gh_istore (L2 := [(7, 0, 0), (4, 0, v4'), (6, 0, v6), (0, 2, 30), (1, 2, 32), (2, 0, v2), (3, 0, v3), (5, 0, v5)]) gd_Chart_await_61 (by decide) rfl ?_
    refine gh_pick (L2 := [(0, 2, 30), (1, 2, 32), (2, 0, v2), (3, 0, v3), (4, 0, v4'), (5, 0, v5), (6, 0, v6), (7, 0, 0)]) [3, 4, 5, 6, 1, 7, 2, 0] rfl ?_
    exact gh_M1_sound (T := fun v7 m => gh_T E (gh_yChart_await.cls, prog_2_method_8_code, 8, false, 9) (d + 4) 63 [(0, 2, 30), (1, 2, 32), (2, 0, v2), (3, 0, v3), (4, 0, v4'), (5, 0, v5), (6, 0, v6), (7, 0, v7)] [] m (fun r m1 => gh_F m1 ∧ Q r m1)) (fun _ m => gh_F m) (fun K63 v7 m hK hF h => b_Chart_await_32_63 d hK28 hK v7 m hF h) 0 m hF h
  refine gh_jgt (tgt := 143) gd_Chart_await_32 (by decide) (fun c1092 => ?_) (fun c1092 => ?_)
  · have hz : True := trivial
    have hk := hk c1092
    refine gh_aload_n gd_Chart_await_35 1 rfl (by decide) ?_
    refine gh_iload_n gd_Chart_await_36 3 rfl ?_
    obtain ⟨q1026, hk⟩ := hk
    have q1027 := hk
    refine la_32 gd_Chart_await_37 hF q1026 q1027 rfl ?_
    refine gh_iload gd_Chart_await_38 4 rfl ?_
    refine gh_jeq (tgt := 143) gd_Chart_await_40 (by decide) (fun c1093 => ?_) (fun c1093 => ?_)
    · have hz : True := trivial
      exact k1028 (Or.inr c1093)
    · have hz : True := trivial
      exact k1029 (fun z => z.elim (fun w => w c1092) c1093)
  · have hz : True := trivial
    exact k1028 (Or.inl c1092)
theorem b_Chart_await_32_11 {E : gh_E} {v2 : Int} {Q : Int → gh_M → Prop} {K11 : Int → gh_M → Prop} (d : Nat) (hK : ∀ (v3 : Int) (m : gh_M), gh_F m → K11 v3 m → gh_T E (gh_yChart_await.cls, prog_2_method_8_code, 8, false, 9) (d + 4) 11 [(0, 2, 30), (1, 2, 32), (2, 0, v2), (3, 0, v3)] [] m (fun r m1 => gh_F m1 ∧ Q r m1)) (v3 : Int) (m : gh_M) (hF : gh_F m) (h : f_Chart_await_32_11 v2 Q K11 v3 m) : gh_T E (gh_yChart_await.cls, prog_2_method_8_code, 8, false, 9) (d + 4) 11 [(0, 2, 30), (1, 2, 32), (2, 0, v2), (3, 0, v3)] [] m (fun r m1 => gh_F m1 ∧ Q r m1) := by
  have hK11 := hK
  unfold f_Chart_await_32_11 at h
  refine gh_iload_n gd_Chart_await_11 3 rfl ?_
  refine gh_aload_n gd_Chart_await_12 0 rfl (by decide) ?_
  refine gf_30_2 gd_Chart_await_13 gh_k331 hF ?_
  refine gf_26_3 gd_Chart_await_16 gh_k296 hF rfl ?_
  obtain ⟨hA, hB⟩ := h
  refine gh_jgt (tgt := 149) gd_Chart_await_19 (by decide) (fun c1024 => ?_) (fun c1024 => ?_)
  · have h := hA c1024
    refine gh_iconst gd_Chart_await_22 (gh_r0 rfl) ?_
    refine gh_istore (L2 := [(4, 0, 0), (0, 2, 30), (1, 2, 32), (2, 0, v2), (3, 0, v3)]) gd_Chart_await_23 (by decide) rfl ?_
    refine gh_iconst gd_Chart_await_25 (gh_r0 rfl) ?_
    refine gh_istore (L2 := [(5, 0, 0), (4, 0, 0), (0, 2, 30), (1, 2, 32), (2, 0, v2), (3, 0, v3)]) gd_Chart_await_26 (by decide) rfl ?_
    refine gh_pick (L2 := [(0, 2, 30), (1, 2, 32), (2, 0, v2), (3, 0, v3), (4, 0, 0), (5, 0, 0)]) [2, 3, 4, 5, 1, 0] rfl ?_
    exact gh_M2_sound (T := fun v4 v5 m => gh_T E (gh_yChart_await.cls, prog_2_method_8_code, 8, false, 9) (d + 4) 28 [(0, 2, 30), (1, 2, 32), (2, 0, v2), (3, 0, v3), (4, 0, v4), (5, 0, v5)] [] m (fun r m1 => gh_F m1 ∧ Q r m1)) (fun _ _ m => gh_F m) (fun K28 v4 v5 m hK hF h => b_Chart_await_32_28 d hK11 hK v4 v5 m hF h) 0 0 m hF h
  · have h := hB c1024
    exact gh_ret9 rfl gd_Chart_await_149 ⟨hF, h⟩
theorem s_Chart_await_32 {E : gh_E} {m : gh_M} {Q : Int → gh_M → Prop} (d : Nat) (v2 : Int) (hF : gh_F m) (h : w_Chart_await_32 v2 m Q) : gh_C E gh_yChart_await prog_2_method_8_code 8 none 9 (d + 4) [(2, 30), (2, 32), (0, v2)] m (fun r m1 => gh_F m1 ∧ Q r m1) := by
  refine gh_enter2 (L := [(0, 2, 30), (1, 2, 32), (2, 0, v2)]) (by decide +kernel) gh_rt9 (Nat.le_of_ble_eq_true rfl) rfl rfl ?_
  unfold w_Chart_await_32 at h
  refine gh_aload_n gd_Chart_await_0 1 rfl (by decide) ?_
  refine gh_iconst gd_Chart_await_1 (gh_r0 rfl) ?_
  refine gh_fillF (d := d + 3) gd_Chart_await_2 gh_k911 (ga_32 hF) (Nat.le_of_ble_eq_true rfl) hF gn_32 (by decide) (fun hF => ?_)
  refine gh_aload_n gd_Chart_await_5 1 rfl (by decide) ?_
  refine gh_iconst gd_Chart_await_6 (gh_r0 rfl) ?_
  refine gh_iconst gd_Chart_await_7 (gh_r0 rfl) ?_
  refine sa_32 gd_Chart_await_8 hF (by decide) (by decide) (fun hF => ?_)
  refine gh_iconst gd_Chart_await_9 (gh_r0 rfl) ?_
  refine gh_istore_n (L2 := [(3, 0, 0), (0, 2, 30), (1, 2, 32), (2, 0, v2)]) gd_Chart_await_10 (by decide) rfl ?_
  refine gh_pick (L2 := [(0, 2, 30), (1, 2, 32), (2, 0, v2), (3, 0, 0)]) [1, 2, 3, 0] rfl ?_
  exact gh_M1_sound (T := fun v3 m => gh_T E (gh_yChart_await.cls, prog_2_method_8_code, 8, false, 9) (d + 4) 11 [(0, 2, 30), (1, 2, 32), (2, 0, v2), (3, 0, v3)] [] m (fun r m1 => gh_F m1 ∧ Q r m1)) (fun _ m => gh_F m) (fun K11 v3 m hK hF h => b_Chart_await_32_11 d hK v3 m hF h) 0 (gh_u (gh_fil m 32 9 0) 32 0 1) hF h
def f_Chart_enter_33_13 (v1 : Int) (v2 : Int) (v4 : Int) (Q : Int → gh_M → Prop) (K13 : Int → gh_M → Prop) (v5 : Int) (m : gh_M) : Prop := ∃ J53 : gh_M → Prop, (∀ (m : gh_M), J53 m → w_Chart_beyond v1 v2 m (fun r1130 => Q r1130 m)) ∧ (((¬ (v5 ≤ (m 26 3)) ∨ (v4 = (-1))) → J53 m) ∧ (¬ (¬ (v5 ≤ (m 26 3)) ∨ (v4 = (-1))) → 0 ≤ v5 ∧ v5 < 9 ∧ 0 ≤ v5 ∧ v5 < 9 ∧ gh_i (v5 + 1) ∧ K13 (v5 + 1) (gh_u m 33 v5 (gh_ior_f (m 33 v5) (gh_ishl_f (gh_iand_f (gh_ishr_f v2 v5) 1) v4)))))
def w_Chart_enter_33 (v1 : Int) (v2 : Int) (m : gh_M) (Q : Int → gh_M → Prop) : Prop := k_Grammar_nameOf v1 m ∧ ∀ v4 : Int, v4 = x_Grammar_nameOf v1 m → gh_M1 (fun K13 v5 m => f_Chart_enter_33_13 v1 v2 v4 Q K13 v5 m) 0 m
theorem b_Chart_enter_33_13 {E : gh_E} {v1 : Int} {v2 : Int} {v4 : Int} {Q : Int → gh_M → Prop} {K13 : Int → gh_M → Prop} (d : Nat) (hK : ∀ (v5 : Int) (m : gh_M), gh_F m → K13 v5 m → gh_T E (gh_yChart_enter.cls, prog_2_method_11_code, 6, false, 0) (d + 2) 13 [(0, 2, 30), (1, 0, v1), (2, 0, v2), (3, 2, 33), (4, 0, v4), (5, 0, v5)] [] m (fun r m1 => gh_F m1 ∧ Q r m1)) (v5 : Int) (m : gh_M) (hF : gh_F m) (h : f_Chart_enter_33_13 v1 v2 v4 Q K13 v5 m) : gh_T E (gh_yChart_enter.cls, prog_2_method_11_code, 6, false, 0) (d + 2) 13 [(0, 2, 30), (1, 0, v1), (2, 0, v2), (3, 2, 33), (4, 0, v4), (5, 0, v5)] [] m (fun r m1 => gh_F m1 ∧ Q r m1) := by
  have hK13 := hK
  unfold f_Chart_enter_33_13 at h
  refine gh_iload gd_Chart_enter_13 5 rfl ?_
  refine gh_aload_n gd_Chart_enter_15 0 rfl (by decide) ?_
  refine gf_30_2 gd_Chart_enter_16 gh_k331 hF ?_
  refine gf_26_3 gd_Chart_enter_19 gh_k296 hF rfl ?_
  obtain ⟨J53, hJ53, h⟩ := h
  have hJ53 : ∀ (m : gh_M), gh_F m → J53 m → gh_T E (gh_yChart_enter.cls, prog_2_method_11_code, 6, false, 0) (d + 2) 53 [(0, 2, 30), (1, 0, v1), (2, 0, v2)] [] m (fun r m1 => gh_F m1 ∧ Q r m1) := by
    intro m hF hj
    have h := hJ53 m hj
    refine gh_aload_n gd_Chart_enter_53 0 rfl (by decide) ?_
    refine gh_iload_n gd_Chart_enter_54 1 rfl ?_
    refine gh_iload_n gd_Chart_enter_55 2 rfl ?_
    refine cv_Chart_beyond (d := d + 1) gd_Chart_enter_56 gh_k921 hF (Nat.le_of_ble_eq_true rfl) (gh_C.pw (s_Chart_beyond d v1 v2 hF h) (fun r1130 h => ?_))
    exact gh_ret0 rfl gd_Chart_enter_59 ⟨hF, h⟩
  obtain ⟨hA, hB⟩ := h
  have k1132 : (¬ (v5 ≤ (m 26 3)) ∨ (v4 = (-1))) → gh_T E (gh_yChart_enter.cls, prog_2_method_11_code, 6, false, 0) (d + 2) 53 [(0, 2, 30), (1, 0, v1), (2, 0, v2), (3, 2, 33), (4, 0, v4), (5, 0, v5)] [] m (fun r m1 => gh_F m1 ∧ Q r m1) := by
    intro c
    have h := hA c
    refine gh_pick (L2 := [(0, 2, 30), (1, 0, v1), (2, 0, v2)]) [0, 1, 2] rfl ?_
    exact hJ53 m hF h
  have k1133 : ¬ (¬ (v5 ≤ (m 26 3)) ∨ (v4 = (-1))) → gh_T E (gh_yChart_enter.cls, prog_2_method_11_code, 6, false, 0) (d + 2) 31 [(0, 2, 30), (1, 0, v1), (2, 0, v2), (3, 2, 33), (4, 0, v4), (5, 0, v5)] [] m (fun r m1 => gh_F m1 ∧ Q r m1) := by
    intro c
    have h := hB c
    refine gh_aload_n gd_Chart_enter_31 3 rfl (by decide) ?_
    refine gh_iload gd_Chart_enter_32 5 rfl ?_
    refine gh_dup2 gd_Chart_enter_34 (by decide) (by decide) ?_
    obtain ⟨q1134, h⟩ := h
    obtain ⟨q1135, h⟩ := h
    refine la_33 gd_Chart_enter_35 hF q1134 q1135 rfl ?_
    refine gh_iload_n gd_Chart_enter_36 2 rfl ?_
    refine gh_iload gd_Chart_enter_37 5 rfl ?_
    refine gh_ishr gd_Chart_enter_39 ?_
    refine gh_iconst gd_Chart_enter_40 (gh_r0 rfl) ?_
    refine gh_iand gd_Chart_enter_41 ?_
    refine gh_iload gd_Chart_enter_42 4 rfl ?_
    refine gh_ishl gd_Chart_enter_44 ?_
    refine gh_ior gd_Chart_enter_45 ?_
    obtain ⟨q1136, h⟩ := h
    obtain ⟨q1137, h⟩ := h
    refine sa_33 gd_Chart_enter_46 hF q1136 q1137 (fun hF => ?_)
    obtain ⟨q1138, h⟩ := h
    refine gh_iinc (L2 := [(5, 0, v5 + 1), (0, 2, 30), (1, 0, v1), (2, 0, v2), (3, 2, 33), (4, 0, v4)]) gd_Chart_enter_47 5 rfl q1138 (by decide) rfl ?_
    refine gh_goto (tgt := 13) gd_Chart_enter_50 (by decide) ?_
    refine gh_pick (L2 := [(0, 2, 30), (1, 0, v1), (2, 0, v2), (3, 2, 33), (4, 0, v4), (5, 0, v5 + 1)]) [1, 2, 3, 4, 5, 0] rfl ?_
    exact hK13 (v5 + 1) (gh_u m 33 v5 (gh_ior_f (m 33 v5) (gh_ishl_f (gh_iand_f (gh_ishr_f v2 v5) 1) v4))) hF h
  refine gh_jgt (tgt := 53) gd_Chart_enter_22 (by decide) (fun c1139 => ?_) (fun c1139 => ?_)
  · have hz : True := trivial
    refine gh_iload gd_Chart_enter_25 4 rfl ?_
    refine gh_iconst gd_Chart_enter_27 (gh_r0 rfl) ?_
    refine gh_jeq (tgt := 53) gd_Chart_enter_28 (by decide) (fun c1140 => ?_) (fun c1140 => ?_)
    · have hz : True := trivial
      exact k1132 (Or.inr c1140)
    · have hz : True := trivial
      exact k1133 (fun z => z.elim (fun w => w c1139) c1140)
  · have hz : True := trivial
    exact k1132 (Or.inl c1139)
theorem s_Chart_enter_33 {E : gh_E} {m : gh_M} {Q : Int → gh_M → Prop} (d : Nat) (v1 : Int) (v2 : Int) (hF : gh_F m) (h : w_Chart_enter_33 v1 v2 m Q) : gh_C E gh_yChart_enter prog_2_method_11_code 6 (some .int) 0 (d + 2) [(2, 30), (0, v1), (0, v2), (2, 33)] m (fun r m1 => gh_F m1 ∧ Q r m1) := by
  refine gh_enter2 (L := [(0, 2, 30), (1, 0, v1), (2, 0, v2), (3, 2, 33)]) (by decide +kernel) gh_rt0 (Nat.le_of_ble_eq_true rfl) rfl rfl ?_
  unfold w_Chart_enter_33 at h
  refine gh_aload_n gd_Chart_enter_0 0 rfl (by decide) ?_
  refine gf_30_0 gd_Chart_enter_1 gh_k329 hF ?_
  refine gh_iload_n gd_Chart_enter_4 1 rfl ?_
  obtain ⟨q1129, h⟩ := h
  refine cv_Grammar_nameOf (d := d + 1) gd_Chart_enter_5 gh_k925 hF (Nat.le_of_ble_eq_true rfl) (gh_C.pe (e_Grammar_nameOf (d + 1) v1 hF q1129) ?_)
  refine gh_name (fun v4 hn => ?_)
  have h := h v4 hn
  refine gh_istore (L2 := [(4, 0, v4), (0, 2, 30), (1, 0, v1), (2, 0, v2), (3, 2, 33)]) gd_Chart_enter_8 (by decide) rfl ?_
  refine gh_iconst gd_Chart_enter_10 (gh_r0 rfl) ?_
  refine gh_istore (L2 := [(5, 0, 0), (4, 0, v4), (0, 2, 30), (1, 0, v1), (2, 0, v2), (3, 2, 33)]) gd_Chart_enter_11 (by decide) rfl ?_
  refine gh_pick (L2 := [(0, 2, 30), (1, 0, v1), (2, 0, v2), (3, 2, 33), (4, 0, v4), (5, 0, 0)]) [2, 3, 4, 5, 1, 0] rfl ?_
  exact gh_M1_sound (T := fun v5 m => gh_T E (gh_yChart_enter.cls, prog_2_method_11_code, 6, false, 0) (d + 2) 13 [(0, 2, 30), (1, 0, v1), (2, 0, v2), (3, 2, 33), (4, 0, v4), (5, 0, v5)] [] m (fun r m1 => gh_F m1 ∧ Q r m1)) (fun _ m => gh_F m) (fun K13 v5 m hK hF h => b_Chart_enter_33_13 d hK v5 m hF h) 0 m hF h
def f_Chart_goThrough_33_25 (v1 : Int) (v2 : Int) (v4 : Int) (v5 : Int) (K8 : Int → Int → gh_M → Prop) (K25 : Int → gh_M → Prop) (v6 : Int) (m : gh_M) : Prop := ((v6 ≤ (m 26 3) → 0 ≤ v6 ∧ v6 < 9 ∧ gh_i ((m 34 v6) + (gh_iand_f (gh_ishr_f v4 v6) 1)) ∧ 0 ≤ v6 ∧ v6 < 9 ∧ gh_i (v6 + 1) ∧ K25 (v6 + 1) (gh_u m 34 v6 ((m 34 v6) + (gh_iand_f (gh_ishr_f v4 v6) 1)))) ∧ (¬ (v6 ≤ (m 26 3)) → 0 ≤ v1 ∧ v1 < 20 ∧ ∃ J93 : Int → gh_M → Prop, (∀ (v4' : Int) (m : gh_M), J93 v4' m → gh_i (v5 + 1) ∧ K8 v4' (v5 + 1) m) ∧ ((v5 < (m 17 v1) → k_Grammar_partAt v1 v5 m ∧ w_Chart_enter_33 (x_Grammar_partAt v1 v5 m) v4 m (fun r1127 m1128 => J93 r1127 m1128)) ∧ (¬ (v5 < (m 17 v1)) → J93 v4 m))))
def f_Chart_goThrough_33_8 (v1 : Int) (v2 : Int) (Q : Int → gh_M → Prop) (K8 : Int → Int → gh_M → Prop) (v4 : Int) (v5 : Int) (m : gh_M) : Prop := 0 ≤ v1 ∧ v1 < 20 ∧ ((v5 ≤ (m 17 v1) → gh_M1 (fun K25 v6 m => f_Chart_goThrough_33_25 v1 v2 v4 v5 K8 K25 v6 m) v2 m) ∧ (¬ (v5 ≤ (m 17 v1)) → Q 0 m))
def w_Chart_goThrough_33 (v1 : Int) (v2 : Int) (m : gh_M) (Q : Int → gh_M → Prop) : Prop := ∀ v4 : Int, v4 = gh_ishl_f 1 v2 → gh_M2 (fun K8 v4 v5 m => f_Chart_goThrough_33_8 v1 v2 Q K8 v4 v5 m) v4 0 m
theorem b_Chart_goThrough_33_25 {E : gh_E} {v1 : Int} {v2 : Int} {v4 : Int} {v5 : Int} {K8 : Int → Int → gh_M → Prop} {Q : Int → gh_M → Prop} {K25 : Int → gh_M → Prop} (d : Nat) (hK8 : ∀ (v4 : Int) (v5 : Int) (m : gh_M), gh_F m → K8 v4 v5 m → gh_T E (gh_yChart_goThrough.cls, prog_2_method_9_code, 7, false, 9) (d + 3) 8 [(0, 2, 30), (1, 0, v1), (2, 0, v2), (3, 2, 33), (4, 0, v4), (5, 0, v5)] [] m (fun r m1 => gh_F m1 ∧ Q r m1)) (hK : ∀ (v6 : Int) (m : gh_M), gh_F m → K25 v6 m → gh_T E (gh_yChart_goThrough.cls, prog_2_method_9_code, 7, false, 9) (d + 3) 25 [(0, 2, 30), (1, 0, v1), (2, 0, v2), (3, 2, 33), (4, 0, v4), (5, 0, v5), (6, 0, v6)] [] m (fun r m1 => gh_F m1 ∧ Q r m1)) (v6 : Int) (m : gh_M) (hF : gh_F m) (h : f_Chart_goThrough_33_25 v1 v2 v4 v5 K8 K25 v6 m) : gh_T E (gh_yChart_goThrough.cls, prog_2_method_9_code, 7, false, 9) (d + 3) 25 [(0, 2, 30), (1, 0, v1), (2, 0, v2), (3, 2, 33), (4, 0, v4), (5, 0, v5), (6, 0, v6)] [] m (fun r m1 => gh_F m1 ∧ Q r m1) := by
  have hK25 := hK
  unfold f_Chart_goThrough_33_25 at h
  refine gh_iload gd_Chart_goThrough_25 6 rfl ?_
  refine gh_aload_n gd_Chart_goThrough_27 0 rfl (by decide) ?_
  refine gf_30_2 gd_Chart_goThrough_28 gh_k331 hF ?_
  refine gf_26_3 gd_Chart_goThrough_31 gh_k296 hF rfl ?_
  obtain ⟨hA, hB⟩ := h
  refine gh_jgt (tgt := 60) gd_Chart_goThrough_34 (by decide) (fun c1115 => ?_) (fun c1115 => ?_)
  · have h := hA c1115
    refine gh_aload_n gd_Chart_goThrough_37 0 rfl (by decide) ?_
    refine gf_30_7 gd_Chart_goThrough_38 gh_k337 hF ?_
    refine gh_iload gd_Chart_goThrough_41 6 rfl ?_
    refine gh_dup2 gd_Chart_goThrough_43 (by decide) (by decide) ?_
    obtain ⟨q1116, h⟩ := h
    obtain ⟨q1117, h⟩ := h
    refine la_34 gd_Chart_goThrough_44 hF q1116 q1117 rfl ?_
    refine gh_iload gd_Chart_goThrough_45 4 rfl ?_
    refine gh_iload gd_Chart_goThrough_47 6 rfl ?_
    refine gh_ishr gd_Chart_goThrough_49 ?_
    refine gh_iconst gd_Chart_goThrough_50 (gh_r0 rfl) ?_
    refine gh_iand gd_Chart_goThrough_51 ?_
    obtain ⟨q1118, h⟩ := h
    refine gh_iadd gd_Chart_goThrough_52 q1118 ?_
    obtain ⟨q1119, h⟩ := h
    obtain ⟨q1120, h⟩ := h
    refine sa_34 gd_Chart_goThrough_53 hF q1119 q1120 (fun hF => ?_)
    obtain ⟨q1121, h⟩ := h
    refine gh_iinc (L2 := [(6, 0, v6 + 1), (0, 2, 30), (1, 0, v1), (2, 0, v2), (3, 2, 33), (4, 0, v4), (5, 0, v5)]) gd_Chart_goThrough_54 6 rfl q1121 (by decide) rfl ?_
    refine gh_goto (tgt := 25) gd_Chart_goThrough_57 (by decide) ?_
    refine gh_pick (L2 := [(0, 2, 30), (1, 0, v1), (2, 0, v2), (3, 2, 33), (4, 0, v4), (5, 0, v5), (6, 0, v6 + 1)]) [1, 2, 3, 4, 5, 6, 0] rfl ?_
    exact hK25 (v6 + 1) (gh_u m 34 v6 ((m 34 v6) + (gh_iand_f (gh_ishr_f v4 v6) 1))) hF h
  · have h := hB c1115
    refine gh_iload gd_Chart_goThrough_60 5 rfl ?_
    refine gh_aload_n gd_Chart_goThrough_62 0 rfl (by decide) ?_
    refine gf_30_0 gd_Chart_goThrough_63 gh_k329 hF ?_
    refine gf_13_6 gd_Chart_goThrough_66 gh_k208 hF ?_
    refine gh_iload_n gd_Chart_goThrough_69 1 rfl ?_
    obtain ⟨q1122, h⟩ := h
    obtain ⟨q1123, h⟩ := h
    refine la_17 gd_Chart_goThrough_70 hF q1122 q1123 rfl ?_
    obtain ⟨J93, hJ93, h⟩ := h
    have hJ93 : ∀ (v4' : Int) (m : gh_M), gh_F m → J93 v4' m → gh_T E (gh_yChart_goThrough.cls, prog_2_method_9_code, 7, false, 9) (d + 3) 93 [(0, 2, 30), (1, 0, v1), (2, 0, v2), (3, 2, 33), (4, 0, v4'), (5, 0, v5)] [] m (fun r m1 => gh_F m1 ∧ Q r m1) := by
      intro v4' m hF hj
      have h := hJ93 v4' m hj
      obtain ⟨q1124, h⟩ := h
      refine gh_iinc (L2 := [(5, 0, v5 + 1), (0, 2, 30), (1, 0, v1), (2, 0, v2), (3, 2, 33), (4, 0, v4')]) gd_Chart_goThrough_93 5 rfl q1124 (by decide) rfl ?_
      refine gh_goto (tgt := 8) gd_Chart_goThrough_96 (by decide) ?_
      refine gh_pick (L2 := [(0, 2, 30), (1, 0, v1), (2, 0, v2), (3, 2, 33), (4, 0, v4'), (5, 0, v5 + 1)]) [1, 2, 3, 4, 5, 0] rfl ?_
      exact hK8 v4' (v5 + 1) m hF h
    obtain ⟨hA, hB⟩ := h
    refine gh_jge (tgt := 93) gd_Chart_goThrough_71 (by decide) (fun c1125 => ?_) (fun c1125 => ?_)
    · have h := hA c1125
      refine gh_aload_n gd_Chart_goThrough_74 0 rfl (by decide) ?_
      refine gh_aload_n gd_Chart_goThrough_75 0 rfl (by decide) ?_
      refine gf_30_0 gd_Chart_goThrough_76 gh_k329 hF ?_
      refine gh_iload_n gd_Chart_goThrough_79 1 rfl ?_
      refine gh_iload gd_Chart_goThrough_80 5 rfl ?_
      obtain ⟨q1126, h⟩ := h
      refine cv_Grammar_partAt (d := d + 2) gd_Chart_goThrough_82 gh_k920 hF (Nat.le_of_ble_eq_true rfl) (gh_C.pe (e_Grammar_partAt (d + 2) v1 v5 hF q1126) ?_)
      refine gh_iload gd_Chart_goThrough_85 4 rfl ?_
      refine gh_aload_n gd_Chart_goThrough_87 3 rfl (by decide) ?_
      refine cv_Chart_enter (d := d + 2) gd_Chart_goThrough_88 gh_k938 hF (Nat.le_of_ble_eq_true rfl) (gh_C.mono (s_Chart_enter_33 d (x_Grammar_partAt v1 v5 m) v4 hF h) (fun r1127 m1128 hq => ?_))
      obtain ⟨hF, h⟩ := hq
      refine gh_istore (L2 := [(4, 0, r1127), (0, 2, 30), (1, 0, v1), (2, 0, v2), (3, 2, 33), (5, 0, v5), (6, 0, v6)]) gd_Chart_goThrough_91 (by decide) rfl ?_
      refine gh_pick (L2 := [(0, 2, 30), (1, 0, v1), (2, 0, v2), (3, 2, 33), (4, 0, r1127), (5, 0, v5)]) [1, 2, 3, 4, 0, 5] rfl ?_
      exact hJ93 r1127 m1128 hF h
    · have h := hB c1125
      refine gh_pick (L2 := [(0, 2, 30), (1, 0, v1), (2, 0, v2), (3, 2, 33), (4, 0, v4), (5, 0, v5)]) [0, 1, 2, 3, 4, 5] rfl ?_
      exact hJ93 v4 m hF h
theorem b_Chart_goThrough_33_8 {E : gh_E} {v1 : Int} {v2 : Int} {Q : Int → gh_M → Prop} {K8 : Int → Int → gh_M → Prop} (d : Nat) (hK : ∀ (v4 : Int) (v5 : Int) (m : gh_M), gh_F m → K8 v4 v5 m → gh_T E (gh_yChart_goThrough.cls, prog_2_method_9_code, 7, false, 9) (d + 3) 8 [(0, 2, 30), (1, 0, v1), (2, 0, v2), (3, 2, 33), (4, 0, v4), (5, 0, v5)] [] m (fun r m1 => gh_F m1 ∧ Q r m1)) (v4 : Int) (v5 : Int) (m : gh_M) (hF : gh_F m) (h : f_Chart_goThrough_33_8 v1 v2 Q K8 v4 v5 m) : gh_T E (gh_yChart_goThrough.cls, prog_2_method_9_code, 7, false, 9) (d + 3) 8 [(0, 2, 30), (1, 0, v1), (2, 0, v2), (3, 2, 33), (4, 0, v4), (5, 0, v5)] [] m (fun r m1 => gh_F m1 ∧ Q r m1) := by
  have hK8 := hK
  unfold f_Chart_goThrough_33_8 at h
  refine gh_iload gd_Chart_goThrough_8 5 rfl ?_
  refine gh_aload_n gd_Chart_goThrough_10 0 rfl (by decide) ?_
  refine gf_30_0 gd_Chart_goThrough_11 gh_k329 hF ?_
  refine gf_13_6 gd_Chart_goThrough_14 gh_k208 hF ?_
  refine gh_iload_n gd_Chart_goThrough_17 1 rfl ?_
  obtain ⟨q1112, h⟩ := h
  obtain ⟨q1113, h⟩ := h
  refine la_17 gd_Chart_goThrough_18 hF q1112 q1113 rfl ?_
  obtain ⟨hA, hB⟩ := h
  refine gh_jgt (tgt := 99) gd_Chart_goThrough_19 (by decide) (fun c1114 => ?_) (fun c1114 => ?_)
  · have h := hA c1114
    refine gh_iload_n gd_Chart_goThrough_22 2 rfl ?_
    refine gh_istore (L2 := [(6, 0, v2), (0, 2, 30), (1, 0, v1), (2, 0, v2), (3, 2, 33), (4, 0, v4), (5, 0, v5)]) gd_Chart_goThrough_23 (by decide) rfl ?_
    refine gh_pick (L2 := [(0, 2, 30), (1, 0, v1), (2, 0, v2), (3, 2, 33), (4, 0, v4), (5, 0, v5), (6, 0, v2)]) [1, 2, 3, 4, 5, 6, 0] rfl ?_
    exact gh_M1_sound (T := fun v6 m => gh_T E (gh_yChart_goThrough.cls, prog_2_method_9_code, 7, false, 9) (d + 3) 25 [(0, 2, 30), (1, 0, v1), (2, 0, v2), (3, 2, 33), (4, 0, v4), (5, 0, v5), (6, 0, v6)] [] m (fun r m1 => gh_F m1 ∧ Q r m1)) (fun _ m => gh_F m) (fun K25 v6 m hK hF h => b_Chart_goThrough_33_25 d hK8 hK v6 m hF h) v2 m hF h
  · have h := hB c1114
    exact gh_ret9 rfl gd_Chart_goThrough_99 ⟨hF, h⟩
theorem s_Chart_goThrough_33 {E : gh_E} {m : gh_M} {Q : Int → gh_M → Prop} (d : Nat) (v1 : Int) (v2 : Int) (hF : gh_F m) (h : w_Chart_goThrough_33 v1 v2 m Q) : gh_C E gh_yChart_goThrough prog_2_method_9_code 7 none 9 (d + 3) [(2, 30), (0, v1), (0, v2), (2, 33)] m (fun r m1 => gh_F m1 ∧ Q r m1) := by
  refine gh_enter2 (L := [(0, 2, 30), (1, 0, v1), (2, 0, v2), (3, 2, 33)]) (by decide +kernel) gh_rt9 (Nat.le_of_ble_eq_true rfl) rfl rfl ?_
  unfold w_Chart_goThrough_33 at h
  refine gh_iconst gd_Chart_goThrough_0 (gh_r0 rfl) ?_
  refine gh_iload_n gd_Chart_goThrough_1 2 rfl ?_
  refine gh_ishl gd_Chart_goThrough_2 ?_
  refine gh_name (fun v4 hn => ?_)
  have h := h v4 hn
  refine gh_istore (L2 := [(4, 0, v4), (0, 2, 30), (1, 0, v1), (2, 0, v2), (3, 2, 33)]) gd_Chart_goThrough_3 (by decide) rfl ?_
  refine gh_iconst gd_Chart_goThrough_5 (gh_r0 rfl) ?_
  refine gh_istore (L2 := [(5, 0, 0), (4, 0, v4), (0, 2, 30), (1, 0, v1), (2, 0, v2), (3, 2, 33)]) gd_Chart_goThrough_6 (by decide) rfl ?_
  refine gh_pick (L2 := [(0, 2, 30), (1, 0, v1), (2, 0, v2), (3, 2, 33), (4, 0, v4), (5, 0, 0)]) [2, 3, 4, 5, 1, 0] rfl ?_
  exact gh_M2_sound (T := fun v4 v5 m => gh_T E (gh_yChart_goThrough.cls, prog_2_method_9_code, 7, false, 9) (d + 3) 8 [(0, 2, 30), (1, 0, v1), (2, 0, v2), (3, 2, 33), (4, 0, v4), (5, 0, v5)] [] m (fun r m1 => gh_F m1 ∧ Q r m1)) (fun _ _ m => gh_F m) (fun K8 v4 v5 m hK hF h => b_Chart_goThrough_33_8 d hK v4 v5 m hF h) v4 0 m hF h
def f_Chart_lookAhead_33_37 (v1 : Int) (v2 : Int) (v4 : Int) (v5 : Int) (v6 : Int) (K8 : Int → Int → gh_M → Prop) (K37 : Int → gh_M → Prop) (v7 : Int) (m : gh_M) : Prop := ∃ J86 : gh_M → Prop, (∀ (m : gh_M), J86 m → w_Chart_enter_33 v6 v4 m (fun r1148 m1149 => gh_i (v5 + 1) ∧ K8 r1148 (v5 + 1) m1149)) ∧ (((¬ (v7 ≤ (m 26 3)) ∨ (v6 ≤ 0)) → J86 m) ∧ (¬ (¬ (v7 ≤ (m 26 3)) ∨ (v6 ≤ 0)) → 0 ≤ v7 ∧ v7 < 9 ∧ 0 ≤ v7 ∧ v7 < 9 ∧ gh_i (v7 + 1) ∧ K37 (v7 + 1) (gh_u m 35 v7 (gh_ior_f (m 35 v7) (if (gh_iand_f (gh_ishr_f v4 v7) 1) = 0 then 0 else v6)))))
def f_Chart_lookAhead_33_8 (v1 : Int) (v2 : Int) (Q : Int → gh_M → Prop) (K8 : Int → Int → gh_M → Prop) (v4 : Int) (v5 : Int) (m : gh_M) : Prop := 0 ≤ v1 ∧ v1 < 20 ∧ ((v5 < (m 17 v1) → k_Grammar_partAt v1 v5 m ∧ ∀ v6 : Int, v6 = x_Grammar_partAt v1 v5 m → gh_M1 (fun K37 v7 m => f_Chart_lookAhead_33_37 v1 v2 v4 v5 v6 K8 K37 v7 m) v2 m) ∧ (¬ (v5 < (m 17 v1)) → Q 0 m))
def w_Chart_lookAhead_33 (v1 : Int) (v2 : Int) (m : gh_M) (Q : Int → gh_M → Prop) : Prop := ∀ v4 : Int, v4 = gh_ishl_f 1 v2 → gh_M2 (fun K8 v4 v5 m => f_Chart_lookAhead_33_8 v1 v2 Q K8 v4 v5 m) v4 0 m
theorem b_Chart_lookAhead_33_37 {E : gh_E} {v1 : Int} {v2 : Int} {v4 : Int} {v5 : Int} {v6 : Int} {K8 : Int → Int → gh_M → Prop} {Q : Int → gh_M → Prop} {K37 : Int → gh_M → Prop} (d : Nat) (hK8 : ∀ (v4 : Int) (v5 : Int) (m : gh_M), gh_F m → K8 v4 v5 m → gh_T E (gh_yChart_lookAhead.cls, prog_2_method_10_code, 8, false, 9) (d + 3) 8 [(0, 2, 30), (1, 0, v1), (2, 0, v2), (3, 2, 33), (4, 0, v4), (5, 0, v5)] [] m (fun r m1 => gh_F m1 ∧ Q r m1)) (hK : ∀ (v7 : Int) (m : gh_M), gh_F m → K37 v7 m → gh_T E (gh_yChart_lookAhead.cls, prog_2_method_10_code, 8, false, 9) (d + 3) 37 [(0, 2, 30), (1, 0, v1), (2, 0, v2), (3, 2, 33), (4, 0, v4), (5, 0, v5), (6, 0, v6), (7, 0, v7)] [] m (fun r m1 => gh_F m1 ∧ Q r m1)) (v7 : Int) (m : gh_M) (hF : gh_F m) (h : f_Chart_lookAhead_33_37 v1 v2 v4 v5 v6 K8 K37 v7 m) : gh_T E (gh_yChart_lookAhead.cls, prog_2_method_10_code, 8, false, 9) (d + 3) 37 [(0, 2, 30), (1, 0, v1), (2, 0, v2), (3, 2, 33), (4, 0, v4), (5, 0, v5), (6, 0, v6), (7, 0, v7)] [] m (fun r m1 => gh_F m1 ∧ Q r m1) := by
  have hK37 := hK
  unfold f_Chart_lookAhead_33_37 at h
  refine gh_iload gd_Chart_lookAhead_37 7 rfl ?_
  refine gh_aload_n gd_Chart_lookAhead_39 0 rfl (by decide) ?_
  refine gf_30_2 gd_Chart_lookAhead_40 gh_k331 hF ?_
  refine gf_26_3 gd_Chart_lookAhead_43 gh_k296 hF rfl ?_
  obtain ⟨J86, hJ86, h⟩ := h
  have hJ86 : ∀ (m : gh_M), gh_F m → J86 m → gh_T E (gh_yChart_lookAhead.cls, prog_2_method_10_code, 8, false, 9) (d + 3) 86 [(0, 2, 30), (1, 0, v1), (2, 0, v2), (3, 2, 33), (4, 0, v4), (5, 0, v5), (6, 0, v6)] [] m (fun r m1 => gh_F m1 ∧ Q r m1) := by
    intro m hF hj
    have h := hJ86 m hj
    refine gh_aload_n gd_Chart_lookAhead_86 0 rfl (by decide) ?_
    refine gh_iload gd_Chart_lookAhead_87 6 rfl ?_
    refine gh_iload gd_Chart_lookAhead_89 4 rfl ?_
    refine gh_aload_n gd_Chart_lookAhead_91 3 rfl (by decide) ?_
    refine cv_Chart_enter (d := d + 2) gd_Chart_lookAhead_92 gh_k938 hF (Nat.le_of_ble_eq_true rfl) (gh_C.mono (s_Chart_enter_33 d v6 v4 hF h) (fun r1148 m1149 hq => ?_))
    obtain ⟨hF, h⟩ := hq
    refine gh_istore (L2 := [(4, 0, r1148), (0, 2, 30), (1, 0, v1), (2, 0, v2), (3, 2, 33), (5, 0, v5), (6, 0, v6)]) gd_Chart_lookAhead_95 (by decide) rfl ?_
    obtain ⟨q1150, h⟩ := h
    refine gh_iinc (L2 := [(5, 0, v5 + 1), (4, 0, r1148), (0, 2, 30), (1, 0, v1), (2, 0, v2), (3, 2, 33), (6, 0, v6)]) gd_Chart_lookAhead_97 5 rfl q1150 (by decide) rfl ?_
    refine gh_goto (tgt := 8) gd_Chart_lookAhead_100 (by decide) ?_
    refine gh_pick (L2 := [(0, 2, 30), (1, 0, v1), (2, 0, v2), (3, 2, 33), (4, 0, r1148), (5, 0, v5 + 1)]) [2, 3, 4, 5, 1, 0] rfl ?_
    exact hK8 r1148 (v5 + 1) m1149 hF h
  obtain ⟨hA, hB⟩ := h
  have k1151 : (¬ (v7 ≤ (m 26 3)) ∨ (v6 ≤ 0)) → gh_T E (gh_yChart_lookAhead.cls, prog_2_method_10_code, 8, false, 9) (d + 3) 86 [(0, 2, 30), (1, 0, v1), (2, 0, v2), (3, 2, 33), (4, 0, v4), (5, 0, v5), (6, 0, v6), (7, 0, v7)] [] m (fun r m1 => gh_F m1 ∧ Q r m1) := by
    intro c
    have h := hA c
    refine gh_pick (L2 := [(0, 2, 30), (1, 0, v1), (2, 0, v2), (3, 2, 33), (4, 0, v4), (5, 0, v5), (6, 0, v6)]) [0, 1, 2, 3, 4, 5, 6] rfl ?_
    exact hJ86 m hF h
  have k1152 : ¬ (¬ (v7 ≤ (m 26 3)) ∨ (v6 ≤ 0)) → gh_T E (gh_yChart_lookAhead.cls, prog_2_method_10_code, 8, false, 9) (d + 3) 54 [(0, 2, 30), (1, 0, v1), (2, 0, v2), (3, 2, 33), (4, 0, v4), (5, 0, v5), (6, 0, v6), (7, 0, v7)] [] m (fun r m1 => gh_F m1 ∧ Q r m1) := by
    intro c
    have h := hB c
    refine gh_aload_n gd_Chart_lookAhead_54 0 rfl (by decide) ?_
    refine gf_30_8 gd_Chart_lookAhead_55 gh_k339 hF ?_
    refine gh_iload gd_Chart_lookAhead_58 7 rfl ?_
    refine gh_dup2 gd_Chart_lookAhead_60 (by decide) (by decide) ?_
    obtain ⟨q1153, h⟩ := h
    obtain ⟨q1154, h⟩ := h
    refine la_35 gd_Chart_lookAhead_61 hF q1153 q1154 rfl ?_
    refine gh_iload gd_Chart_lookAhead_62 4 rfl ?_
    refine gh_iload gd_Chart_lookAhead_64 7 rfl ?_
    refine gh_ishr gd_Chart_lookAhead_66 ?_
    refine gh_iconst gd_Chart_lookAhead_67 (gh_r0 rfl) ?_
    refine gh_iand gd_Chart_lookAhead_68 ?_
    have k1155 : ∀ x1156 : Int, x1156 = (if (gh_iand_f (gh_ishr_f v4 v7) 1) = 0 then 0 else v6) → gh_T E (gh_yChart_lookAhead.cls, prog_2_method_10_code, 8, false, 9) (d + 3) 78 [(0, 2, 30), (1, 0, v1), (2, 0, v2), (3, 2, 33), (4, 0, v4), (5, 0, v5), (6, 0, v6), (7, 0, v7)] [(0, x1156), (0, m 35 v7), (0, v7), (2, 35)] m (fun r m1 => gh_F m1 ∧ Q r m1) := by
      rintro _ rfl
      refine gh_ior gd_Chart_lookAhead_78 ?_
      obtain ⟨q1157, h⟩ := h
      obtain ⟨q1158, h⟩ := h
      refine sa_35 gd_Chart_lookAhead_79 hF q1157 q1158 (fun hF => ?_)
      obtain ⟨q1159, h⟩ := h
      refine gh_iinc (L2 := [(7, 0, v7 + 1), (0, 2, 30), (1, 0, v1), (2, 0, v2), (3, 2, 33), (4, 0, v4), (5, 0, v5), (6, 0, v6)]) gd_Chart_lookAhead_80 7 rfl q1159 (by decide) rfl ?_
      refine gh_goto (tgt := 37) gd_Chart_lookAhead_83 (by decide) ?_
      refine gh_pick (L2 := [(0, 2, 30), (1, 0, v1), (2, 0, v2), (3, 2, 33), (4, 0, v4), (5, 0, v5), (6, 0, v6), (7, 0, v7 + 1)]) [1, 2, 3, 4, 5, 6, 7, 0] rfl ?_
      exact hK37 (v7 + 1) (gh_u m 35 v7 (gh_ior_f (m 35 v7) (if (gh_iand_f (gh_ishr_f v4 v7) 1) = 0 then 0 else v6))) hF h
    refine gh_zne (tgt := 76) gd_Chart_lookAhead_69 (by decide) (fun c1160 => ?_) (fun c1160 => ?_)
    · have hz : True := trivial
      refine gh_iconst gd_Chart_lookAhead_72 (gh_r0 rfl) ?_
      refine gh_goto (tgt := 78) gd_Chart_lookAhead_73 (by decide) ?_
      exact k1155 _ (by rw [if_pos c1160])
    · have hz : True := trivial
      refine gh_iload gd_Chart_lookAhead_76 6 rfl ?_
      exact k1155 _ (by rw [if_neg c1160])
  refine gh_jgt (tgt := 86) gd_Chart_lookAhead_46 (by decide) (fun c1161 => ?_) (fun c1161 => ?_)
  · have hz : True := trivial
    refine gh_iload gd_Chart_lookAhead_49 6 rfl ?_
    refine gh_zle (tgt := 86) gd_Chart_lookAhead_51 (by decide) (fun c1162 => ?_) (fun c1162 => ?_)
    · have hz : True := trivial
      exact k1151 (Or.inr c1162)
    · have hz : True := trivial
      exact k1152 (fun z => z.elim (fun w => w c1161) c1162)
  · have hz : True := trivial
    exact k1151 (Or.inl c1161)
theorem b_Chart_lookAhead_33_8 {E : gh_E} {v1 : Int} {v2 : Int} {Q : Int → gh_M → Prop} {K8 : Int → Int → gh_M → Prop} (d : Nat) (hK : ∀ (v4 : Int) (v5 : Int) (m : gh_M), gh_F m → K8 v4 v5 m → gh_T E (gh_yChart_lookAhead.cls, prog_2_method_10_code, 8, false, 9) (d + 3) 8 [(0, 2, 30), (1, 0, v1), (2, 0, v2), (3, 2, 33), (4, 0, v4), (5, 0, v5)] [] m (fun r m1 => gh_F m1 ∧ Q r m1)) (v4 : Int) (v5 : Int) (m : gh_M) (hF : gh_F m) (h : f_Chart_lookAhead_33_8 v1 v2 Q K8 v4 v5 m) : gh_T E (gh_yChart_lookAhead.cls, prog_2_method_10_code, 8, false, 9) (d + 3) 8 [(0, 2, 30), (1, 0, v1), (2, 0, v2), (3, 2, 33), (4, 0, v4), (5, 0, v5)] [] m (fun r m1 => gh_F m1 ∧ Q r m1) := by
  have hK8 := hK
  unfold f_Chart_lookAhead_33_8 at h
  refine gh_iload gd_Chart_lookAhead_8 5 rfl ?_
  refine gh_aload_n gd_Chart_lookAhead_10 0 rfl (by decide) ?_
  refine gf_30_0 gd_Chart_lookAhead_11 gh_k329 hF ?_
  refine gf_13_6 gd_Chart_lookAhead_14 gh_k208 hF ?_
  refine gh_iload_n gd_Chart_lookAhead_17 1 rfl ?_
  obtain ⟨q1144, h⟩ := h
  obtain ⟨q1145, h⟩ := h
  refine la_17 gd_Chart_lookAhead_18 hF q1144 q1145 rfl ?_
  obtain ⟨hA, hB⟩ := h
  refine gh_jge (tgt := 103) gd_Chart_lookAhead_19 (by decide) (fun c1146 => ?_) (fun c1146 => ?_)
  · have h := hA c1146
    refine gh_aload_n gd_Chart_lookAhead_22 0 rfl (by decide) ?_
    refine gf_30_0 gd_Chart_lookAhead_23 gh_k329 hF ?_
    refine gh_iload_n gd_Chart_lookAhead_26 1 rfl ?_
    refine gh_iload gd_Chart_lookAhead_27 5 rfl ?_
    obtain ⟨q1147, h⟩ := h
    refine cv_Grammar_partAt (d := d + 2) gd_Chart_lookAhead_29 gh_k920 hF (Nat.le_of_ble_eq_true rfl) (gh_C.pe (e_Grammar_partAt (d + 2) v1 v5 hF q1147) ?_)
    refine gh_name (fun v6 hn => ?_)
    have h := h v6 hn
    refine gh_istore (L2 := [(6, 0, v6), (0, 2, 30), (1, 0, v1), (2, 0, v2), (3, 2, 33), (4, 0, v4), (5, 0, v5)]) gd_Chart_lookAhead_32 (by decide) rfl ?_
    refine gh_iload_n gd_Chart_lookAhead_34 3 rfl ?_
    refine gh_istore (L2 := [(7, 0, v2), (6, 0, v6), (0, 2, 30), (1, 0, v1), (2, 0, v2), (3, 2, 33), (4, 0, v4), (5, 0, v5)]) gd_Chart_lookAhead_35 (by decide) rfl ?_
    refine gh_pick (L2 := [(0, 2, 30), (1, 0, v1), (2, 0, v2), (3, 2, 33), (4, 0, v4), (5, 0, v5), (6, 0, v6), (7, 0, v2)]) [2, 3, 4, 5, 6, 7, 1, 0] rfl ?_
    exact gh_M1_sound (T := fun v7 m => gh_T E (gh_yChart_lookAhead.cls, prog_2_method_10_code, 8, false, 9) (d + 3) 37 [(0, 2, 30), (1, 0, v1), (2, 0, v2), (3, 2, 33), (4, 0, v4), (5, 0, v5), (6, 0, v6), (7, 0, v7)] [] m (fun r m1 => gh_F m1 ∧ Q r m1)) (fun _ m => gh_F m) (fun K37 v7 m hK hF h => b_Chart_lookAhead_33_37 d hK8 hK v7 m hF h) v2 m hF h
  · have h := hB c1146
    exact gh_ret9 rfl gd_Chart_lookAhead_103 ⟨hF, h⟩
theorem s_Chart_lookAhead_33 {E : gh_E} {m : gh_M} {Q : Int → gh_M → Prop} (d : Nat) (v1 : Int) (v2 : Int) (hF : gh_F m) (h : w_Chart_lookAhead_33 v1 v2 m Q) : gh_C E gh_yChart_lookAhead prog_2_method_10_code 8 none 9 (d + 3) [(2, 30), (0, v1), (0, v2), (2, 33)] m (fun r m1 => gh_F m1 ∧ Q r m1) := by
  refine gh_enter2 (L := [(0, 2, 30), (1, 0, v1), (2, 0, v2), (3, 2, 33)]) (by decide +kernel) gh_rt9 (Nat.le_of_ble_eq_true rfl) rfl rfl ?_
  unfold w_Chart_lookAhead_33 at h
  refine gh_iconst gd_Chart_lookAhead_0 (gh_r0 rfl) ?_
  refine gh_iload_n gd_Chart_lookAhead_1 2 rfl ?_
  refine gh_ishl gd_Chart_lookAhead_2 ?_
  refine gh_name (fun v4 hn => ?_)
  have h := h v4 hn
  refine gh_istore (L2 := [(4, 0, v4), (0, 2, 30), (1, 0, v1), (2, 0, v2), (3, 2, 33)]) gd_Chart_lookAhead_3 (by decide) rfl ?_
  refine gh_iconst gd_Chart_lookAhead_5 (gh_r0 rfl) ?_
  refine gh_istore (L2 := [(5, 0, 0), (4, 0, v4), (0, 2, 30), (1, 0, v1), (2, 0, v2), (3, 2, 33)]) gd_Chart_lookAhead_6 (by decide) rfl ?_
  refine gh_pick (L2 := [(0, 2, 30), (1, 0, v1), (2, 0, v2), (3, 2, 33), (4, 0, v4), (5, 0, 0)]) [2, 3, 4, 5, 1, 0] rfl ?_
  exact gh_M2_sound (T := fun v4 v5 m => gh_T E (gh_yChart_lookAhead.cls, prog_2_method_10_code, 8, false, 9) (d + 3) 8 [(0, 2, 30), (1, 0, v1), (2, 0, v2), (3, 2, 33), (4, 0, v4), (5, 0, v5)] [] m (fun r m1 => gh_F m1 ∧ Q r m1)) (fun _ _ m => gh_F m) (fun K8 v4 v5 m hK hF h => b_Chart_lookAhead_33_8 d hK v4 v5 m hF h) v4 0 m hF h
def f_Chart_await_33_63 (v2 : Int) (v3 : Int) (v4 : Int) (v5 : Int) (v6 : Int) (v4' : Int) (K28 : Int → Int → gh_M → Prop) (K63 : Int → gh_M → Prop) (v7 : Int) (m : gh_M) : Prop := ((v7 < (m 13 2) → 0 ≤ v7 ∧ v7 < 20 ∧ ∃ J131 : gh_M → Prop, (∀ (m : gh_M), J131 m → gh_i (v7 + 1) ∧ K63 (v7 + 1) m) ∧ (((gh_iand_f (gh_ishr_f v6 (m 16 v7)) 1) = 0 → J131 m) ∧ (¬ ((gh_iand_f (gh_ishr_f v6 (m 16 v7)) 1) = 0) → ((v2 = 0 → w_Chart_goThrough_33 v7 v3 m (fun _ m1111 => J131 m1111)) ∧ (¬ (v2 = 0) → ((p_Facts_isUsefulRule v7 m → w_Chart_lookAhead_33 v7 v3 m (fun _ m1143 => J131 m1143)) ∧ (¬ (p_Facts_isUsefulRule v7 m) → J131 m))))))) ∧ (¬ (v7 < (m 13 2)) → gh_i (v5 + 1) ∧ K28 v4' (v5 + 1) m))
def f_Chart_await_33_28 (v2 : Int) (v3 : Int) (K11 : Int → gh_M → Prop) (K28 : Int → Int → gh_M → Prop) (v4 : Int) (v5 : Int) (m : gh_M) : Prop := ∃ J143 : gh_M → Prop, (∀ (m : gh_M), J143 m → gh_i (v3 + 1) ∧ K11 (v3 + 1) m) ∧ (((v5 ≤ 8) → (0 ≤ v3 ∧ v3 < 9))) ∧ (((¬ (v5 ≤ 8) ∨ ((m 33 v3) = v4)) → J143 m) ∧ (¬ (¬ (v5 ≤ 8) ∨ ((m 33 v3) = v4)) → 0 ≤ v3 ∧ v3 < 9 ∧ ∀ v6 : Int, v6 = gh_iand_f (m 33 v3) (gh_ixor_f v4 (-1)) → ∀ v4' : Int, v4' = gh_ior_f v4 v6 → gh_M1 (fun K63 v7 m => f_Chart_await_33_63 v2 v3 v4 v5 v6 v4' K28 K63 v7 m) 0 m))
def f_Chart_await_33_11 (v2 : Int) (Q : Int → gh_M → Prop) (K11 : Int → gh_M → Prop) (v3 : Int) (m : gh_M) : Prop := ((v3 ≤ (m 26 3) → gh_M2 (fun K28 v4 v5 m => f_Chart_await_33_28 v2 v3 K11 K28 v4 v5 m) 0 0 m) ∧ (¬ (v3 ≤ (m 26 3)) → Q 0 m))
def w_Chart_await_33 (v2 : Int) (m : gh_M) (Q : Int → gh_M → Prop) : Prop := gh_M1 (fun K11 v3 m => f_Chart_await_33_11 v2 Q K11 v3 m) 0 (gh_u (gh_fil m 33 9 0) 33 0 1)
theorem b_Chart_await_33_63 {E : gh_E} {v2 : Int} {v3 : Int} {v4 : Int} {v5 : Int} {v6 : Int} {v4' : Int} {K28 : Int → Int → gh_M → Prop} {Q : Int → gh_M → Prop} {K63 : Int → gh_M → Prop} (d : Nat) (hK28 : ∀ (v4 : Int) (v5 : Int) (m : gh_M), gh_F m → K28 v4 v5 m → gh_T E (gh_yChart_await.cls, prog_2_method_8_code, 8, false, 9) (d + 4) 28 [(0, 2, 30), (1, 2, 33), (2, 0, v2), (3, 0, v3), (4, 0, v4), (5, 0, v5)] [] m (fun r m1 => gh_F m1 ∧ Q r m1)) (hK : ∀ (v7 : Int) (m : gh_M), gh_F m → K63 v7 m → gh_T E (gh_yChart_await.cls, prog_2_method_8_code, 8, false, 9) (d + 4) 63 [(0, 2, 30), (1, 2, 33), (2, 0, v2), (3, 0, v3), (4, 0, v4'), (5, 0, v5), (6, 0, v6), (7, 0, v7)] [] m (fun r m1 => gh_F m1 ∧ Q r m1)) (v7 : Int) (m : gh_M) (hF : gh_F m) (h : f_Chart_await_33_63 v2 v3 v4 v5 v6 v4' K28 K63 v7 m) : gh_T E (gh_yChart_await.cls, prog_2_method_8_code, 8, false, 9) (d + 4) 63 [(0, 2, 30), (1, 2, 33), (2, 0, v2), (3, 0, v3), (4, 0, v4'), (5, 0, v5), (6, 0, v6), (7, 0, v7)] [] m (fun r m1 => gh_F m1 ∧ Q r m1) := by
  have hK63 := hK
  unfold f_Chart_await_33_63 at h
  refine gh_iload gd_Chart_await_63 7 rfl ?_
  refine gh_aload_n gd_Chart_await_65 0 rfl (by decide) ?_
  refine gf_30_0 gd_Chart_await_66 gh_k329 hF ?_
  refine gf_13_2 gd_Chart_await_69 gh_k189 hF rfl ?_
  obtain ⟨hA, hB⟩ := h
  refine gh_jge (tgt := 137) gd_Chart_await_72 (by decide) (fun c1104 => ?_) (fun c1104 => ?_)
  · have h := hA c1104
    refine gh_iload gd_Chart_await_75 6 rfl ?_
    refine gh_aload_n gd_Chart_await_77 0 rfl (by decide) ?_
    refine gf_30_0 gd_Chart_await_78 gh_k329 hF ?_
    refine gf_13_5 gd_Chart_await_81 gh_k202 hF ?_
    refine gh_iload gd_Chart_await_84 7 rfl ?_
    obtain ⟨q1105, h⟩ := h
    obtain ⟨q1106, h⟩ := h
    refine la_16 gd_Chart_await_86 hF q1105 q1106 rfl ?_
    refine gh_ishr gd_Chart_await_87 ?_
    refine gh_iconst gd_Chart_await_88 (gh_r0 rfl) ?_
    refine gh_iand gd_Chart_await_89 ?_
    obtain ⟨J131, hJ131, h⟩ := h
    have hJ131 : ∀ (m : gh_M), gh_F m → J131 m → gh_T E (gh_yChart_await.cls, prog_2_method_8_code, 8, false, 9) (d + 4) 131 [(0, 2, 30), (1, 2, 33), (2, 0, v2), (3, 0, v3), (4, 0, v4'), (5, 0, v5), (6, 0, v6), (7, 0, v7)] [] m (fun r m1 => gh_F m1 ∧ Q r m1) := by
      intro m hF hj
      have h := hJ131 m hj
      obtain ⟨q1107, h⟩ := h
      refine gh_iinc (L2 := [(7, 0, v7 + 1), (0, 2, 30), (1, 2, 33), (2, 0, v2), (3, 0, v3), (4, 0, v4'), (5, 0, v5), (6, 0, v6)]) gd_Chart_await_131 7 rfl q1107 (by decide) rfl ?_
      refine gh_goto (tgt := 63) gd_Chart_await_134 (by decide) ?_
      refine gh_pick (L2 := [(0, 2, 30), (1, 2, 33), (2, 0, v2), (3, 0, v3), (4, 0, v4'), (5, 0, v5), (6, 0, v6), (7, 0, v7 + 1)]) [1, 2, 3, 4, 5, 6, 7, 0] rfl ?_
      exact hK63 (v7 + 1) m hF h
    obtain ⟨hA, hB⟩ := h
    refine gh_zne (tgt := 96) gd_Chart_await_90 (by decide) (fun c1108 => ?_) (fun c1108 => ?_)
    · have h := hA c1108
      refine gh_goto (tgt := 131) gd_Chart_await_93 (by decide) ?_
      exact hJ131 m hF h
    · have h := hB c1108
      refine gh_iload_n gd_Chart_await_96 2 rfl ?_
      obtain ⟨hA, hB⟩ := h
      refine gh_zne (tgt := 111) gd_Chart_await_97 (by decide) (fun c1109 => ?_) (fun c1109 => ?_)
      · have h := hA c1109
        refine gh_aload_n gd_Chart_await_100 0 rfl (by decide) ?_
        refine gh_iload gd_Chart_await_101 7 rfl ?_
        refine gh_iload_n gd_Chart_await_103 3 rfl ?_
        refine gh_aload_n gd_Chart_await_104 1 rfl (by decide) ?_
        refine cv_Chart_goThrough (d := d + 3) gd_Chart_await_105 gh_k934 hF (Nat.le_of_ble_eq_true rfl) (gh_C.mono (s_Chart_goThrough_33 d v7 v3 hF h) (fun r1110 m1111 hq => ?_))
        obtain ⟨hF, h⟩ := hq
        refine gh_goto (tgt := 131) gd_Chart_await_108 (by decide) ?_
        exact hJ131 m1111 hF h
      · have h := hB c1109
        refine gh_aload_n gd_Chart_await_111 0 rfl (by decide) ?_
        refine gf_30_1 gd_Chart_await_112 gh_k330 hF ?_
        refine gh_iload gd_Chart_await_115 7 rfl ?_
        refine cv_Facts_isUsefulRule (d := d + 3) gd_Chart_await_117 gh_k942 hF (Nat.le_of_ble_eq_true rfl) (gh_C.pe (e_Facts_isUsefulRule (d + 3) v7 hF) ?_)
        obtain ⟨hA, hB⟩ := h
        refine gh_beq (tgt := 131) gd_Chart_await_120 (by decide) (fun c1141 => ?_) (fun c1141 => ?_)
        · have h := hA c1141
          refine gh_aload_n gd_Chart_await_123 0 rfl (by decide) ?_
          refine gh_iload gd_Chart_await_124 7 rfl ?_
          refine gh_iload_n gd_Chart_await_126 3 rfl ?_
          refine gh_aload_n gd_Chart_await_127 1 rfl (by decide) ?_
          refine cv_Chart_lookAhead (d := d + 3) gd_Chart_await_128 gh_k943 hF (Nat.le_of_ble_eq_true rfl) (gh_C.mono (s_Chart_lookAhead_33 d v7 v3 hF h) (fun r1142 m1143 hq => ?_))
          obtain ⟨hF, h⟩ := hq
          exact hJ131 m1143 hF h
        · have h := hB c1141
          exact hJ131 m hF h
  · have h := hB c1104
    obtain ⟨q1163, h⟩ := h
    refine gh_iinc (L2 := [(5, 0, v5 + 1), (0, 2, 30), (1, 2, 33), (2, 0, v2), (3, 0, v3), (4, 0, v4'), (6, 0, v6), (7, 0, v7)]) gd_Chart_await_137 5 rfl q1163 (by decide) rfl ?_
    refine gh_goto (tgt := 28) gd_Chart_await_140 (by decide) ?_
    refine gh_pick (L2 := [(0, 2, 30), (1, 2, 33), (2, 0, v2), (3, 0, v3), (4, 0, v4'), (5, 0, v5 + 1)]) [1, 2, 3, 4, 5, 0] rfl ?_
    exact hK28 v4' (v5 + 1) m hF h
theorem b_Chart_await_33_28 {E : gh_E} {v2 : Int} {v3 : Int} {K11 : Int → gh_M → Prop} {Q : Int → gh_M → Prop} {K28 : Int → Int → gh_M → Prop} (d : Nat) (hK11 : ∀ (v3 : Int) (m : gh_M), gh_F m → K11 v3 m → gh_T E (gh_yChart_await.cls, prog_2_method_8_code, 8, false, 9) (d + 4) 11 [(0, 2, 30), (1, 2, 33), (2, 0, v2), (3, 0, v3)] [] m (fun r m1 => gh_F m1 ∧ Q r m1)) (hK : ∀ (v4 : Int) (v5 : Int) (m : gh_M), gh_F m → K28 v4 v5 m → gh_T E (gh_yChart_await.cls, prog_2_method_8_code, 8, false, 9) (d + 4) 28 [(0, 2, 30), (1, 2, 33), (2, 0, v2), (3, 0, v3), (4, 0, v4), (5, 0, v5)] [] m (fun r m1 => gh_F m1 ∧ Q r m1)) (v4 : Int) (v5 : Int) (m : gh_M) (hF : gh_F m) (h : f_Chart_await_33_28 v2 v3 K11 K28 v4 v5 m) : gh_T E (gh_yChart_await.cls, prog_2_method_8_code, 8, false, 9) (d + 4) 28 [(0, 2, 30), (1, 2, 33), (2, 0, v2), (3, 0, v3), (4, 0, v4), (5, 0, v5)] [] m (fun r m1 => gh_F m1 ∧ Q r m1) := by
  have hK28 := hK
  unfold f_Chart_await_33_28 at h
  refine gh_iload gd_Chart_await_28 5 rfl ?_
  refine gh_bipush gd_Chart_await_30 (by decide) (gh_r0 rfl) ?_
  obtain ⟨J143, hJ143, h⟩ := h
  have hJ143 : ∀ (m : gh_M), gh_F m → J143 m → gh_T E (gh_yChart_await.cls, prog_2_method_8_code, 8, false, 9) (d + 4) 143 [(0, 2, 30), (1, 2, 33), (2, 0, v2), (3, 0, v3)] [] m (fun r m1 => gh_F m1 ∧ Q r m1) := by
    intro m hF hj
    have h := hJ143 m hj
    obtain ⟨q1097, h⟩ := h
    refine gh_iinc (L2 := [(3, 0, v3 + 1), (0, 2, 30), (1, 2, 33), (2, 0, v2)]) gd_Chart_await_143 3 rfl q1097 (by decide) rfl ?_
    refine gh_goto (tgt := 11) gd_Chart_await_146 (by decide) ?_
    refine gh_pick (L2 := [(0, 2, 30), (1, 2, 33), (2, 0, v2), (3, 0, v3 + 1)]) [1, 2, 3, 0] rfl ?_
    exact hK11 (v3 + 1) m hF h
  obtain ⟨hk, hA, hB⟩ := h
  have k1100 : (¬ (v5 ≤ 8) ∨ ((m 33 v3) = v4)) → gh_T E (gh_yChart_await.cls, prog_2_method_8_code, 8, false, 9) (d + 4) 143 [(0, 2, 30), (1, 2, 33), (2, 0, v2), (3, 0, v3), (4, 0, v4), (5, 0, v5)] [] m (fun r m1 => gh_F m1 ∧ Q r m1) := by
    intro c
    have h := hA c
    refine gh_pick (L2 := [(0, 2, 30), (1, 2, 33), (2, 0, v2), (3, 0, v3)]) [0, 1, 2, 3] rfl ?_
    exact hJ143 m hF h
  have k1101 : ¬ (¬ (v5 ≤ 8) ∨ ((m 33 v3) = v4)) → gh_T E (gh_yChart_await.cls, prog_2_method_8_code, 8, false, 9) (d + 4) 43 [(0, 2, 30), (1, 2, 33), (2, 0, v2), (3, 0, v3), (4, 0, v4), (5, 0, v5)] [] m (fun r m1 => gh_F m1 ∧ Q r m1) := by
    intro c
    have h := hB c
    refine gh_aload_n gd_Chart_await_43 1 rfl (by decide) ?_
    refine gh_iload_n gd_Chart_await_44 3 rfl ?_
    obtain ⟨q1102, h⟩ := h
    obtain ⟨q1103, h⟩ := h
    refine la_33 gd_Chart_await_45 hF q1102 q1103 rfl ?_
    refine gh_iload gd_Chart_await_46 4 rfl ?_
    refine gh_iconst gd_Chart_await_48 (gh_r0 rfl) ?_
    refine gh_ixor gd_Chart_await_49 ?_
    refine gh_iand gd_Chart_await_50 ?_
    refine gh_name (fun v6 hn => ?_)
    have h := h v6 hn
    refine gh_istore (L2 := [(6, 0, v6), (0, 2, 30), (1, 2, 33), (2, 0, v2), (3, 0, v3), (4, 0, v4), (5, 0, v5)]) gd_Chart_await_51 (by decide) rfl ?_
    refine gh_iload gd_Chart_await_53 5 rfl ?_
    refine gh_iload gd_Chart_await_55 0 rfl ?_
    refine gh_ior gd_Chart_await_57 ?_
    refine gh_name (fun v4' hn => ?_)
    have h := h v4' hn
    refine gh_istore (L2 := [(4, 0, v4'), (6, 0, v6), (0, 2, 30), (1, 2, 33), (2, 0, v2), (3, 0, v3), (5, 0, v5)]) gd_Chart_await_58 (by decide) rfl ?_
    refine gh_iconst gd_Chart_await_60 (gh_r0 rfl) ?_
    refine gh_istore (L2 := [(7, 0, 0), (4, 0, v4'), (6, 0, v6), (0, 2, 30), (1, 2, 33), (2, 0, v2), (3, 0, v3), (5, 0, v5)]) gd_Chart_await_61 (by decide) rfl ?_
    refine gh_pick (L2 := [(0, 2, 30), (1, 2, 33), (2, 0, v2), (3, 0, v3), (4, 0, v4'), (5, 0, v5), (6, 0, v6), (7, 0, 0)]) [3, 4, 5, 6, 1, 7, 2, 0] rfl ?_
    exact gh_M1_sound (T := fun v7 m => gh_T E (gh_yChart_await.cls, prog_2_method_8_code, 8, false, 9) (d + 4) 63 [(0, 2, 30), (1, 2, 33), (2, 0, v2), (3, 0, v3), (4, 0, v4'), (5, 0, v5), (6, 0, v6), (7, 0, v7)] [] m (fun r m1 => gh_F m1 ∧ Q r m1)) (fun _ m => gh_F m) (fun K63 v7 m hK hF h => b_Chart_await_33_63 d hK28 hK v7 m hF h) 0 m hF h
  refine gh_jgt (tgt := 143) gd_Chart_await_32 (by decide) (fun c1164 => ?_) (fun c1164 => ?_)
  · have hz : True := trivial
    have hk := hk c1164
    refine gh_aload_n gd_Chart_await_35 1 rfl (by decide) ?_
    refine gh_iload_n gd_Chart_await_36 3 rfl ?_
    obtain ⟨q1098, hk⟩ := hk
    have q1099 := hk
    refine la_33 gd_Chart_await_37 hF q1098 q1099 rfl ?_
    refine gh_iload gd_Chart_await_38 4 rfl ?_
    refine gh_jeq (tgt := 143) gd_Chart_await_40 (by decide) (fun c1165 => ?_) (fun c1165 => ?_)
    · have hz : True := trivial
      exact k1100 (Or.inr c1165)
    · have hz : True := trivial
      exact k1101 (fun z => z.elim (fun w => w c1164) c1165)
  · have hz : True := trivial
    exact k1100 (Or.inl c1164)
theorem b_Chart_await_33_11 {E : gh_E} {v2 : Int} {Q : Int → gh_M → Prop} {K11 : Int → gh_M → Prop} (d : Nat) (hK : ∀ (v3 : Int) (m : gh_M), gh_F m → K11 v3 m → gh_T E (gh_yChart_await.cls, prog_2_method_8_code, 8, false, 9) (d + 4) 11 [(0, 2, 30), (1, 2, 33), (2, 0, v2), (3, 0, v3)] [] m (fun r m1 => gh_F m1 ∧ Q r m1)) (v3 : Int) (m : gh_M) (hF : gh_F m) (h : f_Chart_await_33_11 v2 Q K11 v3 m) : gh_T E (gh_yChart_await.cls, prog_2_method_8_code, 8, false, 9) (d + 4) 11 [(0, 2, 30), (1, 2, 33), (2, 0, v2), (3, 0, v3)] [] m (fun r m1 => gh_F m1 ∧ Q r m1) := by
  have hK11 := hK
  unfold f_Chart_await_33_11 at h
  refine gh_iload_n gd_Chart_await_11 3 rfl ?_
  refine gh_aload_n gd_Chart_await_12 0 rfl (by decide) ?_
  refine gf_30_2 gd_Chart_await_13 gh_k331 hF ?_
  refine gf_26_3 gd_Chart_await_16 gh_k296 hF rfl ?_
  obtain ⟨hA, hB⟩ := h
  refine gh_jgt (tgt := 149) gd_Chart_await_19 (by decide) (fun c1096 => ?_) (fun c1096 => ?_)
  · have h := hA c1096
    refine gh_iconst gd_Chart_await_22 (gh_r0 rfl) ?_
    refine gh_istore (L2 := [(4, 0, 0), (0, 2, 30), (1, 2, 33), (2, 0, v2), (3, 0, v3)]) gd_Chart_await_23 (by decide) rfl ?_
    refine gh_iconst gd_Chart_await_25 (gh_r0 rfl) ?_
    refine gh_istore (L2 := [(5, 0, 0), (4, 0, 0), (0, 2, 30), (1, 2, 33), (2, 0, v2), (3, 0, v3)]) gd_Chart_await_26 (by decide) rfl ?_
    refine gh_pick (L2 := [(0, 2, 30), (1, 2, 33), (2, 0, v2), (3, 0, v3), (4, 0, 0), (5, 0, 0)]) [2, 3, 4, 5, 1, 0] rfl ?_
    exact gh_M2_sound (T := fun v4 v5 m => gh_T E (gh_yChart_await.cls, prog_2_method_8_code, 8, false, 9) (d + 4) 28 [(0, 2, 30), (1, 2, 33), (2, 0, v2), (3, 0, v3), (4, 0, v4), (5, 0, v5)] [] m (fun r m1 => gh_F m1 ∧ Q r m1)) (fun _ _ m => gh_F m) (fun K28 v4 v5 m hK hF h => b_Chart_await_33_28 d hK11 hK v4 v5 m hF h) 0 0 m hF h
  · have h := hB c1096
    exact gh_ret9 rfl gd_Chart_await_149 ⟨hF, h⟩
theorem s_Chart_await_33 {E : gh_E} {m : gh_M} {Q : Int → gh_M → Prop} (d : Nat) (v2 : Int) (hF : gh_F m) (h : w_Chart_await_33 v2 m Q) : gh_C E gh_yChart_await prog_2_method_8_code 8 none 9 (d + 4) [(2, 30), (2, 33), (0, v2)] m (fun r m1 => gh_F m1 ∧ Q r m1) := by
  refine gh_enter2 (L := [(0, 2, 30), (1, 2, 33), (2, 0, v2)]) (by decide +kernel) gh_rt9 (Nat.le_of_ble_eq_true rfl) rfl rfl ?_
  unfold w_Chart_await_33 at h
  refine gh_aload_n gd_Chart_await_0 1 rfl (by decide) ?_
  refine gh_iconst gd_Chart_await_1 (gh_r0 rfl) ?_
  refine gh_fillF (d := d + 3) gd_Chart_await_2 gh_k911 (ga_33 hF) (Nat.le_of_ble_eq_true rfl) hF gn_33 (by decide) (fun hF => ?_)
  refine gh_aload_n gd_Chart_await_5 1 rfl (by decide) ?_
  refine gh_iconst gd_Chart_await_6 (gh_r0 rfl) ?_
  refine gh_iconst gd_Chart_await_7 (gh_r0 rfl) ?_
  refine sa_33 gd_Chart_await_8 hF (by decide) (by decide) (fun hF => ?_)
  refine gh_iconst gd_Chart_await_9 (gh_r0 rfl) ?_
  refine gh_istore_n (L2 := [(3, 0, 0), (0, 2, 30), (1, 2, 33), (2, 0, v2)]) gd_Chart_await_10 (by decide) rfl ?_
  refine gh_pick (L2 := [(0, 2, 30), (1, 2, 33), (2, 0, v2), (3, 0, 0)]) [1, 2, 3, 0] rfl ?_
  exact gh_M1_sound (T := fun v3 m => gh_T E (gh_yChart_await.cls, prog_2_method_8_code, 8, false, 9) (d + 4) 11 [(0, 2, 30), (1, 2, 33), (2, 0, v2), (3, 0, v3)] [] m (fun r m1 => gh_F m1 ∧ Q r m1)) (fun _ m => gh_F m) (fun K11 v3 m hK hF h => b_Chart_await_33_11 d hK v3 m hF h) 0 (gh_u (gh_fil m 33 9 0) 33 0 1) hF h
