def f_Wants_changes_21 (Q : Int → gh_M → Prop) (K21 : Int → gh_M → Prop) (v1 : Int) (m : gh_M) : Prop := ((v1 ≤ (m 26 3) → w_Wants_findCosts v1 m (fun _ m1617 => gh_i (v1 + 1) ∧ K21 (v1 + 1) (gh_u m1617 36 7 v1))) ∧ (¬ (v1 ≤ (m 26 3)) → 0 ≤ m 26 3 ∧ (m 26 3) < 648 ∧ Q (m 39 (m 26 3)) m))
def w_Wants_changes (m : gh_M) (Q : Int → gh_M → Prop) : Prop := (((gh_iand_f (m 20 2) 1) = 0 → Q (-1) m) ∧ (¬ ((gh_iand_f (m 20 2) 1) = 0) → gh_i ((m 36 7) + 1) ∧ ∀ v1 : Int, v1 = (m 36 7) + 1 → gh_M1 (fun K21 v1 m => f_Wants_changes_21 Q K21 v1 m) v1 m))
theorem b_Wants_changes_21 {E : gh_E} {Q : Int → gh_M → Prop} {K21 : Int → gh_M → Prop} (d : Nat) (hK : ∀ (v1 : Int) (m : gh_M), gh_F m → K21 v1 m → gh_T E (gh_yWants_changes.cls, prog_12_method_6_code, 2, false, 0) (d + 4) 21 [(0, 2, 36), (1, 0, v1)] [] m (fun r m1 => gh_F m1 ∧ Q r m1)) (v1 : Int) (m : gh_M) (hF : gh_F m) (h : f_Wants_changes_21 Q K21 v1 m) : gh_T E (gh_yWants_changes.cls, prog_12_method_6_code, 2, false, 0) (d + 4) 21 [(0, 2, 36), (1, 0, v1)] [] m (fun r m1 => gh_F m1 ∧ Q r m1) := by
  have hK21 := hK
  unfold f_Wants_changes_21 at h
  refine gh_iload_n gd_Wants_changes_21 1 rfl ?_
  refine gh_aload_n gd_Wants_changes_22 0 rfl (by decide) ?_
  refine gf_36_2 gd_Wants_changes_23 gh_k368 hF ?_
  refine gf_26_3 gd_Wants_changes_26 gh_k298 hF rfl ?_
  obtain ⟨hA, hB⟩ := h
  refine gh_jgt (tgt := 48) gd_Wants_changes_29 (by decide) (fun c1615 => ?_) (fun c1615 => ?_)
  · have h := hA c1615
    refine gh_aload_n gd_Wants_changes_32 0 rfl (by decide) ?_
    refine gh_iload_n gd_Wants_changes_33 1 rfl ?_
    refine cv_Wants_findCosts (d := d + 3) gd_Wants_changes_34 gh_k1097 hF (Nat.le_of_ble_eq_true rfl) (gh_C.mono (s_Wants_findCosts d v1 hF h) (fun r1616 m1617 hq => ?_))
    obtain ⟨hF, h⟩ := hq
    refine gh_aload_n gd_Wants_changes_37 0 rfl (by decide) ?_
    refine gh_iload_n gd_Wants_changes_38 1 rfl ?_
    refine pf_36_7 gd_Wants_changes_39 gh_k373 hF (fun hF => ?_)
    obtain ⟨q1618, h⟩ := h
    refine gh_iinc (L2 := [(1, 0, v1 + 1), (0, 2, 36)]) gd_Wants_changes_42 1 rfl q1618 (by decide) rfl ?_
    refine gh_goto (tgt := 21) gd_Wants_changes_45 (by decide) ?_
    refine gh_pick (L2 := [(0, 2, 36), (1, 0, v1 + 1)]) [1, 0] rfl ?_
    exact hK21 (v1 + 1) (gh_u m1617 36 7 v1) hF h
  · have h := hB c1615
    refine gh_aload_n gd_Wants_changes_48 0 rfl (by decide) ?_
    refine gf_36_8 gd_Wants_changes_49 gh_k374 hF ?_
    refine gh_aload_n gd_Wants_changes_52 0 rfl (by decide) ?_
    refine gf_36_2 gd_Wants_changes_53 gh_k368 hF ?_
    refine gf_26_3 gd_Wants_changes_56 gh_k298 hF rfl ?_
    obtain ⟨q1619, h⟩ := h
    obtain ⟨q1620, h⟩ := h
    refine la_39 gd_Wants_changes_59 hF q1619 q1620 rfl ?_
    exact gh_ret0 rfl gd_Wants_changes_60 ⟨hF, h⟩
theorem s_Wants_changes {E : gh_E} {m : gh_M} {Q : Int → gh_M → Prop} (d : Nat) (hF : gh_F m) (h : w_Wants_changes m Q) : gh_C E gh_yWants_changes prog_12_method_6_code 2 (some .int) 0 (d + 4) [(2, 36)] m (fun r m1 => gh_F m1 ∧ Q r m1) := by
  refine gh_enter2 (L := [(0, 2, 36)]) (by decide +kernel) gh_rt0 (Nat.le_of_ble_eq_true rfl) rfl rfl ?_
  unfold w_Wants_changes at h
  refine gh_aload_n gd_Wants_changes_0 0 rfl (by decide) ?_
  refine gf_36_1 gd_Wants_changes_1 gh_k367 hF ?_
  refine gf_20_2 gd_Wants_changes_4 gh_k244 hF rfl ?_
  refine gh_iconst gd_Wants_changes_7 (gh_r0 rfl) ?_
  refine gh_iand gd_Wants_changes_8 ?_
  obtain ⟨hA, hB⟩ := h
  refine gh_zne (tgt := 14) gd_Wants_changes_9 (by decide) (fun c1613 => ?_) (fun c1613 => ?_)
  · have h := hA c1613
    refine gh_iconst gd_Wants_changes_12 (gh_r0 rfl) ?_
    exact gh_ret0 rfl gd_Wants_changes_13 ⟨hF, h⟩
  · have h := hB c1613
    refine gh_aload_n gd_Wants_changes_14 0 rfl (by decide) ?_
    refine gf_36_7 gd_Wants_changes_15 gh_k373 hF rfl ?_
    refine gh_iconst gd_Wants_changes_18 (gh_r0 rfl) ?_
    obtain ⟨q1614, h⟩ := h
    refine gh_iadd gd_Wants_changes_19 q1614 ?_
    refine gh_name (fun v1 hn => ?_)
    have h := h v1 hn
    refine gh_istore_n (L2 := [(1, 0, v1), (0, 2, 36)]) gd_Wants_changes_20 (by decide) rfl ?_
    refine gh_pick (L2 := [(0, 2, 36), (1, 0, v1)]) [1, 0] rfl ?_
    exact gh_M1_sound (T := fun v1 m => gh_T E (gh_yWants_changes.cls, prog_12_method_6_code, 2, false, 0) (d + 4) 21 [(0, 2, 36), (1, 0, v1)] [] m (fun r m1 => gh_F m1 ∧ Q r m1)) (fun _ m => gh_F m) (fun K21 v1 m hK hF h => b_Wants_changes_21 d hK v1 m hF h) v1 m hF h
def w_House_repair (m : gh_M) (Q : Int → gh_M → Prop) : Prop := (((m 2 10) = 0 → Q (-1003) m) ∧ (¬ ((m 2 10) = 0) → w_Wants_changes m (fun r1622 m1623 => Q r1622 m1623)))
theorem s_House_repair {E : gh_E} {m : gh_M} {Q : Int → gh_M → Prop} (d : Nat) (hF : gh_F m) (h : w_House_repair m Q) : gh_C E gh_yHouse_repair prog_1_method_25_code 1 (some .int) 0 (d + 5) [(2, 2)] m (fun r m1 => gh_F m1 ∧ Q r m1) := by
  refine gh_enter2 (L := [(0, 2, 2)]) (by decide +kernel) gh_rt0 (Nat.le_of_ble_eq_true rfl) rfl rfl ?_
  unfold w_House_repair at h
  refine gh_aload_n gd_House_repair_0 0 rfl (by decide) ?_
  refine gf_2_10 gd_House_repair_1 gh_k550 hF rfl ?_
  obtain ⟨hA, hB⟩ := h
  refine gh_zeq (tgt := 17) gd_House_repair_4 (by decide) (fun c1621 => ?_) (fun c1621 => ?_)
  · have h := hA c1621
    refine gh_sipush gd_House_repair_17 (by decide) (gh_r0 rfl) ?_
    exact gh_ret0 rfl gd_House_repair_20 ⟨hF, h⟩
  · have h := hB c1621
    refine gh_aload_n gd_House_repair_7 0 rfl (by decide) ?_
    refine gf_2_6 gd_House_repair_8 gh_k546 hF ?_
    refine cv_Wants_changes (d := d + 4) gd_House_repair_11 gh_k1093 hF (Nat.le_of_ble_eq_true rfl) (gh_C.mono (s_Wants_changes d hF h) (fun r1622 m1623 hq => ?_))
    obtain ⟨hF, h⟩ := hq
    refine gh_goto (tgt := 20) gd_House_repair_14 (by decide) ?_
    exact gh_ret0 rfl gd_House_repair_20 ⟨hF, h⟩
def w_House_name (v1 : Int) (v2 : Int) (m : gh_M) (Q : Int → Prop) : Prop := ∃ J19 : Prop, (J19 → (((¬ (v2 < 0) ∧ (v2 ≤ 7)) → (((m 2 10) = 0 → Q (-1003)) ∧ (¬ ((m 2 10) = 0) → ((v2 = 0 → 0 ≤ v1 ∧ v1 < 8 ∧ Q (m 14 v1)) ∧ ((v2 = 1 → 0 ≤ v1 ∧ v1 < 8 ∧ Q (m 15 v1)) ∧ ((v2 = 2 → Q (gh_iand_f (gh_ishr_f (m 20 1) v1) 1)) ∧ ((v2 = 3 → Q (gh_iand_f (gh_ishr_f (m 20 2) v1) 1)) ∧ ((v2 = 4 → Q (gh_iand_f (gh_ishr_f (m 20 3) v1) 1)) ∧ ((v2 = 5 → Q (gh_iand_f (gh_ishr_f (m 20 4) v1) 1)) ∧ ((v2 = 6 → 0 ≤ v1 ∧ v1 < 8 ∧ ((((m 21 v1) < 16777216) → (0 ≤ v1 ∧ v1 < 8))) ∧ Q (if (m 21 v1) < 16777216 then (m 21 v1) else (-1))) ∧ (¬ (v2 = 0) → ¬ (v2 = 1) → ¬ (v2 = 2) → ¬ (v2 = 3) → ¬ (v2 = 4) → ¬ (v2 = 5) → ¬ (v2 = 6) → 0 ≤ v1 ∧ v1 < 8 ∧ Q (gh_iand_f (gh_ishr_f (m 24 v1) v1) 1)))))))))))) ∧ (¬ (¬ (v2 < 0) ∧ (v2 ≤ 7)) → Q (-1002)))) ∧ (((((m 2 10) = 0) ∨ (p_House_isName v1 m)) → J19) ∧ (¬ (((m 2 10) = 0) ∨ (p_House_isName v1 m)) → Q (-1001)))
theorem s_House_name {E : gh_E} {m : gh_M} {Q : Int → Prop} (d : Nat) (v1 : Int) (v2 : Int) (hF : gh_F m) (h : w_House_name v1 v2 m Q) : gh_C E gh_yHouse_name prog_1_method_8_code 3 (some .int) 0 (d + 1) [(2, 2), (0, v1), (0, v2)] m (fun r m1 => m1 = m ∧ Q r) := by
  refine gh_enter2 (L := [(0, 2, 2), (1, 0, v1), (2, 0, v2)]) (by decide +kernel) gh_rt0 (Nat.le_of_ble_eq_true rfl) rfl rfl ?_
  unfold w_House_name at h
  refine gh_aload_n gd_House_name_0 0 rfl (by decide) ?_
  refine gf_2_10 gd_House_name_1 gh_k550 hF rfl ?_
  obtain ⟨J19, hJ19, h⟩ := h
  have hJ19 : gh_F m → J19 → gh_T E (gh_yHouse_name.cls, prog_1_method_8_code, 3, false, 0) (d + 1) 19 [(0, 2, 2), (1, 0, v1), (2, 0, v2)] [] m (fun r m1 => m1 = m ∧ Q r) := by
    intro hF hj
    have h := hJ19 hj
    refine gh_iload_n gd_House_name_19 2 rfl ?_
    obtain ⟨hA, hB⟩ := h
    have k1624 : (¬ (v2 < 0) ∧ (v2 ≤ 7)) → gh_T E (gh_yHouse_name.cls, prog_1_method_8_code, 3, false, 0) (d + 1) 33 [(0, 2, 2), (1, 0, v1), (2, 0, v2)] [] m (fun r m1 => m1 = m ∧ Q r) := by
      intro c
      have h := hA c
      refine gh_aload_n gd_House_name_33 0 rfl (by decide) ?_
      refine gf_2_10 gd_House_name_34 gh_k550 hF rfl ?_
      obtain ⟨hA, hB⟩ := h
      refine gh_zne (tgt := 44) gd_House_name_37 (by decide) (fun c1626 => ?_) (fun c1626 => ?_)
      · have h := hA c1626
        refine gh_sipush gd_House_name_40 (by decide) (gh_r0 rfl) ?_
        exact gh_ret0 rfl gd_House_name_43 ⟨rfl, h⟩
      · have h := hB c1626
        refine gh_iload_n gd_House_name_44 2 rfl ?_
        obtain ⟨hA, h⟩ := h
        by_cases c1627 : v2 = 0
        · have h := hA c1627
          refine gh_tabIn (tgt := 88) gd_House_name_45 (by rw [c1627]; decide) (by rw [c1627]; decide) (by rw [c1627]; rfl) (by decide) ?_
          refine gh_aload_n gd_House_name_88 0 rfl (by decide) ?_
          refine gf_2_2 gd_House_name_89 gh_k542 hF ?_
          refine gf_13_3 gd_House_name_92 gh_k195 hF ?_
          refine gh_iload_n gd_House_name_95 1 rfl ?_
          obtain ⟨q1628, h⟩ := h
          obtain ⟨q1629, h⟩ := h
          refine la_14 gd_House_name_96 hF q1628 q1629 rfl ?_
          exact gh_ret0 rfl gd_House_name_97 ⟨rfl, h⟩
        obtain ⟨hA, h⟩ := h
        by_cases c1630 : v2 = 1
        · have h := hA c1630
          refine gh_tabIn (tgt := 98) gd_House_name_45 (by rw [c1630]; decide) (by rw [c1630]; decide) (by rw [c1630]; rfl) (by decide) ?_
          refine gh_aload_n gd_House_name_98 0 rfl (by decide) ?_
          refine gf_2_2 gd_House_name_99 gh_k542 hF ?_
          refine gf_13_4 gd_House_name_102 gh_k198 hF ?_
          refine gh_iload_n gd_House_name_105 1 rfl ?_
          obtain ⟨q1631, h⟩ := h
          obtain ⟨q1632, h⟩ := h
          refine la_15 gd_House_name_106 hF q1631 q1632 rfl ?_
          exact gh_ret0 rfl gd_House_name_107 ⟨rfl, h⟩
        obtain ⟨hA, h⟩ := h
        by_cases c1633 : v2 = 2
        · have h := hA c1633
          refine gh_tabIn (tgt := 108) gd_House_name_45 (by rw [c1633]; decide) (by rw [c1633]; decide) (by rw [c1633]; rfl) (by decide) ?_
          refine gh_aload_n gd_House_name_108 0 rfl (by decide) ?_
          refine gf_2_3 gd_House_name_109 gh_k543 hF ?_
          refine gf_20_1 gd_House_name_112 gh_k241 hF rfl ?_
          refine gh_iload_n gd_House_name_115 1 rfl ?_
          refine gh_ishr gd_House_name_116 ?_
          refine gh_iconst gd_House_name_117 (gh_r0 rfl) ?_
          refine gh_iand gd_House_name_118 ?_
          exact gh_ret0 rfl gd_House_name_119 ⟨rfl, h⟩
        obtain ⟨hA, h⟩ := h
        by_cases c1634 : v2 = 3
        · have h := hA c1634
          refine gh_tabIn (tgt := 120) gd_House_name_45 (by rw [c1634]; decide) (by rw [c1634]; decide) (by rw [c1634]; rfl) (by decide) ?_
          refine gh_aload_n gd_House_name_120 0 rfl (by decide) ?_
          refine gf_2_3 gd_House_name_121 gh_k543 hF ?_
          refine gf_20_2 gd_House_name_124 gh_k245 hF rfl ?_
          refine gh_iload_n gd_House_name_127 1 rfl ?_
          refine gh_ishr gd_House_name_128 ?_
          refine gh_iconst gd_House_name_129 (gh_r0 rfl) ?_
          refine gh_iand gd_House_name_130 ?_
          exact gh_ret0 rfl gd_House_name_131 ⟨rfl, h⟩
        obtain ⟨hA, h⟩ := h
        by_cases c1635 : v2 = 4
        · have h := hA c1635
          refine gh_tabIn (tgt := 132) gd_House_name_45 (by rw [c1635]; decide) (by rw [c1635]; decide) (by rw [c1635]; rfl) (by decide) ?_
          refine gh_aload_n gd_House_name_132 0 rfl (by decide) ?_
          refine gf_2_3 gd_House_name_133 gh_k543 hF ?_
          refine gf_20_3 gd_House_name_136 gh_k247 hF rfl ?_
          refine gh_iload_n gd_House_name_139 1 rfl ?_
          refine gh_ishr gd_House_name_140 ?_
          refine gh_iconst gd_House_name_141 (gh_r0 rfl) ?_
          refine gh_iand gd_House_name_142 ?_
          exact gh_ret0 rfl gd_House_name_143 ⟨rfl, h⟩
        obtain ⟨hA, h⟩ := h
        by_cases c1636 : v2 = 5
        · have h := hA c1636
          refine gh_tabIn (tgt := 144) gd_House_name_45 (by rw [c1636]; decide) (by rw [c1636]; decide) (by rw [c1636]; rfl) (by decide) ?_
          refine gh_aload_n gd_House_name_144 0 rfl (by decide) ?_
          refine gf_2_3 gd_House_name_145 gh_k543 hF ?_
          refine gf_20_4 gd_House_name_148 gh_k249 hF rfl ?_
          refine gh_iload_n gd_House_name_151 1 rfl ?_
          refine gh_ishr gd_House_name_152 ?_
          refine gh_iconst gd_House_name_153 (gh_r0 rfl) ?_
          refine gh_iand gd_House_name_154 ?_
          exact gh_ret0 rfl gd_House_name_155 ⟨rfl, h⟩
        obtain ⟨hA, h⟩ := h
        by_cases c1637 : v2 = 6
        · have h := hA c1637
          refine gh_tabIn (tgt := 156) gd_House_name_45 (by rw [c1637]; decide) (by rw [c1637]; decide) (by rw [c1637]; rfl) (by decide) ?_
          refine gh_aload_n gd_House_name_156 0 rfl (by decide) ?_
          refine gf_2_3 gd_House_name_157 gh_k543 hF ?_
          refine gf_20_6 gd_House_name_160 gh_k254 hF ?_
          refine gh_iload_n gd_House_name_163 1 rfl ?_
          obtain ⟨q1638, h⟩ := h
          obtain ⟨q1639, h⟩ := h
          refine la_21 gd_House_name_164 hF q1638 q1639 rfl ?_
          refine gh_ldc (n := 16777216) gd_House_name_165 gh_k1120 (by decide) (gh_r0 rfl) ?_
          obtain ⟨hk, h⟩ := h
          have k1642 : ∀ x1643 : Int, x1643 = (if (m 21 v1) < 16777216 then (m 21 v1) else (-1)) → gh_T E (gh_yHouse_name.cls, prog_1_method_8_code, 3, false, 0) (d + 1) 183 [(0, 2, 2), (1, 0, v1), (2, 0, v2)] [(0, x1643)] m (fun r m1 => m1 = m ∧ Q r) := by
            rintro _ rfl
            exact gh_ret0 rfl gd_House_name_183 ⟨rfl, h⟩
          refine gh_jge (tgt := 182) gd_House_name_167 (by decide) (fun c1644 => ?_) (fun c1644 => ?_)
          · have hz : True := trivial
            have hk := hk c1644
            refine gh_aload_n gd_House_name_170 0 rfl (by decide) ?_
            refine gf_2_3 gd_House_name_171 gh_k543 hF ?_
            refine gf_20_6 gd_House_name_174 gh_k254 hF ?_
            refine gh_iload_n gd_House_name_177 1 rfl ?_
            obtain ⟨q1640, hk⟩ := hk
            have q1641 := hk
            refine la_21 gd_House_name_178 hF q1640 q1641 rfl ?_
            refine gh_goto (tgt := 183) gd_House_name_179 (by decide) ?_
            exact k1642 _ (by rw [if_pos c1644])
          · have hz : True := trivial
            refine gh_iconst gd_House_name_182 (gh_r0 rfl) ?_
            exact k1642 _ (by rw [if_neg c1644])
        have n1645 : ¬ (v2 = 0) := c1627
        have n1646 : ¬ (v2 = 1) := c1630
        have n1647 : ¬ (v2 = 2) := c1633
        have n1648 : ¬ (v2 = 3) := c1634
        have n1649 : ¬ (v2 = 4) := c1635
        have n1650 : ¬ (v2 = 5) := c1636
        have n1651 : ¬ (v2 = 6) := c1637
        refine gh_tabOut (tgt := 184) gd_House_name_45 (by omega) (by decide) ?_
        have h := h c1627 c1630 c1633 c1634 c1635 c1636 c1637
        refine gh_aload_n gd_House_name_184 0 rfl (by decide) ?_
        refine gf_2_3 gd_House_name_185 gh_k543 hF ?_
        refine gf_20_9 gd_House_name_188 gh_k259 hF ?_
        refine gh_iload_n gd_House_name_191 1 rfl ?_
        obtain ⟨q1652, h⟩ := h
        obtain ⟨q1653, h⟩ := h
        refine la_24 gd_House_name_192 hF q1652 q1653 rfl ?_
        refine gh_iload_n gd_House_name_193 1 rfl ?_
        refine gh_ishr gd_House_name_194 ?_
        refine gh_iconst gd_House_name_195 (gh_r0 rfl) ?_
        refine gh_iand gd_House_name_196 ?_
        exact gh_ret0 rfl gd_House_name_197 ⟨rfl, h⟩
    have k1625 : ¬ (¬ (v2 < 0) ∧ (v2 ≤ 7)) → gh_T E (gh_yHouse_name.cls, prog_1_method_8_code, 3, false, 0) (d + 1) 29 [(0, 2, 2), (1, 0, v1), (2, 0, v2)] [] m (fun r m1 => m1 = m ∧ Q r) := by
      intro c
      have h := hB c
      refine gh_sipush gd_House_name_29 (by decide) (gh_r0 rfl) ?_
      exact gh_ret0 rfl gd_House_name_32 ⟨rfl, h⟩
    refine gh_zlt (tgt := 29) gd_House_name_20 (by decide) (fun c1654 => ?_) (fun c1654 => ?_)
    · have hz : True := trivial
      exact k1625 (fun z => z.1 c1654)
    · have hz : True := trivial
      refine gh_iload_n gd_House_name_23 2 rfl ?_
      refine gh_bipush gd_House_name_24 (by decide) (gh_r0 rfl) ?_
      refine gh_jle (tgt := 33) gd_House_name_26 (by decide) (fun c1655 => ?_) (fun c1655 => ?_)
      · have hz : True := trivial
        exact k1624 ⟨c1654, c1655⟩
      · have hz : True := trivial
        exact k1625 (fun z => c1655 z.2)
  obtain ⟨hA, hB⟩ := h
  have k1656 : (((m 2 10) = 0) ∨ (p_House_isName v1 m)) → gh_T E (gh_yHouse_name.cls, prog_1_method_8_code, 3, false, 0) (d + 1) 19 [(0, 2, 2), (1, 0, v1), (2, 0, v2)] [] m (fun r m1 => m1 = m ∧ Q r) := by
    intro c
    have h := hA c
    exact hJ19 hF h
  have k1657 : ¬ (((m 2 10) = 0) ∨ (p_House_isName v1 m)) → gh_T E (gh_yHouse_name.cls, prog_1_method_8_code, 3, false, 0) (d + 1) 15 [(0, 2, 2), (1, 0, v1), (2, 0, v2)] [] m (fun r m1 => m1 = m ∧ Q r) := by
    intro c
    have h := hB c
    refine gh_sipush gd_House_name_15 (by decide) (gh_r0 rfl) ?_
    exact gh_ret0 rfl gd_House_name_18 ⟨rfl, h⟩
  refine gh_zeq (tgt := 19) gd_House_name_4 (by decide) (fun c1658 => ?_) (fun c1658 => ?_)
  · have hz : True := trivial
    exact k1656 (Or.inl c1658)
  · have hz : True := trivial
    refine gh_aload_n gd_House_name_7 0 rfl (by decide) ?_
    refine gh_iload_n gd_House_name_8 1 rfl ?_
    refine cv_House_isName (d := d) gd_House_name_9 gh_k1017 hF (Nat.le_of_ble_eq_true rfl) (gh_C.pe (e_House_isName d v1 hF) ?_)
    refine gh_bne (tgt := 19) gd_House_name_12 (by decide) (fun c1659 => ?_) (fun c1659 => ?_)
    · have hz : True := trivial
      exact k1656 (Or.inr c1659)
    · have hz : True := trivial
      exact k1657 (fun z => z.elim c1658 c1659)
def w_Picker_push (v1 : Int) (v2 : Int) (v3 : Int) (v4 : Int) (v5 : Int) (v6 : Int) (m : gh_M) (Q : Int → gh_M → Prop) : Prop := (((m 47 14) < 289 → 0 ≤ m 47 14 ∧ (m 47 14) < 289 ∧ 0 ≤ m 47 14 ∧ (m 47 14) < 289 ∧ 0 ≤ m 47 14 ∧ (m 47 14) < 289 ∧ 0 ≤ m 47 14 ∧ (m 47 14) < 289 ∧ 0 ≤ m 47 14 ∧ (m 47 14) < 289 ∧ 0 ≤ m 47 14 ∧ (m 47 14) < 289 ∧ gh_i ((m 47 14) + 1) ∧ Q 0 (gh_u (gh_u (gh_u (gh_u (gh_u (gh_u (gh_u m 50 (m 47 14) v1) 51 (m 47 14) v2) 52 (m 47 14) v3) 53 (m 47 14) v4) 54 (m 47 14) v5) 55 (m 47 14) v6) 47 14 ((m 47 14) + 1))) ∧ (¬ ((m 47 14) < 289) → Q 0 m))
theorem s_Picker_push {E : gh_E} {m : gh_M} {Q : Int → gh_M → Prop} (d : Nat) (v1 : Int) (v2 : Int) (v3 : Int) (v4 : Int) (v5 : Int) (v6 : Int) (hF : gh_F m) (h : w_Picker_push v1 v2 v3 v4 v5 v6 m Q) : gh_C E gh_yPicker_push prog_7_method_3_code 8 none 9 (d + 0) [(2, 47), (0, v1), (0, v2), (0, v3), (0, v4), (0, v5), (1, v6)] m (fun r m1 => gh_F m1 ∧ Q r m1) := by
  refine gh_enter2 (L := [(0, 2, 47), (1, 0, v1), (2, 0, v2), (3, 0, v3), (4, 0, v4), (5, 0, v5), (6, 1, v6)]) (by decide +kernel) gh_rt9 (Nat.le_of_ble_eq_true rfl) rfl rfl ?_
  unfold w_Picker_push at h
  refine gh_aload_n gd_Picker_push_0 0 rfl (by decide) ?_
  refine gf_47_14 gd_Picker_push_1 gh_k464 hF rfl ?_
  refine gh_sipush gd_Picker_push_4 (by decide) (gh_r0 rfl) ?_
  obtain ⟨hA, hB⟩ := h
  refine gh_jge (tgt := 83) gd_Picker_push_7 (by decide) (fun c1660 => ?_) (fun c1660 => ?_)
  · have h := hA c1660
    refine gh_aload_n gd_Picker_push_10 0 rfl (by decide) ?_
    refine gf_47_8 gd_Picker_push_11 gh_k458 hF ?_
    refine gh_aload_n gd_Picker_push_14 0 rfl (by decide) ?_
    refine gf_47_14 gd_Picker_push_15 gh_k464 hF rfl ?_
    refine gh_iload_n gd_Picker_push_18 1 rfl ?_
    obtain ⟨q1661, h⟩ := h
    obtain ⟨q1662, h⟩ := h
    refine sa_50 gd_Picker_push_19 hF q1661 q1662 (fun hF => ?_)
    refine gh_aload_n gd_Picker_push_20 0 rfl (by decide) ?_
    refine gf_47_9 gd_Picker_push_21 gh_k459 hF ?_
    refine gh_aload_n gd_Picker_push_24 0 rfl (by decide) ?_
    refine gf_47_14 gd_Picker_push_25 gh_k464 hF (gh_u_a (by decide)) ?_
    refine gh_iload_n gd_Picker_push_28 2 rfl ?_
    obtain ⟨q1663, h⟩ := h
    obtain ⟨q1664, h⟩ := h
    refine sa_51 gd_Picker_push_29 hF q1663 q1664 (fun hF => ?_)
    refine gh_aload_n gd_Picker_push_30 0 rfl (by decide) ?_
    refine gf_47_10 gd_Picker_push_31 gh_k460 hF ?_
    refine gh_aload_n gd_Picker_push_34 0 rfl (by decide) ?_
    refine gf_47_14 gd_Picker_push_35 gh_k464 hF ((gh_u_a (by decide)).trans (gh_u_a (by decide))) ?_
    refine gh_iload_n gd_Picker_push_38 3 rfl ?_
    obtain ⟨q1665, h⟩ := h
    obtain ⟨q1666, h⟩ := h
    refine sa_52 gd_Picker_push_39 hF q1665 q1666 (fun hF => ?_)
    refine gh_aload_n gd_Picker_push_40 0 rfl (by decide) ?_
    refine gf_47_11 gd_Picker_push_41 gh_k461 hF ?_
    refine gh_aload_n gd_Picker_push_44 0 rfl (by decide) ?_
    refine gf_47_14 gd_Picker_push_45 gh_k464 hF ((gh_u_a (by decide)).trans ((gh_u_a (by decide)).trans (gh_u_a (by decide)))) ?_
    refine gh_iload gd_Picker_push_48 4 rfl ?_
    obtain ⟨q1667, h⟩ := h
    obtain ⟨q1668, h⟩ := h
    refine sa_53 gd_Picker_push_50 hF q1667 q1668 (fun hF => ?_)
    refine gh_aload_n gd_Picker_push_51 0 rfl (by decide) ?_
    refine gf_47_12 gd_Picker_push_52 gh_k462 hF ?_
    refine gh_aload_n gd_Picker_push_55 0 rfl (by decide) ?_
    refine gf_47_14 gd_Picker_push_56 gh_k464 hF ((gh_u_a (by decide)).trans ((gh_u_a (by decide)).trans ((gh_u_a (by decide)).trans (gh_u_a (by decide))))) ?_
    refine gh_iload gd_Picker_push_59 5 rfl ?_
    obtain ⟨q1669, h⟩ := h
    obtain ⟨q1670, h⟩ := h
    refine sa_54 gd_Picker_push_61 hF q1669 q1670 (fun hF => ?_)
    refine gh_aload_n gd_Picker_push_62 0 rfl (by decide) ?_
    refine gf_47_13 gd_Picker_push_63 gh_k463 hF ?_
    refine gh_aload_n gd_Picker_push_66 0 rfl (by decide) ?_
    refine gf_47_14 gd_Picker_push_67 gh_k464 hF ((gh_u_a (by decide)).trans ((gh_u_a (by decide)).trans ((gh_u_a (by decide)).trans ((gh_u_a (by decide)).trans (gh_u_a (by decide)))))) ?_
    refine gh_lload gd_Picker_push_70 6 rfl ?_
    obtain ⟨q1671, h⟩ := h
    obtain ⟨q1672, h⟩ := h
    refine sa_55 gd_Picker_push_72 hF q1671 q1672 (fun hF => ?_)
    refine gh_aload_n gd_Picker_push_73 0 rfl (by decide) ?_
    refine gh_dup gd_Picker_push_74 (by decide) ?_
    refine gf_47_14 gd_Picker_push_75 gh_k464 hF ((gh_u_a (by decide)).trans ((gh_u_a (by decide)).trans ((gh_u_a (by decide)).trans ((gh_u_a (by decide)).trans ((gh_u_a (by decide)).trans (gh_u_a (by decide))))))) ?_
    refine gh_iconst gd_Picker_push_78 (gh_r0 rfl) ?_
    obtain ⟨q1673, h⟩ := h
    refine gh_iadd gd_Picker_push_79 q1673 ?_
    refine pf_47_14 gd_Picker_push_80 gh_k464 hF (fun hF => ?_)
    exact gh_ret9 rfl gd_Picker_push_83 ⟨hF, h⟩
  · have h := hB c1660
    exact gh_ret9 rfl gd_Picker_push_83 ⟨hF, h⟩
def w_Forest_takeTurn (m : gh_M) (Q : Int → gh_M → Prop) : Prop := gh_i ((m 41 9) + 1) ∧ Q 0 (gh_u m 41 9 ((m 41 9) + 1))
theorem s_Forest_takeTurn {E : gh_E} {m : gh_M} {Q : Int → gh_M → Prop} (d : Nat) (hF : gh_F m) (h : w_Forest_takeTurn m Q) : gh_C E gh_yForest_takeTurn prog_5_method_5_code 1 none 9 (d + 0) [(2, 41)] m (fun r m1 => gh_F m1 ∧ Q r m1) := by
  refine gh_enter2 (L := [(0, 2, 41)]) (by decide +kernel) gh_rt9 (Nat.le_of_ble_eq_true rfl) rfl rfl ?_
  unfold w_Forest_takeTurn at h
  refine gh_aload_n gd_Forest_takeTurn_0 0 rfl (by decide) ?_
  refine gh_dup gd_Forest_takeTurn_1 (by decide) ?_
  refine gf_41_9 gd_Forest_takeTurn_2 gh_k412 hF rfl ?_
  refine gh_iconst gd_Forest_takeTurn_5 (gh_r0 rfl) ?_
  obtain ⟨q1674, h⟩ := h
  refine gh_iadd gd_Forest_takeTurn_6 q1674 ?_
  refine pf_41_9 gd_Forest_takeTurn_7 gh_k412 hF (fun hF => ?_)
  exact gh_ret9 rfl gd_Forest_takeTurn_10 ⟨hF, h⟩
def f_Picker_ruleOf_53 (v1 : Int) (v2 : Int) (v3 : Int) (Q : Int → gh_M → Prop) (K53 : Int → gh_M → Prop) (v4 : Int) (m : gh_M) : Prop := k_Grammar_behindRules v1 m ∧ ((v4 < (x_Grammar_behindRules v1 m) → 0 ≤ v2 ∧ v2 < 289 ∧ 0 ≤ v2 ∧ v2 < 289 ∧ wr_Forest_countByRule v4 (m 51 v2) (m 52 v2) v3 0 m (fun r1689 m1690 => 0 ≤ v2 ∧ v2 < 289 ∧ (((m1690 55 v2) < r1689 → Q v4 m1690) ∧ (¬ ((m1690 55 v2) < r1689) → 0 ≤ v2 ∧ v2 < 289 ∧ gh_j ((m1690 55 v2) - r1689) ∧ 0 ≤ v2 ∧ v2 < 289 ∧ gh_i (v4 + 1) ∧ K53 (v4 + 1) (gh_u m1690 55 v2 ((m1690 55 v2) - r1689)))))) ∧ (¬ (v4 < (x_Grammar_behindRules v1 m)) → Q (-1) m))
def w_Picker_ruleOf (v1 : Int) (v2 : Int) (m : gh_M) (Q : Int → gh_M → Prop) : Prop := 0 ≤ v2 ∧ v2 < 289 ∧ ∀ v3 : Int, v3 = gh_ior_f (m 53 v2) (gh_ishl_f 1 v1) → 0 ≤ v2 ∧ v2 < 289 ∧ 0 ≤ v2 ∧ v2 < 289 ∧ ∃ J42 : gh_M → Prop, (∀ (m : gh_M), J42 m → 0 ≤ v1 ∧ v1 < 8 ∧ ∀ v4 : Int, v4 = m 14 v1 → gh_M1 (fun K53 v4 m => f_Picker_ruleOf_53 v1 v2 v3 Q K53 v4 m) v4 m) ∧ ((((m 51 v2) < (m 52 v2)) → (0 ≤ v2 ∧ v2 < 289))) ∧ (((((m 51 v2) < (m 52 v2)) ∧ ((m 53 v2) = 0)) → w_Forest_takeTurn m (fun _ m1705 => J42 m1705)) ∧ (¬ (((m 51 v2) < (m 52 v2)) ∧ ((m 53 v2) = 0)) → J42 m))
theorem b_Picker_ruleOf_53 {E : gh_E} {v1 : Int} {v2 : Int} {v3 : Int} {Q : Int → gh_M → Prop} {K53 : Int → gh_M → Prop} (d : Nat) (hK : ∀ (v4 : Int) (m : gh_M), gh_F m → K53 v4 m → gh_T E (gh_yPicker_ruleOf.cls, prog_7_method_4_code, 7, false, 0) (d + 33) 53 [(0, 2, 47), (1, 0, v1), (2, 0, v2), (3, 0, v3), (4, 0, v4)] [] m (fun r m1 => gh_F m1 ∧ Q r m1)) (v4 : Int) (m : gh_M) (hF : gh_F m) (h : f_Picker_ruleOf_53 v1 v2 v3 Q K53 v4 m) : gh_T E (gh_yPicker_ruleOf.cls, prog_7_method_4_code, 7, false, 0) (d + 33) 53 [(0, 2, 47), (1, 0, v1), (2, 0, v2), (3, 0, v3), (4, 0, v4)] [] m (fun r m1 => gh_F m1 ∧ Q r m1) := by
  have hK53 := hK
  unfold f_Picker_ruleOf_53 at h
  refine gh_iload gd_Picker_ruleOf_53 4 rfl ?_
  refine gh_aload_n gd_Picker_ruleOf_55 0 rfl (by decide) ?_
  refine gf_47_0 gd_Picker_ruleOf_56 gh_k447 hF ?_
  refine gh_iload_n gd_Picker_ruleOf_59 1 rfl ?_
  obtain ⟨q1683, h⟩ := h
  refine cv_Grammar_behindRules (d := d + 32) gd_Picker_ruleOf_60 gh_k1144 hF (Nat.le_of_ble_eq_true rfl) (gh_C.pe (e_Grammar_behindRules (d + 32) v1 hF q1683) ?_)
  obtain ⟨hA, hB⟩ := h
  refine gh_jge (tgt := 123) gd_Picker_ruleOf_63 (by decide) (fun c1684 => ?_) (fun c1684 => ?_)
  · have h := hA c1684
    refine gh_aload_n gd_Picker_ruleOf_66 0 rfl (by decide) ?_
    refine gf_47_2 gd_Picker_ruleOf_67 gh_k449 hF ?_
    refine gh_iload gd_Picker_ruleOf_70 4 rfl ?_
    refine gh_aload_n gd_Picker_ruleOf_72 0 rfl (by decide) ?_
    refine gf_47_9 gd_Picker_ruleOf_73 gh_k459 hF ?_
    refine gh_iload_n gd_Picker_ruleOf_76 2 rfl ?_
    obtain ⟨q1685, h⟩ := h
    obtain ⟨q1686, h⟩ := h
    refine la_51 gd_Picker_ruleOf_77 hF q1685 q1686 rfl ?_
    refine gh_aload_n gd_Picker_ruleOf_78 0 rfl (by decide) ?_
    refine gf_47_10 gd_Picker_ruleOf_79 gh_k460 hF ?_
    refine gh_iload_n gd_Picker_ruleOf_82 2 rfl ?_
    obtain ⟨q1687, h⟩ := h
    obtain ⟨q1688, h⟩ := h
    refine la_52 gd_Picker_ruleOf_83 hF q1687 q1688 rfl ?_
    refine gh_iload_n gd_Picker_ruleOf_84 3 rfl ?_
    refine gh_iconst gd_Picker_ruleOf_85 (gh_r0 rfl) ?_
    refine cvn_Forest_countByRule (d := d + 32) gd_Picker_ruleOf_86 (List.mem_cons_of_mem _ (List.mem_cons_of_mem _ (List.mem_cons_of_mem _ List.mem_cons_self))) hF (Nat.le_of_ble_eq_true rfl) (gh_C.mono (sr_Forest_countByRule d v4 (m 51 v2) (m 52 v2) v3 0 hF h) (fun r1689 m1690 hq => ?_))
    obtain ⟨hF, h⟩ := hq
    refine gh_lstore (L2 := [(5, 1, r1689), (0, 2, 47), (1, 0, v1), (2, 0, v2), (3, 0, v3), (4, 0, v4)]) gd_Picker_ruleOf_89 (by decide) rfl ?_
    refine gh_aload_n gd_Picker_ruleOf_91 1 rfl (by decide) ?_
    refine gf_47_13 gd_Picker_ruleOf_92 gh_k463 hF ?_
    refine gh_iload_n gd_Picker_ruleOf_95 3 rfl ?_
    obtain ⟨q1691, h⟩ := h
    obtain ⟨q1692, h⟩ := h
    refine la_55 gd_Picker_ruleOf_96 hF q1691 q1692 rfl ?_
    refine gh_lload gd_Picker_ruleOf_97 0 rfl ?_
    refine gh_lcmp gd_Picker_ruleOf_99 ?_
    obtain ⟨hA, hB⟩ := h
    refine gh_cge (tgt := 106) gd_Picker_ruleOf_100 (by decide) (fun c1693 => ?_) (fun c1693 => ?_)
    · have h := hA c1693
      refine gh_iload gd_Picker_ruleOf_103 5 rfl ?_
      exact gh_ret0 rfl gd_Picker_ruleOf_105 ⟨hF, h⟩
    · have h := hB c1693
      refine gh_aload_n gd_Picker_ruleOf_106 1 rfl (by decide) ?_
      refine gf_47_13 gd_Picker_ruleOf_107 gh_k463 hF ?_
      refine gh_iload_n gd_Picker_ruleOf_110 3 rfl ?_
      refine gh_dup2 gd_Picker_ruleOf_111 (by decide) (by decide) ?_
      obtain ⟨q1694, h⟩ := h
      obtain ⟨q1695, h⟩ := h
      refine la_55 gd_Picker_ruleOf_112 hF q1694 q1695 rfl ?_
      refine gh_lload gd_Picker_ruleOf_113 0 rfl ?_
      obtain ⟨q1696, h⟩ := h
      refine gh_lsub gd_Picker_ruleOf_115 q1696 ?_
      obtain ⟨q1697, h⟩ := h
      obtain ⟨q1698, h⟩ := h
      refine sa_55 gd_Picker_ruleOf_116 hF q1697 q1698 (fun hF => ?_)
      obtain ⟨q1699, h⟩ := h
      refine gh_iinc (L2 := [(4, 0, v4 + 1), (5, 1, r1689), (0, 2, 47), (1, 0, v1), (2, 0, v2), (3, 0, v3)]) gd_Picker_ruleOf_117 5 rfl q1699 (by decide) rfl ?_
      refine gh_goto (tgt := 53) gd_Picker_ruleOf_120 (by decide) ?_
      refine gh_pick (L2 := [(0, 2, 47), (1, 0, v1), (2, 0, v2), (3, 0, v3), (4, 0, v4 + 1)]) [2, 3, 4, 5, 0] rfl ?_
      exact hK53 (v4 + 1) (gh_u m1690 55 v2 ((m1690 55 v2) - r1689)) hF h
  · have h := hB c1684
    refine gh_iconst gd_Picker_ruleOf_123 (gh_r0 rfl) ?_
    exact gh_ret0 rfl gd_Picker_ruleOf_124 ⟨hF, h⟩
theorem s_Picker_ruleOf {E : gh_E} {m : gh_M} {Q : Int → gh_M → Prop} (d : Nat) (v1 : Int) (v2 : Int) (hF : gh_F m) (h : w_Picker_ruleOf v1 v2 m Q) : gh_C E gh_yPicker_ruleOf prog_7_method_4_code 7 (some .int) 0 (d + 33) [(2, 47), (0, v1), (0, v2)] m (fun r m1 => gh_F m1 ∧ Q r m1) := by
  refine gh_enter2 (L := [(0, 2, 47), (1, 0, v1), (2, 0, v2)]) (by decide +kernel) gh_rt0 (Nat.le_of_ble_eq_true rfl) rfl rfl ?_
  unfold w_Picker_ruleOf at h
  refine gh_aload_n gd_Picker_ruleOf_0 0 rfl (by decide) ?_
  refine gf_47_11 gd_Picker_ruleOf_1 gh_k461 hF ?_
  refine gh_iload_n gd_Picker_ruleOf_4 2 rfl ?_
  obtain ⟨q1675, h⟩ := h
  obtain ⟨q1676, h⟩ := h
  refine la_53 gd_Picker_ruleOf_5 hF q1675 q1676 rfl ?_
  refine gh_iconst gd_Picker_ruleOf_6 (gh_r0 rfl) ?_
  refine gh_iload_n gd_Picker_ruleOf_7 1 rfl ?_
  refine gh_ishl gd_Picker_ruleOf_8 ?_
  refine gh_ior gd_Picker_ruleOf_9 ?_
  refine gh_name (fun v3 hn => ?_)
  have h := h v3 hn
  refine gh_istore_n (L2 := [(3, 0, v3), (0, 2, 47), (1, 0, v1), (2, 0, v2)]) gd_Picker_ruleOf_10 (by decide) rfl ?_
  refine gh_aload_n gd_Picker_ruleOf_11 1 rfl (by decide) ?_
  refine gf_47_9 gd_Picker_ruleOf_12 gh_k459 hF ?_
  refine gh_iload_n gd_Picker_ruleOf_15 3 rfl ?_
  obtain ⟨q1677, h⟩ := h
  obtain ⟨q1678, h⟩ := h
  refine la_51 gd_Picker_ruleOf_16 hF q1677 q1678 rfl ?_
  refine gh_aload_n gd_Picker_ruleOf_17 1 rfl (by decide) ?_
  refine gf_47_10 gd_Picker_ruleOf_18 gh_k460 hF ?_
  refine gh_iload_n gd_Picker_ruleOf_21 3 rfl ?_
  obtain ⟨q1679, h⟩ := h
  obtain ⟨q1680, h⟩ := h
  refine la_52 gd_Picker_ruleOf_22 hF q1679 q1680 rfl ?_
  obtain ⟨J42, hJ42, h⟩ := h
  have hJ42 : ∀ (m : gh_M), gh_F m → J42 m → gh_T E (gh_yPicker_ruleOf.cls, prog_7_method_4_code, 7, false, 0) (d + 33) 42 [(0, 2, 47), (1, 0, v1), (2, 0, v2), (3, 0, v3)] [] m (fun r m1 => gh_F m1 ∧ Q r m1) := by
    intro m hF hj
    have h := hJ42 m hj
    refine gh_aload_n gd_Picker_ruleOf_42 0 rfl (by decide) ?_
    refine gf_47_0 gd_Picker_ruleOf_43 gh_k447 hF ?_
    refine gf_13_3 gd_Picker_ruleOf_46 gh_k192 hF ?_
    refine gh_iload_n gd_Picker_ruleOf_49 1 rfl ?_
    obtain ⟨q1681, h⟩ := h
    obtain ⟨q1682, h⟩ := h
    refine la_14 gd_Picker_ruleOf_50 hF q1681 q1682 rfl ?_
    refine gh_name (fun v4 hn => ?_)
    have h := h v4 hn
    refine gh_istore (L2 := [(4, 0, v4), (0, 2, 47), (1, 0, v1), (2, 0, v2), (3, 0, v3)]) gd_Picker_ruleOf_51 (by decide) rfl ?_
    refine gh_pick (L2 := [(0, 2, 47), (1, 0, v1), (2, 0, v2), (3, 0, v3), (4, 0, v4)]) [1, 2, 3, 4, 0] rfl ?_
    exact gh_M1_sound (T := fun v4 m => gh_T E (gh_yPicker_ruleOf.cls, prog_7_method_4_code, 7, false, 0) (d + 33) 53 [(0, 2, 47), (1, 0, v1), (2, 0, v2), (3, 0, v3), (4, 0, v4)] [] m (fun r m1 => gh_F m1 ∧ Q r m1)) (fun _ m => gh_F m) (fun K53 v4 m hK hF h => b_Picker_ruleOf_53 d hK v4 m hF h) v4 m hF h
  obtain ⟨hk, hA, hB⟩ := h
  have k1702 : (((m 51 v2) < (m 52 v2)) ∧ ((m 53 v2) = 0)) → gh_T E (gh_yPicker_ruleOf.cls, prog_7_method_4_code, 7, false, 0) (d + 33) 35 [(3, 0, v3), (0, 2, 47), (1, 0, v1), (2, 0, v2)] [] m (fun r m1 => gh_F m1 ∧ Q r m1) := by
    intro c
    have h := hA c
    refine gh_aload_n gd_Picker_ruleOf_35 1 rfl (by decide) ?_
    refine gf_47_2 gd_Picker_ruleOf_36 gh_k449 hF ?_
    refine cv_Forest_takeTurn (d := d + 32) gd_Picker_ruleOf_39 gh_k1140 hF (Nat.le_of_ble_eq_true rfl) (gh_C.mono (s_Forest_takeTurn (d + 32) hF h) (fun r1704 m1705 hq => ?_))
    obtain ⟨hF, h⟩ := hq
    refine gh_pick (L2 := [(0, 2, 47), (1, 0, v1), (2, 0, v2), (3, 0, v3)]) [1, 2, 3, 0] rfl ?_
    exact hJ42 m1705 hF h
  have k1703 : ¬ (((m 51 v2) < (m 52 v2)) ∧ ((m 53 v2) = 0)) → gh_T E (gh_yPicker_ruleOf.cls, prog_7_method_4_code, 7, false, 0) (d + 33) 42 [(3, 0, v3), (0, 2, 47), (1, 0, v1), (2, 0, v2)] [] m (fun r m1 => gh_F m1 ∧ Q r m1) := by
    intro c
    have h := hB c
    refine gh_pick (L2 := [(0, 2, 47), (1, 0, v1), (2, 0, v2), (3, 0, v3)]) [1, 2, 3, 0] rfl ?_
    exact hJ42 m hF h
  refine gh_jge (tgt := 42) gd_Picker_ruleOf_23 (by decide) (fun c1706 => ?_) (fun c1706 => ?_)
  · have hz : True := trivial
    have hk := hk c1706
    refine gh_aload_n gd_Picker_ruleOf_26 1 rfl (by decide) ?_
    refine gf_47_11 gd_Picker_ruleOf_27 gh_k461 hF ?_
    refine gh_iload_n gd_Picker_ruleOf_30 3 rfl ?_
    obtain ⟨q1700, hk⟩ := hk
    have q1701 := hk
    refine la_53 gd_Picker_ruleOf_31 hF q1700 q1701 rfl ?_
    refine gh_zne (tgt := 42) gd_Picker_ruleOf_32 (by decide) (fun c1707 => ?_) (fun c1707 => ?_)
    · have hz : True := trivial
      exact k1702 ⟨c1706, c1707⟩
    · have hz : True := trivial
      exact k1703 (fun z => c1707 z.2)
  · have hz : True := trivial
    exact k1703 (fun z => c1706 z.1)
def f_Picker_shareOut_67 (v1 : Int) (v3 : Int) (v4 : Int) (v5 : Int) (v6 : Int) (v9 : Int) (K46 : Int → Int → Int → gh_M → Prop) (K67 : Int → Int → Int → gh_M → Prop) (v7 : Int) (v10 : Int) (v11 : Int) (m : gh_M) : Prop := ∃ J201 : Int → gh_M → Prop, (∀ (v7' : Int) (m : gh_M), J201 v7' m → 0 ≤ v9 ∧ v9 < 4 ∧ ∀ v6' : Int, v6' = m 56 v9 → gh_i (v9 + 1) ∧ K46 v6' v7' (v9 + 1) m) ∧ ((((v11 ≤ v4) ∧ (v10 = 0)) → gh_i (v9 + 1) ∧ k_Forest_restAt (v9 + 1) v11 ∧ ∀ v12 : Int, v12 = x_Forest_restAt (v9 + 1) v11 m → ∃ J195 : Int → Int → gh_M → Prop, (∀ (v7' : Int) (v10' : Int) (m : gh_M), J195 v7' v10' m → gh_i (v11 + 1) ∧ K67 v7' v10' (v11 + 1) m) ∧ ((v12 ≤ 0 → J195 v7 v10 m) ∧ (¬ (v12 ≤ 0) → k_Grammar_partAt v1 v9 m ∧ wr_Forest_countOfPart (x_Grammar_partAt v1 v9 m) v6 v11 v3 v4 v5 0 m (fun r1731 m1732 => k_Forest_times r1731 v12 ∧ ∀ v16 : Int, v16 = x_Forest_times r1731 v12 → ∀ v10' : Int, v10' = (if (v7 < v16) then (1:Int) else 0) → 0 ≤ v9 ∧ v9 < 4 ∧ 0 ≤ v7 ∧ 0 < v12 ∧ 0 ≤ v9 ∧ v9 < 4 ∧ (((v10' = 0) → (gh_j (v7 - v16))) ∧ (¬ (v10' = 0) → (0 ≤ v7 ∧ 0 < v12))) ∧ ∀ v7' : Int, v7' = (if v10' = 0 then (v7 - v16) else (v7 % v12)) → J195 v7' v10' (gh_u (gh_u m1732 56 v9 v11) 57 v9 (v7 / v12)))))) ∧ (¬ ((v11 ≤ v4) ∧ (v10 = 0)) → J201 v7 m))
def f_Picker_shareOut_46 (v1 : Int) (v3 : Int) (v4 : Int) (v5 : Int) (Q : Int → gh_M → Prop) (K46 : Int → Int → Int → gh_M → Prop) (v6 : Int) (v7 : Int) (v9 : Int) (m : gh_M) : Prop := 0 ≤ v1 ∧ v1 < 20 ∧ ((v9 < (m 17 v1) → gh_M3 (fun K67 v7 v10 v11 m => f_Picker_shareOut_67 v1 v3 v4 v5 v6 v9 K46 K67 v7 v10 v11 m) v7 0 v6 m) ∧ (¬ (v9 < (m 17 v1)) → Q 0 m))
def w_Picker_shareOut (v1 : Int) (v2 : Int) (m : gh_M) (Q : Int → gh_M → Prop) : Prop := 0 ≤ v2 ∧ v2 < 289 ∧ ∀ v3 : Int, v3 = m 51 v2 → 0 ≤ v2 ∧ v2 < 289 ∧ ∀ v4 : Int, v4 = m 52 v2 → 0 ≤ v2 ∧ v2 < 289 ∧ 0 ≤ v2 ∧ v2 < 289 ∧ ∀ v5 : Int, v5 = gh_ior_f (m 53 v2) (gh_ishl_f 1 (m 50 v2)) → 0 ≤ v2 ∧ v2 < 289 ∧ ∀ v7 : Int, v7 = m 55 v2 → gh_M3 (fun K46 v6 v7 v9 m => f_Picker_shareOut_46 v1 v3 v4 v5 Q K46 v6 v7 v9 m) v3 v7 0 m
theorem b_Picker_shareOut_67 {E : gh_E} {v1 : Int} {v3 : Int} {v4 : Int} {v5 : Int} {v6 : Int} {v9 : Int} {K46 : Int → Int → Int → gh_M → Prop} {Q : Int → gh_M → Prop} {K67 : Int → Int → Int → gh_M → Prop} (d : Nat) (hK46 : ∀ (v6 : Int) (v7 : Int) (v9 : Int) (m : gh_M), gh_F m → K46 v6 v7 v9 m → gh_T E (gh_yPicker_shareOut.cls, prog_7_method_5_code, 18, false, 9) (d + 32) 46 [(0, 2, 47), (1, 0, v1), (3, 0, v3), (4, 0, v4), (5, 0, v5), (6, 0, v6), (7, 1, v7), (9, 0, v9)] [] m (fun r m1 => gh_F m1 ∧ Q r m1)) (hK : ∀ (v7 : Int) (v10 : Int) (v11 : Int) (m : gh_M), gh_F m → K67 v7 v10 v11 m → gh_T E (gh_yPicker_shareOut.cls, prog_7_method_5_code, 18, false, 9) (d + 32) 67 [(0, 2, 47), (1, 0, v1), (3, 0, v3), (4, 0, v4), (5, 0, v5), (6, 0, v6), (7, 1, v7), (9, 0, v9), (10, 0, v10), (11, 0, v11)] [] m (fun r m1 => gh_F m1 ∧ Q r m1)) (v7 : Int) (v10 : Int) (v11 : Int) (m : gh_M) (hF : gh_F m) (h : f_Picker_shareOut_67 v1 v3 v4 v5 v6 v9 K46 K67 v7 v10 v11 m) : gh_T E (gh_yPicker_shareOut.cls, prog_7_method_5_code, 18, false, 9) (d + 32) 67 [(0, 2, 47), (1, 0, v1), (3, 0, v3), (4, 0, v4), (5, 0, v5), (6, 0, v6), (7, 1, v7), (9, 0, v9), (10, 0, v10), (11, 0, v11)] [] m (fun r m1 => gh_F m1 ∧ Q r m1) := by
  have hK67 := hK
  unfold f_Picker_shareOut_67 at h
  refine gh_iload gd_Picker_shareOut_67 9 rfl ?_
  refine gh_iload gd_Picker_shareOut_69 3 rfl ?_
  obtain ⟨J201, hJ201, h⟩ := h
  have hJ201 : ∀ (v7' : Int) (m : gh_M), gh_F m → J201 v7' m → gh_T E (gh_yPicker_shareOut.cls, prog_7_method_5_code, 18, false, 9) (d + 32) 201 [(0, 2, 47), (1, 0, v1), (3, 0, v3), (4, 0, v4), (5, 0, v5), (7, 1, v7'), (9, 0, v9)] [] m (fun r m1 => gh_F m1 ∧ Q r m1) := by
    intro v7' m hF hj
    have h := hJ201 v7' m hj
    refine gh_aload_n gd_Picker_shareOut_201 0 rfl (by decide) ?_
    refine gf_47_15 gd_Picker_shareOut_202 gh_k465 hF ?_
    refine gh_iload gd_Picker_shareOut_205 6 rfl ?_
    obtain ⟨q1721, h⟩ := h
    obtain ⟨q1722, h⟩ := h
    refine la_56 gd_Picker_shareOut_207 hF q1721 q1722 rfl ?_
    refine gh_name (fun v6' hn => ?_)
    have h := h v6' hn
    refine gh_istore (L2 := [(6, 0, v6'), (0, 2, 47), (1, 0, v1), (3, 0, v3), (4, 0, v4), (5, 0, v5), (7, 1, v7'), (9, 0, v9)]) gd_Picker_shareOut_208 (by decide) rfl ?_
    obtain ⟨q1723, h⟩ := h
    refine gh_iinc (L2 := [(9, 0, v9 + 1), (6, 0, v6'), (0, 2, 47), (1, 0, v1), (3, 0, v3), (4, 0, v4), (5, 0, v5), (7, 1, v7')]) gd_Picker_shareOut_210 7 rfl q1723 (by decide) rfl ?_
    refine gh_goto (tgt := 46) gd_Picker_shareOut_213 (by decide) ?_
    refine gh_pick (L2 := [(0, 2, 47), (1, 0, v1), (3, 0, v3), (4, 0, v4), (5, 0, v5), (6, 0, v6'), (7, 1, v7'), (9, 0, v9 + 1)]) [2, 3, 4, 5, 6, 1, 7, 0] rfl ?_
    exact hK46 v6' v7' (v9 + 1) m hF h
  obtain ⟨hA, hB⟩ := h
  have k1724 : ((v11 ≤ v4) ∧ (v10 = 0)) → gh_T E (gh_yPicker_shareOut.cls, prog_7_method_5_code, 18, false, 9) (d + 32) 79 [(0, 2, 47), (1, 0, v1), (3, 0, v3), (4, 0, v4), (5, 0, v5), (6, 0, v6), (7, 1, v7), (9, 0, v9), (10, 0, v10), (11, 0, v11)] [] m (fun r m1 => gh_F m1 ∧ Q r m1) := by
    intro c
    have h := hA c
    refine gh_aload_n gd_Picker_shareOut_79 0 rfl (by decide) ?_
    refine gf_47_2 gd_Picker_shareOut_80 gh_k449 hF ?_
    refine gh_iload gd_Picker_shareOut_83 7 rfl ?_
    refine gh_iconst gd_Picker_shareOut_85 (gh_r0 rfl) ?_
    obtain ⟨q1726, h⟩ := h
    refine gh_iadd gd_Picker_shareOut_86 q1726 ?_
    refine gh_iload gd_Picker_shareOut_87 9 rfl ?_
    obtain ⟨q1727, h⟩ := h
    refine cv_Forest_restAt (d := d + 31) gd_Picker_shareOut_89 gh_k1151 hF (Nat.le_of_ble_eq_true rfl) (gh_C.pe (e_Forest_restAt (d + 31) (v9 + 1) v11 hF q1727) ?_)
    refine gh_name (fun v12 hn => ?_)
    have h := h v12 hn
    refine gh_lstore (L2 := [(12, 1, v12), (0, 2, 47), (1, 0, v1), (3, 0, v3), (4, 0, v4), (5, 0, v5), (6, 0, v6), (7, 1, v7), (9, 0, v9), (10, 0, v10), (11, 0, v11)]) gd_Picker_shareOut_92 (by decide) rfl ?_
    refine gh_lload gd_Picker_shareOut_94 0 rfl ?_
    refine gh_lconst (n := 0) gd_Picker_shareOut_96 (by decide) (gh_r1 rfl) ?_
    refine gh_lcmp gd_Picker_shareOut_97 ?_
    obtain ⟨J195, hJ195, h⟩ := h
    have hJ195 : ∀ (v7' : Int) (v10' : Int) (m : gh_M), gh_F m → J195 v7' v10' m → gh_T E (gh_yPicker_shareOut.cls, prog_7_method_5_code, 18, false, 9) (d + 32) 195 [(0, 2, 47), (1, 0, v1), (3, 0, v3), (4, 0, v4), (5, 0, v5), (6, 0, v6), (7, 1, v7'), (9, 0, v9), (10, 0, v10'), (11, 0, v11)] [] m (fun r m1 => gh_F m1 ∧ Q r m1) := by
      intro v7' v10' m hF hj
      have h := hJ195 v7' v10' m hj
      obtain ⟨q1728, h⟩ := h
      refine gh_iinc (L2 := [(11, 0, v11 + 1), (0, 2, 47), (1, 0, v1), (3, 0, v3), (4, 0, v4), (5, 0, v5), (6, 0, v6), (7, 1, v7'), (9, 0, v9), (10, 0, v10')]) gd_Picker_shareOut_195 9 rfl q1728 (by decide) rfl ?_
      refine gh_goto (tgt := 67) gd_Picker_shareOut_198 (by decide) ?_
      refine gh_pick (L2 := [(0, 2, 47), (1, 0, v1), (3, 0, v3), (4, 0, v4), (5, 0, v5), (6, 0, v6), (7, 1, v7'), (9, 0, v9), (10, 0, v10'), (11, 0, v11 + 1)]) [1, 2, 3, 4, 5, 6, 7, 8, 9, 0] rfl ?_
      exact hK67 v7' v10' (v11 + 1) m hF h
    obtain ⟨hA, hB⟩ := h
    refine gh_cle (tgt := 195) gd_Picker_shareOut_98 (by decide) (fun c1729 => ?_) (fun c1729 => ?_)
    · have h := hA c1729
      refine gh_pick (L2 := [(0, 2, 47), (1, 0, v1), (3, 0, v3), (4, 0, v4), (5, 0, v5), (6, 0, v6), (7, 1, v7), (9, 0, v9), (10, 0, v10), (11, 0, v11)]) [1, 2, 3, 4, 5, 6, 7, 8, 9, 10] rfl ?_
      exact hJ195 v7 v10 m hF h
    · have h := hB c1729
      refine gh_aload_n gd_Picker_shareOut_101 1 rfl (by decide) ?_
      refine gf_47_2 gd_Picker_shareOut_102 gh_k449 hF ?_
      refine gh_aload_n gd_Picker_shareOut_105 1 rfl (by decide) ?_
      refine gf_47_0 gd_Picker_shareOut_106 gh_k447 hF ?_
      refine gh_iload_n gd_Picker_shareOut_109 2 rfl ?_
      refine gh_iload gd_Picker_shareOut_110 8 rfl ?_
      obtain ⟨q1730, h⟩ := h
      refine cv_Grammar_partAt (d := d + 31) gd_Picker_shareOut_112 gh_k1155 hF (Nat.le_of_ble_eq_true rfl) (gh_C.pe (e_Grammar_partAt (d + 31) v1 v9 hF q1730) ?_)
      refine gh_iload gd_Picker_shareOut_115 6 rfl ?_
      refine gh_iload gd_Picker_shareOut_117 10 rfl ?_
      refine gh_iload_n gd_Picker_shareOut_119 3 rfl ?_
      refine gh_iload gd_Picker_shareOut_120 4 rfl ?_
      refine gh_iload gd_Picker_shareOut_122 5 rfl ?_
      refine gh_iconst gd_Picker_shareOut_124 (gh_r0 rfl) ?_
      refine cvn_Forest_countOfPart (d := d + 31) gd_Picker_shareOut_125 (List.mem_cons_of_mem _ (List.mem_cons_of_mem _ (List.mem_cons_of_mem _ (List.mem_cons_of_mem _ List.mem_cons_self)))) hF (Nat.le_of_ble_eq_true rfl) (gh_C.mono (sr_Forest_countOfPart d (x_Grammar_partAt v1 v9 m) v6 v11 v3 v4 v5 0 hF h) (fun r1731 m1732 hq => ?_))
      obtain ⟨hF, h⟩ := hq
      refine gh_lstore (L2 := [(14, 1, r1731), (12, 1, v12), (0, 2, 47), (1, 0, v1), (3, 0, v3), (4, 0, v4), (5, 0, v5), (6, 0, v6), (7, 1, v7), (9, 0, v9), (10, 0, v10), (11, 0, v11)]) gd_Picker_shareOut_128 (by decide) rfl ?_
      refine gh_lload gd_Picker_shareOut_130 0 rfl ?_
      refine gh_lload gd_Picker_shareOut_132 1 rfl ?_
      obtain ⟨q1733, h⟩ := h
      refine cv_Forest_times (d := d + 31) gd_Picker_shareOut_134 gh_k1157 (Nat.le_of_ble_eq_true rfl) (gh_C.pe (e_Forest_times (d + 30) r1731 v12 q1733) ?_)
      refine gh_name (fun v16 hn => ?_)
      have h := h v16 hn
      refine gh_lstore (L2 := [(16, 1, v16), (14, 1, r1731), (12, 1, v12), (0, 2, 47), (1, 0, v1), (3, 0, v3), (4, 0, v4), (5, 0, v5), (6, 0, v6), (7, 1, v7), (9, 0, v9), (10, 0, v10), (11, 0, v11)]) gd_Picker_shareOut_137 (by decide) rfl ?_
      refine gh_lload gd_Picker_shareOut_139 9 rfl ?_
      refine gh_lload gd_Picker_shareOut_141 0 rfl ?_
      refine gh_lcmp gd_Picker_shareOut_143 ?_
      have k1734 : ∀ x1735 : Int, x1735 = (if (v7 < v16) then (1:Int) else 0) → gh_T E (gh_yPicker_shareOut.cls, prog_7_method_5_code, 18, false, 9) (d + 32) 152 [(16, 1, v16), (14, 1, r1731), (12, 1, v12), (0, 2, 47), (1, 0, v1), (3, 0, v3), (4, 0, v4), (5, 0, v5), (6, 0, v6), (7, 1, v7), (9, 0, v9), (10, 0, v10), (11, 0, v11)] [(0, x1735)] m1732 (fun r m1 => gh_F m1 ∧ Q r m1) := by
        rintro _ rfl
        refine gh_name (fun v10' hn => ?_)
        have h := h v10' hn
        refine gh_istore (L2 := [(10, 0, v10'), (16, 1, v16), (14, 1, r1731), (12, 1, v12), (0, 2, 47), (1, 0, v1), (3, 0, v3), (4, 0, v4), (5, 0, v5), (6, 0, v6), (7, 1, v7), (9, 0, v9), (11, 0, v11)]) gd_Picker_shareOut_152 (by decide) rfl ?_
        refine gh_aload_n gd_Picker_shareOut_154 4 rfl (by decide) ?_
        refine gf_47_15 gd_Picker_shareOut_155 gh_k465 hF ?_
        refine gh_iload gd_Picker_shareOut_158 11 rfl ?_
        refine gh_iload gd_Picker_shareOut_160 12 rfl ?_
        obtain ⟨q1736, h⟩ := h
        obtain ⟨q1737, h⟩ := h
        refine sa_56 gd_Picker_shareOut_162 hF q1736 q1737 (fun hF => ?_)
        refine gh_aload_n gd_Picker_shareOut_163 4 rfl (by decide) ?_
        refine gf_47_16 gd_Picker_shareOut_164 gh_k466 hF ?_
        refine gh_iload gd_Picker_shareOut_167 11 rfl ?_
        refine gh_lload gd_Picker_shareOut_169 10 rfl ?_
        refine gh_lload gd_Picker_shareOut_171 3 rfl ?_
        obtain ⟨q1738, h⟩ := h
        obtain ⟨q1739, h⟩ := h
        refine gh_ldiv gd_Picker_shareOut_173 q1738 q1739 ?_
        obtain ⟨q1740, h⟩ := h
        obtain ⟨q1741, h⟩ := h
        refine sa_57 gd_Picker_shareOut_174 hF q1740 q1741 (fun hF => ?_)
        refine gh_iload gd_Picker_shareOut_175 0 rfl ?_
        obtain ⟨hk, h⟩ := h
        have k1745 : ∀ x1746 : Int, x1746 = (if v10' = 0 then (v7 - v16) else (v7 % v12)) → gh_T E (gh_yPicker_shareOut.cls, prog_7_method_5_code, 18, false, 9) (d + 32) 193 [(10, 0, v10'), (16, 1, v16), (14, 1, r1731), (12, 1, v12), (0, 2, 47), (1, 0, v1), (3, 0, v3), (4, 0, v4), (5, 0, v5), (6, 0, v6), (7, 1, v7), (9, 0, v9), (11, 0, v11)] [(1, x1746)] (gh_u (gh_u m1732 56 v9 v11) 57 v9 (v7 / v12)) (fun r m1 => gh_F m1 ∧ Q r m1) := by
          rintro _ rfl
          refine gh_name (fun v7' hn => ?_)
          have h := h v7' hn
          refine gh_lstore (L2 := [(7, 1, v7'), (10, 0, v10'), (16, 1, v16), (14, 1, r1731), (12, 1, v12), (0, 2, 47), (1, 0, v1), (3, 0, v3), (4, 0, v4), (5, 0, v5), (6, 0, v6), (9, 0, v9), (11, 0, v11)]) gd_Picker_shareOut_193 (by decide) rfl ?_
          refine gh_pick (L2 := [(0, 2, 47), (1, 0, v1), (3, 0, v3), (4, 0, v4), (5, 0, v5), (6, 0, v6), (7, 1, v7'), (9, 0, v9), (10, 0, v10'), (11, 0, v11)]) [5, 6, 7, 8, 9, 10, 0, 11, 1, 12] rfl ?_
          exact hJ195 v7' v10' (gh_u (gh_u m1732 56 v9 v11) 57 v9 (v7 / v12)) hF h
        refine gh_zeq (tgt := 188) gd_Picker_shareOut_177 (by decide) (fun c1747 => ?_) (fun c1747 => ?_)
        · have hz : True := trivial
          have hk := hk.1 c1747
          refine gh_lload gd_Picker_shareOut_188 10 rfl ?_
          refine gh_lload gd_Picker_shareOut_190 1 rfl ?_
          have q1742 := hk
          refine gh_lsub gd_Picker_shareOut_192 q1742 ?_
          exact k1745 _ (by rw [if_pos c1747])
        · have hz : True := trivial
          have hk := hk.2 c1747
          refine gh_lload gd_Picker_shareOut_180 10 rfl ?_
          refine gh_lload gd_Picker_shareOut_182 3 rfl ?_
          obtain ⟨q1743, hk⟩ := hk
          have q1744 := hk
          refine gh_lrem gd_Picker_shareOut_184 q1743 q1744 ?_
          refine gh_goto (tgt := 193) gd_Picker_shareOut_185 (by decide) ?_
          exact k1745 _ (by rw [if_neg c1747])
      refine gh_cge (tgt := 151) gd_Picker_shareOut_144 (by decide) (fun c1748 => ?_) (fun c1748 => ?_)
      · have hz : True := trivial
        refine gh_iconst gd_Picker_shareOut_147 (gh_r0 rfl) ?_
        refine gh_goto (tgt := 152) gd_Picker_shareOut_148 (by decide) ?_
        exact k1734 _ (if_pos (c := (v7 < v16)) c1748).symm
      · have hz : True := trivial
        refine gh_iconst gd_Picker_shareOut_151 (gh_r0 rfl) ?_
        exact k1734 _ (if_neg (c := (v7 < v16)) c1748).symm
  have k1725 : ¬ ((v11 ≤ v4) ∧ (v10 = 0)) → gh_T E (gh_yPicker_shareOut.cls, prog_7_method_5_code, 18, false, 9) (d + 32) 201 [(0, 2, 47), (1, 0, v1), (3, 0, v3), (4, 0, v4), (5, 0, v5), (6, 0, v6), (7, 1, v7), (9, 0, v9), (10, 0, v10), (11, 0, v11)] [] m (fun r m1 => gh_F m1 ∧ Q r m1) := by
    intro c
    have h := hB c
    refine gh_pick (L2 := [(0, 2, 47), (1, 0, v1), (3, 0, v3), (4, 0, v4), (5, 0, v5), (7, 1, v7), (9, 0, v9)]) [0, 1, 2, 3, 4, 6, 7] rfl ?_
    exact hJ201 v7 m hF h
  refine gh_jgt (tgt := 201) gd_Picker_shareOut_71 (by decide) (fun c1749 => ?_) (fun c1749 => ?_)
  · have hz : True := trivial
    refine gh_iload gd_Picker_shareOut_74 8 rfl ?_
    refine gh_zne (tgt := 201) gd_Picker_shareOut_76 (by decide) (fun c1750 => ?_) (fun c1750 => ?_)
    · have hz : True := trivial
      exact k1724 ⟨c1749, c1750⟩
    · have hz : True := trivial
      exact k1725 (fun z => c1750 z.2)
  · have hz : True := trivial
    exact k1725 (fun z => c1749 z.1)
theorem b_Picker_shareOut_46 {E : gh_E} {v1 : Int} {v3 : Int} {v4 : Int} {v5 : Int} {Q : Int → gh_M → Prop} {K46 : Int → Int → Int → gh_M → Prop} (d : Nat) (hK : ∀ (v6 : Int) (v7 : Int) (v9 : Int) (m : gh_M), gh_F m → K46 v6 v7 v9 m → gh_T E (gh_yPicker_shareOut.cls, prog_7_method_5_code, 18, false, 9) (d + 32) 46 [(0, 2, 47), (1, 0, v1), (3, 0, v3), (4, 0, v4), (5, 0, v5), (6, 0, v6), (7, 1, v7), (9, 0, v9)] [] m (fun r m1 => gh_F m1 ∧ Q r m1)) (v6 : Int) (v7 : Int) (v9 : Int) (m : gh_M) (hF : gh_F m) (h : f_Picker_shareOut_46 v1 v3 v4 v5 Q K46 v6 v7 v9 m) : gh_T E (gh_yPicker_shareOut.cls, prog_7_method_5_code, 18, false, 9) (d + 32) 46 [(0, 2, 47), (1, 0, v1), (3, 0, v3), (4, 0, v4), (5, 0, v5), (6, 0, v6), (7, 1, v7), (9, 0, v9)] [] m (fun r m1 => gh_F m1 ∧ Q r m1) := by
  have hK46 := hK
  unfold f_Picker_shareOut_46 at h
  refine gh_iload gd_Picker_shareOut_46 7 rfl ?_
  refine gh_aload_n gd_Picker_shareOut_48 0 rfl (by decide) ?_
  refine gf_47_0 gd_Picker_shareOut_49 gh_k447 hF ?_
  refine gf_13_6 gd_Picker_shareOut_52 gh_k207 hF ?_
  refine gh_iload_n gd_Picker_shareOut_55 1 rfl ?_
  obtain ⟨q1718, h⟩ := h
  obtain ⟨q1719, h⟩ := h
  refine la_17 gd_Picker_shareOut_56 hF q1718 q1719 rfl ?_
  obtain ⟨hA, hB⟩ := h
  refine gh_jge (tgt := 216) gd_Picker_shareOut_57 (by decide) (fun c1720 => ?_) (fun c1720 => ?_)
  · have h := hA c1720
    refine gh_iconst gd_Picker_shareOut_60 (gh_r0 rfl) ?_
    refine gh_istore (L2 := [(10, 0, 0), (0, 2, 47), (1, 0, v1), (3, 0, v3), (4, 0, v4), (5, 0, v5), (6, 0, v6), (7, 1, v7), (9, 0, v9)]) gd_Picker_shareOut_61 (by decide) rfl ?_
    refine gh_iload gd_Picker_shareOut_63 6 rfl ?_
    refine gh_istore (L2 := [(11, 0, v6), (10, 0, 0), (0, 2, 47), (1, 0, v1), (3, 0, v3), (4, 0, v4), (5, 0, v5), (6, 0, v6), (7, 1, v7), (9, 0, v9)]) gd_Picker_shareOut_65 (by decide) rfl ?_
    refine gh_pick (L2 := [(0, 2, 47), (1, 0, v1), (3, 0, v3), (4, 0, v4), (5, 0, v5), (6, 0, v6), (7, 1, v7), (9, 0, v9), (10, 0, 0), (11, 0, v6)]) [2, 3, 4, 5, 6, 7, 8, 9, 1, 0] rfl ?_
    exact gh_M3_sound (T := fun v7 v10 v11 m => gh_T E (gh_yPicker_shareOut.cls, prog_7_method_5_code, 18, false, 9) (d + 32) 67 [(0, 2, 47), (1, 0, v1), (3, 0, v3), (4, 0, v4), (5, 0, v5), (6, 0, v6), (7, 1, v7), (9, 0, v9), (10, 0, v10), (11, 0, v11)] [] m (fun r m1 => gh_F m1 ∧ Q r m1)) (fun _ _ _ m => gh_F m) (fun K67 v7 v10 v11 m hK hF h => b_Picker_shareOut_67 d hK46 hK v7 v10 v11 m hF h) v7 0 v6 m hF h
  · have h := hB c1720
    exact gh_ret9 rfl gd_Picker_shareOut_216 ⟨hF, h⟩
theorem s_Picker_shareOut {E : gh_E} {m : gh_M} {Q : Int → gh_M → Prop} (d : Nat) (v1 : Int) (v2 : Int) (hF : gh_F m) (h : w_Picker_shareOut v1 v2 m Q) : gh_C E gh_yPicker_shareOut prog_7_method_5_code 18 none 9 (d + 32) [(2, 47), (0, v1), (0, v2)] m (fun r m1 => gh_F m1 ∧ Q r m1) := by
  refine gh_enter2 (L := [(0, 2, 47), (1, 0, v1), (2, 0, v2)]) (by decide +kernel) gh_rt9 (Nat.le_of_ble_eq_true rfl) rfl rfl ?_
  unfold w_Picker_shareOut at h
  refine gh_aload_n gd_Picker_shareOut_0 0 rfl (by decide) ?_
  refine gf_47_9 gd_Picker_shareOut_1 gh_k459 hF ?_
  refine gh_iload_n gd_Picker_shareOut_4 2 rfl ?_
  obtain ⟨q1708, h⟩ := h
  obtain ⟨q1709, h⟩ := h
  refine la_51 gd_Picker_shareOut_5 hF q1708 q1709 rfl ?_
  refine gh_name (fun v3 hn => ?_)
  have h := h v3 hn
  refine gh_istore_n (L2 := [(3, 0, v3), (0, 2, 47), (1, 0, v1), (2, 0, v2)]) gd_Picker_shareOut_6 (by decide) rfl ?_
  refine gh_aload_n gd_Picker_shareOut_7 1 rfl (by decide) ?_
  refine gf_47_10 gd_Picker_shareOut_8 gh_k460 hF ?_
  refine gh_iload_n gd_Picker_shareOut_11 3 rfl ?_
  obtain ⟨q1710, h⟩ := h
  obtain ⟨q1711, h⟩ := h
  refine la_52 gd_Picker_shareOut_12 hF q1710 q1711 rfl ?_
  refine gh_name (fun v4 hn => ?_)
  have h := h v4 hn
  refine gh_istore (L2 := [(4, 0, v4), (3, 0, v3), (0, 2, 47), (1, 0, v1), (2, 0, v2)]) gd_Picker_shareOut_13 (by decide) rfl ?_
  refine gh_aload_n gd_Picker_shareOut_15 2 rfl (by decide) ?_
  refine gf_47_11 gd_Picker_shareOut_16 gh_k461 hF ?_
  refine gh_iload_n gd_Picker_shareOut_19 4 rfl ?_
  obtain ⟨q1712, h⟩ := h
  obtain ⟨q1713, h⟩ := h
  refine la_53 gd_Picker_shareOut_20 hF q1712 q1713 rfl ?_
  refine gh_iconst gd_Picker_shareOut_21 (gh_r0 rfl) ?_
  refine gh_aload_n gd_Picker_shareOut_22 2 rfl (by decide) ?_
  refine gf_47_8 gd_Picker_shareOut_23 gh_k458 hF ?_
  refine gh_iload_n gd_Picker_shareOut_26 4 rfl ?_
  obtain ⟨q1714, h⟩ := h
  obtain ⟨q1715, h⟩ := h
  refine la_50 gd_Picker_shareOut_27 hF q1714 q1715 rfl ?_
  refine gh_ishl gd_Picker_shareOut_28 ?_
  refine gh_ior gd_Picker_shareOut_29 ?_
  refine gh_name (fun v5 hn => ?_)
  have h := h v5 hn
  refine gh_istore (L2 := [(5, 0, v5), (4, 0, v4), (3, 0, v3), (0, 2, 47), (1, 0, v1), (2, 0, v2)]) gd_Picker_shareOut_30 (by decide) rfl ?_
  refine gh_iload_n gd_Picker_shareOut_32 2 rfl ?_
  refine gh_istore (L2 := [(6, 0, v3), (5, 0, v5), (4, 0, v4), (3, 0, v3), (0, 2, 47), (1, 0, v1), (2, 0, v2)]) gd_Picker_shareOut_33 (by decide) rfl ?_
  refine gh_aload_n gd_Picker_shareOut_35 4 rfl (by decide) ?_
  refine gf_47_13 gd_Picker_shareOut_36 gh_k463 hF ?_
  refine gh_iload_n gd_Picker_shareOut_39 6 rfl ?_
  obtain ⟨q1716, h⟩ := h
  obtain ⟨q1717, h⟩ := h
  refine la_55 gd_Picker_shareOut_40 hF q1716 q1717 rfl ?_
  refine gh_name (fun v7 hn => ?_)
  have h := h v7 hn
  refine gh_lstore (L2 := [(7, 1, v7), (6, 0, v3), (5, 0, v5), (4, 0, v4), (3, 0, v3), (0, 2, 47), (1, 0, v1), (2, 0, v2)]) gd_Picker_shareOut_41 (by decide) rfl ?_
  refine gh_iconst gd_Picker_shareOut_43 (gh_r0 rfl) ?_
  refine gh_istore (L2 := [(9, 0, 0), (7, 1, v7), (6, 0, v3), (5, 0, v5), (4, 0, v4), (3, 0, v3), (0, 2, 47), (1, 0, v1), (2, 0, v2)]) gd_Picker_shareOut_44 (by decide) rfl ?_
  refine gh_pick (L2 := [(0, 2, 47), (1, 0, v1), (3, 0, v3), (4, 0, v4), (5, 0, v5), (6, 0, v3), (7, 1, v7), (9, 0, 0)]) [6, 7, 5, 4, 3, 2, 1, 0] rfl ?_
  exact gh_M3_sound (T := fun v6 v7 v9 m => gh_T E (gh_yPicker_shareOut.cls, prog_7_method_5_code, 18, false, 9) (d + 32) 46 [(0, 2, 47), (1, 0, v1), (3, 0, v3), (4, 0, v4), (5, 0, v5), (6, 0, v6), (7, 1, v7), (9, 0, v9)] [] m (fun r m1 => gh_F m1 ∧ Q r m1)) (fun _ _ _ m => gh_F m) (fun K46 v6 v7 v9 m hK hF h => b_Picker_shareOut_46 d hK v6 v7 v9 m hF h) v3 v7 0 m hF h
def f_Picker_pushParts_55 (v1 : Int) (v3 : Int) (v4 : Int) (v5 : Int) (v6 : Int) (Q : Int → gh_M → Prop) (K55 : Int → gh_M → Prop) (v7 : Int) (m : gh_M) : Prop := ((v7 < 0 → Q 0 m) ∧ (¬ (v7 < 0) → ((¬ (v7 = 0) → (gh_i (v7 - 1) ∧ 0 ≤ v7 - 1 ∧ (v7 - 1) < 4))) ∧ ∀ v8 : Int, v8 = (if v7 = 0 then v3 else (m 56 (v7 - 1))) → (((v8 = v3) → (0 ≤ v7 ∧ v7 < 4))) ∧ ∀ v9 : Int, v9 = (if ((v8 = v3) ∧ ((m 56 v7) = v4)) then (1:Int) else 0) → k_Grammar_nameAt v1 v7 m ∧ ∀ v10 : Int, v10 = x_Grammar_nameAt v1 v7 m → (((v10 = (-1)) → (k_Text_letterAt v8 m ∧ gh_i ((-1) - (x_Text_letterAt v8 m))))) ∧ 0 ≤ v7 ∧ v7 < 4 ∧ 0 ≤ v7 ∧ v7 < 4 ∧ w_Picker_push (if v10 = (-1) then ((-1) - (x_Text_letterAt v8 m)) else v10) v8 (m 56 v7) (if v9 = 0 then 0 else v5) v6 (m 57 v7) m (fun _ m1787 => gh_i (v7 + (-1)) ∧ K55 (v7 + (-1)) m1787)))
def w_Picker_pushParts (v1 : Int) (v2 : Int) (m : gh_M) (Q : Int → gh_M → Prop) : Prop := 0 ≤ v2 ∧ v2 < 289 ∧ ∀ v3 : Int, v3 = m 51 v2 → 0 ≤ v2 ∧ v2 < 289 ∧ ∀ v4 : Int, v4 = m 52 v2 → 0 ≤ v2 ∧ v2 < 289 ∧ 0 ≤ v2 ∧ v2 < 289 ∧ ∀ v5 : Int, v5 = gh_ior_f (m 53 v2) (gh_ishl_f 1 (m 50 v2)) → 0 ≤ v2 ∧ v2 < 289 ∧ gh_i ((m 54 v2) + 1) ∧ ∀ v6 : Int, v6 = (m 54 v2) + 1 → 0 ≤ v1 ∧ v1 < 20 ∧ gh_i ((m 17 v1) - 1) ∧ ∀ v7 : Int, v7 = (m 17 v1) - 1 → gh_M1 (fun K55 v7 m => f_Picker_pushParts_55 v1 v3 v4 v5 v6 Q K55 v7 m) v7 m
theorem b_Picker_pushParts_55 {E : gh_E} {v1 : Int} {v3 : Int} {v4 : Int} {v5 : Int} {v6 : Int} {Q : Int → gh_M → Prop} {K55 : Int → gh_M → Prop} (d : Nat) (hK : ∀ (v7 : Int) (m : gh_M), gh_F m → K55 v7 m → gh_T E (gh_yPicker_pushParts.cls, prog_7_method_6_code, 11, false, 9) (d + 2) 55 [(0, 2, 47), (1, 0, v1), (3, 0, v3), (4, 0, v4), (5, 0, v5), (6, 0, v6), (7, 0, v7)] [] m (fun r m1 => gh_F m1 ∧ Q r m1)) (v7 : Int) (m : gh_M) (hF : gh_F m) (h : f_Picker_pushParts_55 v1 v3 v4 v5 v6 Q K55 v7 m) : gh_T E (gh_yPicker_pushParts.cls, prog_7_method_6_code, 11, false, 9) (d + 2) 55 [(0, 2, 47), (1, 0, v1), (3, 0, v3), (4, 0, v4), (5, 0, v5), (6, 0, v6), (7, 0, v7)] [] m (fun r m1 => gh_F m1 ∧ Q r m1) := by
  have hK55 := hK
  unfold f_Picker_pushParts_55 at h
  refine gh_iload gd_Picker_pushParts_55 6 rfl ?_
  obtain ⟨hA, hB⟩ := h
  refine gh_zlt (tgt := 178) gd_Picker_pushParts_57 (by decide) (fun c1765 => ?_) (fun c1765 => ?_)
  · have h := hA c1765
    exact gh_ret9 rfl gd_Picker_pushParts_178 ⟨hF, h⟩
  · have h := hB c1765
    refine gh_iload gd_Picker_pushParts_60 6 rfl ?_
    obtain ⟨hk, h⟩ := h
    have k1769 : ∀ x1770 : Int, x1770 = (if v7 = 0 then v3 else (m 56 (v7 - 1))) → gh_T E (gh_yPicker_pushParts.cls, prog_7_method_6_code, 11, false, 9) (d + 2) 78 [(0, 2, 47), (1, 0, v1), (3, 0, v3), (4, 0, v4), (5, 0, v5), (6, 0, v6), (7, 0, v7)] [(0, x1770)] m (fun r m1 => gh_F m1 ∧ Q r m1) := by
      rintro _ rfl
      refine gh_name (fun v8 hn => ?_)
      have h := h v8 hn
      refine gh_istore (L2 := [(8, 0, v8), (0, 2, 47), (1, 0, v1), (3, 0, v3), (4, 0, v4), (5, 0, v5), (6, 0, v6), (7, 0, v7)]) gd_Picker_pushParts_78 (by decide) rfl ?_
      refine gh_iload gd_Picker_pushParts_80 0 rfl ?_
      refine gh_iload_n gd_Picker_pushParts_82 3 rfl ?_
      obtain ⟨hk, h⟩ := h
      have k1773 : ∀ x1774 : Int, x1774 = (if ((v8 = v3) ∧ ((m 56 v7) = v4)) then (1:Int) else 0) → gh_T E (gh_yPicker_pushParts.cls, prog_7_method_6_code, 11, false, 9) (d + 2) 103 [(8, 0, v8), (0, 2, 47), (1, 0, v1), (3, 0, v3), (4, 0, v4), (5, 0, v5), (6, 0, v6), (7, 0, v7)] [(0, x1774)] m (fun r m1 => gh_F m1 ∧ Q r m1) := by
        rintro _ rfl
        refine gh_name (fun v9 hn => ?_)
        have h := h v9 hn
        refine gh_istore (L2 := [(9, 0, v9), (8, 0, v8), (0, 2, 47), (1, 0, v1), (3, 0, v3), (4, 0, v4), (5, 0, v5), (6, 0, v6), (7, 0, v7)]) gd_Picker_pushParts_103 (by decide) rfl ?_
        refine gh_aload_n gd_Picker_pushParts_105 2 rfl (by decide) ?_
        refine gf_47_0 gd_Picker_pushParts_106 gh_k447 hF ?_
        refine gh_iload_n gd_Picker_pushParts_109 3 rfl ?_
        refine gh_iload gd_Picker_pushParts_110 8 rfl ?_
        obtain ⟨q1775, h⟩ := h
        refine cv_Grammar_nameAt (d := d + 1) gd_Picker_pushParts_112 gh_k1162 hF (Nat.le_of_ble_eq_true rfl) (gh_C.pe (e_Grammar_nameAt d v1 v7 hF q1775) ?_)
        refine gh_name (fun v10 hn => ?_)
        have h := h v10 hn
        refine gh_istore (L2 := [(10, 0, v10), (9, 0, v9), (8, 0, v8), (0, 2, 47), (1, 0, v1), (3, 0, v3), (4, 0, v4), (5, 0, v5), (6, 0, v6), (7, 0, v7)]) gd_Picker_pushParts_115 (by decide) rfl ?_
        refine gh_aload_n gd_Picker_pushParts_117 3 rfl (by decide) ?_
        refine gh_iload gd_Picker_pushParts_118 0 rfl ?_
        refine gh_iconst gd_Picker_pushParts_120 (gh_r0 rfl) ?_
        obtain ⟨hk, h⟩ := h
        have k1778 : ∀ x1779 : Int, x1779 = (if v10 = (-1) then ((-1) - (x_Text_letterAt v8 m)) else v10) → gh_T E (gh_yPicker_pushParts.cls, prog_7_method_6_code, 11, false, 9) (d + 2) 140 [(10, 0, v10), (9, 0, v9), (8, 0, v8), (0, 2, 47), (1, 0, v1), (3, 0, v3), (4, 0, v4), (5, 0, v5), (6, 0, v6), (7, 0, v7)] [(0, x1779), (2, 47)] m (fun r m1 => gh_F m1 ∧ Q r m1) := by
          rintro _ rfl
          refine gh_iload gd_Picker_pushParts_140 2 rfl ?_
          refine gh_aload_n gd_Picker_pushParts_142 3 rfl (by decide) ?_
          refine gf_47_15 gd_Picker_pushParts_143 gh_k465 hF ?_
          refine gh_iload gd_Picker_pushParts_146 9 rfl ?_
          obtain ⟨q1780, h⟩ := h
          obtain ⟨q1781, h⟩ := h
          refine la_56 gd_Picker_pushParts_148 hF q1780 q1781 rfl ?_
          refine gh_iload gd_Picker_pushParts_149 1 rfl ?_
          have k1782 : ∀ x1783 : Int, x1783 = (if v9 = 0 then 0 else v5) → gh_T E (gh_yPicker_pushParts.cls, prog_7_method_6_code, 11, false, 9) (d + 2) 160 [(10, 0, v10), (9, 0, v9), (8, 0, v8), (0, 2, 47), (1, 0, v1), (3, 0, v3), (4, 0, v4), (5, 0, v5), (6, 0, v6), (7, 0, v7)] [(0, x1783), (0, m 56 v7), (0, v8), (0, (if v10 = (-1) then ((-1) - (x_Text_letterAt v8 m)) else v10)), (2, 47)] m (fun r m1 => gh_F m1 ∧ Q r m1) := by
            rintro _ rfl
            refine gh_iload gd_Picker_pushParts_160 8 rfl ?_
            refine gh_aload_n gd_Picker_pushParts_162 3 rfl (by decide) ?_
            refine gf_47_16 gd_Picker_pushParts_163 gh_k466 hF ?_
            refine gh_iload gd_Picker_pushParts_166 9 rfl ?_
            obtain ⟨q1784, h⟩ := h
            obtain ⟨q1785, h⟩ := h
            refine la_57 gd_Picker_pushParts_168 hF q1784 q1785 rfl ?_
            refine cv_Picker_push (d := d + 1) gd_Picker_pushParts_169 gh_k1132 hF (Nat.le_of_ble_eq_true rfl) (gh_C.mono (s_Picker_push (d + 1) (if v10 = (-1) then ((-1) - (x_Text_letterAt v8 m)) else v10) v8 (m 56 v7) (if v9 = 0 then 0 else v5) v6 (m 57 v7) hF h) (fun r1786 m1787 hq => ?_))
            obtain ⟨hF, h⟩ := hq
            obtain ⟨q1788, h⟩ := h
            refine gh_iinc (L2 := [(7, 0, v7 + (-1)), (10, 0, v10), (9, 0, v9), (8, 0, v8), (0, 2, 47), (1, 0, v1), (3, 0, v3), (4, 0, v4), (5, 0, v5), (6, 0, v6)]) gd_Picker_pushParts_172 9 rfl q1788 (by decide) rfl ?_
            refine gh_goto (tgt := 55) gd_Picker_pushParts_175 (by decide) ?_
            refine gh_pick (L2 := [(0, 2, 47), (1, 0, v1), (3, 0, v3), (4, 0, v4), (5, 0, v5), (6, 0, v6), (7, 0, v7 + (-1))]) [4, 5, 6, 7, 8, 9, 0] rfl ?_
            exact hK55 (v7 + (-1)) m1787 hF h
          refine gh_zeq (tgt := 159) gd_Picker_pushParts_151 (by decide) (fun c1789 => ?_) (fun c1789 => ?_)
          · have hz : True := trivial
            refine gh_iconst gd_Picker_pushParts_159 (gh_r0 rfl) ?_
            exact k1782 _ (by rw [if_pos c1789])
          · have hz : True := trivial
            refine gh_iload gd_Picker_pushParts_154 7 rfl ?_
            refine gh_goto (tgt := 160) gd_Picker_pushParts_156 (by decide) ?_
            exact k1782 _ (by rw [if_neg c1789])
        refine gh_jeq (tgt := 129) gd_Picker_pushParts_121 (by decide) (fun c1790 => ?_) (fun c1790 => ?_)
        · have hz : True := trivial
          have hk := hk c1790
          refine gh_iconst gd_Picker_pushParts_129 (gh_r0 rfl) ?_
          refine gh_aload_n gd_Picker_pushParts_130 3 rfl (by decide) ?_
          refine gf_47_1 gd_Picker_pushParts_131 gh_k448 hF ?_
          refine gh_iload gd_Picker_pushParts_134 2 rfl ?_
          obtain ⟨q1776, hk⟩ := hk
          refine cv_Text_letterAt (d := d + 1) gd_Picker_pushParts_136 gh_k1163 hF (Nat.le_of_ble_eq_true rfl) (gh_C.pe (e_Text_letterAt (d + 1) v8 hF q1776) ?_)
          have q1777 := hk
          refine gh_isub gd_Picker_pushParts_139 q1777 ?_
          exact k1778 _ (by rw [if_pos c1790])
        · have hz : True := trivial
          refine gh_iload gd_Picker_pushParts_124 0 rfl ?_
          refine gh_goto (tgt := 140) gd_Picker_pushParts_126 (by decide) ?_
          exact k1778 _ (by rw [if_neg c1790])
      refine gh_jne (tgt := 102) gd_Picker_pushParts_83 (by decide) (fun c1791 => ?_) (fun c1791 => ?_)
      · have hz : True := trivial
        have hk := hk c1791
        refine gh_aload_n gd_Picker_pushParts_86 1 rfl (by decide) ?_
        refine gf_47_15 gd_Picker_pushParts_87 gh_k465 hF ?_
        refine gh_iload gd_Picker_pushParts_90 7 rfl ?_
        obtain ⟨q1771, hk⟩ := hk
        have q1772 := hk
        refine la_56 gd_Picker_pushParts_92 hF q1771 q1772 rfl ?_
        refine gh_iload gd_Picker_pushParts_93 4 rfl ?_
        refine gh_jne (tgt := 102) gd_Picker_pushParts_95 (by decide) (fun c1792 => ?_) (fun c1792 => ?_)
        · have hz : True := trivial
          refine gh_iconst gd_Picker_pushParts_98 (gh_r0 rfl) ?_
          refine gh_goto (tgt := 103) gd_Picker_pushParts_99 (by decide) ?_
          exact k1773 _ (if_pos (c := ((v8 = v3) ∧ ((m 56 v7) = v4))) ⟨c1791, c1792⟩).symm
        · have hz : True := trivial
          refine gh_iconst gd_Picker_pushParts_102 (gh_r0 rfl) ?_
          exact k1773 _ (if_neg (c := ((v8 = v3) ∧ ((m 56 v7) = v4))) (fun z => c1792 z.2)).symm
      · have hz : True := trivial
        refine gh_iconst gd_Picker_pushParts_102 (gh_r0 rfl) ?_
        exact k1773 _ (if_neg (c := ((v8 = v3) ∧ ((m 56 v7) = v4))) (fun z => c1791 z.1)).symm
    refine gh_zne (tgt := 69) gd_Picker_pushParts_62 (by decide) (fun c1793 => ?_) (fun c1793 => ?_)
    · have hz : True := trivial
      refine gh_iload_n gd_Picker_pushParts_65 2 rfl ?_
      refine gh_goto (tgt := 78) gd_Picker_pushParts_66 (by decide) ?_
      exact k1769 _ (by rw [if_pos c1793])
    · have hz : True := trivial
      have hk := hk c1793
      refine gh_aload_n gd_Picker_pushParts_69 0 rfl (by decide) ?_
      refine gf_47_15 gd_Picker_pushParts_70 gh_k465 hF ?_
      refine gh_iload gd_Picker_pushParts_73 6 rfl ?_
      refine gh_iconst gd_Picker_pushParts_75 (gh_r0 rfl) ?_
      obtain ⟨q1766, hk⟩ := hk
      refine gh_isub gd_Picker_pushParts_76 q1766 ?_
      obtain ⟨q1767, hk⟩ := hk
      have q1768 := hk
      refine la_56 gd_Picker_pushParts_77 hF q1767 q1768 rfl ?_
      exact k1769 _ (by rw [if_neg c1793])
theorem s_Picker_pushParts {E : gh_E} {m : gh_M} {Q : Int → gh_M → Prop} (d : Nat) (v1 : Int) (v2 : Int) (hF : gh_F m) (h : w_Picker_pushParts v1 v2 m Q) : gh_C E gh_yPicker_pushParts prog_7_method_6_code 11 none 9 (d + 2) [(2, 47), (0, v1), (0, v2)] m (fun r m1 => gh_F m1 ∧ Q r m1) := by
  refine gh_enter2 (L := [(0, 2, 47), (1, 0, v1), (2, 0, v2)]) (by decide +kernel) gh_rt9 (Nat.le_of_ble_eq_true rfl) rfl rfl ?_
  unfold w_Picker_pushParts at h
  refine gh_aload_n gd_Picker_pushParts_0 0 rfl (by decide) ?_
  refine gf_47_9 gd_Picker_pushParts_1 gh_k459 hF ?_
  refine gh_iload_n gd_Picker_pushParts_4 2 rfl ?_
  obtain ⟨q1751, h⟩ := h
  obtain ⟨q1752, h⟩ := h
  refine la_51 gd_Picker_pushParts_5 hF q1751 q1752 rfl ?_
  refine gh_name (fun v3 hn => ?_)
  have h := h v3 hn
  refine gh_istore_n (L2 := [(3, 0, v3), (0, 2, 47), (1, 0, v1), (2, 0, v2)]) gd_Picker_pushParts_6 (by decide) rfl ?_
  refine gh_aload_n gd_Picker_pushParts_7 1 rfl (by decide) ?_
  refine gf_47_10 gd_Picker_pushParts_8 gh_k460 hF ?_
  refine gh_iload_n gd_Picker_pushParts_11 3 rfl ?_
  obtain ⟨q1753, h⟩ := h
  obtain ⟨q1754, h⟩ := h
  refine la_52 gd_Picker_pushParts_12 hF q1753 q1754 rfl ?_
  refine gh_name (fun v4 hn => ?_)
  have h := h v4 hn
  refine gh_istore (L2 := [(4, 0, v4), (3, 0, v3), (0, 2, 47), (1, 0, v1), (2, 0, v2)]) gd_Picker_pushParts_13 (by decide) rfl ?_
  refine gh_aload_n gd_Picker_pushParts_15 2 rfl (by decide) ?_
  refine gf_47_11 gd_Picker_pushParts_16 gh_k461 hF ?_
  refine gh_iload_n gd_Picker_pushParts_19 4 rfl ?_
  obtain ⟨q1755, h⟩ := h
  obtain ⟨q1756, h⟩ := h
  refine la_53 gd_Picker_pushParts_20 hF q1755 q1756 rfl ?_
  refine gh_iconst gd_Picker_pushParts_21 (gh_r0 rfl) ?_
  refine gh_aload_n gd_Picker_pushParts_22 2 rfl (by decide) ?_
  refine gf_47_8 gd_Picker_pushParts_23 gh_k458 hF ?_
  refine gh_iload_n gd_Picker_pushParts_26 4 rfl ?_
  obtain ⟨q1757, h⟩ := h
  obtain ⟨q1758, h⟩ := h
  refine la_50 gd_Picker_pushParts_27 hF q1757 q1758 rfl ?_
  refine gh_ishl gd_Picker_pushParts_28 ?_
  refine gh_ior gd_Picker_pushParts_29 ?_
  refine gh_name (fun v5 hn => ?_)
  have h := h v5 hn
  refine gh_istore (L2 := [(5, 0, v5), (4, 0, v4), (3, 0, v3), (0, 2, 47), (1, 0, v1), (2, 0, v2)]) gd_Picker_pushParts_30 (by decide) rfl ?_
  refine gh_aload_n gd_Picker_pushParts_32 3 rfl (by decide) ?_
  refine gf_47_12 gd_Picker_pushParts_33 gh_k462 hF ?_
  refine gh_iload_n gd_Picker_pushParts_36 5 rfl ?_
  obtain ⟨q1759, h⟩ := h
  obtain ⟨q1760, h⟩ := h
  refine la_54 gd_Picker_pushParts_37 hF q1759 q1760 rfl ?_
  refine gh_iconst gd_Picker_pushParts_38 (gh_r0 rfl) ?_
  obtain ⟨q1761, h⟩ := h
  refine gh_iadd gd_Picker_pushParts_39 q1761 ?_
  refine gh_name (fun v6 hn => ?_)
  have h := h v6 hn
  refine gh_istore (L2 := [(6, 0, v6), (5, 0, v5), (4, 0, v4), (3, 0, v3), (0, 2, 47), (1, 0, v1), (2, 0, v2)]) gd_Picker_pushParts_40 (by decide) rfl ?_
  refine gh_aload_n gd_Picker_pushParts_42 4 rfl (by decide) ?_
  refine gf_47_0 gd_Picker_pushParts_43 gh_k447 hF ?_
  refine gf_13_6 gd_Picker_pushParts_46 gh_k207 hF ?_
  refine gh_iload_n gd_Picker_pushParts_49 5 rfl ?_
  obtain ⟨q1762, h⟩ := h
  obtain ⟨q1763, h⟩ := h
  refine la_17 gd_Picker_pushParts_50 hF q1762 q1763 rfl ?_
  refine gh_iconst gd_Picker_pushParts_51 (gh_r0 rfl) ?_
  obtain ⟨q1764, h⟩ := h
  refine gh_isub gd_Picker_pushParts_52 q1764 ?_
  refine gh_name (fun v7 hn => ?_)
  have h := h v7 hn
  refine gh_istore (L2 := [(7, 0, v7), (6, 0, v6), (5, 0, v5), (4, 0, v4), (3, 0, v3), (0, 2, 47), (1, 0, v1), (2, 0, v2)]) gd_Picker_pushParts_53 (by decide) rfl ?_
  refine gh_pick (L2 := [(0, 2, 47), (1, 0, v1), (3, 0, v3), (4, 0, v4), (5, 0, v5), (6, 0, v6), (7, 0, v7)]) [5, 6, 4, 3, 2, 1, 0] rfl ?_
  exact gh_M1_sound (T := fun v7 m => gh_T E (gh_yPicker_pushParts.cls, prog_7_method_6_code, 11, false, 9) (d + 2) 55 [(0, 2, 47), (1, 0, v1), (3, 0, v3), (4, 0, v4), (5, 0, v5), (6, 0, v6), (7, 0, v7)] [] m (fun r m1 => gh_F m1 ∧ Q r m1)) (fun _ m => gh_F m) (fun K55 v7 m hK hF h => b_Picker_pushParts_55 d hK v7 m hF h) v7 m hF h
def f_Picker_choose_28 (Q : Int → gh_M → Prop) (K28 : Int → gh_M → Prop) (v3 : Int) (m : gh_M) : Prop := (((m 47 14) ≤ 0 → 0 ≤ v3 ∧ 0 + v3 ≤ 300 ∧ 0 + v3 ≤ 300 ∧ Q (v3) (gh_u (gh_u (gh_cpy m 49 0 48 0 v3) 47 4 v3) 47 5 ((gh_cpy m 49 0 48 0 v3) 47 7))) ∧ (¬ ((m 47 14) ≤ 0) → ((v3 = 300 → Q (-1004) m) ∧ (¬ (v3 = 300) → gh_i ((m 47 14) - 1) ∧ 0 ≤ ((m 47 14) - 1) ∧ (((m 47 14) - 1)) < 289 ∧ ∃ J161 : gh_M → Prop, (∀ (m : gh_M), J161 m → gh_i (v3 + 1) ∧ K28 (v3 + 1) m) ∧ (((m 50 (((m 47 14) - 1))) < 0 → 0 ≤ ((m 47 14) - 1) ∧ (((m 47 14) - 1)) < 289 ∧ 0 ≤ v3 ∧ v3 < 300 ∧ J161 (gh_u (gh_u m 47 14 ((m 47 14) - 1)) 49 v3 (m 50 (((m 47 14) - 1))))) ∧ (¬ ((m 50 (((m 47 14) - 1))) < 0) → 0 ≤ ((m 47 14) - 1) ∧ (((m 47 14) - 1)) < 289 ∧ w_Picker_ruleOf (m 50 (((m 47 14) - 1))) (((m 47 14) - 1)) (gh_u m 47 14 ((m 47 14) - 1)) (fun r1812 m1813 => ((r1812 = (-1) → Q (-1) m1813) ∧ (¬ (r1812 = (-1)) → 0 ≤ v3 ∧ v3 < 300 ∧ 0 ≤ m1813 47 14 ∧ (m1813 47 14) < 289 ∧ w_Picker_shareOut r1812 (m1813 47 14) (gh_u (gh_u m1813 49 v3 r1812) 47 7 (max (m1813 47 7) (m1813 54 (m1813 47 14)))) (fun _ m1820 => w_Picker_pushParts r1812 (m1820 47 14) m1820 (fun _ m1822 => J161 m1822)))))))))))
def w_Picker_choose (v1 : Int) (m : gh_M) (Q : Int → gh_M → Prop) : Prop := w_Picker_push 0 0 (m 26 3) 0 1 v1 (gh_u (gh_u m 47 7 0) 47 14 0) (fun _ m1795 => gh_M1 (fun K28 v3 m => f_Picker_choose_28 Q K28 v3 m) 0 m1795)
theorem b_Picker_choose_28 {E : gh_E} {Q : Int → gh_M → Prop} {K28 : Int → gh_M → Prop} (d : Nat) (hK : ∀ (v3 : Int) (m : gh_M), gh_F m → K28 v3 m → gh_T E (gh_yPicker_choose.cls, prog_7_method_2_code, 5, false, 0) (d + 34) 28 [(0, 2, 47), (3, 0, v3)] [] m (fun r m1 => gh_F m1 ∧ Q r m1)) (v3 : Int) (m : gh_M) (hF : gh_F m) (h : f_Picker_choose_28 Q K28 v3 m) : gh_T E (gh_yPicker_choose.cls, prog_7_method_2_code, 5, false, 0) (d + 34) 28 [(0, 2, 47), (3, 0, v3)] [] m (fun r m1 => gh_F m1 ∧ Q r m1) := by
  have hK28 := hK
  unfold f_Picker_choose_28 at h
  refine gh_aload_n gd_Picker_choose_28 0 rfl (by decide) ?_
  refine gf_47_14 gd_Picker_choose_29 gh_k464 hF rfl ?_
  obtain ⟨hA, hB⟩ := h
  refine gh_zle (tgt := 167) gd_Picker_choose_32 (by decide) (fun c1796 => ?_) (fun c1796 => ?_)
  · have h := hA c1796
    refine gh_aload_n gd_Picker_choose_167 0 rfl (by decide) ?_
    refine gf_47_6 gd_Picker_choose_168 gh_k456 hF ?_
    refine gh_iconst gd_Picker_choose_171 (gh_r0 rfl) ?_
    refine gh_aload_n gd_Picker_choose_172 0 rfl (by decide) ?_
    refine gf_47_3 gd_Picker_choose_173 gh_k450 hF ?_
    refine gh_iconst gd_Picker_choose_176 (gh_r0 rfl) ?_
    refine gh_iload_n gd_Picker_choose_177 1 rfl ?_
    obtain ⟨q1797, h⟩ := h
    obtain ⟨q1798, h⟩ := h
    obtain ⟨q1799, h⟩ := h
    refine gh_copyF gd_Picker_choose_178 gh_k1167 gh_k898 gh_k897 gh_k70 (ga_49 hF) (ga_48 hF) (by decide) (by decide) (by decide) q1797 q1798 q1799 (Nat.le_of_ble_eq_true rfl) hF gn_48 (fun hF => ?_)
    refine gh_aload_n gd_Picker_choose_181 0 rfl (by decide) ?_
    refine gh_iload_n gd_Picker_choose_182 1 rfl ?_
    refine pf_47_4 gd_Picker_choose_183 gh_k452 hF (fun hF => ?_)
    refine gh_aload_n gd_Picker_choose_186 0 rfl (by decide) ?_
    refine gh_aload_n gd_Picker_choose_187 0 rfl (by decide) ?_
    refine gf_47_7 gd_Picker_choose_188 gh_k457 hF (gh_u_i (by decide)) ?_
    refine pf_47_5 gd_Picker_choose_191 gh_k454 hF (fun hF => ?_)
    refine gh_aload_n gd_Picker_choose_194 0 rfl (by decide) ?_
    refine gf_47_4 gd_Picker_choose_195 gh_k452 hF ((gh_u_i (by decide)).trans (gh_u_s _ _ _ _)) ?_
    exact gh_ret0 rfl gd_Picker_choose_198 ⟨hF, h⟩
  · have h := hB c1796
    refine gh_iload_n gd_Picker_choose_35 1 rfl ?_
    refine gh_sipush gd_Picker_choose_36 (by decide) (gh_r0 rfl) ?_
    obtain ⟨hA, hB⟩ := h
    refine gh_jne (tgt := 46) gd_Picker_choose_39 (by decide) (fun c1800 => ?_) (fun c1800 => ?_)
    · have h := hA c1800
      refine gh_sipush gd_Picker_choose_42 (by decide) (gh_r0 rfl) ?_
      exact gh_ret0 rfl gd_Picker_choose_45 ⟨hF, h⟩
    · have h := hB c1800
      refine gh_aload_n gd_Picker_choose_46 0 rfl (by decide) ?_
      refine gh_dup gd_Picker_choose_47 (by decide) ?_
      refine gf_47_14 gd_Picker_choose_48 gh_k464 hF rfl ?_
      refine gh_iconst gd_Picker_choose_51 (gh_r0 rfl) ?_
      obtain ⟨q1801, h⟩ := h
      refine gh_isub gd_Picker_choose_52 q1801 ?_
      refine pf_47_14 gd_Picker_choose_53 gh_k464 hF (fun hF => ?_)
      refine gh_aload_n gd_Picker_choose_56 0 rfl (by decide) ?_
      refine gf_47_8 gd_Picker_choose_57 gh_k458 hF ?_
      refine gh_aload_n gd_Picker_choose_60 0 rfl (by decide) ?_
      refine gf_47_14 gd_Picker_choose_61 gh_k464 hF (gh_u_s _ _ _ _) ?_
      obtain ⟨q1802, h⟩ := h
      obtain ⟨q1803, h⟩ := h
      refine la_50 gd_Picker_choose_64 hF q1802 q1803 (gh_u_a (by decide)) ?_
      obtain ⟨J161, hJ161, h⟩ := h
      have hJ161 : ∀ (m : gh_M), gh_F m → J161 m → gh_T E (gh_yPicker_choose.cls, prog_7_method_2_code, 5, false, 0) (d + 34) 161 [(0, 2, 47), (3, 0, v3)] [] m (fun r m1 => gh_F m1 ∧ Q r m1) := by
        intro m hF hj
        have h := hJ161 m hj
        obtain ⟨q1804, h⟩ := h
        refine gh_iinc (L2 := [(3, 0, v3 + 1), (0, 2, 47)]) gd_Picker_choose_161 1 rfl q1804 (by decide) rfl ?_
        refine gh_goto (tgt := 28) gd_Picker_choose_164 (by decide) ?_
        refine gh_pick (L2 := [(0, 2, 47), (3, 0, v3 + 1)]) [1, 0] rfl ?_
        exact hK28 (v3 + 1) m hF h
      obtain ⟨hA, hB⟩ := h
      refine gh_zge (tgt := 86) gd_Picker_choose_65 (by decide) (fun c1805 => ?_) (fun c1805 => ?_)
      · have h := hA c1805
        refine gh_aload_n gd_Picker_choose_68 0 rfl (by decide) ?_
        refine gf_47_6 gd_Picker_choose_69 gh_k456 hF ?_
        refine gh_iload_n gd_Picker_choose_72 1 rfl ?_
        refine gh_aload_n gd_Picker_choose_73 0 rfl (by decide) ?_
        refine gf_47_8 gd_Picker_choose_74 gh_k458 hF ?_
        refine gh_aload_n gd_Picker_choose_77 0 rfl (by decide) ?_
        refine gf_47_14 gd_Picker_choose_78 gh_k464 hF (gh_u_s _ _ _ _) ?_
        obtain ⟨q1806, h⟩ := h
        obtain ⟨q1807, h⟩ := h
        refine la_50 gd_Picker_choose_81 hF q1806 q1807 (gh_u_a (by decide)) ?_
        obtain ⟨q1808, h⟩ := h
        obtain ⟨q1809, h⟩ := h
        refine sa_49 gd_Picker_choose_82 hF q1808 q1809 (fun hF => ?_)
        refine gh_goto (tgt := 161) gd_Picker_choose_83 (by decide) ?_
        exact hJ161 (gh_u (gh_u m 47 14 ((m 47 14) - 1)) 49 v3 (m 50 (((m 47 14) - 1)))) hF h
      · have h := hB c1805
        refine gh_aload_n gd_Picker_choose_86 0 rfl (by decide) ?_
        refine gh_aload_n gd_Picker_choose_87 0 rfl (by decide) ?_
        refine gf_47_8 gd_Picker_choose_88 gh_k458 hF ?_
        refine gh_aload_n gd_Picker_choose_91 0 rfl (by decide) ?_
        refine gf_47_14 gd_Picker_choose_92 gh_k464 hF (gh_u_s _ _ _ _) ?_
        obtain ⟨q1810, h⟩ := h
        obtain ⟨q1811, h⟩ := h
        refine la_50 gd_Picker_choose_95 hF q1810 q1811 (gh_u_a (by decide)) ?_
        refine gh_aload_n gd_Picker_choose_96 0 rfl (by decide) ?_
        refine gf_47_14 gd_Picker_choose_97 gh_k464 hF (gh_u_s _ _ _ _) ?_
        refine cv_Picker_ruleOf (d := d + 33) gd_Picker_choose_100 gh_k1136 hF (Nat.le_of_ble_eq_true rfl) (gh_C.mono (s_Picker_ruleOf d (m 50 (((m 47 14) - 1))) (((m 47 14) - 1)) hF h) (fun r1812 m1813 hq => ?_))
        obtain ⟨hF, h⟩ := hq
        refine gh_istore (L2 := [(4, 0, r1812), (0, 2, 47), (3, 0, v3)]) gd_Picker_choose_103 (by decide) rfl ?_
        refine gh_iload gd_Picker_choose_105 0 rfl ?_
        refine gh_iconst gd_Picker_choose_107 (gh_r0 rfl) ?_
        obtain ⟨hA, hB⟩ := h
        refine gh_jne (tgt := 113) gd_Picker_choose_108 (by decide) (fun c1814 => ?_) (fun c1814 => ?_)
        · have h := hA c1814
          refine gh_iconst gd_Picker_choose_111 (gh_r0 rfl) ?_
          exact gh_ret0 rfl gd_Picker_choose_112 ⟨hF, h⟩
        · have h := hB c1814
          refine gh_aload_n gd_Picker_choose_113 1 rfl (by decide) ?_
          refine gf_47_6 gd_Picker_choose_114 gh_k456 hF ?_
          refine gh_iload_n gd_Picker_choose_117 2 rfl ?_
          refine gh_iload gd_Picker_choose_118 0 rfl ?_
          obtain ⟨q1815, h⟩ := h
          obtain ⟨q1816, h⟩ := h
          refine sa_49 gd_Picker_choose_120 hF q1815 q1816 (fun hF => ?_)
          refine gh_aload_n gd_Picker_choose_121 1 rfl (by decide) ?_
          refine gh_aload_n gd_Picker_choose_122 1 rfl (by decide) ?_
          refine gf_47_7 gd_Picker_choose_123 gh_k457 hF (gh_u_a (by decide)) ?_
          refine gh_aload_n gd_Picker_choose_126 1 rfl (by decide) ?_
          refine gf_47_12 gd_Picker_choose_127 gh_k462 hF ?_
          refine gh_aload_n gd_Picker_choose_130 1 rfl (by decide) ?_
          refine gf_47_14 gd_Picker_choose_131 gh_k464 hF (gh_u_a (by decide)) ?_
          obtain ⟨q1817, h⟩ := h
          obtain ⟨q1818, h⟩ := h
          refine la_54 gd_Picker_choose_134 hF q1817 q1818 (gh_u_a (by decide)) ?_
          refine gh_pr_max gd_Picker_choose_135 gh_k1146 (Nat.le_of_ble_eq_true rfl) ?_
          refine pf_47_7 gd_Picker_choose_138 gh_k457 hF (fun hF => ?_)
          refine gh_aload_n gd_Picker_choose_141 1 rfl (by decide) ?_
          refine gh_iload gd_Picker_choose_142 0 rfl ?_
          refine gh_aload_n gd_Picker_choose_144 1 rfl (by decide) ?_
          refine gf_47_14 gd_Picker_choose_145 gh_k464 hF ((gh_u_i (by decide)).trans (gh_u_a (by decide))) ?_
          refine cv_Picker_shareOut (d := d + 33) gd_Picker_choose_148 gh_k1147 hF (Nat.le_of_ble_eq_true rfl) (gh_C.mono (s_Picker_shareOut (d + 1) r1812 (m1813 47 14) hF h) (fun r1819 m1820 hq => ?_))
          obtain ⟨hF, h⟩ := hq
          refine gh_aload_n gd_Picker_choose_151 1 rfl (by decide) ?_
          refine gh_iload gd_Picker_choose_152 0 rfl ?_
          refine gh_aload_n gd_Picker_choose_154 1 rfl (by decide) ?_
          refine gf_47_14 gd_Picker_choose_155 gh_k464 hF rfl ?_
          refine cv_Picker_pushParts (d := d + 33) gd_Picker_choose_158 gh_k1158 hF (Nat.le_of_ble_eq_true rfl) (gh_C.mono (s_Picker_pushParts (d + 31) r1812 (m1820 47 14) hF h) (fun r1821 m1822 hq => ?_))
          obtain ⟨hF, h⟩ := hq
          refine gh_pick (L2 := [(0, 2, 47), (3, 0, v3)]) [1, 2] rfl ?_
          exact hJ161 m1822 hF h
theorem s_Picker_choose {E : gh_E} {m : gh_M} {Q : Int → gh_M → Prop} (d : Nat) (v1 : Int) (hF : gh_F m) (h : w_Picker_choose v1 m Q) : gh_C E gh_yPicker_choose prog_7_method_2_code 5 (some .int) 0 (d + 34) [(2, 47), (1, v1)] m (fun r m1 => gh_F m1 ∧ Q r m1) := by
  refine gh_enter2 (L := [(0, 2, 47), (1, 1, v1)]) (by decide +kernel) gh_rt0 (Nat.le_of_ble_eq_true rfl) rfl rfl ?_
  unfold w_Picker_choose at h
  refine gh_aload_n gd_Picker_choose_0 0 rfl (by decide) ?_
  refine gh_iconst gd_Picker_choose_1 (gh_r0 rfl) ?_
  refine pf_47_7 gd_Picker_choose_2 gh_k457 hF (fun hF => ?_)
  refine gh_aload_n gd_Picker_choose_5 0 rfl (by decide) ?_
  refine gh_iconst gd_Picker_choose_6 (gh_r0 rfl) ?_
  refine pf_47_14 gd_Picker_choose_7 gh_k464 hF (fun hF => ?_)
  refine gh_aload_n gd_Picker_choose_10 0 rfl (by decide) ?_
  refine gh_iconst gd_Picker_choose_11 (gh_r0 rfl) ?_
  refine gh_iconst gd_Picker_choose_12 (gh_r0 rfl) ?_
  refine gh_aload_n gd_Picker_choose_13 0 rfl (by decide) ?_
  refine gf_47_1 gd_Picker_choose_14 gh_k448 hF ?_
  refine gf_26_3 gd_Picker_choose_17 gh_k295 hF ((gh_u_a (by decide)).trans (gh_u_a (by decide))) ?_
  refine gh_iconst gd_Picker_choose_20 (gh_r0 rfl) ?_
  refine gh_iconst gd_Picker_choose_21 (gh_r0 rfl) ?_
  refine gh_lload_n gd_Picker_choose_22 1 rfl ?_
  refine cv_Picker_push (d := d + 33) gd_Picker_choose_23 gh_k1132 hF (Nat.le_of_ble_eq_true rfl) (gh_C.mono (s_Picker_push (d + 33) 0 0 (m 26 3) 0 1 v1 hF h) (fun r1794 m1795 hq => ?_))
  obtain ⟨hF, h⟩ := hq
  refine gh_iconst gd_Picker_choose_26 (gh_r0 rfl) ?_
  refine gh_istore_n (L2 := [(3, 0, 0), (0, 2, 47), (1, 1, v1)]) gd_Picker_choose_27 (by decide) rfl ?_
  refine gh_pick (L2 := [(0, 2, 47), (3, 0, 0)]) [1, 0] rfl ?_
  exact gh_M1_sound (T := fun v3 m => gh_T E (gh_yPicker_choose.cls, prog_7_method_2_code, 5, false, 0) (d + 34) 28 [(0, 2, 47), (3, 0, v3)] [] m (fun r m1 => gh_F m1 ∧ Q r m1)) (fun _ m => gh_F m) (fun K28 v3 m hK hF h => b_Picker_choose_28 d hK v3 m hF h) 0 m1795 hF h
def w_House_pick (v1 : Int) (m : gh_M) (Q : Int → gh_M → Prop) : Prop := (((¬ (v1 < 0) ∧ (v1 < 1000000000000000000)) → (((m 2 10) = 0 → Q (-1003) m) ∧ (¬ ((m 2 10) = 0) → w_Chart_refresh m (fun _ m1827 => w_Forest_treesOf 0 0 (m1827 26 3) m1827 (fun r1828 m1829 => ((v1 < r1828 → w_Picker_choose v1 m1829 (fun r1831 m1832 => Q r1831 m1832)) ∧ (¬ (v1 < r1828) → Q (-1) m1829))))))) ∧ (¬ (¬ (v1 < 0) ∧ (v1 < 1000000000000000000)) → Q (-1002) m))
theorem s_House_pick {E : gh_E} {m : gh_M} {Q : Int → gh_M → Prop} (d : Nat) (v1 : Int) (hF : gh_F m) (h : w_House_pick v1 m Q) : gh_C E gh_yHouse_pick prog_1_method_27_code 3 (some .int) 0 (d + 35) [(2, 2), (1, v1)] m (fun r m1 => gh_F m1 ∧ Q r m1) := by
  refine gh_enter2 (L := [(0, 2, 2), (1, 1, v1)]) (by decide +kernel) gh_rt0 (Nat.le_of_ble_eq_true rfl) rfl rfl ?_
  unfold w_House_pick at h
  refine gh_lload_n gd_House_pick_0 1 rfl ?_
  refine gh_lconst (n := 0) gd_House_pick_1 (by decide) (gh_r1 rfl) ?_
  refine gh_lcmp gd_House_pick_2 ?_
  obtain ⟨hA, hB⟩ := h
  have k1823 : (¬ (v1 < 0) ∧ (v1 < 1000000000000000000)) → gh_T E (gh_yHouse_pick.cls, prog_1_method_27_code, 3, false, 0) (d + 35) 18 [(0, 2, 2), (1, 1, v1)] [] m (fun r m1 => gh_F m1 ∧ Q r m1) := by
    intro c
    have h := hA c
    refine gh_aload_n gd_House_pick_18 0 rfl (by decide) ?_
    refine gf_2_10 gd_House_pick_19 gh_k550 hF rfl ?_
    obtain ⟨hA, hB⟩ := h
    refine gh_zne (tgt := 29) gd_House_pick_22 (by decide) (fun c1825 => ?_) (fun c1825 => ?_)
    · have h := hA c1825
      refine gh_sipush gd_House_pick_25 (by decide) (gh_r0 rfl) ?_
      exact gh_ret0 rfl gd_House_pick_28 ⟨hF, h⟩
    · have h := hB c1825
      refine gh_aload_n gd_House_pick_29 0 rfl (by decide) ?_
      refine gf_2_5 gd_House_pick_30 gh_k545 hF ?_
      refine cv_Chart_refresh (d := d + 34) gd_House_pick_33 gh_k907 hF (Nat.le_of_ble_eq_true rfl) (gh_C.mono (s_Chart_refresh (d + 29) hF h) (fun r1826 m1827 hq => ?_))
      obtain ⟨hF, h⟩ := hq
      refine gh_lload_n gd_House_pick_36 1 rfl ?_
      refine gh_aload_n gd_House_pick_37 0 rfl (by decide) ?_
      refine gf_2_7 gd_House_pick_38 gh_k547 hF ?_
      refine gh_iconst gd_House_pick_41 (gh_r0 rfl) ?_
      refine gh_iconst gd_House_pick_42 (gh_r0 rfl) ?_
      refine gh_aload_n gd_House_pick_43 0 rfl (by decide) ?_
      refine gf_2_4 gd_House_pick_44 gh_k544 hF ?_
      refine gf_26_3 gd_House_pick_47 gh_k297 hF rfl ?_
      refine cv_Forest_treesOf (d := d + 34) gd_House_pick_50 gh_k1028 hF (Nat.le_of_ble_eq_true rfl) (gh_C.mono (s_Forest_treesOf (d + 2) 0 0 (m1827 26 3) hF h) (fun r1828 m1829 hq => ?_))
      obtain ⟨hF, h⟩ := hq
      refine gh_lcmp gd_House_pick_53 ?_
      obtain ⟨hA, hB⟩ := h
      refine gh_cge (tgt := 68) gd_House_pick_54 (by decide) (fun c1830 => ?_) (fun c1830 => ?_)
      · have h := hA c1830
        refine gh_aload_n gd_House_pick_57 0 rfl (by decide) ?_
        refine gf_2_8 gd_House_pick_58 gh_k548 hF ?_
        refine gh_lload_n gd_House_pick_61 1 rfl ?_
        refine cv_Picker_choose (d := d + 34) gd_House_pick_62 gh_k1128 hF (Nat.le_of_ble_eq_true rfl) (gh_C.mono (s_Picker_choose d v1 hF h) (fun r1831 m1832 hq => ?_))
        obtain ⟨hF, h⟩ := hq
        refine gh_goto (tgt := 69) gd_House_pick_65 (by decide) ?_
        exact gh_ret0 rfl gd_House_pick_69 ⟨hF, h⟩
      · have h := hB c1830
        refine gh_iconst gd_House_pick_68 (gh_r0 rfl) ?_
        exact gh_ret0 rfl gd_House_pick_69 ⟨hF, h⟩
  have k1824 : ¬ (¬ (v1 < 0) ∧ (v1 < 1000000000000000000)) → gh_T E (gh_yHouse_pick.cls, prog_1_method_27_code, 3, false, 0) (d + 35) 14 [(0, 2, 2), (1, 1, v1)] [] m (fun r m1 => gh_F m1 ∧ Q r m1) := by
    intro c
    have h := hB c
    refine gh_sipush gd_House_pick_14 (by decide) (gh_r0 rfl) ?_
    exact gh_ret0 rfl gd_House_pick_17 ⟨hF, h⟩
  refine gh_clt (tgt := 14) gd_House_pick_3 (by decide) (fun c1833 => ?_) (fun c1833 => ?_)
  · have hz : True := trivial
    exact k1824 (fun z => z.1 c1833)
  · have hz : True := trivial
    refine gh_lload_n gd_House_pick_6 1 rfl ?_
    refine gh_ldc2 (n := 1000000000000000000) gd_House_pick_7 gh_k1079 (by decide) (gh_r1 rfl) ?_
    refine gh_lcmp gd_House_pick_10 ?_
    refine gh_clt (tgt := 18) gd_House_pick_11 (by decide) (fun c1834 => ?_) (fun c1834 => ?_)
    · have hz : True := trivial
      exact k1823 ⟨c1833, c1834⟩
    · have hz : True := trivial
      exact k1824 (fun z => c1834 z.2)
def w_Law_low_1_63 (v2 : Int) (m : gh_M) (Q : Int → gh_M → Prop) : Prop := (((m 0 3) = 0 → Q 0 m) ∧ (¬ ((m 0 3) = 0) → 0 ≤ m 63 0 ∧ 0 < m 0 3 ∧ ∀ v3 : Int, v3 = (m 63 0) % (m 0 3) → gh_i ((m 63 0) + 1) ∧ 0 ≤ v3 ∧ v3 < (gh_u m 63 0 ((m 63 0) + 1)) 0 3 ∧ gh_i (77 * (((m 63 0) + 1))) ∧ ∀ v4 : Int, v4 = (Int32.ofInt ((gh_u m 63 0 ((m 63 0) + 1)) 1 v3) + Int32.ofInt (77 * (((m 63 0) + 1)))).toInt → (((v4 < 0) → (gh_i (v4 + 1) ∧ gh_i (-(v4 + 1))))) ∧ ∀ v4' : Int, v4' = (if v4 < 0 then (-(v4 + 1)) else v4) → 0 ≤ ((m 63 0) + 1) ∧ gh_i (1 + ((((m 63 0) + 1)) % 5)) ∧ 0 ≤ v4' ∧ 0 < 1 + ((((m 63 0) + 1)) % 5) ∧ 0 ≤ v4' / (1 + ((((m 63 0) + 1)) % 5)) ∧ 0 < v2 ∧ Q ((v4' / (1 + ((((m 63 0) + 1)) % 5))) % v2) (gh_u m 63 0 ((m 63 0) + 1))))
theorem s_Law_low_1_63 {E : gh_E} {m : gh_M} {Q : Int → gh_M → Prop} (d : Nat) (v2 : Int) (hF : gh_F m) (h : w_Law_low_1_63 v2 m Q) : gh_C E gh_yLaw_low method_2_code 5 (some .int) 0 (d + 0) [(2, 1), (2, 63), (0, v2)] m (fun r m1 => gh_F m1 ∧ Q r m1) := by
  refine gh_enter2 (L := [(0, 2, 1), (1, 2, 63), (2, 0, v2)]) (by decide +kernel) gh_rt0 (Nat.le_of_ble_eq_true rfl) rfl rfl ?_
  unfold w_Law_low_1_63 at h
  refine gh_aload_n gd_Law_low_0 0 rfl (by decide) ?_
  refine gh_slen gd_Law_low_1 ?_
  obtain ⟨hA, hB⟩ := h
  refine gh_zne (tgt := 7) gd_Law_low_2 (by decide) (fun c1839 => ?_) (fun c1839 => ?_)
  · have h := hA c1839
    refine gh_iconst gd_Law_low_5 (gh_r0 rfl) ?_
    exact gh_ret0 rfl gd_Law_low_6 ⟨hF, h⟩
  · have h := hB c1839
    refine gh_aload_n gd_Law_low_7 1 rfl (by decide) ?_
    refine gh_iconst gd_Law_low_8 (gh_r0 rfl) ?_
    refine la_63 gd_Law_low_9 hF (by decide) (by decide) rfl ?_
    refine gh_aload_n gd_Law_low_10 0 rfl (by decide) ?_
    refine gh_slen gd_Law_low_11 ?_
    obtain ⟨q1840, h⟩ := h
    obtain ⟨q1841, h⟩ := h
    refine gh_irem gd_Law_low_12 q1840 q1841 ?_
    refine gh_name (fun v3 hn => ?_)
    have h := h v3 hn
    refine gh_istore_n (L2 := [(3, 0, v3), (0, 2, 1), (1, 2, 63), (2, 0, v2)]) gd_Law_low_13 (by decide) rfl ?_
    refine gh_aload_n gd_Law_low_14 2 rfl (by decide) ?_
    refine gh_iconst gd_Law_low_15 (gh_r0 rfl) ?_
    refine gh_dup2 gd_Law_low_16 (by decide) (by decide) ?_
    refine la_63 gd_Law_low_17 hF (by decide) (by decide) rfl ?_
    refine gh_iconst gd_Law_low_18 (gh_r0 rfl) ?_
    obtain ⟨q1842, h⟩ := h
    refine gh_iadd gd_Law_low_19 q1842 ?_
    refine sa_63 gd_Law_low_20 hF (by decide) (by decide) (fun hF => ?_)
    refine gh_aload_n gd_Law_low_21 1 rfl (by decide) ?_
    refine gh_iload_n gd_Law_low_22 0 rfl ?_
    obtain ⟨q1843, h⟩ := h
    obtain ⟨q1844, h⟩ := h
    refine gh_sald gd_Law_low_23 q1843 q1844 ?_
    refine gh_bipush gd_Law_low_24 (by decide) (gh_r0 rfl) ?_
    refine gh_aload_n gd_Law_low_26 2 rfl (by decide) ?_
    refine gh_iconst gd_Law_low_27 (gh_r0 rfl) ?_
    refine la_63 gd_Law_low_28 hF (by decide) (by decide) (gh_u_s _ _ _ _) ?_
    obtain ⟨q1845, h⟩ := h
    refine gh_imul gd_Law_low_29 q1845 ?_
    refine gh_wiadd gd_Law_low_30 ?_
    refine gh_name (fun v4 hn => ?_)
    have h := h v4 hn
    refine gh_istore (L2 := [(4, 0, v4), (3, 0, v3), (0, 2, 1), (1, 2, 63), (2, 0, v2)]) gd_Law_low_31 (by decide) rfl ?_
    refine gh_iload gd_Law_low_33 0 rfl ?_
    obtain ⟨hk, h⟩ := h
    have k1848 : ∀ x1849 : Int, x1849 = (if v4 < 0 then (-(v4 + 1)) else v4) → gh_T E (gh_yLaw_low.cls, method_2_code, 5, false, 0) (d + 0) 48 [(4, 0, v4), (3, 0, v3), (0, 2, 1), (1, 2, 63), (2, 0, v2)] [(0, x1849)] (gh_u m 63 0 ((m 63 0) + 1)) (fun r m1 => gh_F m1 ∧ Q r m1) := by
      rintro _ rfl
      refine gh_name (fun v4' hn => ?_)
      have h := h v4' hn
      refine gh_istore (L2 := [(4, 0, v4'), (3, 0, v3), (0, 2, 1), (1, 2, 63), (2, 0, v2)]) gd_Law_low_48 (by decide) rfl ?_
      refine gh_iload gd_Law_low_50 0 rfl ?_
      refine gh_iconst gd_Law_low_52 (gh_r0 rfl) ?_
      refine gh_aload_n gd_Law_low_53 3 rfl (by decide) ?_
      refine gh_iconst gd_Law_low_54 (gh_r0 rfl) ?_
      refine la_63 gd_Law_low_55 hF (by decide) (by decide) (gh_u_s _ _ _ _) ?_
      refine gh_iconst gd_Law_low_56 (gh_r0 rfl) ?_
      obtain ⟨q1850, h⟩ := h
      refine gh_irem gd_Law_low_57 q1850 (by decide) ?_
      obtain ⟨q1851, h⟩ := h
      refine gh_iadd gd_Law_low_58 q1851 ?_
      obtain ⟨q1852, h⟩ := h
      obtain ⟨q1853, h⟩ := h
      refine gh_idiv gd_Law_low_59 q1852 q1853 ?_
      refine gh_iload_n gd_Law_low_60 4 rfl ?_
      obtain ⟨q1854, h⟩ := h
      obtain ⟨q1855, h⟩ := h
      refine gh_irem gd_Law_low_61 q1854 q1855 ?_
      exact gh_ret0 rfl gd_Law_low_62 ⟨hF, h⟩
    refine gh_zge (tgt := 46) gd_Law_low_35 (by decide) (fun c1856 => ?_) (fun c1856 => ?_)
    · have hz : True := trivial
      have hk := hk c1856
      refine gh_iload gd_Law_low_38 0 rfl ?_
      refine gh_iconst gd_Law_low_40 (gh_r0 rfl) ?_
      obtain ⟨q1846, hk⟩ := hk
      refine gh_iadd gd_Law_low_41 q1846 ?_
      have q1847 := hk
      refine gh_ineg gd_Law_low_42 q1847 ?_
      refine gh_goto (tgt := 48) gd_Law_low_43 (by decide) ?_
      exact k1848 _ (by rw [if_pos c1856])
    · have hz : True := trivial
      refine gh_iload gd_Law_low_46 0 rfl ?_
      exact k1848 _ (by rw [if_neg c1856])
def w_Law_types_2 (v1 : Int) (m : gh_M) (Q : Int → gh_M → Prop) : Prop := w_House_type v1 0 0 0 0 m (fun r1862 m1863 => Q (if (¬ (r1862 ≤ 0)) then (1:Int) else 0) m1863)
theorem s_Law_types_2 {E : gh_E} {m : gh_M} {Q : Int → gh_M → Prop} (d : Nat) (v1 : Int) (hF : gh_F m) (h : w_Law_types_2 v1 m Q) : gh_C E gh_yLaw_types method_3_code 2 (some .boolean) 8 (d + 2) [(2, 2), (0, v1)] m (fun r m1 => gh_F m1 ∧ Q r m1) := by
  refine gh_enter2 (L := [(0, 2, 2), (1, 0, v1)]) (by decide +kernel) gh_rt8 (Nat.le_of_ble_eq_true rfl) rfl rfl ?_
  unfold w_Law_types_2 at h
  refine gh_aload_n gd_Law_types_0 0 rfl (by decide) ?_
  refine gh_iload_n gd_Law_types_1 1 rfl ?_
  refine gh_iconst gd_Law_types_2 (gh_r0 rfl) ?_
  refine gh_iconst gd_Law_types_3 (gh_r0 rfl) ?_
  refine gh_iconst gd_Law_types_4 (gh_r0 rfl) ?_
  refine gh_iconst gd_Law_types_5 (gh_r0 rfl) ?_
  refine cv_House_type (d := d + 1) gd_Law_types_6 gh_k960 hF (Nat.le_of_ble_eq_true rfl) (gh_C.mono (s_House_type d v1 0 0 0 0 hF h) (fun r1862 m1863 hq => ?_))
  obtain ⟨hF, h⟩ := hq
  have k1864 : ∀ x1865 : Int, x1865 = (if (¬ (r1862 ≤ 0)) then (1:Int) else 0) → gh_T E (gh_yLaw_types.cls, method_3_code, 2, false, 8) (d + 2) 17 [(0, 2, 2), (1, 0, v1)] [(0, x1865)] m1863 (fun r m1 => gh_F m1 ∧ Q r m1) := by
    rintro _ rfl
    exact gh_ret8 rfl gd_Law_types_17 gh_ib01 ⟨hF, h⟩
  refine gh_zle (tgt := 16) gd_Law_types_9 (by decide) (fun c1866 => ?_) (fun c1866 => ?_)
  · have hz : True := trivial
    refine gh_iconst gd_Law_types_16 (gh_r0 rfl) ?_
    exact k1864 _ (if_neg (c := (¬ (r1862 ≤ 0))) (not_not_intro c1866)).symm
  · have hz : True := trivial
    refine gh_iconst gd_Law_types_12 (gh_r0 rfl) ?_
    refine gh_goto (tgt := 17) gd_Law_types_13 (by decide) ?_
    exact k1864 _ (if_pos (c := (¬ (r1862 ≤ 0))) c1866).symm
def w_Law_typesAtom_2_1_63 (v3 : Int) (m : gh_M) (Q : Int → gh_M → Prop) : Prop := w_Law_low_1_63 9 m (fun r1878 m1879 => ∃ J240 : Int → gh_M → Prop, (∀ (v5 : Int) (m : gh_M), J240 v5 m → w_Law_low_1_63 12 m (fun r1880 m1881 => ∃ J286 : gh_M → Prop, (∀ (m : gh_M), J286 m → Q 0 m) ∧ ((v5 = 0 → J286 m1881) ∧ (¬ (v5 = 0) → ∃ J282 : gh_M → Prop, (∀ (m : gh_M), J282 m → Q 1 m) ∧ ((r1880 ≤ 2 → ((¬ (r1880 = 0) → (gh_i (41 + r1880)))) ∧ w_Law_types_2 (if r1880 = 0 then 63 else (41 + r1880)) m1881 (fun r1887 m1888 => ((r1887 = 0 → J286 m1888) ∧ (¬ (r1887 = 0) → J282 m1888)))) ∧ (¬ (r1880 ≤ 2) → J282 m1881)))))) ∧ ((r1878 < 3 → w_Law_low_1_63 v3 m1879 (fun r1892 m1893 => gh_i (65 + r1892) ∧ w_Law_types_2 (65 + r1892) m1893 (fun r1895 m1896 => J240 r1895 m1896))) ∧ (¬ (r1878 < 3) → ((r1878 < 7 → w_Law_types_2 39 m1879 (fun r1898 m1899 => ∃ J96 : Int → gh_M → Prop, (∀ (y0 : Int) (m : gh_M), J96 y0 m → J240 y0 m) ∧ ∃ J95 : gh_M → Prop, (∀ (m : gh_M), J95 m → J96 0 m) ∧ ((r1898 = 0 → J95 m1899) ∧ (¬ (r1898 = 0) → 0 ≤ r1878 ∧ gh_i (97 + (r1878 % 2)) ∧ w_Law_types_2 (97 + (r1878 % 2)) m1899 (fun r1903 m1904 => ((r1903 = 0 → J95 m1904) ∧ (¬ (r1903 = 0) → ∃ J82 : gh_M → Prop, (∀ (m : gh_M), J82 m → w_Law_types_2 39 m (fun r1906 m1907 => ((r1906 = 0 → J95 m1907) ∧ (¬ (r1906 = 0) → J96 1 m1907)))) ∧ ((r1878 = 6 → w_Law_types_2 98 m1904 (fun r1910 m1911 => ((r1910 = 0 → J95 m1911) ∧ (¬ (r1910 = 0) → J82 m1911)))) ∧ (¬ (r1878 = 6) → J82 m1904))))))))) ∧ (¬ (r1878 < 7) → ((r1878 = 7 → w_Law_types_2 91 m1879 (fun r1914 m1915 => ∃ J165 : Int → gh_M → Prop, (∀ (y0 : Int) (m : gh_M), J165 y0 m → J240 y0 m) ∧ ∃ J164 : gh_M → Prop, (∀ (m : gh_M), J164 m → J165 0 m) ∧ ((r1914 = 0 → J164 m1915) ∧ (¬ (r1914 = 0) → w_Law_types_2 97 m1915 (fun r1917 m1918 => ((r1917 = 0 → J164 m1918) ∧ (¬ (r1917 = 0) → w_Law_types_2 45 m1918 (fun r1920 m1921 => ((r1920 = 0 → J164 m1921) ∧ (¬ (r1920 = 0) → w_Law_low_1_63 2 m1921 (fun r1923 m1924 => gh_i (98 + r1923) ∧ w_Law_types_2 (98 + r1923) m1924 (fun r1926 m1927 => ((r1926 = 0 → J164 m1927) ∧ (¬ (r1926 = 0) → w_Law_types_2 93 m1927 (fun r1929 m1930 => ((r1929 = 0 → J164 m1930) ∧ (¬ (r1929 = 0) → J165 1 m1930))))))))))))))))) ∧ (¬ (r1878 = 7) → w_Law_types_2 40 m1879 (fun r1932 m1933 => ∃ J238 : Int → gh_M → Prop, (∀ (y0 : Int) (m : gh_M), J238 y0 m → J240 y0 m) ∧ ∃ J237 : gh_M → Prop, (∀ (m : gh_M), J237 m → J238 0 m) ∧ ((r1932 = 0 → J237 m1933) ∧ (¬ (r1932 = 0) → w_Law_types_2 65 m1933 (fun r1935 m1936 => ((r1935 = 0 → J237 m1936) ∧ (¬ (r1935 = 0) → w_Law_types_2 124 m1936 (fun r1938 m1939 => ((r1938 = 0 → J237 m1939) ∧ (¬ (r1938 = 0) → w_Law_types_2 39 m1939 (fun r1941 m1942 => ((r1941 = 0 → J237 m1942) ∧ (¬ (r1941 = 0) → w_Law_types_2 99 m1942 (fun r1944 m1945 => ((r1944 = 0 → J237 m1945) ∧ (¬ (r1944 = 0) → w_Law_types_2 39 m1945 (fun r1947 m1948 => ((r1947 = 0 → J237 m1948) ∧ (¬ (r1947 = 0) → w_Law_types_2 41 m1948 (fun r1950 m1951 => ((r1950 = 0 → J237 m1951) ∧ (¬ (r1950 = 0) → J238 1 m1951))))))))))))))))))))))))))))
theorem s_Law_typesAtom_2_1_63 {E : gh_E} {m : gh_M} {Q : Int → gh_M → Prop} (d : Nat) (v3 : Int) (hF : gh_F m) (h : w_Law_typesAtom_2_1_63 v3 m Q) : gh_C E gh_yLaw_typesAtom method_4_code 7 (some .boolean) 8 (d + 3) [(2, 2), (2, 1), (2, 63), (0, v3)] m (fun r m1 => gh_F m1 ∧ Q r m1) := by
  refine gh_enter2 (L := [(0, 2, 2), (1, 2, 1), (2, 2, 63), (3, 0, v3)]) (by decide +kernel) gh_rt8 (Nat.le_of_ble_eq_true rfl) rfl rfl ?_
  unfold w_Law_typesAtom_2_1_63 at h
  refine gh_aload_n gd_Law_typesAtom_0 1 rfl (by decide) ?_
  refine gh_aload_n gd_Law_typesAtom_1 2 rfl (by decide) ?_
  refine gh_bipush gd_Law_typesAtom_2 (by decide) (gh_r0 rfl) ?_
  refine cv_Law_low (d := d + 2) gd_Law_typesAtom_4 gh_k951 (Nat.le_of_ble_eq_true rfl) (gh_C.mono (s_Law_low_1_63 (d + 2) 9 hF h) (fun r1878 m1879 hq => ?_))
  obtain ⟨hF, h⟩ := hq
  refine gh_istore (L2 := [(4, 0, r1878), (0, 2, 2), (1, 2, 1), (2, 2, 63), (3, 0, v3)]) gd_Law_typesAtom_7 (by decide) rfl ?_
  refine gh_iconst gd_Law_typesAtom_9 (gh_r0 rfl) ?_
  refine gh_istore (L2 := [(5, 0, 1), (4, 0, r1878), (0, 2, 2), (1, 2, 1), (2, 2, 63), (3, 0, v3)]) gd_Law_typesAtom_10 (by decide) rfl ?_
  refine gh_iload gd_Law_typesAtom_12 1 rfl ?_
  refine gh_iconst gd_Law_typesAtom_14 (gh_r0 rfl) ?_
  obtain ⟨J240, hJ240, h⟩ := h
  have hJ240 : ∀ (v5 : Int) (m : gh_M), gh_F m → J240 v5 m → gh_T E (gh_yLaw_typesAtom.cls, method_4_code, 7, false, 8) (d + 3) 240 [(0, 2, 2), (1, 2, 1), (2, 2, 63), (5, 0, v5)] [] m (fun r m1 => gh_F m1 ∧ Q r m1) := by
    intro v5 m hF hj
    have h := hJ240 v5 m hj
    refine gh_aload_n gd_Law_typesAtom_240 1 rfl (by decide) ?_
    refine gh_aload_n gd_Law_typesAtom_241 2 rfl (by decide) ?_
    refine gh_bipush gd_Law_typesAtom_242 (by decide) (gh_r0 rfl) ?_
    refine cv_Law_low (d := d + 2) gd_Law_typesAtom_244 gh_k951 (Nat.le_of_ble_eq_true rfl) (gh_C.mono (s_Law_low_1_63 (d + 2) 12 hF h) (fun r1880 m1881 hq => ?_))
    obtain ⟨hF, h⟩ := hq
    refine gh_istore (L2 := [(6, 0, r1880), (0, 2, 2), (1, 2, 1), (2, 2, 63), (5, 0, v5)]) gd_Law_typesAtom_247 (by decide) rfl ?_
    refine gh_iload gd_Law_typesAtom_249 4 rfl ?_
    obtain ⟨J286, hJ286, h⟩ := h
    have hJ286 : ∀ (m : gh_M), gh_F m → J286 m → gh_T E (gh_yLaw_typesAtom.cls, method_4_code, 7, false, 8) (d + 3) 286 [] [] m (fun r m1 => gh_F m1 ∧ Q r m1) := by
      intro m hF hj
      have h := hJ286 m hj
      refine gh_iconst gd_Law_typesAtom_286 (gh_r0 rfl) ?_
      exact gh_ret8 rfl gd_Law_typesAtom_287 (by decide) ⟨hF, h⟩
    obtain ⟨hA, hB⟩ := h
    refine gh_zeq (tgt := 286) gd_Law_typesAtom_251 (by decide) (fun c1882 => ?_) (fun c1882 => ?_)
    · have h := hA c1882
      refine gh_pick (L2 := []) [] rfl ?_
      exact hJ286 m1881 hF h
    · have h := hB c1882
      refine gh_iload gd_Law_typesAtom_254 0 rfl ?_
      refine gh_iconst gd_Law_typesAtom_256 (gh_r0 rfl) ?_
      obtain ⟨J282, hJ282, h⟩ := h
      have hJ282 : ∀ (m : gh_M), gh_F m → J282 m → gh_T E (gh_yLaw_typesAtom.cls, method_4_code, 7, false, 8) (d + 3) 282 [] [] m (fun r m1 => gh_F m1 ∧ Q r m1) := by
        intro m hF hj
        have h := hJ282 m hj
        refine gh_iconst gd_Law_typesAtom_282 (gh_r0 rfl) ?_
        refine gh_goto (tgt := 287) gd_Law_typesAtom_283 (by decide) ?_
        exact gh_ret8 rfl gd_Law_typesAtom_287 (by decide) ⟨hF, h⟩
      obtain ⟨hA, hB⟩ := h
      refine gh_jgt (tgt := 282) gd_Law_typesAtom_257 (by decide) (fun c1883 => ?_) (fun c1883 => ?_)
      · have h := hA c1883
        refine gh_aload_n gd_Law_typesAtom_260 1 rfl (by decide) ?_
        refine gh_iload gd_Law_typesAtom_261 0 rfl ?_
        obtain ⟨hk, h⟩ := h
        have k1885 : ∀ x1886 : Int, x1886 = (if r1880 = 0 then 63 else (41 + r1880)) → gh_T E (gh_yLaw_typesAtom.cls, method_4_code, 7, false, 8) (d + 3) 276 [(6, 0, r1880), (0, 2, 2), (1, 2, 1), (2, 2, 63), (5, 0, v5)] [(0, x1886), (2, 2)] m1881 (fun r m1 => gh_F m1 ∧ Q r m1) := by
          rintro _ rfl
          refine cv_Law_types (d := d + 2) gd_Law_typesAtom_276 gh_k957 (Nat.le_of_ble_eq_true rfl) (gh_C.mono (s_Law_types_2 d (if r1880 = 0 then 63 else (41 + r1880)) hF h) (fun r1887 m1888 hq => ?_))
          obtain ⟨hF, h⟩ := hq
          obtain ⟨hA, hB⟩ := h
          refine gh_zeq (tgt := 286) gd_Law_typesAtom_279 (by decide) (fun c1889 => ?_) (fun c1889 => ?_)
          · have h := hA c1889
            refine gh_pick (L2 := []) [] rfl ?_
            exact hJ286 m1888 hF h
          · have h := hB c1889
            refine gh_pick (L2 := []) [] rfl ?_
            exact hJ282 m1888 hF h
        refine gh_zne (tgt := 271) gd_Law_typesAtom_263 (by decide) (fun c1890 => ?_) (fun c1890 => ?_)
        · have hz : True := trivial
          refine gh_bipush gd_Law_typesAtom_266 (by decide) (gh_r0 rfl) ?_
          refine gh_goto (tgt := 276) gd_Law_typesAtom_268 (by decide) ?_
          exact k1885 _ (by rw [if_pos c1890])
        · have hz : True := trivial
          have hk := hk c1890
          refine gh_bipush gd_Law_typesAtom_271 (by decide) (gh_r0 rfl) ?_
          refine gh_iload gd_Law_typesAtom_273 0 rfl ?_
          have q1884 := hk
          refine gh_iadd gd_Law_typesAtom_275 q1884 ?_
          exact k1885 _ (by rw [if_neg c1890])
      · have h := hB c1883
        refine gh_pick (L2 := []) [] rfl ?_
        exact hJ282 m1881 hF h
  obtain ⟨hA, hB⟩ := h
  refine gh_jge (tgt := 36) gd_Law_typesAtom_15 (by decide) (fun c1891 => ?_) (fun c1891 => ?_)
  · have h := hA c1891
    refine gh_aload_n gd_Law_typesAtom_18 2 rfl (by decide) ?_
    refine gh_bipush gd_Law_typesAtom_19 (by decide) (gh_r0 rfl) ?_
    refine gh_aload_n gd_Law_typesAtom_21 3 rfl (by decide) ?_
    refine gh_aload_n gd_Law_typesAtom_22 4 rfl (by decide) ?_
    refine gh_iload_n gd_Law_typesAtom_23 5 rfl ?_
    refine cv_Law_low (d := d + 2) gd_Law_typesAtom_24 gh_k951 (Nat.le_of_ble_eq_true rfl) (gh_C.mono (s_Law_low_1_63 (d + 2) v3 hF h) (fun r1892 m1893 hq => ?_))
    obtain ⟨hF, h⟩ := hq
    obtain ⟨q1894, h⟩ := h
    refine gh_iadd gd_Law_typesAtom_27 q1894 ?_
    refine cv_Law_types (d := d + 2) gd_Law_typesAtom_28 gh_k957 (Nat.le_of_ble_eq_true rfl) (gh_C.mono (s_Law_types_2 d (65 + r1892) hF h) (fun r1895 m1896 hq => ?_))
    obtain ⟨hF, h⟩ := hq
    refine gh_istore (L2 := [(5, 0, r1895), (4, 0, r1878), (0, 2, 2), (1, 2, 1), (2, 2, 63), (3, 0, v3)]) gd_Law_typesAtom_31 (by decide) rfl ?_
    refine gh_goto (tgt := 240) gd_Law_typesAtom_33 (by decide) ?_
    refine gh_pick (L2 := [(0, 2, 2), (1, 2, 1), (2, 2, 63), (5, 0, r1895)]) [2, 3, 4, 0] rfl ?_
    exact hJ240 r1895 m1896 hF h
  · have h := hB c1891
    refine gh_iload gd_Law_typesAtom_36 1 rfl ?_
    refine gh_bipush gd_Law_typesAtom_38 (by decide) (gh_r0 rfl) ?_
    obtain ⟨hA, hB⟩ := h
    refine gh_jge (tgt := 101) gd_Law_typesAtom_40 (by decide) (fun c1897 => ?_) (fun c1897 => ?_)
    · have h := hA c1897
      refine gh_aload_n gd_Law_typesAtom_43 2 rfl (by decide) ?_
      refine gh_bipush gd_Law_typesAtom_44 (by decide) (gh_r0 rfl) ?_
      refine cv_Law_types (d := d + 2) gd_Law_typesAtom_46 gh_k957 (Nat.le_of_ble_eq_true rfl) (gh_C.mono (s_Law_types_2 d 39 hF h) (fun r1898 m1899 hq => ?_))
      obtain ⟨hF, h⟩ := hq
      obtain ⟨J96, hJ96, h⟩ := h
      have hJ96 : ∀ (y0 : Int) (m : gh_M), gh_F m → J96 y0 m → gh_T E (gh_yLaw_typesAtom.cls, method_4_code, 7, false, 8) (d + 3) 96 [(0, 2, 2), (1, 2, 1), (2, 2, 63)] [(0, y0)] m (fun r m1 => gh_F m1 ∧ Q r m1) := by
        intro y0 m hF hj
        have h := hJ96 y0 m hj
        refine gh_istore (L2 := [(5, 0, y0), (0, 2, 2), (1, 2, 1), (2, 2, 63)]) gd_Law_typesAtom_96 (by decide) rfl ?_
        refine gh_goto (tgt := 240) gd_Law_typesAtom_98 (by decide) ?_
        refine gh_pick (L2 := [(0, 2, 2), (1, 2, 1), (2, 2, 63), (5, 0, y0)]) [1, 2, 3, 0] rfl ?_
        exact hJ240 y0 m hF h
      obtain ⟨J95, hJ95, h⟩ := h
      have hJ95 : ∀ (m : gh_M), gh_F m → J95 m → gh_T E (gh_yLaw_typesAtom.cls, method_4_code, 7, false, 8) (d + 3) 95 [(0, 2, 2), (1, 2, 1), (2, 2, 63)] [] m (fun r m1 => gh_F m1 ∧ Q r m1) := by
        intro m hF hj
        have h := hJ95 m hj
        refine gh_iconst gd_Law_typesAtom_95 (gh_r0 rfl) ?_
        exact hJ96 0 m hF h
      obtain ⟨hA, hB⟩ := h
      refine gh_zeq (tgt := 95) gd_Law_typesAtom_49 (by decide) (fun c1900 => ?_) (fun c1900 => ?_)
      · have h := hA c1900
        refine gh_pick (L2 := [(0, 2, 2), (1, 2, 1), (2, 2, 63)]) [2, 3, 4] rfl ?_
        exact hJ95 m1899 hF h
      · have h := hB c1900
        refine gh_aload_n gd_Law_typesAtom_52 2 rfl (by decide) ?_
        refine gh_bipush gd_Law_typesAtom_53 (by decide) (gh_r0 rfl) ?_
        refine gh_iload gd_Law_typesAtom_55 1 rfl ?_
        refine gh_iconst gd_Law_typesAtom_57 (gh_r0 rfl) ?_
        obtain ⟨q1901, h⟩ := h
        refine gh_irem gd_Law_typesAtom_58 q1901 (by decide) ?_
        obtain ⟨q1902, h⟩ := h
        refine gh_iadd gd_Law_typesAtom_59 q1902 ?_
        refine cv_Law_types (d := d + 2) gd_Law_typesAtom_60 gh_k957 (Nat.le_of_ble_eq_true rfl) (gh_C.mono (s_Law_types_2 d (97 + (r1878 % 2)) hF h) (fun r1903 m1904 hq => ?_))
        obtain ⟨hF, h⟩ := hq
        obtain ⟨hA, hB⟩ := h
        refine gh_zeq (tgt := 95) gd_Law_typesAtom_63 (by decide) (fun c1905 => ?_) (fun c1905 => ?_)
        · have h := hA c1905
          refine gh_pick (L2 := [(0, 2, 2), (1, 2, 1), (2, 2, 63)]) [2, 3, 4] rfl ?_
          exact hJ95 m1904 hF h
        · have h := hB c1905
          refine gh_iload gd_Law_typesAtom_66 1 rfl ?_
          refine gh_bipush gd_Law_typesAtom_68 (by decide) (gh_r0 rfl) ?_
          obtain ⟨J82, hJ82, h⟩ := h
          have hJ82 : ∀ (m : gh_M), gh_F m → J82 m → gh_T E (gh_yLaw_typesAtom.cls, method_4_code, 7, false, 8) (d + 3) 82 [(0, 2, 2), (1, 2, 1), (2, 2, 63)] [] m (fun r m1 => gh_F m1 ∧ Q r m1) := by
            intro m hF hj
            have h := hJ82 m hj
            refine gh_aload_n gd_Law_typesAtom_82 0 rfl (by decide) ?_
            refine gh_bipush gd_Law_typesAtom_83 (by decide) (gh_r0 rfl) ?_
            refine cv_Law_types (d := d + 2) gd_Law_typesAtom_85 gh_k957 (Nat.le_of_ble_eq_true rfl) (gh_C.mono (s_Law_types_2 d 39 hF h) (fun r1906 m1907 hq => ?_))
            obtain ⟨hF, h⟩ := hq
            obtain ⟨hA, hB⟩ := h
            refine gh_zeq (tgt := 95) gd_Law_typesAtom_88 (by decide) (fun c1908 => ?_) (fun c1908 => ?_)
            · have h := hA c1908
              exact hJ95 m1907 hF h
            · have h := hB c1908
              refine gh_iconst gd_Law_typesAtom_91 (gh_r0 rfl) ?_
              refine gh_goto (tgt := 96) gd_Law_typesAtom_92 (by decide) ?_
              exact hJ96 1 m1907 hF h
          obtain ⟨hA, hB⟩ := h
          refine gh_jne (tgt := 82) gd_Law_typesAtom_70 (by decide) (fun c1909 => ?_) (fun c1909 => ?_)
          · have h := hA c1909
            refine gh_aload_n gd_Law_typesAtom_73 2 rfl (by decide) ?_
            refine gh_bipush gd_Law_typesAtom_74 (by decide) (gh_r0 rfl) ?_
            refine cv_Law_types (d := d + 2) gd_Law_typesAtom_76 gh_k957 (Nat.le_of_ble_eq_true rfl) (gh_C.mono (s_Law_types_2 d 98 hF h) (fun r1910 m1911 hq => ?_))
            obtain ⟨hF, h⟩ := hq
            obtain ⟨hA, hB⟩ := h
            refine gh_zeq (tgt := 95) gd_Law_typesAtom_79 (by decide) (fun c1912 => ?_) (fun c1912 => ?_)
            · have h := hA c1912
              refine gh_pick (L2 := [(0, 2, 2), (1, 2, 1), (2, 2, 63)]) [2, 3, 4] rfl ?_
              exact hJ95 m1911 hF h
            · have h := hB c1912
              refine gh_pick (L2 := [(0, 2, 2), (1, 2, 1), (2, 2, 63)]) [2, 3, 4] rfl ?_
              exact hJ82 m1911 hF h
          · have h := hB c1909
            refine gh_pick (L2 := [(0, 2, 2), (1, 2, 1), (2, 2, 63)]) [2, 3, 4] rfl ?_
            exact hJ82 m1904 hF h
    · have h := hB c1897
      refine gh_iload gd_Law_typesAtom_101 1 rfl ?_
      refine gh_bipush gd_Law_typesAtom_103 (by decide) (gh_r0 rfl) ?_
      obtain ⟨hA, hB⟩ := h
      refine gh_jne (tgt := 170) gd_Law_typesAtom_105 (by decide) (fun c1913 => ?_) (fun c1913 => ?_)
      · have h := hA c1913
        refine gh_aload_n gd_Law_typesAtom_108 2 rfl (by decide) ?_
        refine gh_bipush gd_Law_typesAtom_109 (by decide) (gh_r0 rfl) ?_
        refine cv_Law_types (d := d + 2) gd_Law_typesAtom_111 gh_k957 (Nat.le_of_ble_eq_true rfl) (gh_C.mono (s_Law_types_2 d 91 hF h) (fun r1914 m1915 hq => ?_))
        obtain ⟨hF, h⟩ := hq
        obtain ⟨J165, hJ165, h⟩ := h
        have hJ165 : ∀ (y0 : Int) (m : gh_M), gh_F m → J165 y0 m → gh_T E (gh_yLaw_typesAtom.cls, method_4_code, 7, false, 8) (d + 3) 165 [(0, 2, 2), (1, 2, 1), (2, 2, 63)] [(0, y0)] m (fun r m1 => gh_F m1 ∧ Q r m1) := by
          intro y0 m hF hj
          have h := hJ165 y0 m hj
          refine gh_istore (L2 := [(5, 0, y0), (0, 2, 2), (1, 2, 1), (2, 2, 63)]) gd_Law_typesAtom_165 (by decide) rfl ?_
          refine gh_goto (tgt := 240) gd_Law_typesAtom_167 (by decide) ?_
          refine gh_pick (L2 := [(0, 2, 2), (1, 2, 1), (2, 2, 63), (5, 0, y0)]) [1, 2, 3, 0] rfl ?_
          exact hJ240 y0 m hF h
        obtain ⟨J164, hJ164, h⟩ := h
        have hJ164 : ∀ (m : gh_M), gh_F m → J164 m → gh_T E (gh_yLaw_typesAtom.cls, method_4_code, 7, false, 8) (d + 3) 164 [(0, 2, 2), (1, 2, 1), (2, 2, 63)] [] m (fun r m1 => gh_F m1 ∧ Q r m1) := by
          intro m hF hj
          have h := hJ164 m hj
          refine gh_iconst gd_Law_typesAtom_164 (gh_r0 rfl) ?_
          exact hJ165 0 m hF h
        obtain ⟨hA, hB⟩ := h
        refine gh_zeq (tgt := 164) gd_Law_typesAtom_114 (by decide) (fun c1916 => ?_) (fun c1916 => ?_)
        · have h := hA c1916
          refine gh_pick (L2 := [(0, 2, 2), (1, 2, 1), (2, 2, 63)]) [2, 3, 4] rfl ?_
          exact hJ164 m1915 hF h
        · have h := hB c1916
          refine gh_aload_n gd_Law_typesAtom_117 2 rfl (by decide) ?_
          refine gh_bipush gd_Law_typesAtom_118 (by decide) (gh_r0 rfl) ?_
          refine cv_Law_types (d := d + 2) gd_Law_typesAtom_120 gh_k957 (Nat.le_of_ble_eq_true rfl) (gh_C.mono (s_Law_types_2 d 97 hF h) (fun r1917 m1918 hq => ?_))
          obtain ⟨hF, h⟩ := hq
          obtain ⟨hA, hB⟩ := h
          refine gh_zeq (tgt := 164) gd_Law_typesAtom_123 (by decide) (fun c1919 => ?_) (fun c1919 => ?_)
          · have h := hA c1919
            refine gh_pick (L2 := [(0, 2, 2), (1, 2, 1), (2, 2, 63)]) [2, 3, 4] rfl ?_
            exact hJ164 m1918 hF h
          · have h := hB c1919
            refine gh_aload_n gd_Law_typesAtom_126 2 rfl (by decide) ?_
            refine gh_bipush gd_Law_typesAtom_127 (by decide) (gh_r0 rfl) ?_
            refine cv_Law_types (d := d + 2) gd_Law_typesAtom_129 gh_k957 (Nat.le_of_ble_eq_true rfl) (gh_C.mono (s_Law_types_2 d 45 hF h) (fun r1920 m1921 hq => ?_))
            obtain ⟨hF, h⟩ := hq
            obtain ⟨hA, hB⟩ := h
            refine gh_zeq (tgt := 164) gd_Law_typesAtom_132 (by decide) (fun c1922 => ?_) (fun c1922 => ?_)
            · have h := hA c1922
              refine gh_pick (L2 := [(0, 2, 2), (1, 2, 1), (2, 2, 63)]) [2, 3, 4] rfl ?_
              exact hJ164 m1921 hF h
            · have h := hB c1922
              refine gh_aload_n gd_Law_typesAtom_135 2 rfl (by decide) ?_
              refine gh_bipush gd_Law_typesAtom_136 (by decide) (gh_r0 rfl) ?_
              refine gh_aload_n gd_Law_typesAtom_138 3 rfl (by decide) ?_
              refine gh_aload_n gd_Law_typesAtom_139 4 rfl (by decide) ?_
              refine gh_iconst gd_Law_typesAtom_140 (gh_r0 rfl) ?_
              refine cv_Law_low (d := d + 2) gd_Law_typesAtom_141 gh_k951 (Nat.le_of_ble_eq_true rfl) (gh_C.mono (s_Law_low_1_63 (d + 2) 2 hF h) (fun r1923 m1924 hq => ?_))
              obtain ⟨hF, h⟩ := hq
              obtain ⟨q1925, h⟩ := h
              refine gh_iadd gd_Law_typesAtom_144 q1925 ?_
              refine cv_Law_types (d := d + 2) gd_Law_typesAtom_145 gh_k957 (Nat.le_of_ble_eq_true rfl) (gh_C.mono (s_Law_types_2 d (98 + r1923) hF h) (fun r1926 m1927 hq => ?_))
              obtain ⟨hF, h⟩ := hq
              obtain ⟨hA, hB⟩ := h
              refine gh_zeq (tgt := 164) gd_Law_typesAtom_148 (by decide) (fun c1928 => ?_) (fun c1928 => ?_)
              · have h := hA c1928
                refine gh_pick (L2 := [(0, 2, 2), (1, 2, 1), (2, 2, 63)]) [2, 3, 4] rfl ?_
                exact hJ164 m1927 hF h
              · have h := hB c1928
                refine gh_aload_n gd_Law_typesAtom_151 2 rfl (by decide) ?_
                refine gh_bipush gd_Law_typesAtom_152 (by decide) (gh_r0 rfl) ?_
                refine cv_Law_types (d := d + 2) gd_Law_typesAtom_154 gh_k957 (Nat.le_of_ble_eq_true rfl) (gh_C.mono (s_Law_types_2 d 93 hF h) (fun r1929 m1930 hq => ?_))
                obtain ⟨hF, h⟩ := hq
                obtain ⟨hA, hB⟩ := h
                refine gh_zeq (tgt := 164) gd_Law_typesAtom_157 (by decide) (fun c1931 => ?_) (fun c1931 => ?_)
                · have h := hA c1931
                  refine gh_pick (L2 := [(0, 2, 2), (1, 2, 1), (2, 2, 63)]) [2, 3, 4] rfl ?_
                  exact hJ164 m1930 hF h
                · have h := hB c1931
                  refine gh_iconst gd_Law_typesAtom_160 (gh_r0 rfl) ?_
                  refine gh_goto (tgt := 165) gd_Law_typesAtom_161 (by decide) ?_
                  refine gh_pick (L2 := [(0, 2, 2), (1, 2, 1), (2, 2, 63)]) [2, 3, 4] rfl ?_
                  exact hJ165 1 m1930 hF h
      · have h := hB c1913
        refine gh_aload_n gd_Law_typesAtom_170 2 rfl (by decide) ?_
        refine gh_bipush gd_Law_typesAtom_171 (by decide) (gh_r0 rfl) ?_
        refine cv_Law_types (d := d + 2) gd_Law_typesAtom_173 gh_k957 (Nat.le_of_ble_eq_true rfl) (gh_C.mono (s_Law_types_2 d 40 hF h) (fun r1932 m1933 hq => ?_))
        obtain ⟨hF, h⟩ := hq
        obtain ⟨J238, hJ238, h⟩ := h
        have hJ238 : ∀ (y0 : Int) (m : gh_M), gh_F m → J238 y0 m → gh_T E (gh_yLaw_typesAtom.cls, method_4_code, 7, false, 8) (d + 3) 238 [(0, 2, 2), (1, 2, 1), (2, 2, 63)] [(0, y0)] m (fun r m1 => gh_F m1 ∧ Q r m1) := by
          intro y0 m hF hj
          have h := hJ238 y0 m hj
          refine gh_istore (L2 := [(5, 0, y0), (0, 2, 2), (1, 2, 1), (2, 2, 63)]) gd_Law_typesAtom_238 (by decide) rfl ?_
          refine gh_pick (L2 := [(0, 2, 2), (1, 2, 1), (2, 2, 63), (5, 0, y0)]) [1, 2, 3, 0] rfl ?_
          exact hJ240 y0 m hF h
        obtain ⟨J237, hJ237, h⟩ := h
        have hJ237 : ∀ (m : gh_M), gh_F m → J237 m → gh_T E (gh_yLaw_typesAtom.cls, method_4_code, 7, false, 8) (d + 3) 237 [(0, 2, 2), (1, 2, 1), (2, 2, 63)] [] m (fun r m1 => gh_F m1 ∧ Q r m1) := by
          intro m hF hj
          have h := hJ237 m hj
          refine gh_iconst gd_Law_typesAtom_237 (gh_r0 rfl) ?_
          exact hJ238 0 m hF h
        obtain ⟨hA, hB⟩ := h
        refine gh_zeq (tgt := 237) gd_Law_typesAtom_176 (by decide) (fun c1934 => ?_) (fun c1934 => ?_)
        · have h := hA c1934
          refine gh_pick (L2 := [(0, 2, 2), (1, 2, 1), (2, 2, 63)]) [2, 3, 4] rfl ?_
          exact hJ237 m1933 hF h
        · have h := hB c1934
          refine gh_aload_n gd_Law_typesAtom_179 2 rfl (by decide) ?_
          refine gh_bipush gd_Law_typesAtom_180 (by decide) (gh_r0 rfl) ?_
          refine cv_Law_types (d := d + 2) gd_Law_typesAtom_182 gh_k957 (Nat.le_of_ble_eq_true rfl) (gh_C.mono (s_Law_types_2 d 65 hF h) (fun r1935 m1936 hq => ?_))
          obtain ⟨hF, h⟩ := hq
          obtain ⟨hA, hB⟩ := h
          refine gh_zeq (tgt := 237) gd_Law_typesAtom_185 (by decide) (fun c1937 => ?_) (fun c1937 => ?_)
          · have h := hA c1937
            refine gh_pick (L2 := [(0, 2, 2), (1, 2, 1), (2, 2, 63)]) [2, 3, 4] rfl ?_
            exact hJ237 m1936 hF h
          · have h := hB c1937
            refine gh_aload_n gd_Law_typesAtom_188 2 rfl (by decide) ?_
            refine gh_bipush gd_Law_typesAtom_189 (by decide) (gh_r0 rfl) ?_
            refine cv_Law_types (d := d + 2) gd_Law_typesAtom_191 gh_k957 (Nat.le_of_ble_eq_true rfl) (gh_C.mono (s_Law_types_2 d 124 hF h) (fun r1938 m1939 hq => ?_))
            obtain ⟨hF, h⟩ := hq
            obtain ⟨hA, hB⟩ := h
            refine gh_zeq (tgt := 237) gd_Law_typesAtom_194 (by decide) (fun c1940 => ?_) (fun c1940 => ?_)
            · have h := hA c1940
              refine gh_pick (L2 := [(0, 2, 2), (1, 2, 1), (2, 2, 63)]) [2, 3, 4] rfl ?_
              exact hJ237 m1939 hF h
            · have h := hB c1940
              refine gh_aload_n gd_Law_typesAtom_197 2 rfl (by decide) ?_
              refine gh_bipush gd_Law_typesAtom_198 (by decide) (gh_r0 rfl) ?_
              refine cv_Law_types (d := d + 2) gd_Law_typesAtom_200 gh_k957 (Nat.le_of_ble_eq_true rfl) (gh_C.mono (s_Law_types_2 d 39 hF h) (fun r1941 m1942 hq => ?_))
              obtain ⟨hF, h⟩ := hq
              obtain ⟨hA, hB⟩ := h
              refine gh_zeq (tgt := 237) gd_Law_typesAtom_203 (by decide) (fun c1943 => ?_) (fun c1943 => ?_)
              · have h := hA c1943
                refine gh_pick (L2 := [(0, 2, 2), (1, 2, 1), (2, 2, 63)]) [2, 3, 4] rfl ?_
                exact hJ237 m1942 hF h
              · have h := hB c1943
                refine gh_aload_n gd_Law_typesAtom_206 2 rfl (by decide) ?_
                refine gh_bipush gd_Law_typesAtom_207 (by decide) (gh_r0 rfl) ?_
                refine cv_Law_types (d := d + 2) gd_Law_typesAtom_209 gh_k957 (Nat.le_of_ble_eq_true rfl) (gh_C.mono (s_Law_types_2 d 99 hF h) (fun r1944 m1945 hq => ?_))
                obtain ⟨hF, h⟩ := hq
                obtain ⟨hA, hB⟩ := h
                refine gh_zeq (tgt := 237) gd_Law_typesAtom_212 (by decide) (fun c1946 => ?_) (fun c1946 => ?_)
                · have h := hA c1946
                  refine gh_pick (L2 := [(0, 2, 2), (1, 2, 1), (2, 2, 63)]) [2, 3, 4] rfl ?_
                  exact hJ237 m1945 hF h
                · have h := hB c1946
                  refine gh_aload_n gd_Law_typesAtom_215 2 rfl (by decide) ?_
                  refine gh_bipush gd_Law_typesAtom_216 (by decide) (gh_r0 rfl) ?_
                  refine cv_Law_types (d := d + 2) gd_Law_typesAtom_218 gh_k957 (Nat.le_of_ble_eq_true rfl) (gh_C.mono (s_Law_types_2 d 39 hF h) (fun r1947 m1948 hq => ?_))
                  obtain ⟨hF, h⟩ := hq
                  obtain ⟨hA, hB⟩ := h
                  refine gh_zeq (tgt := 237) gd_Law_typesAtom_221 (by decide) (fun c1949 => ?_) (fun c1949 => ?_)
                  · have h := hA c1949
                    refine gh_pick (L2 := [(0, 2, 2), (1, 2, 1), (2, 2, 63)]) [2, 3, 4] rfl ?_
                    exact hJ237 m1948 hF h
                  · have h := hB c1949
                    refine gh_aload_n gd_Law_typesAtom_224 2 rfl (by decide) ?_
                    refine gh_bipush gd_Law_typesAtom_225 (by decide) (gh_r0 rfl) ?_
                    refine cv_Law_types (d := d + 2) gd_Law_typesAtom_227 gh_k957 (Nat.le_of_ble_eq_true rfl) (gh_C.mono (s_Law_types_2 d 41 hF h) (fun r1950 m1951 hq => ?_))
                    obtain ⟨hF, h⟩ := hq
                    obtain ⟨hA, hB⟩ := h
                    refine gh_zeq (tgt := 237) gd_Law_typesAtom_230 (by decide) (fun c1952 => ?_) (fun c1952 => ?_)
                    · have h := hA c1952
                      refine gh_pick (L2 := [(0, 2, 2), (1, 2, 1), (2, 2, 63)]) [2, 3, 4] rfl ?_
                      exact hJ237 m1951 hF h
                    · have h := hB c1952
                      refine gh_iconst gd_Law_typesAtom_233 (gh_r0 rfl) ?_
                      refine gh_goto (tgt := 238) gd_Law_typesAtom_234 (by decide) ?_
                      refine gh_pick (L2 := [(0, 2, 2), (1, 2, 1), (2, 2, 63)]) [2, 3, 4] rfl ?_
                      exact hJ238 1 m1951 hF h
def f_Law_typeGrammar_2_1_63_103 (v3 : Int) (v4 : Int) (v6 : Int) (v7 : Int) (r1871 : Int) (K59 : Int → Int → gh_M → Prop) (K103 : Int → Int → gh_M → Prop) (v5 : Int) (v9 : Int) (m : gh_M) : Prop := ((v9 < r1871 → ∃ J130 : Int → gh_M → Prop, (∀ (y0_130 : Int) (m : gh_M), J130 y0_130 m → gh_i (v9 + 1) ∧ K103 y0_130 (v9 + 1) m) ∧ ∃ J129 : gh_M → Prop, (∀ (m : gh_M), J129 m → J130 0 m) ∧ ((v5 = 0 → J129 m) ∧ (¬ (v5 = 0) → w_Law_typesAtom_2_1_63 v3 m (fun r1876 m1877 => ((r1876 = 0 → J129 m1877) ∧ (¬ (r1876 = 0) → J130 1 m1877)))))) ∧ (¬ (v9 < r1871) → gh_i (v7 + 1) ∧ K59 v5 (v7 + 1) m))
def f_Law_typeGrammar_2_1_63_59 (v3 : Int) (v4 : Int) (v6 : Int) (K12 : Int → gh_M → Prop) (K59 : Int → Int → gh_M → Prop) (v5 : Int) (v7 : Int) (m : gh_M) : Prop := ((v7 < v6 → ∃ J90 : Int → gh_M → Prop, (∀ (y0_90 : Int) (m : gh_M), J90 y0_90 m → w_Law_low_1_63 4 m (fun r1871 m1872 => gh_M2 (fun K103 v5 v9 m => f_Law_typeGrammar_2_1_63_103 v3 v4 v6 v7 r1871 K59 K103 v5 v9 m) y0_90 0 m1872)) ∧ ∃ J89 : gh_M → Prop, (∀ (m : gh_M), J89 m → J90 0 m) ∧ ((v5 = 0 → J89 m) ∧ (¬ (v5 = 0) → ∃ J85 : gh_M → Prop, (∀ (m : gh_M), J85 m → J90 1 m) ∧ ((v7 = 0 → J85 m) ∧ (¬ (v7 = 0) → w_Law_types_2 124 m (fun r1957 m1958 => ((r1957 = 0 → J89 m1958) ∧ (¬ (r1957 = 0) → J85 m1958)))))))) ∧ (¬ (v7 < v6) → ∃ J163 : Int → gh_M → Prop, (∀ (y0_163 : Int) (m : gh_M), J163 y0_163 m → gh_i (v4 + 1) ∧ K12 (v4 + 1) m) ∧ ∃ J162 : gh_M → Prop, (∀ (m : gh_M), J162 m → J163 0 m) ∧ ((v5 = 0 → J162 m) ∧ (¬ (v5 = 0) → w_Law_types_2 59 m (fun r1962 m1963 => ((r1962 = 0 → J162 m1963) ∧ (¬ (r1962 = 0) → J163 1 m1963)))))))
def f_Law_typeGrammar_2_1_63_12 (v3 : Int) (Q : Int → gh_M → Prop) (K12 : Int → gh_M → Prop) (v4 : Int) (m : gh_M) : Prop := ((v4 < v3 → gh_i (65 + v4) ∧ w_Law_types_2 (65 + v4) m (fun r1860 m1861 => ∃ J44 : Int → gh_M → Prop, (∀ (y0 : Int) (m : gh_M), J44 y0 m → w_Law_low_1_63 3 m (fun r1867 m1868 => gh_i (1 + r1867) ∧ ∀ v6 : Int, v6 = 1 + r1867 → gh_M2 (fun K59 v5 v7 m => f_Law_typeGrammar_2_1_63_59 v3 v4 v6 K12 K59 v5 v7 m) y0 0 m1868)) ∧ ∃ J43 : gh_M → Prop, (∀ (m : gh_M), J43 m → J44 0 m) ∧ ((r1860 = 0 → J43 m1861) ∧ (¬ (r1860 = 0) → w_Law_types_2 58 m1861 (fun r1966 m1967 => ((r1966 = 0 → J43 m1967) ∧ (¬ (r1966 = 0) → J44 1 m1967))))))) ∧ (¬ (v4 < v3) → Q 0 m))
def w_Law_typeGrammar_2_1_63 (m : gh_M) (Q : Int → gh_M → Prop) : Prop := w_Law_low_1_63 3 m (fun r1837 m1838 => gh_i (1 + r1837) ∧ ∀ v3 : Int, v3 = 1 + r1837 → gh_M1 (fun K12 v4 m => f_Law_typeGrammar_2_1_63_12 v3 Q K12 v4 m) 0 m1838)
theorem b_Law_typeGrammar_2_1_63_103 {E : gh_E} {v3 : Int} {v4 : Int} {v6 : Int} {v7 : Int} {r1871 : Int} {K59 : Int → Int → gh_M → Prop} {Q : Int → gh_M → Prop} {K103 : Int → Int → gh_M → Prop} (d : Nat) (hK59 : ∀ (v5 : Int) (v7 : Int) (m : gh_M), gh_F m → K59 v5 v7 m → gh_T E (gh_yLaw_typeGrammar.cls, method_5_code, 10, false, 9) (d + 4) 59 [(0, 2, 2), (1, 2, 1), (2, 2, 63), (3, 0, v3), (4, 0, v4), (5, 0, v5), (6, 0, v6), (7, 0, v7)] [] m (fun r m1 => gh_F m1 ∧ Q r m1)) (hK : ∀ (v5 : Int) (v9 : Int) (m : gh_M), gh_F m → K103 v5 v9 m → gh_T E (gh_yLaw_typeGrammar.cls, method_5_code, 10, false, 9) (d + 4) 103 [(0, 2, 2), (1, 2, 1), (2, 2, 63), (3, 0, v3), (4, 0, v4), (5, 0, v5), (6, 0, v6), (7, 0, v7), (8, 0, r1871), (9, 0, v9)] [] m (fun r m1 => gh_F m1 ∧ Q r m1)) (v5 : Int) (v9 : Int) (m : gh_M) (hF : gh_F m) (h : f_Law_typeGrammar_2_1_63_103 v3 v4 v6 v7 r1871 K59 K103 v5 v9 m) : gh_T E (gh_yLaw_typeGrammar.cls, method_5_code, 10, false, 9) (d + 4) 103 [(0, 2, 2), (1, 2, 1), (2, 2, 63), (3, 0, v3), (4, 0, v4), (5, 0, v5), (6, 0, v6), (7, 0, v7), (8, 0, r1871), (9, 0, v9)] [] m (fun r m1 => gh_F m1 ∧ Q r m1) := by
  have hK103 := hK
  unfold f_Law_typeGrammar_2_1_63_103 at h
  refine gh_iload gd_Law_typeGrammar_103 9 rfl ?_
  refine gh_iload gd_Law_typeGrammar_105 8 rfl ?_
  obtain ⟨hA, hB⟩ := h
  refine gh_jge (tgt := 138) gd_Law_typeGrammar_107 (by decide) (fun c1873 => ?_) (fun c1873 => ?_)
  · have h := hA c1873
    refine gh_iload gd_Law_typeGrammar_110 5 rfl ?_
    obtain ⟨J130, hJ130, h⟩ := h
    have hJ130 : ∀ (y0_130 : Int) (m : gh_M), gh_F m → J130 y0_130 m → gh_T E (gh_yLaw_typeGrammar.cls, method_5_code, 10, false, 9) (d + 4) 130 [(0, 2, 2), (1, 2, 1), (2, 2, 63), (3, 0, v3), (4, 0, v4), (6, 0, v6), (7, 0, v7), (8, 0, r1871), (9, 0, v9)] [(0, y0_130)] m (fun r m1 => gh_F m1 ∧ Q r m1) := by
      intro y0_130 m hF hj
      have h := hJ130 y0_130 m hj
      refine gh_istore (L2 := [(5, 0, y0_130), (0, 2, 2), (1, 2, 1), (2, 2, 63), (3, 0, v3), (4, 0, v4), (6, 0, v6), (7, 0, v7), (8, 0, r1871), (9, 0, v9)]) gd_Law_typeGrammar_130 (by decide) rfl ?_
      obtain ⟨q1874, h⟩ := h
      refine gh_iinc (L2 := [(9, 0, v9 + 1), (5, 0, y0_130), (0, 2, 2), (1, 2, 1), (2, 2, 63), (3, 0, v3), (4, 0, v4), (6, 0, v6), (7, 0, v7), (8, 0, r1871)]) gd_Law_typeGrammar_132 9 rfl q1874 (by decide) rfl ?_
      refine gh_goto (tgt := 103) gd_Law_typeGrammar_135 (by decide) ?_
      refine gh_pick (L2 := [(0, 2, 2), (1, 2, 1), (2, 2, 63), (3, 0, v3), (4, 0, v4), (5, 0, y0_130), (6, 0, v6), (7, 0, v7), (8, 0, r1871), (9, 0, v9 + 1)]) [2, 3, 4, 5, 6, 1, 7, 8, 9, 0] rfl ?_
      exact hK103 y0_130 (v9 + 1) m hF h
    obtain ⟨J129, hJ129, h⟩ := h
    have hJ129 : ∀ (m : gh_M), gh_F m → J129 m → gh_T E (gh_yLaw_typeGrammar.cls, method_5_code, 10, false, 9) (d + 4) 129 [(0, 2, 2), (1, 2, 1), (2, 2, 63), (3, 0, v3), (4, 0, v4), (6, 0, v6), (7, 0, v7), (8, 0, r1871), (9, 0, v9)] [] m (fun r m1 => gh_F m1 ∧ Q r m1) := by
      intro m hF hj
      have h := hJ129 m hj
      refine gh_iconst gd_Law_typeGrammar_129 (gh_r0 rfl) ?_
      exact hJ130 0 m hF h
    obtain ⟨hA, hB⟩ := h
    refine gh_zeq (tgt := 129) gd_Law_typeGrammar_112 (by decide) (fun c1875 => ?_) (fun c1875 => ?_)
    · have h := hA c1875
      refine gh_pick (L2 := [(0, 2, 2), (1, 2, 1), (2, 2, 63), (3, 0, v3), (4, 0, v4), (6, 0, v6), (7, 0, v7), (8, 0, r1871), (9, 0, v9)]) [0, 1, 2, 3, 4, 6, 7, 8, 9] rfl ?_
      exact hJ129 m hF h
    · have h := hB c1875
      refine gh_aload_n gd_Law_typeGrammar_115 0 rfl (by decide) ?_
      refine gh_aload_n gd_Law_typeGrammar_116 1 rfl (by decide) ?_
      refine gh_aload_n gd_Law_typeGrammar_117 2 rfl (by decide) ?_
      refine gh_iload_n gd_Law_typeGrammar_118 3 rfl ?_
      refine cv_Law_typesAtom (d := d + 3) gd_Law_typeGrammar_119 gh_k974 (Nat.le_of_ble_eq_true rfl) (gh_C.mono (s_Law_typesAtom_2_1_63 d v3 hF h) (fun r1876 m1877 hq => ?_))
      obtain ⟨hF, h⟩ := hq
      obtain ⟨hA, hB⟩ := h
      refine gh_zeq (tgt := 129) gd_Law_typeGrammar_122 (by decide) (fun c1953 => ?_) (fun c1953 => ?_)
      · have h := hA c1953
        refine gh_pick (L2 := [(0, 2, 2), (1, 2, 1), (2, 2, 63), (3, 0, v3), (4, 0, v4), (6, 0, v6), (7, 0, v7), (8, 0, r1871), (9, 0, v9)]) [0, 1, 2, 3, 4, 6, 7, 8, 9] rfl ?_
        exact hJ129 m1877 hF h
      · have h := hB c1953
        refine gh_iconst gd_Law_typeGrammar_125 (gh_r0 rfl) ?_
        refine gh_goto (tgt := 130) gd_Law_typeGrammar_126 (by decide) ?_
        refine gh_pick (L2 := [(0, 2, 2), (1, 2, 1), (2, 2, 63), (3, 0, v3), (4, 0, v4), (6, 0, v6), (7, 0, v7), (8, 0, r1871), (9, 0, v9)]) [0, 1, 2, 3, 4, 6, 7, 8, 9] rfl ?_
        exact hJ130 1 m1877 hF h
  · have h := hB c1873
    obtain ⟨q1954, h⟩ := h
    refine gh_iinc (L2 := [(7, 0, v7 + 1), (0, 2, 2), (1, 2, 1), (2, 2, 63), (3, 0, v3), (4, 0, v4), (5, 0, v5), (6, 0, v6), (8, 0, r1871), (9, 0, v9)]) gd_Law_typeGrammar_138 7 rfl q1954 (by decide) rfl ?_
    refine gh_goto (tgt := 59) gd_Law_typeGrammar_141 (by decide) ?_
    refine gh_pick (L2 := [(0, 2, 2), (1, 2, 1), (2, 2, 63), (3, 0, v3), (4, 0, v4), (5, 0, v5), (6, 0, v6), (7, 0, v7 + 1)]) [1, 2, 3, 4, 5, 6, 7, 0] rfl ?_
    exact hK59 v5 (v7 + 1) m hF h
theorem b_Law_typeGrammar_2_1_63_59 {E : gh_E} {v3 : Int} {v4 : Int} {v6 : Int} {K12 : Int → gh_M → Prop} {Q : Int → gh_M → Prop} {K59 : Int → Int → gh_M → Prop} (d : Nat) (hK12 : ∀ (v4 : Int) (m : gh_M), gh_F m → K12 v4 m → gh_T E (gh_yLaw_typeGrammar.cls, method_5_code, 10, false, 9) (d + 4) 12 [(0, 2, 2), (1, 2, 1), (2, 2, 63), (3, 0, v3), (4, 0, v4)] [] m (fun r m1 => gh_F m1 ∧ Q r m1)) (hK : ∀ (v5 : Int) (v7 : Int) (m : gh_M), gh_F m → K59 v5 v7 m → gh_T E (gh_yLaw_typeGrammar.cls, method_5_code, 10, false, 9) (d + 4) 59 [(0, 2, 2), (1, 2, 1), (2, 2, 63), (3, 0, v3), (4, 0, v4), (5, 0, v5), (6, 0, v6), (7, 0, v7)] [] m (fun r m1 => gh_F m1 ∧ Q r m1)) (v5 : Int) (v7 : Int) (m : gh_M) (hF : gh_F m) (h : f_Law_typeGrammar_2_1_63_59 v3 v4 v6 K12 K59 v5 v7 m) : gh_T E (gh_yLaw_typeGrammar.cls, method_5_code, 10, false, 9) (d + 4) 59 [(0, 2, 2), (1, 2, 1), (2, 2, 63), (3, 0, v3), (4, 0, v4), (5, 0, v5), (6, 0, v6), (7, 0, v7)] [] m (fun r m1 => gh_F m1 ∧ Q r m1) := by
  have hK59 := hK
  unfold f_Law_typeGrammar_2_1_63_59 at h
  refine gh_iload gd_Law_typeGrammar_59 7 rfl ?_
  refine gh_iload gd_Law_typeGrammar_61 6 rfl ?_
  obtain ⟨hA, hB⟩ := h
  refine gh_jge (tgt := 144) gd_Law_typeGrammar_63 (by decide) (fun c1870 => ?_) (fun c1870 => ?_)
  · have h := hA c1870
    refine gh_iload gd_Law_typeGrammar_66 5 rfl ?_
    obtain ⟨J90, hJ90, h⟩ := h
    have hJ90 : ∀ (y0_90 : Int) (m : gh_M), gh_F m → J90 y0_90 m → gh_T E (gh_yLaw_typeGrammar.cls, method_5_code, 10, false, 9) (d + 4) 90 [(0, 2, 2), (1, 2, 1), (2, 2, 63), (3, 0, v3), (4, 0, v4), (6, 0, v6), (7, 0, v7)] [(0, y0_90)] m (fun r m1 => gh_F m1 ∧ Q r m1) := by
      intro y0_90 m hF hj
      have h := hJ90 y0_90 m hj
      refine gh_istore (L2 := [(5, 0, y0_90), (0, 2, 2), (1, 2, 1), (2, 2, 63), (3, 0, v3), (4, 0, v4), (6, 0, v6), (7, 0, v7)]) gd_Law_typeGrammar_90 (by decide) rfl ?_
      refine gh_aload_n gd_Law_typeGrammar_92 2 rfl (by decide) ?_
      refine gh_aload_n gd_Law_typeGrammar_93 3 rfl (by decide) ?_
      refine gh_iconst gd_Law_typeGrammar_94 (gh_r0 rfl) ?_
      refine cv_Law_low (d := d + 3) gd_Law_typeGrammar_95 gh_k951 (Nat.le_of_ble_eq_true rfl) (gh_C.mono (s_Law_low_1_63 (d + 3) 4 hF h) (fun r1871 m1872 hq => ?_))
      obtain ⟨hF, h⟩ := hq
      refine gh_istore (L2 := [(8, 0, r1871), (5, 0, y0_90), (0, 2, 2), (1, 2, 1), (2, 2, 63), (3, 0, v3), (4, 0, v4), (6, 0, v6), (7, 0, v7)]) gd_Law_typeGrammar_98 (by decide) rfl ?_
      refine gh_iconst gd_Law_typeGrammar_100 (gh_r0 rfl) ?_
      refine gh_istore (L2 := [(9, 0, 0), (8, 0, r1871), (5, 0, y0_90), (0, 2, 2), (1, 2, 1), (2, 2, 63), (3, 0, v3), (4, 0, v4), (6, 0, v6), (7, 0, v7)]) gd_Law_typeGrammar_101 (by decide) rfl ?_
      refine gh_pick (L2 := [(0, 2, 2), (1, 2, 1), (2, 2, 63), (3, 0, v3), (4, 0, v4), (5, 0, y0_90), (6, 0, v6), (7, 0, v7), (8, 0, r1871), (9, 0, 0)]) [3, 4, 5, 6, 7, 2, 8, 9, 1, 0] rfl ?_
      exact gh_M2_sound (T := fun v5 v9 m => gh_T E (gh_yLaw_typeGrammar.cls, method_5_code, 10, false, 9) (d + 4) 103 [(0, 2, 2), (1, 2, 1), (2, 2, 63), (3, 0, v3), (4, 0, v4), (5, 0, v5), (6, 0, v6), (7, 0, v7), (8, 0, r1871), (9, 0, v9)] [] m (fun r m1 => gh_F m1 ∧ Q r m1)) (fun _ _ m => gh_F m) (fun K103 v5 v9 m hK hF h => b_Law_typeGrammar_2_1_63_103 d hK59 hK v5 v9 m hF h) y0_90 0 m1872 hF h
    obtain ⟨J89, hJ89, h⟩ := h
    have hJ89 : ∀ (m : gh_M), gh_F m → J89 m → gh_T E (gh_yLaw_typeGrammar.cls, method_5_code, 10, false, 9) (d + 4) 89 [(0, 2, 2), (1, 2, 1), (2, 2, 63), (3, 0, v3), (4, 0, v4), (6, 0, v6), (7, 0, v7)] [] m (fun r m1 => gh_F m1 ∧ Q r m1) := by
      intro m hF hj
      have h := hJ89 m hj
      refine gh_iconst gd_Law_typeGrammar_89 (gh_r0 rfl) ?_
      exact hJ90 0 m hF h
    obtain ⟨hA, hB⟩ := h
    refine gh_zeq (tgt := 89) gd_Law_typeGrammar_68 (by decide) (fun c1955 => ?_) (fun c1955 => ?_)
    · have h := hA c1955
      refine gh_pick (L2 := [(0, 2, 2), (1, 2, 1), (2, 2, 63), (3, 0, v3), (4, 0, v4), (6, 0, v6), (7, 0, v7)]) [0, 1, 2, 3, 4, 6, 7] rfl ?_
      exact hJ89 m hF h
    · have h := hB c1955
      refine gh_iload gd_Law_typeGrammar_71 7 rfl ?_
      obtain ⟨J85, hJ85, h⟩ := h
      have hJ85 : ∀ (m : gh_M), gh_F m → J85 m → gh_T E (gh_yLaw_typeGrammar.cls, method_5_code, 10, false, 9) (d + 4) 85 [(0, 2, 2), (1, 2, 1), (2, 2, 63), (3, 0, v3), (4, 0, v4), (6, 0, v6), (7, 0, v7)] [] m (fun r m1 => gh_F m1 ∧ Q r m1) := by
        intro m hF hj
        have h := hJ85 m hj
        refine gh_iconst gd_Law_typeGrammar_85 (gh_r0 rfl) ?_
        refine gh_goto (tgt := 90) gd_Law_typeGrammar_86 (by decide) ?_
        exact hJ90 1 m hF h
      obtain ⟨hA, hB⟩ := h
      refine gh_zeq (tgt := 85) gd_Law_typeGrammar_73 (by decide) (fun c1956 => ?_) (fun c1956 => ?_)
      · have h := hA c1956
        refine gh_pick (L2 := [(0, 2, 2), (1, 2, 1), (2, 2, 63), (3, 0, v3), (4, 0, v4), (6, 0, v6), (7, 0, v7)]) [0, 1, 2, 3, 4, 6, 7] rfl ?_
        exact hJ85 m hF h
      · have h := hB c1956
        refine gh_aload_n gd_Law_typeGrammar_76 0 rfl (by decide) ?_
        refine gh_bipush gd_Law_typeGrammar_77 (by decide) (gh_r0 rfl) ?_
        refine cv_Law_types (d := d + 3) gd_Law_typeGrammar_79 gh_k957 (Nat.le_of_ble_eq_true rfl) (gh_C.mono (s_Law_types_2 (d + 1) 124 hF h) (fun r1957 m1958 hq => ?_))
        obtain ⟨hF, h⟩ := hq
        obtain ⟨hA, hB⟩ := h
        refine gh_zeq (tgt := 89) gd_Law_typeGrammar_82 (by decide) (fun c1959 => ?_) (fun c1959 => ?_)
        · have h := hA c1959
          refine gh_pick (L2 := [(0, 2, 2), (1, 2, 1), (2, 2, 63), (3, 0, v3), (4, 0, v4), (6, 0, v6), (7, 0, v7)]) [0, 1, 2, 3, 4, 6, 7] rfl ?_
          exact hJ89 m1958 hF h
        · have h := hB c1959
          refine gh_pick (L2 := [(0, 2, 2), (1, 2, 1), (2, 2, 63), (3, 0, v3), (4, 0, v4), (6, 0, v6), (7, 0, v7)]) [0, 1, 2, 3, 4, 6, 7] rfl ?_
          exact hJ85 m1958 hF h
  · have h := hB c1870
    refine gh_iload gd_Law_typeGrammar_144 5 rfl ?_
    obtain ⟨J163, hJ163, h⟩ := h
    have hJ163 : ∀ (y0_163 : Int) (m : gh_M), gh_F m → J163 y0_163 m → gh_T E (gh_yLaw_typeGrammar.cls, method_5_code, 10, false, 9) (d + 4) 163 [(0, 2, 2), (1, 2, 1), (2, 2, 63), (3, 0, v3), (4, 0, v4)] [(0, y0_163)] m (fun r m1 => gh_F m1 ∧ Q r m1) := by
      intro y0_163 m hF hj
      have h := hJ163 y0_163 m hj
      refine gh_istore (L2 := [(5, 0, y0_163), (0, 2, 2), (1, 2, 1), (2, 2, 63), (3, 0, v3), (4, 0, v4)]) gd_Law_typeGrammar_163 (by decide) rfl ?_
      obtain ⟨q1960, h⟩ := h
      refine gh_iinc (L2 := [(4, 0, v4 + 1), (5, 0, y0_163), (0, 2, 2), (1, 2, 1), (2, 2, 63), (3, 0, v3)]) gd_Law_typeGrammar_165 5 rfl q1960 (by decide) rfl ?_
      refine gh_goto (tgt := 12) gd_Law_typeGrammar_168 (by decide) ?_
      refine gh_pick (L2 := [(0, 2, 2), (1, 2, 1), (2, 2, 63), (3, 0, v3), (4, 0, v4 + 1)]) [2, 3, 4, 5, 0] rfl ?_
      exact hK12 (v4 + 1) m hF h
    obtain ⟨J162, hJ162, h⟩ := h
    have hJ162 : ∀ (m : gh_M), gh_F m → J162 m → gh_T E (gh_yLaw_typeGrammar.cls, method_5_code, 10, false, 9) (d + 4) 162 [(0, 2, 2), (1, 2, 1), (2, 2, 63), (3, 0, v3), (4, 0, v4)] [] m (fun r m1 => gh_F m1 ∧ Q r m1) := by
      intro m hF hj
      have h := hJ162 m hj
      refine gh_iconst gd_Law_typeGrammar_162 (gh_r0 rfl) ?_
      exact hJ163 0 m hF h
    obtain ⟨hA, hB⟩ := h
    refine gh_zeq (tgt := 162) gd_Law_typeGrammar_146 (by decide) (fun c1961 => ?_) (fun c1961 => ?_)
    · have h := hA c1961
      refine gh_pick (L2 := [(0, 2, 2), (1, 2, 1), (2, 2, 63), (3, 0, v3), (4, 0, v4)]) [0, 1, 2, 3, 4] rfl ?_
      exact hJ162 m hF h
    · have h := hB c1961
      refine gh_aload_n gd_Law_typeGrammar_149 0 rfl (by decide) ?_
      refine gh_bipush gd_Law_typeGrammar_150 (by decide) (gh_r0 rfl) ?_
      refine cv_Law_types (d := d + 3) gd_Law_typeGrammar_152 gh_k957 (Nat.le_of_ble_eq_true rfl) (gh_C.mono (s_Law_types_2 (d + 1) 59 hF h) (fun r1962 m1963 hq => ?_))
      obtain ⟨hF, h⟩ := hq
      obtain ⟨hA, hB⟩ := h
      refine gh_zeq (tgt := 162) gd_Law_typeGrammar_155 (by decide) (fun c1964 => ?_) (fun c1964 => ?_)
      · have h := hA c1964
        refine gh_pick (L2 := [(0, 2, 2), (1, 2, 1), (2, 2, 63), (3, 0, v3), (4, 0, v4)]) [0, 1, 2, 3, 4] rfl ?_
        exact hJ162 m1963 hF h
      · have h := hB c1964
        refine gh_iconst gd_Law_typeGrammar_158 (gh_r0 rfl) ?_
        refine gh_goto (tgt := 163) gd_Law_typeGrammar_159 (by decide) ?_
        refine gh_pick (L2 := [(0, 2, 2), (1, 2, 1), (2, 2, 63), (3, 0, v3), (4, 0, v4)]) [0, 1, 2, 3, 4] rfl ?_
        exact hJ163 1 m1963 hF h
theorem b_Law_typeGrammar_2_1_63_12 {E : gh_E} {v3 : Int} {Q : Int → gh_M → Prop} {K12 : Int → gh_M → Prop} (d : Nat) (hK : ∀ (v4 : Int) (m : gh_M), gh_F m → K12 v4 m → gh_T E (gh_yLaw_typeGrammar.cls, method_5_code, 10, false, 9) (d + 4) 12 [(0, 2, 2), (1, 2, 1), (2, 2, 63), (3, 0, v3), (4, 0, v4)] [] m (fun r m1 => gh_F m1 ∧ Q r m1)) (v4 : Int) (m : gh_M) (hF : gh_F m) (h : f_Law_typeGrammar_2_1_63_12 v3 Q K12 v4 m) : gh_T E (gh_yLaw_typeGrammar.cls, method_5_code, 10, false, 9) (d + 4) 12 [(0, 2, 2), (1, 2, 1), (2, 2, 63), (3, 0, v3), (4, 0, v4)] [] m (fun r m1 => gh_F m1 ∧ Q r m1) := by
  have hK12 := hK
  unfold f_Law_typeGrammar_2_1_63_12 at h
  refine gh_iload gd_Law_typeGrammar_12 4 rfl ?_
  refine gh_iload_n gd_Law_typeGrammar_14 3 rfl ?_
  obtain ⟨hA, hB⟩ := h
  refine gh_jge (tgt := 171) gd_Law_typeGrammar_15 (by decide) (fun c1858 => ?_) (fun c1858 => ?_)
  · have h := hA c1858
    refine gh_aload_n gd_Law_typeGrammar_18 0 rfl (by decide) ?_
    refine gh_bipush gd_Law_typeGrammar_19 (by decide) (gh_r0 rfl) ?_
    refine gh_iload gd_Law_typeGrammar_21 4 rfl ?_
    obtain ⟨q1859, h⟩ := h
    refine gh_iadd gd_Law_typeGrammar_23 q1859 ?_
    refine cv_Law_types (d := d + 3) gd_Law_typeGrammar_24 gh_k957 (Nat.le_of_ble_eq_true rfl) (gh_C.mono (s_Law_types_2 (d + 1) (65 + v4) hF h) (fun r1860 m1861 hq => ?_))
    obtain ⟨hF, h⟩ := hq
    obtain ⟨J44, hJ44, h⟩ := h
    have hJ44 : ∀ (y0 : Int) (m : gh_M), gh_F m → J44 y0 m → gh_T E (gh_yLaw_typeGrammar.cls, method_5_code, 10, false, 9) (d + 4) 44 [(0, 2, 2), (1, 2, 1), (2, 2, 63), (3, 0, v3), (4, 0, v4)] [(0, y0)] m (fun r m1 => gh_F m1 ∧ Q r m1) := by
      intro y0 m hF hj
      have h := hJ44 y0 m hj
      refine gh_istore (L2 := [(5, 0, y0), (0, 2, 2), (1, 2, 1), (2, 2, 63), (3, 0, v3), (4, 0, v4)]) gd_Law_typeGrammar_44 (by decide) rfl ?_
      refine gh_iconst gd_Law_typeGrammar_46 (gh_r0 rfl) ?_
      refine gh_aload_n gd_Law_typeGrammar_47 2 rfl (by decide) ?_
      refine gh_aload_n gd_Law_typeGrammar_48 3 rfl (by decide) ?_
      refine gh_iconst gd_Law_typeGrammar_49 (gh_r0 rfl) ?_
      refine cv_Law_low (d := d + 3) gd_Law_typeGrammar_50 gh_k951 (Nat.le_of_ble_eq_true rfl) (gh_C.mono (s_Law_low_1_63 (d + 3) 3 hF h) (fun r1867 m1868 hq => ?_))
      obtain ⟨hF, h⟩ := hq
      obtain ⟨q1869, h⟩ := h
      refine gh_iadd gd_Law_typeGrammar_53 q1869 ?_
      refine gh_name (fun v6 hn => ?_)
      have h := h v6 hn
      refine gh_istore (L2 := [(6, 0, v6), (5, 0, y0), (0, 2, 2), (1, 2, 1), (2, 2, 63), (3, 0, v3), (4, 0, v4)]) gd_Law_typeGrammar_54 (by decide) rfl ?_
      refine gh_iconst gd_Law_typeGrammar_56 (gh_r0 rfl) ?_
      refine gh_istore (L2 := [(7, 0, 0), (6, 0, v6), (5, 0, y0), (0, 2, 2), (1, 2, 1), (2, 2, 63), (3, 0, v3), (4, 0, v4)]) gd_Law_typeGrammar_57 (by decide) rfl ?_
      refine gh_pick (L2 := [(0, 2, 2), (1, 2, 1), (2, 2, 63), (3, 0, v3), (4, 0, v4), (5, 0, y0), (6, 0, v6), (7, 0, 0)]) [3, 4, 5, 6, 7, 2, 1, 0] rfl ?_
      exact gh_M2_sound (T := fun v5 v7 m => gh_T E (gh_yLaw_typeGrammar.cls, method_5_code, 10, false, 9) (d + 4) 59 [(0, 2, 2), (1, 2, 1), (2, 2, 63), (3, 0, v3), (4, 0, v4), (5, 0, v5), (6, 0, v6), (7, 0, v7)] [] m (fun r m1 => gh_F m1 ∧ Q r m1)) (fun _ _ m => gh_F m) (fun K59 v5 v7 m hK hF h => b_Law_typeGrammar_2_1_63_59 d hK12 hK v5 v7 m hF h) y0 0 m1868 hF h
    obtain ⟨J43, hJ43, h⟩ := h
    have hJ43 : ∀ (m : gh_M), gh_F m → J43 m → gh_T E (gh_yLaw_typeGrammar.cls, method_5_code, 10, false, 9) (d + 4) 43 [(0, 2, 2), (1, 2, 1), (2, 2, 63), (3, 0, v3), (4, 0, v4)] [] m (fun r m1 => gh_F m1 ∧ Q r m1) := by
      intro m hF hj
      have h := hJ43 m hj
      refine gh_iconst gd_Law_typeGrammar_43 (gh_r0 rfl) ?_
      exact hJ44 0 m hF h
    obtain ⟨hA, hB⟩ := h
    refine gh_zeq (tgt := 43) gd_Law_typeGrammar_27 (by decide) (fun c1965 => ?_) (fun c1965 => ?_)
    · have h := hA c1965
      exact hJ43 m1861 hF h
    · have h := hB c1965
      refine gh_aload_n gd_Law_typeGrammar_30 0 rfl (by decide) ?_
      refine gh_bipush gd_Law_typeGrammar_31 (by decide) (gh_r0 rfl) ?_
      refine cv_Law_types (d := d + 3) gd_Law_typeGrammar_33 gh_k957 (Nat.le_of_ble_eq_true rfl) (gh_C.mono (s_Law_types_2 (d + 1) 58 hF h) (fun r1966 m1967 hq => ?_))
      obtain ⟨hF, h⟩ := hq
      obtain ⟨hA, hB⟩ := h
      refine gh_zeq (tgt := 43) gd_Law_typeGrammar_36 (by decide) (fun c1968 => ?_) (fun c1968 => ?_)
      · have h := hA c1968
        exact hJ43 m1967 hF h
      · have h := hB c1968
        refine gh_iconst gd_Law_typeGrammar_39 (gh_r0 rfl) ?_
        refine gh_goto (tgt := 44) gd_Law_typeGrammar_40 (by decide) ?_
        exact hJ44 1 m1967 hF h
  · have h := hB c1858
    exact gh_ret9 rfl gd_Law_typeGrammar_171 ⟨hF, h⟩
theorem s_Law_typeGrammar_2_1_63 {E : gh_E} {m : gh_M} {Q : Int → gh_M → Prop} (d : Nat) (hF : gh_F m) (h : w_Law_typeGrammar_2_1_63 m Q) : gh_C E gh_yLaw_typeGrammar method_5_code 10 none 9 (d + 4) [(2, 2), (2, 1), (2, 63)] m (fun r m1 => gh_F m1 ∧ Q r m1) := by
  refine gh_enter2 (L := [(0, 2, 2), (1, 2, 1), (2, 2, 63)]) (by decide +kernel) gh_rt9 (Nat.le_of_ble_eq_true rfl) rfl rfl ?_
  unfold w_Law_typeGrammar_2_1_63 at h
  refine gh_iconst gd_Law_typeGrammar_0 (gh_r0 rfl) ?_
  refine gh_aload_n gd_Law_typeGrammar_1 1 rfl (by decide) ?_
  refine gh_aload_n gd_Law_typeGrammar_2 2 rfl (by decide) ?_
  refine gh_iconst gd_Law_typeGrammar_3 (gh_r0 rfl) ?_
  refine cv_Law_low (d := d + 3) gd_Law_typeGrammar_4 gh_k951 (Nat.le_of_ble_eq_true rfl) (gh_C.mono (s_Law_low_1_63 (d + 3) 3 hF h) (fun r1837 m1838 hq => ?_))
  obtain ⟨hF, h⟩ := hq
  obtain ⟨q1857, h⟩ := h
  refine gh_iadd gd_Law_typeGrammar_7 q1857 ?_
  refine gh_name (fun v3 hn => ?_)
  have h := h v3 hn
  refine gh_istore_n (L2 := [(3, 0, v3), (0, 2, 2), (1, 2, 1), (2, 2, 63)]) gd_Law_typeGrammar_8 (by decide) rfl ?_
  refine gh_iconst gd_Law_typeGrammar_9 (gh_r0 rfl) ?_
  refine gh_istore (L2 := [(4, 0, 0), (3, 0, v3), (0, 2, 2), (1, 2, 1), (2, 2, 63)]) gd_Law_typeGrammar_10 (by decide) rfl ?_
  refine gh_pick (L2 := [(0, 2, 2), (1, 2, 1), (2, 2, 63), (3, 0, v3), (4, 0, 0)]) [2, 3, 4, 1, 0] rfl ?_
  exact gh_M1_sound (T := fun v4 m => gh_T E (gh_yLaw_typeGrammar.cls, method_5_code, 10, false, 9) (d + 4) 12 [(0, 2, 2), (1, 2, 1), (2, 2, 63), (3, 0, v3), (4, 0, v4)] [] m (fun r m1 => gh_F m1 ∧ Q r m1)) (fun _ m => gh_F m) (fun K12 v4 m hK hF h => b_Law_typeGrammar_2_1_63_12 d hK v4 m hF h) 0 m1838 hF h
def w_Law_isPlaceWell_2 (v1 : Int) (v2 : Int) (m : gh_M) (Q : Int → gh_M → Prop) : Prop := w_House_accepts v1 m (fun r2003 m2004 => w_House_next v1 m2004 (fun r2005 m2006 => w_House_end v1 m2006 (fun r2007 m2008 => ∃ J67 : Int → gh_M → Prop, (∀ (y0 : Int) (m : gh_M), J67 y0 m → ∃ J211 : gh_M → Prop, (∀ (m : gh_M), J211 m → Q 0 m) ∧ (((¬ (y0 = 0) ∧ ((gh_iand_f (gh_ishr_f r2005 26) 1) = r2003)) → (((if (r2007 = 0) then (1:Int) else 0) = (if (r2003 = 1) then (1:Int) else 0) → (((if (¬ (r2007 < 0)) then (1:Int) else 0) = (if (¬ (r2005 = 0)) then (1:Int) else 0) → w_House_makes 0 0 v1 m (fun r2021 m2022 => ((r2021 = r2003 → w_House_trees 0 0 v1 m2022 (fun r2024 m2025 => (((if (¬ (r2024 = 0)) then (1:Int) else 0) = (if (r2003 = 1) then (1:Int) else 0) → w_House_properly v1 m2025 (fun r2031 m2032 => ((r2031 = (if v1 = 0 then 0 else r2003) → w_House_items v1 m2032 (fun r2036 m2037 => ((r2036 < (if (¬ (r2007 < 0)) then (1:Int) else 0) → J211 m2037) ∧ (¬ (r2036 < (if (¬ (r2007 < 0)) then (1:Int) else 0)) → Q 1 m2037)))) ∧ (¬ (r2031 = (if v1 = 0 then 0 else r2003)) → J211 m2032)))) ∧ (¬ ((if (¬ (r2024 = 0)) then (1:Int) else 0) = (if (r2003 = 1) then (1:Int) else 0)) → J211 m2025)))) ∧ (¬ (r2021 = r2003) → J211 m2022)))) ∧ (¬ ((if (¬ (r2007 < 0)) then (1:Int) else 0) = (if (¬ (r2005 = 0)) then (1:Int) else 0)) → J211 m))) ∧ (¬ ((if (r2007 = 0) then (1:Int) else 0) = (if (r2003 = 1) then (1:Int) else 0)) → J211 m))) ∧ (¬ (¬ (y0 = 0) ∧ ((gh_iand_f (gh_ishr_f r2005 26) 1) = r2003)) → J211 m))) ∧ ∃ J62 : gh_M → Prop, (∀ (m : gh_M), J62 m → J67 1 m) ∧ ((v1 = v2 → J62 m2008) ∧ (¬ (v1 = v2) → k_House_letter v1 m2008 ∧ gh_i (v1 + 1) ∧ w_House_end (v1 + 1) m2008 (fun r2056 m2057 => (((if ((gh_iand_f (gh_ishr_f r2005 (x_House_letter v1 m2008)) 1) = 1) then (1:Int) else 0) = (if (¬ (r2056 < 0)) then (1:Int) else 0) → J62 m2057) ∧ (¬ ((if ((gh_iand_f (gh_ishr_f r2005 (x_House_letter v1 m2008)) 1) = 1) then (1:Int) else 0) = (if (¬ (r2056 < 0)) then (1:Int) else 0)) → J67 0 m2057))))))))
theorem s_Law_isPlaceWell_2 {E : gh_E} {m : gh_M} {Q : Int → gh_M → Prop} (d : Nat) (v1 : Int) (v2 : Int) (hF : gh_F m) (h : w_Law_isPlaceWell_2 v1 v2 m Q) : gh_C E gh_yLaw_isPlaceWell method_6_code 7 (some .boolean) 8 (d + 34) [(2, 2), (0, v1), (0, v2)] m (fun r m1 => gh_F m1 ∧ Q r m1) := by
  refine gh_enter2 (L := [(0, 2, 2), (1, 0, v1), (2, 0, v2)]) (by decide +kernel) gh_rt8 (Nat.le_of_ble_eq_true rfl) rfl rfl ?_
  unfold w_Law_isPlaceWell_2 at h
  refine gh_aload_n gd_Law_isPlaceWell_0 0 rfl (by decide) ?_
  refine gh_iload_n gd_Law_isPlaceWell_1 1 rfl ?_
  refine cv_House_accepts (d := d + 33) gd_Law_isPlaceWell_2 gh_k899 hF (Nat.le_of_ble_eq_true rfl) (gh_C.mono (s_House_accepts (d + 27) v1 hF h) (fun r2003 m2004 hq => ?_))
  obtain ⟨hF, h⟩ := hq
  refine gh_istore_n (L2 := [(3, 0, r2003), (0, 2, 2), (1, 0, v1), (2, 0, v2)]) gd_Law_isPlaceWell_5 (by decide) rfl ?_
  refine gh_aload_n gd_Law_isPlaceWell_6 1 rfl (by decide) ?_
  refine gh_iload_n gd_Law_isPlaceWell_7 2 rfl ?_
  refine cv_House_next (d := d + 33) gd_Law_isPlaceWell_8 gh_k983 hF (Nat.le_of_ble_eq_true rfl) (gh_C.mono (s_House_next (d + 27) v1 hF h) (fun r2005 m2006 hq => ?_))
  obtain ⟨hF, h⟩ := hq
  refine gh_istore (L2 := [(4, 0, r2005), (3, 0, r2003), (0, 2, 2), (1, 0, v1), (2, 0, v2)]) gd_Law_isPlaceWell_11 (by decide) rfl ?_
  refine gh_aload_n gd_Law_isPlaceWell_13 2 rfl (by decide) ?_
  refine gh_iload_n gd_Law_isPlaceWell_14 3 rfl ?_
  refine cv_House_end (d := d + 33) gd_Law_isPlaceWell_15 gh_k987 hF (Nat.le_of_ble_eq_true rfl) (gh_C.mono (s_House_end (d + 27) v1 hF h) (fun r2007 m2008 hq => ?_))
  obtain ⟨hF, h⟩ := hq
  refine gh_istore (L2 := [(5, 0, r2007), (4, 0, r2005), (3, 0, r2003), (0, 2, 2), (1, 0, v1), (2, 0, v2)]) gd_Law_isPlaceWell_18 (by decide) rfl ?_
  refine gh_iload_n gd_Law_isPlaceWell_20 4 rfl ?_
  refine gh_iload_n gd_Law_isPlaceWell_21 5 rfl ?_
  obtain ⟨J67, hJ67, h⟩ := h
  have hJ67 : ∀ (y0 : Int) (m : gh_M), gh_F m → J67 y0 m → gh_T E (gh_yLaw_isPlaceWell.cls, method_6_code, 7, false, 8) (d + 34) 67 [(0, 2, 2), (1, 0, v1), (3, 0, r2003), (4, 0, r2005), (5, 0, r2007)] [(0, y0)] m (fun r m1 => gh_F m1 ∧ Q r m1) := by
    intro y0 m hF hj
    have h := hJ67 y0 m hj
    refine gh_istore (L2 := [(6, 0, y0), (0, 2, 2), (1, 0, v1), (3, 0, r2003), (4, 0, r2005), (5, 0, r2007)]) gd_Law_isPlaceWell_67 (by decide) rfl ?_
    refine gh_iload gd_Law_isPlaceWell_69 0 rfl ?_
    obtain ⟨J211, hJ211, h⟩ := h
    have hJ211 : ∀ (m : gh_M), gh_F m → J211 m → gh_T E (gh_yLaw_isPlaceWell.cls, method_6_code, 7, false, 8) (d + 34) 211 [] [] m (fun r m1 => gh_F m1 ∧ Q r m1) := by
      intro m hF hj
      have h := hJ211 m hj
      refine gh_iconst gd_Law_isPlaceWell_211 (gh_r0 rfl) ?_
      exact gh_ret8 rfl gd_Law_isPlaceWell_212 (by decide) ⟨hF, h⟩
    obtain ⟨hA, hB⟩ := h
    have k2009 : (¬ (y0 = 0) ∧ ((gh_iand_f (gh_ishr_f r2005 26) 1) = r2003)) → gh_T E (gh_yLaw_isPlaceWell.cls, method_6_code, 7, false, 8) (d + 34) 85 [(6, 0, y0), (0, 2, 2), (1, 0, v1), (3, 0, r2003), (4, 0, r2005), (5, 0, r2007)] [] m (fun r m1 => gh_F m1 ∧ Q r m1) := by
      intro c
      have h := hA c
      refine gh_iload gd_Law_isPlaceWell_85 5 rfl ?_
      have k2011 : ∀ x2012 : Int, x2012 = (if (r2007 = 0) then (1:Int) else 0) → gh_T E (gh_yLaw_isPlaceWell.cls, method_6_code, 7, false, 8) (d + 34) 95 [(6, 0, y0), (0, 2, 2), (1, 0, v1), (3, 0, r2003), (4, 0, r2005), (5, 0, r2007)] [(0, x2012)] m (fun r m1 => gh_F m1 ∧ Q r m1) := by
        rintro _ rfl
        refine gh_iload_n gd_Law_isPlaceWell_95 3 rfl ?_
        refine gh_iconst gd_Law_isPlaceWell_96 (gh_r0 rfl) ?_
        have k2013 : ∀ x2014 : Int, x2014 = (if (r2003 = 1) then (1:Int) else 0) → gh_T E (gh_yLaw_isPlaceWell.cls, method_6_code, 7, false, 8) (d + 34) 105 [(6, 0, y0), (0, 2, 2), (1, 0, v1), (3, 0, r2003), (4, 0, r2005), (5, 0, r2007)] [(0, x2014), (0, (if (r2007 = 0) then (1:Int) else 0))] m (fun r m1 => gh_F m1 ∧ Q r m1) := by
          rintro _ rfl
          obtain ⟨hA, hB⟩ := h
          refine gh_jne (tgt := 211) gd_Law_isPlaceWell_105 (by decide) (fun c2015 => ?_) (fun c2015 => ?_)
          · have h := hA c2015
            refine gh_iload gd_Law_isPlaceWell_108 5 rfl ?_
            have k2016 : ∀ x2017 : Int, x2017 = (if (¬ (r2007 < 0)) then (1:Int) else 0) → gh_T E (gh_yLaw_isPlaceWell.cls, method_6_code, 7, false, 8) (d + 34) 118 [(6, 0, y0), (0, 2, 2), (1, 0, v1), (3, 0, r2003), (4, 0, r2005), (5, 0, r2007)] [(0, x2017)] m (fun r m1 => gh_F m1 ∧ Q r m1) := by
              rintro _ rfl
              refine gh_iload gd_Law_isPlaceWell_118 4 rfl ?_
              have k2018 : ∀ x2019 : Int, x2019 = (if (¬ (r2005 = 0)) then (1:Int) else 0) → gh_T E (gh_yLaw_isPlaceWell.cls, method_6_code, 7, false, 8) (d + 34) 128 [(6, 0, y0), (0, 2, 2), (1, 0, v1), (3, 0, r2003), (4, 0, r2005), (5, 0, r2007)] [(0, x2019), (0, (if (¬ (r2007 < 0)) then (1:Int) else 0))] m (fun r m1 => gh_F m1 ∧ Q r m1) := by
                rintro _ rfl
                obtain ⟨hA, hB⟩ := h
                refine gh_jne (tgt := 211) gd_Law_isPlaceWell_128 (by decide) (fun c2020 => ?_) (fun c2020 => ?_)
                · have h := hA c2020
                  refine gh_aload_n gd_Law_isPlaceWell_131 1 rfl (by decide) ?_
                  refine gh_iconst gd_Law_isPlaceWell_132 (gh_r0 rfl) ?_
                  refine gh_iconst gd_Law_isPlaceWell_133 (gh_r0 rfl) ?_
                  refine gh_iload_n gd_Law_isPlaceWell_134 2 rfl ?_
                  refine cv_House_makes (d := d + 33) gd_Law_isPlaceWell_135 gh_k1013 hF (Nat.le_of_ble_eq_true rfl) (gh_C.mono (s_House_makes (d + 27) 0 0 v1 hF h) (fun r2021 m2022 hq => ?_))
                  obtain ⟨hF, h⟩ := hq
                  refine gh_iload_n gd_Law_isPlaceWell_138 3 rfl ?_
                  obtain ⟨hA, hB⟩ := h
                  refine gh_jne (tgt := 211) gd_Law_isPlaceWell_139 (by decide) (fun c2023 => ?_) (fun c2023 => ?_)
                  · have h := hA c2023
                    refine gh_aload_n gd_Law_isPlaceWell_142 1 rfl (by decide) ?_
                    refine gh_iconst gd_Law_isPlaceWell_143 (gh_r0 rfl) ?_
                    refine gh_iconst gd_Law_isPlaceWell_144 (gh_r0 rfl) ?_
                    refine gh_iload_n gd_Law_isPlaceWell_145 2 rfl ?_
                    refine cv_House_trees (d := d + 33) gd_Law_isPlaceWell_146 gh_k1021 hF (Nat.le_of_ble_eq_true rfl) (gh_C.mono (s_House_trees d 0 0 v1 hF h) (fun r2024 m2025 hq => ?_))
                    obtain ⟨hF, h⟩ := hq
                    refine gh_lconst (n := 0) gd_Law_isPlaceWell_149 (by decide) (gh_r1 rfl) ?_
                    refine gh_lcmp gd_Law_isPlaceWell_150 ?_
                    have k2026 : ∀ x2027 : Int, x2027 = (if (¬ (r2024 = 0)) then (1:Int) else 0) → gh_T E (gh_yLaw_isPlaceWell.cls, method_6_code, 7, false, 8) (d + 34) 159 [(6, 0, y0), (0, 2, 2), (1, 0, v1), (3, 0, r2003), (4, 0, r2005), (5, 0, r2007)] [(0, x2027)] m2025 (fun r m1 => gh_F m1 ∧ Q r m1) := by
                      rintro _ rfl
                      refine gh_iload_n gd_Law_isPlaceWell_159 3 rfl ?_
                      refine gh_iconst gd_Law_isPlaceWell_160 (gh_r0 rfl) ?_
                      have k2028 : ∀ x2029 : Int, x2029 = (if (r2003 = 1) then (1:Int) else 0) → gh_T E (gh_yLaw_isPlaceWell.cls, method_6_code, 7, false, 8) (d + 34) 169 [(6, 0, y0), (0, 2, 2), (1, 0, v1), (3, 0, r2003), (4, 0, r2005), (5, 0, r2007)] [(0, x2029), (0, (if (¬ (r2024 = 0)) then (1:Int) else 0))] m2025 (fun r m1 => gh_F m1 ∧ Q r m1) := by
                        rintro _ rfl
                        obtain ⟨hA, hB⟩ := h
                        refine gh_jne (tgt := 211) gd_Law_isPlaceWell_169 (by decide) (fun c2030 => ?_) (fun c2030 => ?_)
                        · have h := hA c2030
                          refine gh_aload_n gd_Law_isPlaceWell_172 1 rfl (by decide) ?_
                          refine gh_iload_n gd_Law_isPlaceWell_173 2 rfl ?_
                          refine cv_House_properly (d := d + 33) gd_Law_isPlaceWell_174 gh_k1081 hF (Nat.le_of_ble_eq_true rfl) (gh_C.mono (s_House_properly (d + 27) v1 hF h) (fun r2031 m2032 hq => ?_))
                          obtain ⟨hF, h⟩ := hq
                          refine gh_iload_n gd_Law_isPlaceWell_177 2 rfl ?_
                          have k2033 : ∀ x2034 : Int, x2034 = (if v1 = 0 then 0 else r2003) → gh_T E (gh_yLaw_isPlaceWell.cls, method_6_code, 7, false, 8) (d + 34) 186 [(6, 0, y0), (0, 2, 2), (1, 0, v1), (3, 0, r2003), (4, 0, r2005), (5, 0, r2007)] [(0, x2034), (0, r2031)] m2032 (fun r m1 => gh_F m1 ∧ Q r m1) := by
                            rintro _ rfl
                            obtain ⟨hA, hB⟩ := h
                            refine gh_jne (tgt := 211) gd_Law_isPlaceWell_186 (by decide) (fun c2035 => ?_) (fun c2035 => ?_)
                            · have h := hA c2035
                              refine gh_aload_n gd_Law_isPlaceWell_189 1 rfl (by decide) ?_
                              refine gh_iload_n gd_Law_isPlaceWell_190 2 rfl ?_
                              refine cv_House_items (d := d + 33) gd_Law_isPlaceWell_191 gh_k1085 hF (Nat.le_of_ble_eq_true rfl) (gh_C.mono (s_House_items (d + 27) v1 hF h) (fun r2036 m2037 hq => ?_))
                              obtain ⟨hF, h⟩ := hq
                              refine gh_iload gd_Law_isPlaceWell_194 5 rfl ?_
                              have k2038 : ∀ x2039 : Int, x2039 = (if (¬ (r2007 < 0)) then (1:Int) else 0) → gh_T E (gh_yLaw_isPlaceWell.cls, method_6_code, 7, false, 8) (d + 34) 204 [(6, 0, y0), (0, 2, 2), (1, 0, v1), (3, 0, r2003), (4, 0, r2005), (5, 0, r2007)] [(0, x2039), (0, r2036)] m2037 (fun r m1 => gh_F m1 ∧ Q r m1) := by
                                rintro _ rfl
                                obtain ⟨hA, hB⟩ := h
                                refine gh_jlt (tgt := 211) gd_Law_isPlaceWell_204 (by decide) (fun c2040 => ?_) (fun c2040 => ?_)
                                · have h := hA c2040
                                  refine gh_pick (L2 := []) [] rfl ?_
                                  exact hJ211 m2037 hF h
                                · have h := hB c2040
                                  refine gh_iconst gd_Law_isPlaceWell_207 (gh_r0 rfl) ?_
                                  refine gh_goto (tgt := 212) gd_Law_isPlaceWell_208 (by decide) ?_
                                  exact gh_ret8 rfl gd_Law_isPlaceWell_212 (by decide) ⟨hF, h⟩
                              refine gh_zlt (tgt := 203) gd_Law_isPlaceWell_196 (by decide) (fun c2041 => ?_) (fun c2041 => ?_)
                              · have hz : True := trivial
                                refine gh_iconst gd_Law_isPlaceWell_203 (gh_r0 rfl) ?_
                                exact k2038 _ (if_neg (c := (¬ (r2007 < 0))) (not_not_intro c2041)).symm
                              · have hz : True := trivial
                                refine gh_iconst gd_Law_isPlaceWell_199 (gh_r0 rfl) ?_
                                refine gh_goto (tgt := 204) gd_Law_isPlaceWell_200 (by decide) ?_
                                exact k2038 _ (if_pos (c := (¬ (r2007 < 0))) c2041).symm
                            · have h := hB c2035
                              refine gh_pick (L2 := []) [] rfl ?_
                              exact hJ211 m2032 hF h
                          refine gh_zne (tgt := 185) gd_Law_isPlaceWell_178 (by decide) (fun c2042 => ?_) (fun c2042 => ?_)
                          · have hz : True := trivial
                            refine gh_iconst gd_Law_isPlaceWell_181 (gh_r0 rfl) ?_
                            refine gh_goto (tgt := 186) gd_Law_isPlaceWell_182 (by decide) ?_
                            exact k2033 _ (by rw [if_pos c2042])
                          · have hz : True := trivial
                            refine gh_iload_n gd_Law_isPlaceWell_185 3 rfl ?_
                            exact k2033 _ (by rw [if_neg c2042])
                        · have h := hB c2030
                          refine gh_pick (L2 := []) [] rfl ?_
                          exact hJ211 m2025 hF h
                      refine gh_jne (tgt := 168) gd_Law_isPlaceWell_161 (by decide) (fun c2043 => ?_) (fun c2043 => ?_)
                      · have hz : True := trivial
                        refine gh_iconst gd_Law_isPlaceWell_164 (gh_r0 rfl) ?_
                        refine gh_goto (tgt := 169) gd_Law_isPlaceWell_165 (by decide) ?_
                        exact k2028 _ (if_pos (c := (r2003 = 1)) c2043).symm
                      · have hz : True := trivial
                        refine gh_iconst gd_Law_isPlaceWell_168 (gh_r0 rfl) ?_
                        exact k2028 _ (if_neg (c := (r2003 = 1)) c2043).symm
                    refine gh_ceq (tgt := 158) gd_Law_isPlaceWell_151 (by decide) (fun c2044 => ?_) (fun c2044 => ?_)
                    · have hz : True := trivial
                      refine gh_iconst gd_Law_isPlaceWell_158 (gh_r0 rfl) ?_
                      exact k2026 _ (if_neg (c := (¬ (r2024 = 0))) (not_not_intro c2044)).symm
                    · have hz : True := trivial
                      refine gh_iconst gd_Law_isPlaceWell_154 (gh_r0 rfl) ?_
                      refine gh_goto (tgt := 159) gd_Law_isPlaceWell_155 (by decide) ?_
                      exact k2026 _ (if_pos (c := (¬ (r2024 = 0))) c2044).symm
                  · have h := hB c2023
                    refine gh_pick (L2 := []) [] rfl ?_
                    exact hJ211 m2022 hF h
                · have h := hB c2020
                  refine gh_pick (L2 := []) [] rfl ?_
                  exact hJ211 m hF h
              refine gh_zeq (tgt := 127) gd_Law_isPlaceWell_120 (by decide) (fun c2045 => ?_) (fun c2045 => ?_)
              · have hz : True := trivial
                refine gh_iconst gd_Law_isPlaceWell_127 (gh_r0 rfl) ?_
                exact k2018 _ (if_neg (c := (¬ (r2005 = 0))) (not_not_intro c2045)).symm
              · have hz : True := trivial
                refine gh_iconst gd_Law_isPlaceWell_123 (gh_r0 rfl) ?_
                refine gh_goto (tgt := 128) gd_Law_isPlaceWell_124 (by decide) ?_
                exact k2018 _ (if_pos (c := (¬ (r2005 = 0))) c2045).symm
            refine gh_zlt (tgt := 117) gd_Law_isPlaceWell_110 (by decide) (fun c2046 => ?_) (fun c2046 => ?_)
            · have hz : True := trivial
              refine gh_iconst gd_Law_isPlaceWell_117 (gh_r0 rfl) ?_
              exact k2016 _ (if_neg (c := (¬ (r2007 < 0))) (not_not_intro c2046)).symm
            · have hz : True := trivial
              refine gh_iconst gd_Law_isPlaceWell_113 (gh_r0 rfl) ?_
              refine gh_goto (tgt := 118) gd_Law_isPlaceWell_114 (by decide) ?_
              exact k2016 _ (if_pos (c := (¬ (r2007 < 0))) c2046).symm
          · have h := hB c2015
            refine gh_pick (L2 := []) [] rfl ?_
            exact hJ211 m hF h
        refine gh_jne (tgt := 104) gd_Law_isPlaceWell_97 (by decide) (fun c2047 => ?_) (fun c2047 => ?_)
        · have hz : True := trivial
          refine gh_iconst gd_Law_isPlaceWell_100 (gh_r0 rfl) ?_
          refine gh_goto (tgt := 105) gd_Law_isPlaceWell_101 (by decide) ?_
          exact k2013 _ (if_pos (c := (r2003 = 1)) c2047).symm
        · have hz : True := trivial
          refine gh_iconst gd_Law_isPlaceWell_104 (gh_r0 rfl) ?_
          exact k2013 _ (if_neg (c := (r2003 = 1)) c2047).symm
      refine gh_zne (tgt := 94) gd_Law_isPlaceWell_87 (by decide) (fun c2048 => ?_) (fun c2048 => ?_)
      · have hz : True := trivial
        refine gh_iconst gd_Law_isPlaceWell_90 (gh_r0 rfl) ?_
        refine gh_goto (tgt := 95) gd_Law_isPlaceWell_91 (by decide) ?_
        exact k2011 _ (if_pos (c := (r2007 = 0)) c2048).symm
      · have hz : True := trivial
        refine gh_iconst gd_Law_isPlaceWell_94 (gh_r0 rfl) ?_
        exact k2011 _ (if_neg (c := (r2007 = 0)) c2048).symm
    have k2010 : ¬ (¬ (y0 = 0) ∧ ((gh_iand_f (gh_ishr_f r2005 26) 1) = r2003)) → gh_T E (gh_yLaw_isPlaceWell.cls, method_6_code, 7, false, 8) (d + 34) 211 [(6, 0, y0), (0, 2, 2), (1, 0, v1), (3, 0, r2003), (4, 0, r2005), (5, 0, r2007)] [] m (fun r m1 => gh_F m1 ∧ Q r m1) := by
      intro c
      have h := hB c
      refine gh_pick (L2 := []) [] rfl ?_
      exact hJ211 m hF h
    refine gh_zeq (tgt := 211) gd_Law_isPlaceWell_71 (by decide) (fun c2049 => ?_) (fun c2049 => ?_)
    · have hz : True := trivial
      exact k2010 (fun z => z.1 c2049)
    · have hz : True := trivial
      refine gh_iload gd_Law_isPlaceWell_74 4 rfl ?_
      refine gh_bipush gd_Law_isPlaceWell_76 (by decide) (gh_r0 rfl) ?_
      refine gh_ishr gd_Law_isPlaceWell_78 ?_
      refine gh_iconst gd_Law_isPlaceWell_79 (gh_r0 rfl) ?_
      refine gh_iand gd_Law_isPlaceWell_80 ?_
      refine gh_iload_n gd_Law_isPlaceWell_81 3 rfl ?_
      refine gh_jne (tgt := 211) gd_Law_isPlaceWell_82 (by decide) (fun c2050 => ?_) (fun c2050 => ?_)
      · have hz : True := trivial
        exact k2009 ⟨c2049, c2050⟩
      · have hz : True := trivial
        exact k2010 (fun z => c2050 z.2)
  obtain ⟨J62, hJ62, h⟩ := h
  have hJ62 : ∀ (m : gh_M), gh_F m → J62 m → gh_T E (gh_yLaw_isPlaceWell.cls, method_6_code, 7, false, 8) (d + 34) 62 [(0, 2, 2), (1, 0, v1), (3, 0, r2003), (4, 0, r2005), (5, 0, r2007)] [] m (fun r m1 => gh_F m1 ∧ Q r m1) := by
    intro m hF hj
    have h := hJ62 m hj
    refine gh_iconst gd_Law_isPlaceWell_62 (gh_r0 rfl) ?_
    refine gh_goto (tgt := 67) gd_Law_isPlaceWell_63 (by decide) ?_
    exact hJ67 1 m hF h
  obtain ⟨hA, hB⟩ := h
  refine gh_jeq (tgt := 62) gd_Law_isPlaceWell_22 (by decide) (fun c2051 => ?_) (fun c2051 => ?_)
  · have h := hA c2051
    refine gh_pick (L2 := [(0, 2, 2), (1, 0, v1), (3, 0, r2003), (4, 0, r2005), (5, 0, r2007)]) [3, 4, 2, 1, 0] rfl ?_
    exact hJ62 m2008 hF h
  · have h := hB c2051
    refine gh_iload gd_Law_isPlaceWell_25 1 rfl ?_
    refine gh_aload_n gd_Law_isPlaceWell_27 3 rfl (by decide) ?_
    refine gh_iload_n gd_Law_isPlaceWell_28 4 rfl ?_
    obtain ⟨q2052, h⟩ := h
    refine cv_House_letter (d := d + 33) gd_Law_isPlaceWell_29 gh_k1009 hF (Nat.le_of_ble_eq_true rfl) (gh_C.pe (e_House_letter (d + 33) v1 hF q2052) ?_)
    refine gh_ishr gd_Law_isPlaceWell_32 ?_
    refine gh_iconst gd_Law_isPlaceWell_33 (gh_r0 rfl) ?_
    refine gh_iand gd_Law_isPlaceWell_34 ?_
    refine gh_iconst gd_Law_isPlaceWell_35 (gh_r0 rfl) ?_
    have k2053 : ∀ x2054 : Int, x2054 = (if ((gh_iand_f (gh_ishr_f r2005 (x_House_letter v1 m2008)) 1) = 1) then (1:Int) else 0) → gh_T E (gh_yLaw_isPlaceWell.cls, method_6_code, 7, false, 8) (d + 34) 44 [(5, 0, r2007), (4, 0, r2005), (3, 0, r2003), (0, 2, 2), (1, 0, v1), (2, 0, v2)] [(0, x2054)] m2008 (fun r m1 => gh_F m1 ∧ Q r m1) := by
      rintro _ rfl
      refine gh_aload_n gd_Law_isPlaceWell_44 3 rfl (by decide) ?_
      refine gh_iload_n gd_Law_isPlaceWell_45 4 rfl ?_
      refine gh_iconst gd_Law_isPlaceWell_46 (gh_r0 rfl) ?_
      obtain ⟨q2055, h⟩ := h
      refine gh_iadd gd_Law_isPlaceWell_47 q2055 ?_
      refine cv_House_end (d := d + 33) gd_Law_isPlaceWell_48 gh_k987 hF (Nat.le_of_ble_eq_true rfl) (gh_C.mono (s_House_end (d + 27) (v1 + 1) hF h) (fun r2056 m2057 hq => ?_))
      obtain ⟨hF, h⟩ := hq
      have k2058 : ∀ x2059 : Int, x2059 = (if (¬ (r2056 < 0)) then (1:Int) else 0) → gh_T E (gh_yLaw_isPlaceWell.cls, method_6_code, 7, false, 8) (d + 34) 59 [(5, 0, r2007), (4, 0, r2005), (3, 0, r2003), (0, 2, 2), (1, 0, v1), (2, 0, v2)] [(0, x2059), (0, (if ((gh_iand_f (gh_ishr_f r2005 (x_House_letter v1 m2008)) 1) = 1) then (1:Int) else 0))] m2057 (fun r m1 => gh_F m1 ∧ Q r m1) := by
        rintro _ rfl
        obtain ⟨hA, hB⟩ := h
        refine gh_jne (tgt := 66) gd_Law_isPlaceWell_59 (by decide) (fun c2060 => ?_) (fun c2060 => ?_)
        · have h := hA c2060
          refine gh_pick (L2 := [(0, 2, 2), (1, 0, v1), (3, 0, r2003), (4, 0, r2005), (5, 0, r2007)]) [3, 4, 2, 1, 0] rfl ?_
          exact hJ62 m2057 hF h
        · have h := hB c2060
          refine gh_iconst gd_Law_isPlaceWell_66 (gh_r0 rfl) ?_
          refine gh_pick (L2 := [(0, 2, 2), (1, 0, v1), (3, 0, r2003), (4, 0, r2005), (5, 0, r2007)]) [3, 4, 2, 1, 0] rfl ?_
          exact hJ67 0 m2057 hF h
      refine gh_zlt (tgt := 58) gd_Law_isPlaceWell_51 (by decide) (fun c2061 => ?_) (fun c2061 => ?_)
      · have hz : True := trivial
        refine gh_iconst gd_Law_isPlaceWell_58 (gh_r0 rfl) ?_
        exact k2058 _ (if_neg (c := (¬ (r2056 < 0))) (not_not_intro c2061)).symm
      · have hz : True := trivial
        refine gh_iconst gd_Law_isPlaceWell_54 (gh_r0 rfl) ?_
        refine gh_goto (tgt := 59) gd_Law_isPlaceWell_55 (by decide) ?_
        exact k2058 _ (if_pos (c := (¬ (r2056 < 0))) c2061).symm
    refine gh_jne (tgt := 43) gd_Law_isPlaceWell_36 (by decide) (fun c2062 => ?_) (fun c2062 => ?_)
    · have hz : True := trivial
      refine gh_iconst gd_Law_isPlaceWell_39 (gh_r0 rfl) ?_
      refine gh_goto (tgt := 44) gd_Law_isPlaceWell_40 (by decide) ?_
      exact k2053 _ (if_pos (c := ((gh_iand_f (gh_ishr_f r2005 (x_House_letter v1 m2008)) 1) = 1)) c2062).symm
    · have hz : True := trivial
      refine gh_iconst gd_Law_isPlaceWell_43 (gh_r0 rfl) ?_
      exact k2053 _ (if_neg (c := ((gh_iand_f (gh_ishr_f r2005 (x_House_letter v1 m2008)) 1) = 1)) c2062).symm
def f_Law_isTreeWell_2_64_72 (v3 : Int) (r2082 : Int) (Q : Int → gh_M → Prop) (K72 : Int → Int → Int → gh_M → Prop) (v6 : Int) (v7 : Int) (v8 : Int) (m : gh_M) : Prop := ∃ J183 : Int → Int → gh_M → Prop, (∀ (v6' : Int) (v7' : Int) (m : gh_M), J183 v6' v7' m → Q (if (¬ (v7' = 0) ∧ (v6' = v3)) then (1:Int) else 0) m) ∧ (((¬ (v8 < r2082) ∨ (v7 = 0)) → J183 v6 v7 m) ∧ (¬ (¬ (v8 < r2082) ∨ (v7 = 0)) → k_House_step v8 m ∧ ∀ v9 : Int, v9 = x_House_step v8 m → ∃ J108 : gh_M → Prop, (∀ (m : gh_M), J108 m → ∃ J177 : Int → Int → Prop, (∀ (v6' : Int) (v7' : Int), J177 v6' v7' → gh_i (v8 + 1) ∧ K72 v6' v7' (v8 + 1) m) ∧ ((v9 < 0 → (((v6 < v3) → (k_House_letter v6 m ∧ gh_i ((-1) - v9)))) ∧ ∀ v7' : Int, v7' = (if ((v6 < v3) ∧ ((x_House_letter v6 m) = ((-1) - v9))) then (1:Int) else 0) → gh_i (v6 + 1) ∧ J177 (v6 + 1) v7') ∧ (¬ (v9 < 0) → k_House_rule v9 0 m ∧ ((¬ ((x_House_rule v9 0 m) < 0) → (((v8 ≤ 0) → (k_House_rule v9 0 m))))) ∧ ∀ v7' : Int, v7' = (if (¬ ((x_House_rule v9 0 m) < 0) ∧ (¬ (v8 ≤ 0) ∨ ((x_House_rule v9 0 m) = 0))) then (1:Int) else 0) → J177 v6 v7'))) ∧ ((v8 < 63 → gh_i (v8 + 1) ∧ 0 ≤ v8 + 1 ∧ (v8 + 1) < 64 ∧ J108 (gh_u m 64 (v8 + 1) v9)) ∧ (¬ (v8 < 63) → J108 m))))
def w_Law_isTreeWell_2_64 (v1 : Int) (v3 : Int) (m : gh_M) (Q : Int → gh_M → Prop) : Prop := w_House_pick v1 m (fun r2082 m2083 => ((r2082 = (-1004) → Q 1 m2083) ∧ (¬ (r2082 = (-1004)) → ∃ J61 : Int → Prop, (∀ (y0 : Int), J61 y0 → gh_M3 (fun K72 v6 v7 v8 m => f_Law_isTreeWell_2_64_72 v3 r2082 Q K72 v6 v7 v8 m) 0 y0 0 (gh_u m2083 64 0 r2082)) ∧ ∃ J60 : Prop, (J60 → J61 0) ∧ ((r2082 ≤ 0 → J60) ∧ (¬ (r2082 ≤ 0) → w_House_sum 6 m2083 (fun r2115 => (((r2115 = r2082) → ((¬ ((x_House_deep m2083) < 1) → (k_House_step r2082 m2083))))) ∧ ((((r2115 = r2082) ∧ (¬ ((x_House_deep m2083) < 1) ∧ ((x_House_step r2082 m2083) = (-1001)))) → J61 1) ∧ (¬ ((r2115 = r2082) ∧ (¬ ((x_House_deep m2083) < 1) ∧ ((x_House_step r2082 m2083) = (-1001)))) → J60))))))))
theorem b_Law_isTreeWell_2_64_72 {E : gh_E} {v3 : Int} {r2082 : Int} {Q : Int → gh_M → Prop} {K72 : Int → Int → Int → gh_M → Prop} (d : Nat) (hK : ∀ (v6 : Int) (v7 : Int) (v8 : Int) (m : gh_M), gh_F m → K72 v6 v7 v8 m → gh_T E (gh_yLaw_isTreeWell.cls, method_7_code, 10, false, 8) (d + 36) 72 [(0, 2, 2), (3, 0, v3), (4, 2, 64), (5, 0, r2082), (6, 0, v6), (7, 0, v7), (8, 0, v8)] [] m (fun r m1 => gh_F m1 ∧ Q r m1)) (v6 : Int) (v7 : Int) (v8 : Int) (m : gh_M) (hF : gh_F m) (h : f_Law_isTreeWell_2_64_72 v3 r2082 Q K72 v6 v7 v8 m) : gh_T E (gh_yLaw_isTreeWell.cls, method_7_code, 10, false, 8) (d + 36) 72 [(0, 2, 2), (3, 0, v3), (4, 2, 64), (5, 0, r2082), (6, 0, v6), (7, 0, v7), (8, 0, v8)] [] m (fun r m1 => gh_F m1 ∧ Q r m1) := by
  have hK72 := hK
  unfold f_Law_isTreeWell_2_64_72 at h
  refine gh_iload gd_Law_isTreeWell_72 6 rfl ?_
  refine gh_iload gd_Law_isTreeWell_74 3 rfl ?_
  obtain ⟨J183, hJ183, h⟩ := h
  have hJ183 : ∀ (v6' : Int) (v7' : Int) (m : gh_M), gh_F m → J183 v6' v7' m → gh_T E (gh_yLaw_isTreeWell.cls, method_7_code, 10, false, 8) (d + 36) 183 [(3, 0, v3), (6, 0, v6'), (7, 0, v7')] [] m (fun r m1 => gh_F m1 ∧ Q r m1) := by
    intro v6' v7' m hF hj
    have h := hJ183 v6' v7' m hj
    refine gh_iload gd_Law_isTreeWell_183 2 rfl ?_
    have k2085 : ∀ x2086 : Int, x2086 = (if (¬ (v7' = 0) ∧ (v6' = v3)) then (1:Int) else 0) → gh_T E (gh_yLaw_isTreeWell.cls, method_7_code, 10, false, 8) (d + 36) 199 [(3, 0, v3), (6, 0, v6'), (7, 0, v7')] [(0, x2086)] m (fun r m1 => gh_F m1 ∧ Q r m1) := by
      rintro _ rfl
      exact gh_ret8 rfl gd_Law_isTreeWell_199 gh_ib01 ⟨hF, h⟩
    refine gh_zeq (tgt := 198) gd_Law_isTreeWell_185 (by decide) (fun c2087 => ?_) (fun c2087 => ?_)
    · have hz : True := trivial
      refine gh_iconst gd_Law_isTreeWell_198 (gh_r0 rfl) ?_
      exact k2085 _ (if_neg (c := (¬ (v7' = 0) ∧ (v6' = v3))) (fun z => z.1 c2087)).symm
    · have hz : True := trivial
      refine gh_iload gd_Law_isTreeWell_188 1 rfl ?_
      refine gh_iload_n gd_Law_isTreeWell_190 0 rfl ?_
      refine gh_jne (tgt := 198) gd_Law_isTreeWell_191 (by decide) (fun c2088 => ?_) (fun c2088 => ?_)
      · have hz : True := trivial
        refine gh_iconst gd_Law_isTreeWell_194 (gh_r0 rfl) ?_
        refine gh_goto (tgt := 199) gd_Law_isTreeWell_195 (by decide) ?_
        exact k2085 _ (if_pos (c := (¬ (v7' = 0) ∧ (v6' = v3))) ⟨c2087, c2088⟩).symm
      · have hz : True := trivial
        refine gh_iconst gd_Law_isTreeWell_198 (gh_r0 rfl) ?_
        exact k2085 _ (if_neg (c := (¬ (v7' = 0) ∧ (v6' = v3))) (fun z => c2088 z.2)).symm
  obtain ⟨hA, hB⟩ := h
  have k2089 : (¬ (v8 < r2082) ∨ (v7 = 0)) → gh_T E (gh_yLaw_isTreeWell.cls, method_7_code, 10, false, 8) (d + 36) 183 [(0, 2, 2), (3, 0, v3), (4, 2, 64), (5, 0, r2082), (6, 0, v6), (7, 0, v7), (8, 0, v8)] [] m (fun r m1 => gh_F m1 ∧ Q r m1) := by
    intro c
    have h := hA c
    refine gh_pick (L2 := [(3, 0, v3), (6, 0, v6), (7, 0, v7)]) [1, 4, 5] rfl ?_
    exact hJ183 v6 v7 m hF h
  have k2090 : ¬ (¬ (v8 < r2082) ∨ (v7 = 0)) → gh_T E (gh_yLaw_isTreeWell.cls, method_7_code, 10, false, 8) (d + 36) 84 [(0, 2, 2), (3, 0, v3), (4, 2, 64), (5, 0, r2082), (6, 0, v6), (7, 0, v7), (8, 0, v8)] [] m (fun r m1 => gh_F m1 ∧ Q r m1) := by
    intro c
    have h := hB c
    refine gh_aload_n gd_Law_isTreeWell_84 0 rfl (by decide) ?_
    refine gh_iload gd_Law_isTreeWell_85 6 rfl ?_
    obtain ⟨q2091, h⟩ := h
    refine cv_House_step (d := d + 35) gd_Law_isTreeWell_87 gh_k1175 hF (Nat.le_of_ble_eq_true rfl) (gh_C.pe (e_House_step (d + 35) v8 hF q2091) ?_)
    refine gh_name (fun v9 hn => ?_)
    have h := h v9 hn
    refine gh_istore (L2 := [(9, 0, v9), (0, 2, 2), (3, 0, v3), (4, 2, 64), (5, 0, r2082), (6, 0, v6), (7, 0, v7), (8, 0, v8)]) gd_Law_isTreeWell_90 (by decide) rfl ?_
    refine gh_iload gd_Law_isTreeWell_92 7 rfl ?_
    refine gh_bipush gd_Law_isTreeWell_94 (by decide) (gh_r0 rfl) ?_
    obtain ⟨J108, hJ108, h⟩ := h
    have hJ108 : ∀ (m : gh_M), gh_F m → J108 m → gh_T E (gh_yLaw_isTreeWell.cls, method_7_code, 10, false, 8) (d + 36) 108 [(0, 2, 2), (3, 0, v3), (4, 2, 64), (5, 0, r2082), (6, 0, v6), (8, 0, v8), (9, 0, v9)] [] m (fun r m1 => gh_F m1 ∧ Q r m1) := by
      intro m hF hj
      have h := hJ108 m hj
      refine gh_iload gd_Law_isTreeWell_108 6 rfl ?_
      obtain ⟨J177, hJ177, h⟩ := h
      have hJ177 : ∀ (v6' : Int) (v7' : Int), gh_F m → J177 v6' v7' → gh_T E (gh_yLaw_isTreeWell.cls, method_7_code, 10, false, 8) (d + 36) 177 [(0, 2, 2), (3, 0, v3), (4, 2, 64), (5, 0, r2082), (6, 0, v6'), (7, 0, v7'), (8, 0, v8)] [] m (fun r m1 => gh_F m1 ∧ Q r m1) := by
        intro v6' v7' hF hj
        have h := hJ177 v6' v7' hj
        obtain ⟨q2092, h⟩ := h
        refine gh_iinc (L2 := [(8, 0, v8 + 1), (0, 2, 2), (3, 0, v3), (4, 2, 64), (5, 0, r2082), (6, 0, v6'), (7, 0, v7')]) gd_Law_isTreeWell_177 6 rfl q2092 (by decide) rfl ?_
        refine gh_goto (tgt := 72) gd_Law_isTreeWell_180 (by decide) ?_
        refine gh_pick (L2 := [(0, 2, 2), (3, 0, v3), (4, 2, 64), (5, 0, r2082), (6, 0, v6'), (7, 0, v7'), (8, 0, v8 + 1)]) [1, 2, 3, 4, 5, 6, 0] rfl ?_
        exact hK72 v6' v7' (v8 + 1) m hF h
      obtain ⟨hA, hB⟩ := h
      refine gh_zge (tgt := 145) gd_Law_isTreeWell_110 (by decide) (fun c2093 => ?_) (fun c2093 => ?_)
      · have h := hA c2093
        refine gh_iload gd_Law_isTreeWell_113 4 rfl ?_
        refine gh_iload_n gd_Law_isTreeWell_115 1 rfl ?_
        obtain ⟨hk, h⟩ := h
        have k2096 : ∀ x2097 : Int, x2097 = (if ((v6 < v3) ∧ ((x_House_letter v6 m) = ((-1) - v9))) then (1:Int) else 0) → gh_T E (gh_yLaw_isTreeWell.cls, method_7_code, 10, false, 8) (d + 36) 137 [(0, 2, 2), (3, 0, v3), (4, 2, 64), (5, 0, r2082), (6, 0, v6), (8, 0, v8), (9, 0, v9)] [(0, x2097)] m (fun r m1 => gh_F m1 ∧ Q r m1) := by
          rintro _ rfl
          refine gh_name (fun v7' hn => ?_)
          have h := h v7' hn
          refine gh_istore (L2 := [(7, 0, v7'), (0, 2, 2), (3, 0, v3), (4, 2, 64), (5, 0, r2082), (6, 0, v6), (8, 0, v8), (9, 0, v9)]) gd_Law_isTreeWell_137 (by decide) rfl ?_
          obtain ⟨q2098, h⟩ := h
          refine gh_iinc (L2 := [(6, 0, v6 + 1), (7, 0, v7'), (0, 2, 2), (3, 0, v3), (4, 2, 64), (5, 0, r2082), (8, 0, v8), (9, 0, v9)]) gd_Law_isTreeWell_139 5 rfl q2098 (by decide) rfl ?_
          refine gh_goto (tgt := 177) gd_Law_isTreeWell_142 (by decide) ?_
          refine gh_pick (L2 := [(0, 2, 2), (3, 0, v3), (4, 2, 64), (5, 0, r2082), (6, 0, v6 + 1), (7, 0, v7'), (8, 0, v8)]) [2, 3, 4, 5, 0, 1, 6] rfl ?_
          exact hJ177 (v6 + 1) v7' hF h
        refine gh_jge (tgt := 136) gd_Law_isTreeWell_116 (by decide) (fun c2099 => ?_) (fun c2099 => ?_)
        · have hz : True := trivial
          have hk := hk c2099
          refine gh_aload_n gd_Law_isTreeWell_119 0 rfl (by decide) ?_
          refine gh_iload gd_Law_isTreeWell_120 4 rfl ?_
          obtain ⟨q2094, hk⟩ := hk
          refine cv_House_letter (d := d + 35) gd_Law_isTreeWell_122 gh_k1009 hF (Nat.le_of_ble_eq_true rfl) (gh_C.pe (e_House_letter (d + 35) v6 hF q2094) ?_)
          refine gh_iconst gd_Law_isTreeWell_125 (gh_r0 rfl) ?_
          refine gh_iload gd_Law_isTreeWell_126 6 rfl ?_
          have q2095 := hk
          refine gh_isub gd_Law_isTreeWell_128 q2095 ?_
          refine gh_jne (tgt := 136) gd_Law_isTreeWell_129 (by decide) (fun c2100 => ?_) (fun c2100 => ?_)
          · have hz : True := trivial
            refine gh_iconst gd_Law_isTreeWell_132 (gh_r0 rfl) ?_
            refine gh_goto (tgt := 137) gd_Law_isTreeWell_133 (by decide) ?_
            exact k2096 _ (if_pos (c := ((v6 < v3) ∧ ((x_House_letter v6 m) = ((-1) - v9)))) ⟨c2099, c2100⟩).symm
          · have hz : True := trivial
            refine gh_iconst gd_Law_isTreeWell_136 (gh_r0 rfl) ?_
            exact k2096 _ (if_neg (c := ((v6 < v3) ∧ ((x_House_letter v6 m) = ((-1) - v9)))) (fun z => c2100 z.2)).symm
        · have hz : True := trivial
          refine gh_iconst gd_Law_isTreeWell_136 (gh_r0 rfl) ?_
          exact k2096 _ (if_neg (c := ((v6 < v3) ∧ ((x_House_letter v6 m) = ((-1) - v9)))) (fun z => c2099 z.1)).symm
      · have h := hB c2093
        refine gh_aload_n gd_Law_isTreeWell_145 0 rfl (by decide) ?_
        refine gh_iload gd_Law_isTreeWell_146 6 rfl ?_
        refine gh_iconst gd_Law_isTreeWell_148 (gh_r0 rfl) ?_
        obtain ⟨q2101, h⟩ := h
        refine cv_House_rule (d := d + 35) gd_Law_isTreeWell_149 gh_k1179 hF (Nat.le_of_ble_eq_true rfl) (gh_C.pe (e_House_rule (d + 34) v9 0 hF q2101) ?_)
        obtain ⟨hk, h⟩ := h
        have k2103 : ∀ x2104 : Int, x2104 = (if (¬ ((x_House_rule v9 0 m) < 0) ∧ (¬ (v8 ≤ 0) ∨ ((x_House_rule v9 0 m) = 0))) then (1:Int) else 0) → gh_T E (gh_yLaw_isTreeWell.cls, method_7_code, 10, false, 8) (d + 36) 175 [(0, 2, 2), (3, 0, v3), (4, 2, 64), (5, 0, r2082), (6, 0, v6), (8, 0, v8), (9, 0, v9)] [(0, x2104)] m (fun r m1 => gh_F m1 ∧ Q r m1) := by
          rintro _ rfl
          refine gh_name (fun v7' hn => ?_)
          have h := h v7' hn
          refine gh_istore (L2 := [(7, 0, v7'), (0, 2, 2), (3, 0, v3), (4, 2, 64), (5, 0, r2082), (6, 0, v6), (8, 0, v8), (9, 0, v9)]) gd_Law_isTreeWell_175 (by decide) rfl ?_
          refine gh_pick (L2 := [(0, 2, 2), (3, 0, v3), (4, 2, 64), (5, 0, r2082), (6, 0, v6), (7, 0, v7'), (8, 0, v8)]) [1, 2, 3, 4, 5, 0, 6] rfl ?_
          exact hJ177 v6 v7' hF h
        refine gh_zlt (tgt := 174) gd_Law_isTreeWell_152 (by decide) (fun c2105 => ?_) (fun c2105 => ?_)
        · have hz : True := trivial
          refine gh_iconst gd_Law_isTreeWell_174 (gh_r0 rfl) ?_
          exact k2103 _ (if_neg (c := (¬ ((x_House_rule v9 0 m) < 0) ∧ (¬ (v8 ≤ 0) ∨ ((x_House_rule v9 0 m) = 0)))) (fun z => z.1 c2105)).symm
        · have hz : True := trivial
          have hk := hk c2105
          refine gh_iload gd_Law_isTreeWell_155 5 rfl ?_
          refine gh_zgt (tgt := 170) gd_Law_isTreeWell_157 (by decide) (fun c2106 => ?_) (fun c2106 => ?_)
          · have hz : True := trivial
            have hk := hk c2106
            refine gh_aload_n gd_Law_isTreeWell_160 0 rfl (by decide) ?_
            refine gh_iload gd_Law_isTreeWell_161 6 rfl ?_
            refine gh_iconst gd_Law_isTreeWell_163 (gh_r0 rfl) ?_
            have q2102 := hk
            refine cv_House_rule (d := d + 35) gd_Law_isTreeWell_164 gh_k1179 hF (Nat.le_of_ble_eq_true rfl) (gh_C.pe (e_House_rule (d + 34) v9 0 hF q2102) ?_)
            refine gh_zne (tgt := 174) gd_Law_isTreeWell_167 (by decide) (fun c2107 => ?_) (fun c2107 => ?_)
            · have hz : True := trivial
              refine gh_iconst gd_Law_isTreeWell_170 (gh_r0 rfl) ?_
              refine gh_goto (tgt := 175) gd_Law_isTreeWell_171 (by decide) ?_
              exact k2103 _ (if_pos (c := (¬ ((x_House_rule v9 0 m) < 0) ∧ (¬ (v8 ≤ 0) ∨ ((x_House_rule v9 0 m) = 0)))) ⟨c2105, (Or.inr c2107)⟩).symm
            · have hz : True := trivial
              refine gh_iconst gd_Law_isTreeWell_174 (gh_r0 rfl) ?_
              exact k2103 _ (if_neg (c := (¬ ((x_House_rule v9 0 m) < 0) ∧ (¬ (v8 ≤ 0) ∨ ((x_House_rule v9 0 m) = 0)))) (fun z => (fun z => z.elim (fun w => w c2106) c2107) z.2)).symm
          · have hz : True := trivial
            refine gh_iconst gd_Law_isTreeWell_170 (gh_r0 rfl) ?_
            refine gh_goto (tgt := 175) gd_Law_isTreeWell_171 (by decide) ?_
            exact k2103 _ (if_pos (c := (¬ ((x_House_rule v9 0 m) < 0) ∧ (¬ (v8 ≤ 0) ∨ ((x_House_rule v9 0 m) = 0)))) ⟨c2105, (Or.inl c2106)⟩).symm
    obtain ⟨hA, hB⟩ := h
    refine gh_jge (tgt := 108) gd_Law_isTreeWell_96 (by decide) (fun c2108 => ?_) (fun c2108 => ?_)
    · have h := hA c2108
      refine gh_aload gd_Law_isTreeWell_99 3 rfl (by decide) ?_
      refine gh_iload gd_Law_isTreeWell_101 7 rfl ?_
      refine gh_iconst gd_Law_isTreeWell_103 (gh_r0 rfl) ?_
      obtain ⟨q2109, h⟩ := h
      refine gh_iadd gd_Law_isTreeWell_104 q2109 ?_
      refine gh_iload gd_Law_isTreeWell_105 0 rfl ?_
      obtain ⟨q2110, h⟩ := h
      obtain ⟨q2111, h⟩ := h
      refine sa_64 gd_Law_isTreeWell_107 hF q2110 q2111 (fun hF => ?_)
      refine gh_pick (L2 := [(0, 2, 2), (3, 0, v3), (4, 2, 64), (5, 0, r2082), (6, 0, v6), (8, 0, v8), (9, 0, v9)]) [1, 2, 3, 4, 5, 7, 0] rfl ?_
      exact hJ108 (gh_u m 64 (v8 + 1) v9) hF h
    · have h := hB c2108
      refine gh_pick (L2 := [(0, 2, 2), (3, 0, v3), (4, 2, 64), (5, 0, r2082), (6, 0, v6), (8, 0, v8), (9, 0, v9)]) [1, 2, 3, 4, 5, 7, 0] rfl ?_
      exact hJ108 m hF h
  refine gh_jge (tgt := 183) gd_Law_isTreeWell_76 (by decide) (fun c2112 => ?_) (fun c2112 => ?_)
  · have hz : True := trivial
    refine gh_iload gd_Law_isTreeWell_79 5 rfl ?_
    refine gh_zeq (tgt := 183) gd_Law_isTreeWell_81 (by decide) (fun c2113 => ?_) (fun c2113 => ?_)
    · have hz : True := trivial
      exact k2089 (Or.inr c2113)
    · have hz : True := trivial
      exact k2090 (fun z => z.elim (fun w => w c2112) c2113)
  · have hz : True := trivial
    exact k2089 (Or.inl c2112)
theorem s_Law_isTreeWell_2_64 {E : gh_E} {m : gh_M} {Q : Int → gh_M → Prop} (d : Nat) (v1 : Int) (v3 : Int) (hF : gh_F m) (h : w_Law_isTreeWell_2_64 v1 v3 m Q) : gh_C E gh_yLaw_isTreeWell method_7_code 10 (some .boolean) 8 (d + 36) [(2, 2), (1, v1), (0, v3), (2, 64)] m (fun r m1 => gh_F m1 ∧ Q r m1) := by
  refine gh_enter2 (L := [(0, 2, 2), (1, 1, v1), (3, 0, v3), (4, 2, 64)]) (by decide +kernel) gh_rt8 (Nat.le_of_ble_eq_true rfl) rfl rfl ?_
  unfold w_Law_isTreeWell_2_64 at h
  refine gh_aload_n gd_Law_isTreeWell_0 0 rfl (by decide) ?_
  refine gh_lload_n gd_Law_isTreeWell_1 1 rfl ?_
  refine cv_House_pick (d := d + 35) gd_Law_isTreeWell_2 gh_k1124 hF (Nat.le_of_ble_eq_true rfl) (gh_C.mono (s_House_pick d v1 hF h) (fun r2082 m2083 hq => ?_))
  obtain ⟨hF, h⟩ := hq
  refine gh_istore (L2 := [(5, 0, r2082), (0, 2, 2), (1, 1, v1), (3, 0, v3), (4, 2, 64)]) gd_Law_isTreeWell_5 (by decide) rfl ?_
  refine gh_iload gd_Law_isTreeWell_7 0 rfl ?_
  refine gh_sipush gd_Law_isTreeWell_9 (by decide) (gh_r0 rfl) ?_
  obtain ⟨hA, hB⟩ := h
  refine gh_jne (tgt := 17) gd_Law_isTreeWell_12 (by decide) (fun c2084 => ?_) (fun c2084 => ?_)
  · have h := hA c2084
    refine gh_iconst gd_Law_isTreeWell_15 (gh_r0 rfl) ?_
    exact gh_ret8 rfl gd_Law_isTreeWell_16 (by decide) ⟨hF, h⟩
  · have h := hB c2084
    refine gh_iconst gd_Law_isTreeWell_17 (gh_r0 rfl) ?_
    refine gh_istore (L2 := [(6, 0, 0), (5, 0, r2082), (0, 2, 2), (1, 1, v1), (3, 0, v3), (4, 2, 64)]) gd_Law_isTreeWell_18 (by decide) rfl ?_
    refine gh_iload gd_Law_isTreeWell_20 1 rfl ?_
    obtain ⟨J61, hJ61, h⟩ := h
    have hJ61 : ∀ (y0 : Int), gh_F m2083 → J61 y0 → gh_T E (gh_yLaw_isTreeWell.cls, method_7_code, 10, false, 8) (d + 36) 61 [(0, 2, 2), (3, 0, v3), (4, 2, 64), (5, 0, r2082), (6, 0, 0)] [(0, y0)] m2083 (fun r m1 => gh_F m1 ∧ Q r m1) := by
      intro y0 hF hj
      have h := hJ61 y0 hj
      refine gh_istore (L2 := [(7, 0, y0), (0, 2, 2), (3, 0, v3), (4, 2, 64), (5, 0, r2082), (6, 0, 0)]) gd_Law_isTreeWell_61 (by decide) rfl ?_
      refine gh_aload gd_Law_isTreeWell_63 3 rfl (by decide) ?_
      refine gh_iconst gd_Law_isTreeWell_65 (gh_r0 rfl) ?_
      refine gh_iload gd_Law_isTreeWell_66 4 rfl ?_
      refine sa_64 gd_Law_isTreeWell_68 hF (by decide) (by decide) (fun hF => ?_)
      refine gh_iconst gd_Law_isTreeWell_69 (gh_r0 rfl) ?_
      refine gh_istore (L2 := [(8, 0, 0), (7, 0, y0), (0, 2, 2), (3, 0, v3), (4, 2, 64), (5, 0, r2082), (6, 0, 0)]) gd_Law_isTreeWell_70 (by decide) rfl ?_
      refine gh_pick (L2 := [(0, 2, 2), (3, 0, v3), (4, 2, 64), (5, 0, r2082), (6, 0, 0), (7, 0, y0), (8, 0, 0)]) [2, 3, 4, 5, 6, 1, 0] rfl ?_
      exact gh_M3_sound (T := fun v6 v7 v8 m => gh_T E (gh_yLaw_isTreeWell.cls, method_7_code, 10, false, 8) (d + 36) 72 [(0, 2, 2), (3, 0, v3), (4, 2, 64), (5, 0, r2082), (6, 0, v6), (7, 0, v7), (8, 0, v8)] [] m (fun r m1 => gh_F m1 ∧ Q r m1)) (fun _ _ _ m => gh_F m) (fun K72 v6 v7 v8 m hK hF h => b_Law_isTreeWell_2_64_72 d hK v6 v7 v8 m hF h) 0 y0 0 (gh_u m2083 64 0 r2082) hF h
    obtain ⟨J60, hJ60, h⟩ := h
    have hJ60 : gh_F m2083 → J60 → gh_T E (gh_yLaw_isTreeWell.cls, method_7_code, 10, false, 8) (d + 36) 60 [(0, 2, 2), (3, 0, v3), (4, 2, 64), (5, 0, r2082), (6, 0, 0)] [] m2083 (fun r m1 => gh_F m1 ∧ Q r m1) := by
      intro hF hj
      have h := hJ60 hj
      refine gh_iconst gd_Law_isTreeWell_60 (gh_r0 rfl) ?_
      exact hJ61 0 hF h
    obtain ⟨hA, hB⟩ := h
    refine gh_zle (tgt := 60) gd_Law_isTreeWell_22 (by decide) (fun c2114 => ?_) (fun c2114 => ?_)
    · have h := hA c2114
      refine gh_pick (L2 := [(0, 2, 2), (3, 0, v3), (4, 2, 64), (5, 0, r2082), (6, 0, 0)]) [2, 4, 5, 1, 0] rfl ?_
      exact hJ60 hF h
    · have h := hB c2114
      refine gh_aload_n gd_Law_isTreeWell_25 2 rfl (by decide) ?_
      refine gh_bipush gd_Law_isTreeWell_26 (by decide) (gh_r0 rfl) ?_
      refine cv_House_sum (d := d + 35) gd_Law_isTreeWell_28 gh_k841 hF (Nat.le_of_ble_eq_true rfl) (gh_C.pw (s_House_sum (d + 33) 6 hF h) (fun r2115 h => ?_))
      refine gh_iload gd_Law_isTreeWell_31 1 rfl ?_
      obtain ⟨hk, hA, hB⟩ := h
      have k2118 : ((r2115 = r2082) ∧ (¬ ((x_House_deep m2083) < 1) ∧ ((x_House_step r2082 m2083) = (-1001)))) → gh_T E (gh_yLaw_isTreeWell.cls, method_7_code, 10, false, 8) (d + 36) 56 [(6, 0, 0), (5, 0, r2082), (0, 2, 2), (1, 1, v1), (3, 0, v3), (4, 2, 64)] [] m2083 (fun r m1 => gh_F m1 ∧ Q r m1) := by
        intro c
        have h := hA c
        refine gh_iconst gd_Law_isTreeWell_56 (gh_r0 rfl) ?_
        refine gh_goto (tgt := 61) gd_Law_isTreeWell_57 (by decide) ?_
        refine gh_pick (L2 := [(0, 2, 2), (3, 0, v3), (4, 2, 64), (5, 0, r2082), (6, 0, 0)]) [2, 4, 5, 1, 0] rfl ?_
        exact hJ61 1 hF h
      have k2119 : ¬ ((r2115 = r2082) ∧ (¬ ((x_House_deep m2083) < 1) ∧ ((x_House_step r2082 m2083) = (-1001)))) → gh_T E (gh_yLaw_isTreeWell.cls, method_7_code, 10, false, 8) (d + 36) 60 [(6, 0, 0), (5, 0, r2082), (0, 2, 2), (1, 1, v1), (3, 0, v3), (4, 2, 64)] [] m2083 (fun r m1 => gh_F m1 ∧ Q r m1) := by
        intro c
        have h := hB c
        refine gh_pick (L2 := [(0, 2, 2), (3, 0, v3), (4, 2, 64), (5, 0, r2082), (6, 0, 0)]) [2, 4, 5, 1, 0] rfl ?_
        exact hJ60 hF h
      refine gh_jne (tgt := 60) gd_Law_isTreeWell_33 (by decide) (fun c2120 => ?_) (fun c2120 => ?_)
      · have hz : True := trivial
        have hk := hk c2120
        refine gh_aload_n gd_Law_isTreeWell_36 2 rfl (by decide) ?_
        refine cv_House_deep (d := d + 35) gd_Law_isTreeWell_37 gh_k1171 hF (Nat.le_of_ble_eq_true rfl) (gh_C.pe (e_House_deep (d + 35)  hF) ?_)
        refine gh_iconst gd_Law_isTreeWell_40 (gh_r0 rfl) ?_
        refine gh_jlt (tgt := 60) gd_Law_isTreeWell_41 (by decide) (fun c2121 => ?_) (fun c2121 => ?_)
        · have hz : True := trivial
          exact k2119 (fun z => (fun z => z.1 c2121) z.2)
        · have hz : True := trivial
          have hk := hk c2121
          refine gh_aload_n gd_Law_isTreeWell_44 2 rfl (by decide) ?_
          refine gh_iload gd_Law_isTreeWell_45 1 rfl ?_
          have q2117 := hk
          refine cv_House_step (d := d + 35) gd_Law_isTreeWell_47 gh_k1175 hF (Nat.le_of_ble_eq_true rfl) (gh_C.pe (e_House_step (d + 35) r2082 hF q2117) ?_)
          refine gh_sipush gd_Law_isTreeWell_50 (by decide) (gh_r0 rfl) ?_
          refine gh_jne (tgt := 60) gd_Law_isTreeWell_53 (by decide) (fun c2122 => ?_) (fun c2122 => ?_)
          · have hz : True := trivial
            exact k2118 ⟨c2120, ⟨c2121, c2122⟩⟩
          · have hz : True := trivial
            exact k2119 (fun z => (fun z => c2122 z.2) z.2)
      · have hz : True := trivial
        exact k2119 (fun z => c2120 z.1)
def f_Law_isTreeWell_2_65_72 (v3 : Int) (r2133 : Int) (Q : Int → gh_M → Prop) (K72 : Int → Int → Int → gh_M → Prop) (v6 : Int) (v7 : Int) (v8 : Int) (m : gh_M) : Prop := ∃ J183 : Int → Int → gh_M → Prop, (∀ (v6' : Int) (v7' : Int) (m : gh_M), J183 v6' v7' m → Q (if (¬ (v7' = 0) ∧ (v6' = v3)) then (1:Int) else 0) m) ∧ (((¬ (v8 < r2133) ∨ (v7 = 0)) → J183 v6 v7 m) ∧ (¬ (¬ (v8 < r2133) ∨ (v7 = 0)) → k_House_step v8 m ∧ ∀ v9 : Int, v9 = x_House_step v8 m → ∃ J108 : gh_M → Prop, (∀ (m : gh_M), J108 m → ∃ J177 : Int → Int → Prop, (∀ (v6' : Int) (v7' : Int), J177 v6' v7' → gh_i (v8 + 1) ∧ K72 v6' v7' (v8 + 1) m) ∧ ((v9 < 0 → (((v6 < v3) → (k_House_letter v6 m ∧ gh_i ((-1) - v9)))) ∧ ∀ v7' : Int, v7' = (if ((v6 < v3) ∧ ((x_House_letter v6 m) = ((-1) - v9))) then (1:Int) else 0) → gh_i (v6 + 1) ∧ J177 (v6 + 1) v7') ∧ (¬ (v9 < 0) → k_House_rule v9 0 m ∧ ((¬ ((x_House_rule v9 0 m) < 0) → (((v8 ≤ 0) → (k_House_rule v9 0 m))))) ∧ ∀ v7' : Int, v7' = (if (¬ ((x_House_rule v9 0 m) < 0) ∧ (¬ (v8 ≤ 0) ∨ ((x_House_rule v9 0 m) = 0))) then (1:Int) else 0) → J177 v6 v7'))) ∧ ((v8 < 63 → gh_i (v8 + 1) ∧ 0 ≤ v8 + 1 ∧ (v8 + 1) < 64 ∧ J108 (gh_u m 65 (v8 + 1) v9)) ∧ (¬ (v8 < 63) → J108 m))))
def w_Law_isTreeWell_2_65 (v1 : Int) (v3 : Int) (m : gh_M) (Q : Int → gh_M → Prop) : Prop := w_House_pick v1 m (fun r2133 m2134 => ((r2133 = (-1004) → Q 1 m2134) ∧ (¬ (r2133 = (-1004)) → ∃ J61 : Int → Prop, (∀ (y0 : Int), J61 y0 → gh_M3 (fun K72 v6 v7 v8 m => f_Law_isTreeWell_2_65_72 v3 r2133 Q K72 v6 v7 v8 m) 0 y0 0 (gh_u m2134 65 0 r2133)) ∧ ∃ J60 : Prop, (J60 → J61 0) ∧ ((r2133 ≤ 0 → J60) ∧ (¬ (r2133 ≤ 0) → w_House_sum 6 m2134 (fun r2166 => (((r2166 = r2133) → ((¬ ((x_House_deep m2134) < 1) → (k_House_step r2133 m2134))))) ∧ ((((r2166 = r2133) ∧ (¬ ((x_House_deep m2134) < 1) ∧ ((x_House_step r2133 m2134) = (-1001)))) → J61 1) ∧ (¬ ((r2166 = r2133) ∧ (¬ ((x_House_deep m2134) < 1) ∧ ((x_House_step r2133 m2134) = (-1001)))) → J60))))))))
theorem b_Law_isTreeWell_2_65_72 {E : gh_E} {v3 : Int} {r2133 : Int} {Q : Int → gh_M → Prop} {K72 : Int → Int → Int → gh_M → Prop} (d : Nat) (hK : ∀ (v6 : Int) (v7 : Int) (v8 : Int) (m : gh_M), gh_F m → K72 v6 v7 v8 m → gh_T E (gh_yLaw_isTreeWell.cls, method_7_code, 10, false, 8) (d + 36) 72 [(0, 2, 2), (3, 0, v3), (4, 2, 65), (5, 0, r2133), (6, 0, v6), (7, 0, v7), (8, 0, v8)] [] m (fun r m1 => gh_F m1 ∧ Q r m1)) (v6 : Int) (v7 : Int) (v8 : Int) (m : gh_M) (hF : gh_F m) (h : f_Law_isTreeWell_2_65_72 v3 r2133 Q K72 v6 v7 v8 m) : gh_T E (gh_yLaw_isTreeWell.cls, method_7_code, 10, false, 8) (d + 36) 72 [(0, 2, 2), (3, 0, v3), (4, 2, 65), (5, 0, r2133), (6, 0, v6), (7, 0, v7), (8, 0, v8)] [] m (fun r m1 => gh_F m1 ∧ Q r m1) := by
  have hK72 := hK
  unfold f_Law_isTreeWell_2_65_72 at h
  refine gh_iload gd_Law_isTreeWell_72 6 rfl ?_
  refine gh_iload gd_Law_isTreeWell_74 3 rfl ?_
  obtain ⟨J183, hJ183, h⟩ := h
  have hJ183 : ∀ (v6' : Int) (v7' : Int) (m : gh_M), gh_F m → J183 v6' v7' m → gh_T E (gh_yLaw_isTreeWell.cls, method_7_code, 10, false, 8) (d + 36) 183 [(3, 0, v3), (6, 0, v6'), (7, 0, v7')] [] m (fun r m1 => gh_F m1 ∧ Q r m1) := by
    intro v6' v7' m hF hj
    have h := hJ183 v6' v7' m hj
    refine gh_iload gd_Law_isTreeWell_183 2 rfl ?_
    have k2136 : ∀ x2137 : Int, x2137 = (if (¬ (v7' = 0) ∧ (v6' = v3)) then (1:Int) else 0) → gh_T E (gh_yLaw_isTreeWell.cls, method_7_code, 10, false, 8) (d + 36) 199 [(3, 0, v3), (6, 0, v6'), (7, 0, v7')] [(0, x2137)] m (fun r m1 => gh_F m1 ∧ Q r m1) := by
      rintro _ rfl
      exact gh_ret8 rfl gd_Law_isTreeWell_199 gh_ib01 ⟨hF, h⟩
    refine gh_zeq (tgt := 198) gd_Law_isTreeWell_185 (by decide) (fun c2138 => ?_) (fun c2138 => ?_)
    · have hz : True := trivial
      refine gh_iconst gd_Law_isTreeWell_198 (gh_r0 rfl) ?_
      exact k2136 _ (if_neg (c := (¬ (v7' = 0) ∧ (v6' = v3))) (fun z => z.1 c2138)).symm
    · have hz : True := trivial
      refine gh_iload gd_Law_isTreeWell_188 1 rfl ?_
      refine gh_iload_n gd_Law_isTreeWell_190 0 rfl ?_
      refine gh_jne (tgt := 198) gd_Law_isTreeWell_191 (by decide) (fun c2139 => ?_) (fun c2139 => ?_)
      · have hz : True := trivial
        refine gh_iconst gd_Law_isTreeWell_194 (gh_r0 rfl) ?_
        refine gh_goto (tgt := 199) gd_Law_isTreeWell_195 (by decide) ?_
        exact k2136 _ (if_pos (c := (¬ (v7' = 0) ∧ (v6' = v3))) ⟨c2138, c2139⟩).symm
      · have hz : True := trivial
        refine gh_iconst gd_Law_isTreeWell_198 (gh_r0 rfl) ?_
        exact k2136 _ (if_neg (c := (¬ (v7' = 0) ∧ (v6' = v3))) (fun z => c2139 z.2)).symm
  obtain ⟨hA, hB⟩ := h
  have k2140 : (¬ (v8 < r2133) ∨ (v7 = 0)) → gh_T E (gh_yLaw_isTreeWell.cls, method_7_code, 10, false, 8) (d + 36) 183 [(0, 2, 2), (3, 0, v3), (4, 2, 65), (5, 0, r2133), (6, 0, v6), (7, 0, v7), (8, 0, v8)] [] m (fun r m1 => gh_F m1 ∧ Q r m1) := by
    intro c
    have h := hA c
    refine gh_pick (L2 := [(3, 0, v3), (6, 0, v6), (7, 0, v7)]) [1, 4, 5] rfl ?_
    exact hJ183 v6 v7 m hF h
  have k2141 : ¬ (¬ (v8 < r2133) ∨ (v7 = 0)) → gh_T E (gh_yLaw_isTreeWell.cls, method_7_code, 10, false, 8) (d + 36) 84 [(0, 2, 2), (3, 0, v3), (4, 2, 65), (5, 0, r2133), (6, 0, v6), (7, 0, v7), (8, 0, v8)] [] m (fun r m1 => gh_F m1 ∧ Q r m1) := by
    intro c
    have h := hB c
    refine gh_aload_n gd_Law_isTreeWell_84 0 rfl (by decide) ?_
    refine gh_iload gd_Law_isTreeWell_85 6 rfl ?_
    obtain ⟨q2142, h⟩ := h
    refine cv_House_step (d := d + 35) gd_Law_isTreeWell_87 gh_k1175 hF (Nat.le_of_ble_eq_true rfl) (gh_C.pe (e_House_step (d + 35) v8 hF q2142) ?_)
    refine gh_name (fun v9 hn => ?_)
    have h := h v9 hn
    refine gh_istore (L2 := [(9, 0, v9), (0, 2, 2), (3, 0, v3), (4, 2, 65), (5, 0, r2133), (6, 0, v6), (7, 0, v7), (8, 0, v8)]) gd_Law_isTreeWell_90 (by decide) rfl ?_
    refine gh_iload gd_Law_isTreeWell_92 7 rfl ?_
    refine gh_bipush gd_Law_isTreeWell_94 (by decide) (gh_r0 rfl) ?_
    obtain ⟨J108, hJ108, h⟩ := h
    have hJ108 : ∀ (m : gh_M), gh_F m → J108 m → gh_T E (gh_yLaw_isTreeWell.cls, method_7_code, 10, false, 8) (d + 36) 108 [(0, 2, 2), (3, 0, v3), (4, 2, 65), (5, 0, r2133), (6, 0, v6), (8, 0, v8), (9, 0, v9)] [] m (fun r m1 => gh_F m1 ∧ Q r m1) := by
      intro m hF hj
      have h := hJ108 m hj
      refine gh_iload gd_Law_isTreeWell_108 6 rfl ?_
      obtain ⟨J177, hJ177, h⟩ := h
      have hJ177 : ∀ (v6' : Int) (v7' : Int), gh_F m → J177 v6' v7' → gh_T E (gh_yLaw_isTreeWell.cls, method_7_code, 10, false, 8) (d + 36) 177 [(0, 2, 2), (3, 0, v3), (4, 2, 65), (5, 0, r2133), (6, 0, v6'), (7, 0, v7'), (8, 0, v8)] [] m (fun r m1 => gh_F m1 ∧ Q r m1) := by
        intro v6' v7' hF hj
        have h := hJ177 v6' v7' hj
        obtain ⟨q2143, h⟩ := h
        refine gh_iinc (L2 := [(8, 0, v8 + 1), (0, 2, 2), (3, 0, v3), (4, 2, 65), (5, 0, r2133), (6, 0, v6'), (7, 0, v7')]) gd_Law_isTreeWell_177 6 rfl q2143 (by decide) rfl ?_
        refine gh_goto (tgt := 72) gd_Law_isTreeWell_180 (by decide) ?_
        refine gh_pick (L2 := [(0, 2, 2), (3, 0, v3), (4, 2, 65), (5, 0, r2133), (6, 0, v6'), (7, 0, v7'), (8, 0, v8 + 1)]) [1, 2, 3, 4, 5, 6, 0] rfl ?_
        exact hK72 v6' v7' (v8 + 1) m hF h
      obtain ⟨hA, hB⟩ := h
      refine gh_zge (tgt := 145) gd_Law_isTreeWell_110 (by decide) (fun c2144 => ?_) (fun c2144 => ?_)
      · have h := hA c2144
        refine gh_iload gd_Law_isTreeWell_113 4 rfl ?_
        refine gh_iload_n gd_Law_isTreeWell_115 1 rfl ?_
        obtain ⟨hk, h⟩ := h
        have k2147 : ∀ x2148 : Int, x2148 = (if ((v6 < v3) ∧ ((x_House_letter v6 m) = ((-1) - v9))) then (1:Int) else 0) → gh_T E (gh_yLaw_isTreeWell.cls, method_7_code, 10, false, 8) (d + 36) 137 [(0, 2, 2), (3, 0, v3), (4, 2, 65), (5, 0, r2133), (6, 0, v6), (8, 0, v8), (9, 0, v9)] [(0, x2148)] m (fun r m1 => gh_F m1 ∧ Q r m1) := by
          rintro _ rfl
          refine gh_name (fun v7' hn => ?_)
          have h := h v7' hn
          refine gh_istore (L2 := [(7, 0, v7'), (0, 2, 2), (3, 0, v3), (4, 2, 65), (5, 0, r2133), (6, 0, v6), (8, 0, v8), (9, 0, v9)]) gd_Law_isTreeWell_137 (by decide) rfl ?_
          obtain ⟨q2149, h⟩ := h
          refine gh_iinc (L2 := [(6, 0, v6 + 1), (7, 0, v7'), (0, 2, 2), (3, 0, v3), (4, 2, 65), (5, 0, r2133), (8, 0, v8), (9, 0, v9)]) gd_Law_isTreeWell_139 5 rfl q2149 (by decide) rfl ?_
          refine gh_goto (tgt := 177) gd_Law_isTreeWell_142 (by decide) ?_
          refine gh_pick (L2 := [(0, 2, 2), (3, 0, v3), (4, 2, 65), (5, 0, r2133), (6, 0, v6 + 1), (7, 0, v7'), (8, 0, v8)]) [2, 3, 4, 5, 0, 1, 6] rfl ?_
          exact hJ177 (v6 + 1) v7' hF h
        refine gh_jge (tgt := 136) gd_Law_isTreeWell_116 (by decide) (fun c2150 => ?_) (fun c2150 => ?_)
        · have hz : True := trivial
          have hk := hk c2150
          refine gh_aload_n gd_Law_isTreeWell_119 0 rfl (by decide) ?_
          refine gh_iload gd_Law_isTreeWell_120 4 rfl ?_
          obtain ⟨q2145, hk⟩ := hk
          refine cv_House_letter (d := d + 35) gd_Law_isTreeWell_122 gh_k1009 hF (Nat.le_of_ble_eq_true rfl) (gh_C.pe (e_House_letter (d + 35) v6 hF q2145) ?_)
          refine gh_iconst gd_Law_isTreeWell_125 (gh_r0 rfl) ?_
          refine gh_iload gd_Law_isTreeWell_126 6 rfl ?_
          have q2146 := hk
          refine gh_isub gd_Law_isTreeWell_128 q2146 ?_
          refine gh_jne (tgt := 136) gd_Law_isTreeWell_129 (by decide) (fun c2151 => ?_) (fun c2151 => ?_)
          · have hz : True := trivial
            refine gh_iconst gd_Law_isTreeWell_132 (gh_r0 rfl) ?_
            refine gh_goto (tgt := 137) gd_Law_isTreeWell_133 (by decide) ?_
            exact k2147 _ (if_pos (c := ((v6 < v3) ∧ ((x_House_letter v6 m) = ((-1) - v9)))) ⟨c2150, c2151⟩).symm
          · have hz : True := trivial
            refine gh_iconst gd_Law_isTreeWell_136 (gh_r0 rfl) ?_
            exact k2147 _ (if_neg (c := ((v6 < v3) ∧ ((x_House_letter v6 m) = ((-1) - v9)))) (fun z => c2151 z.2)).symm
        · have hz : True := trivial
          refine gh_iconst gd_Law_isTreeWell_136 (gh_r0 rfl) ?_
          exact k2147 _ (if_neg (c := ((v6 < v3) ∧ ((x_House_letter v6 m) = ((-1) - v9)))) (fun z => c2150 z.1)).symm
      · have h := hB c2144
        refine gh_aload_n gd_Law_isTreeWell_145 0 rfl (by decide) ?_
        refine gh_iload gd_Law_isTreeWell_146 6 rfl ?_
        refine gh_iconst gd_Law_isTreeWell_148 (gh_r0 rfl) ?_
        obtain ⟨q2152, h⟩ := h
        refine cv_House_rule (d := d + 35) gd_Law_isTreeWell_149 gh_k1179 hF (Nat.le_of_ble_eq_true rfl) (gh_C.pe (e_House_rule (d + 34) v9 0 hF q2152) ?_)
        obtain ⟨hk, h⟩ := h
        have k2154 : ∀ x2155 : Int, x2155 = (if (¬ ((x_House_rule v9 0 m) < 0) ∧ (¬ (v8 ≤ 0) ∨ ((x_House_rule v9 0 m) = 0))) then (1:Int) else 0) → gh_T E (gh_yLaw_isTreeWell.cls, method_7_code, 10, false, 8) (d + 36) 175 [(0, 2, 2), (3, 0, v3), (4, 2, 65), (5, 0, r2133), (6, 0, v6), (8, 0, v8), (9, 0, v9)] [(0, x2155)] m (fun r m1 => gh_F m1 ∧ Q r m1) := by
          rintro _ rfl
          refine gh_name (fun v7' hn => ?_)
          have h := h v7' hn
          refine gh_istore (L2 := [(7, 0, v7'), (0, 2, 2), (3, 0, v3), (4, 2, 65), (5, 0, r2133), (6, 0, v6), (8, 0, v8), (9, 0, v9)]) gd_Law_isTreeWell_175 (by decide) rfl ?_
          refine gh_pick (L2 := [(0, 2, 2), (3, 0, v3), (4, 2, 65), (5, 0, r2133), (6, 0, v6), (7, 0, v7'), (8, 0, v8)]) [1, 2, 3, 4, 5, 0, 6] rfl ?_
          exact hJ177 v6 v7' hF h
        refine gh_zlt (tgt := 174) gd_Law_isTreeWell_152 (by decide) (fun c2156 => ?_) (fun c2156 => ?_)
        · have hz : True := trivial
          refine gh_iconst gd_Law_isTreeWell_174 (gh_r0 rfl) ?_
          exact k2154 _ (if_neg (c := (¬ ((x_House_rule v9 0 m) < 0) ∧ (¬ (v8 ≤ 0) ∨ ((x_House_rule v9 0 m) = 0)))) (fun z => z.1 c2156)).symm
        · have hz : True := trivial
          have hk := hk c2156
          refine gh_iload gd_Law_isTreeWell_155 5 rfl ?_
          refine gh_zgt (tgt := 170) gd_Law_isTreeWell_157 (by decide) (fun c2157 => ?_) (fun c2157 => ?_)
          · have hz : True := trivial
            have hk := hk c2157
            refine gh_aload_n gd_Law_isTreeWell_160 0 rfl (by decide) ?_
            refine gh_iload gd_Law_isTreeWell_161 6 rfl ?_
            refine gh_iconst gd_Law_isTreeWell_163 (gh_r0 rfl) ?_
            have q2153 := hk
            refine cv_House_rule (d := d + 35) gd_Law_isTreeWell_164 gh_k1179 hF (Nat.le_of_ble_eq_true rfl) (gh_C.pe (e_House_rule (d + 34) v9 0 hF q2153) ?_)
            refine gh_zne (tgt := 174) gd_Law_isTreeWell_167 (by decide) (fun c2158 => ?_) (fun c2158 => ?_)
            · have hz : True := trivial
              refine gh_iconst gd_Law_isTreeWell_170 (gh_r0 rfl) ?_
              refine gh_goto (tgt := 175) gd_Law_isTreeWell_171 (by decide) ?_
              exact k2154 _ (if_pos (c := (¬ ((x_House_rule v9 0 m) < 0) ∧ (¬ (v8 ≤ 0) ∨ ((x_House_rule v9 0 m) = 0)))) ⟨c2156, (Or.inr c2158)⟩).symm
            · have hz : True := trivial
              refine gh_iconst gd_Law_isTreeWell_174 (gh_r0 rfl) ?_
              exact k2154 _ (if_neg (c := (¬ ((x_House_rule v9 0 m) < 0) ∧ (¬ (v8 ≤ 0) ∨ ((x_House_rule v9 0 m) = 0)))) (fun z => (fun z => z.elim (fun w => w c2157) c2158) z.2)).symm
          · have hz : True := trivial
            refine gh_iconst gd_Law_isTreeWell_170 (gh_r0 rfl) ?_
            refine gh_goto (tgt := 175) gd_Law_isTreeWell_171 (by decide) ?_
            exact k2154 _ (if_pos (c := (¬ ((x_House_rule v9 0 m) < 0) ∧ (¬ (v8 ≤ 0) ∨ ((x_House_rule v9 0 m) = 0)))) ⟨c2156, (Or.inl c2157)⟩).symm
    obtain ⟨hA, hB⟩ := h
    refine gh_jge (tgt := 108) gd_Law_isTreeWell_96 (by decide) (fun c2159 => ?_) (fun c2159 => ?_)
    · have h := hA c2159
      refine gh_aload gd_Law_isTreeWell_99 3 rfl (by decide) ?_
      refine gh_iload gd_Law_isTreeWell_101 7 rfl ?_
      refine gh_iconst gd_Law_isTreeWell_103 (gh_r0 rfl) ?_
      obtain ⟨q2160, h⟩ := h
      refine gh_iadd gd_Law_isTreeWell_104 q2160 ?_
      refine gh_iload gd_Law_isTreeWell_105 0 rfl ?_
      obtain ⟨q2161, h⟩ := h
      obtain ⟨q2162, h⟩ := h
      refine sa_65 gd_Law_isTreeWell_107 hF q2161 q2162 (fun hF => ?_)
      refine gh_pick (L2 := [(0, 2, 2), (3, 0, v3), (4, 2, 65), (5, 0, r2133), (6, 0, v6), (8, 0, v8), (9, 0, v9)]) [1, 2, 3, 4, 5, 7, 0] rfl ?_
      exact hJ108 (gh_u m 65 (v8 + 1) v9) hF h
    · have h := hB c2159
      refine gh_pick (L2 := [(0, 2, 2), (3, 0, v3), (4, 2, 65), (5, 0, r2133), (6, 0, v6), (8, 0, v8), (9, 0, v9)]) [1, 2, 3, 4, 5, 7, 0] rfl ?_
      exact hJ108 m hF h
  refine gh_jge (tgt := 183) gd_Law_isTreeWell_76 (by decide) (fun c2163 => ?_) (fun c2163 => ?_)
  · have hz : True := trivial
    refine gh_iload gd_Law_isTreeWell_79 5 rfl ?_
    refine gh_zeq (tgt := 183) gd_Law_isTreeWell_81 (by decide) (fun c2164 => ?_) (fun c2164 => ?_)
    · have hz : True := trivial
      exact k2140 (Or.inr c2164)
    · have hz : True := trivial
      exact k2141 (fun z => z.elim (fun w => w c2163) c2164)
  · have hz : True := trivial
    exact k2140 (Or.inl c2163)
theorem s_Law_isTreeWell_2_65 {E : gh_E} {m : gh_M} {Q : Int → gh_M → Prop} (d : Nat) (v1 : Int) (v3 : Int) (hF : gh_F m) (h : w_Law_isTreeWell_2_65 v1 v3 m Q) : gh_C E gh_yLaw_isTreeWell method_7_code 10 (some .boolean) 8 (d + 36) [(2, 2), (1, v1), (0, v3), (2, 65)] m (fun r m1 => gh_F m1 ∧ Q r m1) := by
  refine gh_enter2 (L := [(0, 2, 2), (1, 1, v1), (3, 0, v3), (4, 2, 65)]) (by decide +kernel) gh_rt8 (Nat.le_of_ble_eq_true rfl) rfl rfl ?_
  unfold w_Law_isTreeWell_2_65 at h
  refine gh_aload_n gd_Law_isTreeWell_0 0 rfl (by decide) ?_
  refine gh_lload_n gd_Law_isTreeWell_1 1 rfl ?_
  refine cv_House_pick (d := d + 35) gd_Law_isTreeWell_2 gh_k1124 hF (Nat.le_of_ble_eq_true rfl) (gh_C.mono (s_House_pick d v1 hF h) (fun r2133 m2134 hq => ?_))
  obtain ⟨hF, h⟩ := hq
  refine gh_istore (L2 := [(5, 0, r2133), (0, 2, 2), (1, 1, v1), (3, 0, v3), (4, 2, 65)]) gd_Law_isTreeWell_5 (by decide) rfl ?_
  refine gh_iload gd_Law_isTreeWell_7 0 rfl ?_
  refine gh_sipush gd_Law_isTreeWell_9 (by decide) (gh_r0 rfl) ?_
  obtain ⟨hA, hB⟩ := h
  refine gh_jne (tgt := 17) gd_Law_isTreeWell_12 (by decide) (fun c2135 => ?_) (fun c2135 => ?_)
  · have h := hA c2135
    refine gh_iconst gd_Law_isTreeWell_15 (gh_r0 rfl) ?_
    exact gh_ret8 rfl gd_Law_isTreeWell_16 (by decide) ⟨hF, h⟩
  · have h := hB c2135
    refine gh_iconst gd_Law_isTreeWell_17 (gh_r0 rfl) ?_
    refine gh_istore (L2 := [(6, 0, 0), (5, 0, r2133), (0, 2, 2), (1, 1, v1), (3, 0, v3), (4, 2, 65)]) gd_Law_isTreeWell_18 (by decide) rfl ?_
    refine gh_iload gd_Law_isTreeWell_20 1 rfl ?_
    obtain ⟨J61, hJ61, h⟩ := h
    have hJ61 : ∀ (y0 : Int), gh_F m2134 → J61 y0 → gh_T E (gh_yLaw_isTreeWell.cls, method_7_code, 10, false, 8) (d + 36) 61 [(0, 2, 2), (3, 0, v3), (4, 2, 65), (5, 0, r2133), (6, 0, 0)] [(0, y0)] m2134 (fun r m1 => gh_F m1 ∧ Q r m1) := by
      intro y0 hF hj
      have h := hJ61 y0 hj
      refine gh_istore (L2 := [(7, 0, y0), (0, 2, 2), (3, 0, v3), (4, 2, 65), (5, 0, r2133), (6, 0, 0)]) gd_Law_isTreeWell_61 (by decide) rfl ?_
      refine gh_aload gd_Law_isTreeWell_63 3 rfl (by decide) ?_
      refine gh_iconst gd_Law_isTreeWell_65 (gh_r0 rfl) ?_
      refine gh_iload gd_Law_isTreeWell_66 4 rfl ?_
      refine sa_65 gd_Law_isTreeWell_68 hF (by decide) (by decide) (fun hF => ?_)
      refine gh_iconst gd_Law_isTreeWell_69 (gh_r0 rfl) ?_
      refine gh_istore (L2 := [(8, 0, 0), (7, 0, y0), (0, 2, 2), (3, 0, v3), (4, 2, 65), (5, 0, r2133), (6, 0, 0)]) gd_Law_isTreeWell_70 (by decide) rfl ?_
      refine gh_pick (L2 := [(0, 2, 2), (3, 0, v3), (4, 2, 65), (5, 0, r2133), (6, 0, 0), (7, 0, y0), (8, 0, 0)]) [2, 3, 4, 5, 6, 1, 0] rfl ?_
      exact gh_M3_sound (T := fun v6 v7 v8 m => gh_T E (gh_yLaw_isTreeWell.cls, method_7_code, 10, false, 8) (d + 36) 72 [(0, 2, 2), (3, 0, v3), (4, 2, 65), (5, 0, r2133), (6, 0, v6), (7, 0, v7), (8, 0, v8)] [] m (fun r m1 => gh_F m1 ∧ Q r m1)) (fun _ _ _ m => gh_F m) (fun K72 v6 v7 v8 m hK hF h => b_Law_isTreeWell_2_65_72 d hK v6 v7 v8 m hF h) 0 y0 0 (gh_u m2134 65 0 r2133) hF h
    obtain ⟨J60, hJ60, h⟩ := h
    have hJ60 : gh_F m2134 → J60 → gh_T E (gh_yLaw_isTreeWell.cls, method_7_code, 10, false, 8) (d + 36) 60 [(0, 2, 2), (3, 0, v3), (4, 2, 65), (5, 0, r2133), (6, 0, 0)] [] m2134 (fun r m1 => gh_F m1 ∧ Q r m1) := by
      intro hF hj
      have h := hJ60 hj
      refine gh_iconst gd_Law_isTreeWell_60 (gh_r0 rfl) ?_
      exact hJ61 0 hF h
    obtain ⟨hA, hB⟩ := h
    refine gh_zle (tgt := 60) gd_Law_isTreeWell_22 (by decide) (fun c2165 => ?_) (fun c2165 => ?_)
    · have h := hA c2165
      refine gh_pick (L2 := [(0, 2, 2), (3, 0, v3), (4, 2, 65), (5, 0, r2133), (6, 0, 0)]) [2, 4, 5, 1, 0] rfl ?_
      exact hJ60 hF h
    · have h := hB c2165
      refine gh_aload_n gd_Law_isTreeWell_25 2 rfl (by decide) ?_
      refine gh_bipush gd_Law_isTreeWell_26 (by decide) (gh_r0 rfl) ?_
      refine cv_House_sum (d := d + 35) gd_Law_isTreeWell_28 gh_k841 hF (Nat.le_of_ble_eq_true rfl) (gh_C.pw (s_House_sum (d + 33) 6 hF h) (fun r2166 h => ?_))
      refine gh_iload gd_Law_isTreeWell_31 1 rfl ?_
      obtain ⟨hk, hA, hB⟩ := h
      have k2169 : ((r2166 = r2133) ∧ (¬ ((x_House_deep m2134) < 1) ∧ ((x_House_step r2133 m2134) = (-1001)))) → gh_T E (gh_yLaw_isTreeWell.cls, method_7_code, 10, false, 8) (d + 36) 56 [(6, 0, 0), (5, 0, r2133), (0, 2, 2), (1, 1, v1), (3, 0, v3), (4, 2, 65)] [] m2134 (fun r m1 => gh_F m1 ∧ Q r m1) := by
        intro c
        have h := hA c
        refine gh_iconst gd_Law_isTreeWell_56 (gh_r0 rfl) ?_
        refine gh_goto (tgt := 61) gd_Law_isTreeWell_57 (by decide) ?_
        refine gh_pick (L2 := [(0, 2, 2), (3, 0, v3), (4, 2, 65), (5, 0, r2133), (6, 0, 0)]) [2, 4, 5, 1, 0] rfl ?_
        exact hJ61 1 hF h
      have k2170 : ¬ ((r2166 = r2133) ∧ (¬ ((x_House_deep m2134) < 1) ∧ ((x_House_step r2133 m2134) = (-1001)))) → gh_T E (gh_yLaw_isTreeWell.cls, method_7_code, 10, false, 8) (d + 36) 60 [(6, 0, 0), (5, 0, r2133), (0, 2, 2), (1, 1, v1), (3, 0, v3), (4, 2, 65)] [] m2134 (fun r m1 => gh_F m1 ∧ Q r m1) := by
        intro c
        have h := hB c
        refine gh_pick (L2 := [(0, 2, 2), (3, 0, v3), (4, 2, 65), (5, 0, r2133), (6, 0, 0)]) [2, 4, 5, 1, 0] rfl ?_
        exact hJ60 hF h
      refine gh_jne (tgt := 60) gd_Law_isTreeWell_33 (by decide) (fun c2171 => ?_) (fun c2171 => ?_)
      · have hz : True := trivial
        have hk := hk c2171
        refine gh_aload_n gd_Law_isTreeWell_36 2 rfl (by decide) ?_
        refine cv_House_deep (d := d + 35) gd_Law_isTreeWell_37 gh_k1171 hF (Nat.le_of_ble_eq_true rfl) (gh_C.pe (e_House_deep (d + 35)  hF) ?_)
        refine gh_iconst gd_Law_isTreeWell_40 (gh_r0 rfl) ?_
        refine gh_jlt (tgt := 60) gd_Law_isTreeWell_41 (by decide) (fun c2172 => ?_) (fun c2172 => ?_)
        · have hz : True := trivial
          exact k2170 (fun z => (fun z => z.1 c2172) z.2)
        · have hz : True := trivial
          have hk := hk c2172
          refine gh_aload_n gd_Law_isTreeWell_44 2 rfl (by decide) ?_
          refine gh_iload gd_Law_isTreeWell_45 1 rfl ?_
          have q2168 := hk
          refine cv_House_step (d := d + 35) gd_Law_isTreeWell_47 gh_k1175 hF (Nat.le_of_ble_eq_true rfl) (gh_C.pe (e_House_step (d + 35) r2133 hF q2168) ?_)
          refine gh_sipush gd_Law_isTreeWell_50 (by decide) (gh_r0 rfl) ?_
          refine gh_jne (tgt := 60) gd_Law_isTreeWell_53 (by decide) (fun c2173 => ?_) (fun c2173 => ?_)
          · have hz : True := trivial
            exact k2169 ⟨c2171, ⟨c2172, c2173⟩⟩
          · have hz : True := trivial
            exact k2170 (fun z => (fun z => c2173 z.2) z.2)
      · have hz : True := trivial
        exact k2170 (fun z => c2171 z.1)
def f_Law_areTreesWell_2_64_65_106 (r2071 : Int) (r2131 : Int) (J167 : Int → gh_M → Prop) (m2132 : gh_M) (K106 : Int → Int → Prop) (v7 : Int) (v8 : Int) : Prop := ∃ J150 : Int → Prop, (∀ (v7' : Int), J150 v7' → ∀ v6 : Int, v6 = (if (¬ (r2131 = 0) ∧ (¬ (v7' = 0))) then (1:Int) else 0) → J167 v6 m2132) ∧ ((((v8 ≤ (m2132 64 0)) ∧ (v8 < 64)) → (((v7 = 0) → (0 ≤ v8 ∧ v8 < 64 ∧ 0 ≤ v8 ∧ v8 < 64))) ∧ ∀ v7' : Int, v7' = (if (¬ (v7 = 0) ∨ (¬ ((m2132 64 v8) = (m2132 65 v8)))) then (1:Int) else 0) → gh_i (v8 + 1) ∧ K106 v7' (v8 + 1)) ∧ (¬ ((v8 ≤ (m2132 64 0)) ∧ (v8 < 64)) → J150 v7))
def w_Law_areTreesWell_2_64_65 (v1 : Int) (m : gh_M) (Q : Int → gh_M → Prop) : Prop := w_House_trees 0 0 v1 m (fun r2071 m2072 => ((r2071 = 0 → w_House_pick 0 m2072 (fun r2074 m2075 => ∃ J38 : Prop, (J38 → Q 0 m2075) ∧ ((r2074 = (-1) → w_House_sum 6 m2075 (fun r2077 => ((r2077 = 0 → Q 1 m2075) ∧ (¬ (r2077 = 0) → J38)))) ∧ (¬ (r2074 = (-1)) → J38)))) ∧ (¬ (r2071 = 0) → w_Law_isTreeWell_2_64 0 v1 m2072 (fun r2080 m2081 => ∃ J167 : Int → gh_M → Prop, (∀ (v6 : Int) (m : gh_M), J167 v6 m → ∃ J193 : gh_M → Prop, (∀ (m : gh_M), J193 m → Q 0 m) ∧ ((v6 = 0 → J193 m) ∧ (¬ (v6 = 0) → ∃ J189 : gh_M → Prop, (∀ (m : gh_M), J189 m → Q 1 m) ∧ ((r2071 < 0 → J189 m) ∧ (¬ (r2071 < 0) → w_House_pick r2071 m (fun r2125 m2126 => ((r2125 = (-1) → J189 m2126) ∧ (¬ (r2125 = (-1)) → J193 m2126)))))))) ∧ ((((r2080 = 0) ∨ (r2071 ≤ 1)) → J167 r2080 m2081) ∧ (¬ ((r2080 = 0) ∨ (r2071 ≤ 1)) → gh_j (r2071 - 1) ∧ w_Law_isTreeWell_2_65 (r2071 - 1) v1 m2081 (fun r2131 m2132 => ∀ v7 : Int, v7 = (if (¬ ((m2132 64 0) = (m2132 65 0)) ∨ (((m2132 64 0) = 0) ∨ (¬ ((m2132 64 0) ≤ 63)))) then (1:Int) else 0) → gh_L2 (fun K106 v7 v8 => f_Law_areTreesWell_2_64_65_106 r2071 r2131 J167 m2132 K106 v7 v8) v7 1)))))))
theorem b_Law_areTreesWell_2_64_65_106 {E : gh_E} {r2071 : Int} {r2131 : Int} {J167 : Int → gh_M → Prop} {Q : Int → gh_M → Prop} {K106 : Int → Int → Prop} (d : Nat) {m2132 : gh_M} (hJ167 : ∀ (v6 : Int) (m : gh_M), gh_F m → J167 v6 m → gh_T E (gh_yLaw_areTreesWell.cls, method_8_code, 9, false, 8) (d + 37) 167 [(0, 2, 2), (4, 1, r2071), (6, 0, v6)] [] m (fun r m1 => gh_F m1 ∧ Q r m1)) (hK : ∀ (v7 : Int) (v8 : Int), gh_F m2132 → K106 v7 v8 → gh_T E (gh_yLaw_areTreesWell.cls, method_8_code, 9, false, 8) (d + 37) 106 [(0, 2, 2), (2, 2, 64), (3, 2, 65), (4, 1, r2071), (6, 0, r2131), (7, 0, v7), (8, 0, v8)] [] m2132 (fun r m1 => gh_F m1 ∧ Q r m1)) (v7 : Int) (v8 : Int) (hF : gh_F m2132) (h : f_Law_areTreesWell_2_64_65_106 r2071 r2131 J167 m2132 K106 v7 v8) : gh_T E (gh_yLaw_areTreesWell.cls, method_8_code, 9, false, 8) (d + 37) 106 [(0, 2, 2), (2, 2, 64), (3, 2, 65), (4, 1, r2071), (6, 0, r2131), (7, 0, v7), (8, 0, v8)] [] m2132 (fun r m1 => gh_F m1 ∧ Q r m1) := by
  have hK106 := hK
  unfold f_Law_areTreesWell_2_64_65_106 at h
  refine gh_iload gd_Law_areTreesWell_106 6 rfl ?_
  refine gh_aload_n gd_Law_areTreesWell_108 1 rfl (by decide) ?_
  refine gh_iconst gd_Law_areTreesWell_109 (gh_r0 rfl) ?_
  refine la_64 gd_Law_areTreesWell_110 hF (by decide) (by decide) rfl ?_
  obtain ⟨J150, hJ150, h⟩ := h
  have hJ150 : ∀ (v7' : Int), gh_F m2132 → J150 v7' → gh_T E (gh_yLaw_areTreesWell.cls, method_8_code, 9, false, 8) (d + 37) 150 [(0, 2, 2), (4, 1, r2071), (6, 0, r2131), (7, 0, v7')] [] m2132 (fun r m1 => gh_F m1 ∧ Q r m1) := by
    intro v7' hF hj
    have h := hJ150 v7' hj
    refine gh_iload gd_Law_areTreesWell_150 2 rfl ?_
    have k2176 : ∀ x2177 : Int, x2177 = (if (¬ (r2131 = 0) ∧ (¬ (v7' = 0))) then (1:Int) else 0) → gh_T E (gh_yLaw_areTreesWell.cls, method_8_code, 9, false, 8) (d + 37) 165 [(0, 2, 2), (4, 1, r2071), (6, 0, r2131), (7, 0, v7')] [(0, x2177)] m2132 (fun r m1 => gh_F m1 ∧ Q r m1) := by
      rintro _ rfl
      refine gh_name (fun v6 hn => ?_)
      have h := h v6 hn
      refine gh_istore (L2 := [(6, 0, v6), (0, 2, 2), (4, 1, r2071), (7, 0, v7')]) gd_Law_areTreesWell_165 (by decide) rfl ?_
      refine gh_pick (L2 := [(0, 2, 2), (4, 1, r2071), (6, 0, v6)]) [1, 2, 0] rfl ?_
      exact hJ167 v6 m2132 hF h
    refine gh_zeq (tgt := 164) gd_Law_areTreesWell_152 (by decide) (fun c2178 => ?_) (fun c2178 => ?_)
    · have hz : True := trivial
      refine gh_iconst gd_Law_areTreesWell_164 (gh_r0 rfl) ?_
      exact k2176 _ (if_neg (c := (¬ (r2131 = 0) ∧ (¬ (v7' = 0)))) (fun z => z.1 c2178)).symm
    · have hz : True := trivial
      refine gh_iload gd_Law_areTreesWell_155 3 rfl ?_
      refine gh_zeq (tgt := 164) gd_Law_areTreesWell_157 (by decide) (fun c2179 => ?_) (fun c2179 => ?_)
      · have hz : True := trivial
        refine gh_iconst gd_Law_areTreesWell_164 (gh_r0 rfl) ?_
        exact k2176 _ (if_neg (c := (¬ (r2131 = 0) ∧ (¬ (v7' = 0)))) (fun z => (not_not_intro c2179) z.2)).symm
      · have hz : True := trivial
        refine gh_iconst gd_Law_areTreesWell_160 (gh_r0 rfl) ?_
        refine gh_goto (tgt := 165) gd_Law_areTreesWell_161 (by decide) ?_
        exact k2176 _ (if_pos (c := (¬ (r2131 = 0) ∧ (¬ (v7' = 0)))) ⟨c2178, c2179⟩).symm
  obtain ⟨hA, hB⟩ := h
  have k2180 : ((v8 ≤ (m2132 64 0)) ∧ (v8 < 64)) → gh_T E (gh_yLaw_areTreesWell.cls, method_8_code, 9, false, 8) (d + 37) 121 [(0, 2, 2), (2, 2, 64), (3, 2, 65), (4, 1, r2071), (6, 0, r2131), (7, 0, v7), (8, 0, v8)] [] m2132 (fun r m1 => gh_F m1 ∧ Q r m1) := by
    intro c
    have h := hA c
    refine gh_iload gd_Law_areTreesWell_121 5 rfl ?_
    obtain ⟨hk, h⟩ := h
    have k2186 : ∀ x2187 : Int, x2187 = (if (¬ (v7 = 0) ∨ (¬ ((m2132 64 v8) = (m2132 65 v8)))) then (1:Int) else 0) → gh_T E (gh_yLaw_areTreesWell.cls, method_8_code, 9, false, 8) (d + 37) 142 [(0, 2, 2), (2, 2, 64), (3, 2, 65), (4, 1, r2071), (6, 0, r2131), (7, 0, v7), (8, 0, v8)] [(0, x2187)] m2132 (fun r m1 => gh_F m1 ∧ Q r m1) := by
      rintro _ rfl
      refine gh_name (fun v7' hn => ?_)
      have h := h v7' hn
      refine gh_istore (L2 := [(7, 0, v7'), (0, 2, 2), (2, 2, 64), (3, 2, 65), (4, 1, r2071), (6, 0, r2131), (8, 0, v8)]) gd_Law_areTreesWell_142 (by decide) rfl ?_
      obtain ⟨q2188, h⟩ := h
      refine gh_iinc (L2 := [(8, 0, v8 + 1), (7, 0, v7'), (0, 2, 2), (2, 2, 64), (3, 2, 65), (4, 1, r2071), (6, 0, r2131)]) gd_Law_areTreesWell_144 6 rfl q2188 (by decide) rfl ?_
      refine gh_goto (tgt := 106) gd_Law_areTreesWell_147 (by decide) ?_
      refine gh_pick (L2 := [(0, 2, 2), (2, 2, 64), (3, 2, 65), (4, 1, r2071), (6, 0, r2131), (7, 0, v7'), (8, 0, v8 + 1)]) [2, 3, 4, 5, 6, 1, 0] rfl ?_
      exact hK106 v7' (v8 + 1) hF h
    refine gh_zne (tgt := 137) gd_Law_areTreesWell_123 (by decide) (fun c2189 => ?_) (fun c2189 => ?_)
    · have hz : True := trivial
      have hk := hk c2189
      refine gh_aload_n gd_Law_areTreesWell_126 1 rfl (by decide) ?_
      refine gh_iload gd_Law_areTreesWell_127 6 rfl ?_
      obtain ⟨q2182, hk⟩ := hk
      obtain ⟨q2183, hk⟩ := hk
      refine la_64 gd_Law_areTreesWell_129 hF q2182 q2183 rfl ?_
      refine gh_aload_n gd_Law_areTreesWell_130 2 rfl (by decide) ?_
      refine gh_iload gd_Law_areTreesWell_131 6 rfl ?_
      obtain ⟨q2184, hk⟩ := hk
      have q2185 := hk
      refine la_65 gd_Law_areTreesWell_133 hF q2184 q2185 rfl ?_
      refine gh_jeq (tgt := 141) gd_Law_areTreesWell_134 (by decide) (fun c2190 => ?_) (fun c2190 => ?_)
      · have hz : True := trivial
        refine gh_iconst gd_Law_areTreesWell_141 (gh_r0 rfl) ?_
        exact k2186 _ (if_neg (c := (¬ (v7 = 0) ∨ (¬ ((m2132 64 v8) = (m2132 65 v8))))) (fun z => z.elim (fun w => w c2189) (not_not_intro c2190))).symm
      · have hz : True := trivial
        refine gh_iconst gd_Law_areTreesWell_137 (gh_r0 rfl) ?_
        refine gh_goto (tgt := 142) gd_Law_areTreesWell_138 (by decide) ?_
        exact k2186 _ (if_pos (c := (¬ (v7 = 0) ∨ (¬ ((m2132 64 v8) = (m2132 65 v8))))) (Or.inr c2190)).symm
    · have hz : True := trivial
      refine gh_iconst gd_Law_areTreesWell_137 (gh_r0 rfl) ?_
      refine gh_goto (tgt := 142) gd_Law_areTreesWell_138 (by decide) ?_
      exact k2186 _ (if_pos (c := (¬ (v7 = 0) ∨ (¬ ((m2132 64 v8) = (m2132 65 v8))))) (Or.inl c2189)).symm
  have k2181 : ¬ ((v8 ≤ (m2132 64 0)) ∧ (v8 < 64)) → gh_T E (gh_yLaw_areTreesWell.cls, method_8_code, 9, false, 8) (d + 37) 150 [(0, 2, 2), (2, 2, 64), (3, 2, 65), (4, 1, r2071), (6, 0, r2131), (7, 0, v7), (8, 0, v8)] [] m2132 (fun r m1 => gh_F m1 ∧ Q r m1) := by
    intro c
    have h := hB c
    refine gh_pick (L2 := [(0, 2, 2), (4, 1, r2071), (6, 0, r2131), (7, 0, v7)]) [0, 3, 4, 5] rfl ?_
    exact hJ150 v7 hF h
  refine gh_jgt (tgt := 150) gd_Law_areTreesWell_111 (by decide) (fun c2191 => ?_) (fun c2191 => ?_)
  · have hz : True := trivial
    refine gh_iload gd_Law_areTreesWell_114 6 rfl ?_
    refine gh_bipush gd_Law_areTreesWell_116 (by decide) (gh_r0 rfl) ?_
    refine gh_jge (tgt := 150) gd_Law_areTreesWell_118 (by decide) (fun c2192 => ?_) (fun c2192 => ?_)
    · have hz : True := trivial
      exact k2180 ⟨c2191, c2192⟩
    · have hz : True := trivial
      exact k2181 (fun z => c2192 z.2)
  · have hz : True := trivial
    exact k2181 (fun z => c2191 z.1)
theorem s_Law_areTreesWell_2_64_65 {E : gh_E} {m : gh_M} {Q : Int → gh_M → Prop} (d : Nat) (v1 : Int) (hF : gh_F m) (h : w_Law_areTreesWell_2_64_65 v1 m Q) : gh_C E gh_yLaw_areTreesWell method_8_code 9 (some .boolean) 8 (d + 37) [(2, 2), (0, v1), (2, 64), (2, 65)] m (fun r m1 => gh_F m1 ∧ Q r m1) := by
  refine gh_enter2 (L := [(0, 2, 2), (1, 0, v1), (2, 2, 64), (3, 2, 65)]) (by decide +kernel) gh_rt8 (Nat.le_of_ble_eq_true rfl) rfl rfl ?_
  unfold w_Law_areTreesWell_2_64_65 at h
  refine gh_aload_n gd_Law_areTreesWell_0 0 rfl (by decide) ?_
  refine gh_iconst gd_Law_areTreesWell_1 (gh_r0 rfl) ?_
  refine gh_iconst gd_Law_areTreesWell_2 (gh_r0 rfl) ?_
  refine gh_iload_n gd_Law_areTreesWell_3 1 rfl ?_
  refine cv_House_trees (d := d + 36) gd_Law_areTreesWell_4 gh_k1021 hF (Nat.le_of_ble_eq_true rfl) (gh_C.mono (s_House_trees (d + 3) 0 0 v1 hF h) (fun r2071 m2072 hq => ?_))
  obtain ⟨hF, h⟩ := hq
  refine gh_lstore (L2 := [(4, 1, r2071), (0, 2, 2), (1, 0, v1), (2, 2, 64), (3, 2, 65)]) gd_Law_areTreesWell_7 (by decide) rfl ?_
  refine gh_lload gd_Law_areTreesWell_9 0 rfl ?_
  refine gh_lconst (n := 0) gd_Law_areTreesWell_11 (by decide) (gh_r1 rfl) ?_
  refine gh_lcmp gd_Law_areTreesWell_12 ?_
  obtain ⟨hA, hB⟩ := h
  refine gh_cne (tgt := 40) gd_Law_areTreesWell_13 (by decide) (fun c2073 => ?_) (fun c2073 => ?_)
  · have h := hA c2073
    refine gh_aload_n gd_Law_areTreesWell_16 1 rfl (by decide) ?_
    refine gh_lconst (n := 0) gd_Law_areTreesWell_17 (by decide) (gh_r1 rfl) ?_
    refine cv_House_pick (d := d + 36) gd_Law_areTreesWell_18 gh_k1124 hF (Nat.le_of_ble_eq_true rfl) (gh_C.mono (s_House_pick (d + 1) 0 hF h) (fun r2074 m2075 hq => ?_))
    obtain ⟨hF, h⟩ := hq
    refine gh_iconst gd_Law_areTreesWell_21 (gh_r0 rfl) ?_
    obtain ⟨J38, hJ38, h⟩ := h
    have hJ38 : gh_F m2075 → J38 → gh_T E (gh_yLaw_areTreesWell.cls, method_8_code, 9, false, 8) (d + 37) 38 [] [] m2075 (fun r m1 => gh_F m1 ∧ Q r m1) := by
      intro hF hj
      have h := hJ38 hj
      refine gh_iconst gd_Law_areTreesWell_38 (gh_r0 rfl) ?_
      exact gh_ret8 rfl gd_Law_areTreesWell_39 (by decide) ⟨hF, h⟩
    obtain ⟨hA, hB⟩ := h
    refine gh_jne (tgt := 38) gd_Law_areTreesWell_22 (by decide) (fun c2076 => ?_) (fun c2076 => ?_)
    · have h := hA c2076
      refine gh_aload_n gd_Law_areTreesWell_25 1 rfl (by decide) ?_
      refine gh_bipush gd_Law_areTreesWell_26 (by decide) (gh_r0 rfl) ?_
      refine cv_House_sum (d := d + 36) gd_Law_areTreesWell_28 gh_k841 hF (Nat.le_of_ble_eq_true rfl) (gh_C.pw (s_House_sum (d + 34) 6 hF h) (fun r2077 h => ?_))
      obtain ⟨hA, hB⟩ := h
      refine gh_zne (tgt := 38) gd_Law_areTreesWell_31 (by decide) (fun c2079 => ?_) (fun c2079 => ?_)
      · have h := hA c2079
        refine gh_iconst gd_Law_areTreesWell_34 (gh_r0 rfl) ?_
        refine gh_goto (tgt := 39) gd_Law_areTreesWell_35 (by decide) ?_
        exact gh_ret8 rfl gd_Law_areTreesWell_39 (by decide) ⟨hF, h⟩
      · have h := hB c2079
        refine gh_pick (L2 := []) [] rfl ?_
        exact hJ38 hF h
    · have h := hB c2076
      refine gh_pick (L2 := []) [] rfl ?_
      exact hJ38 hF h
  · have h := hB c2073
    refine gh_aload_n gd_Law_areTreesWell_40 1 rfl (by decide) ?_
    refine gh_lconst (n := 0) gd_Law_areTreesWell_41 (by decide) (gh_r1 rfl) ?_
    refine gh_iload_n gd_Law_areTreesWell_42 2 rfl ?_
    refine gh_aload_n gd_Law_areTreesWell_43 3 rfl (by decide) ?_
    refine cv_Law_isTreeWell (d := d + 36) gd_Law_areTreesWell_44 gh_k1168 (Nat.le_of_ble_eq_true rfl) (gh_C.mono (s_Law_isTreeWell_2_64 d 0 v1 hF h) (fun r2080 m2081 hq => ?_))
    obtain ⟨hF, h⟩ := hq
    refine gh_istore (L2 := [(6, 0, r2080), (4, 1, r2071), (0, 2, 2), (1, 0, v1), (2, 2, 64), (3, 2, 65)]) gd_Law_areTreesWell_47 (by decide) rfl ?_
    refine gh_iload gd_Law_areTreesWell_49 0 rfl ?_
    obtain ⟨J167, hJ167, h⟩ := h
    have hJ167 : ∀ (v6 : Int) (m : gh_M), gh_F m → J167 v6 m → gh_T E (gh_yLaw_areTreesWell.cls, method_8_code, 9, false, 8) (d + 37) 167 [(0, 2, 2), (4, 1, r2071), (6, 0, v6)] [] m (fun r m1 => gh_F m1 ∧ Q r m1) := by
      intro v6 m hF hj
      have h := hJ167 v6 m hj
      refine gh_iload gd_Law_areTreesWell_167 2 rfl ?_
      obtain ⟨J193, hJ193, h⟩ := h
      have hJ193 : ∀ (m : gh_M), gh_F m → J193 m → gh_T E (gh_yLaw_areTreesWell.cls, method_8_code, 9, false, 8) (d + 37) 193 [] [] m (fun r m1 => gh_F m1 ∧ Q r m1) := by
        intro m hF hj
        have h := hJ193 m hj
        refine gh_iconst gd_Law_areTreesWell_193 (gh_r0 rfl) ?_
        exact gh_ret8 rfl gd_Law_areTreesWell_194 (by decide) ⟨hF, h⟩
      obtain ⟨hA, hB⟩ := h
      refine gh_zeq (tgt := 193) gd_Law_areTreesWell_169 (by decide) (fun c2123 => ?_) (fun c2123 => ?_)
      · have h := hA c2123
        refine gh_pick (L2 := []) [] rfl ?_
        exact hJ193 m hF h
      · have h := hB c2123
        refine gh_lload gd_Law_areTreesWell_172 1 rfl ?_
        refine gh_lconst (n := 0) gd_Law_areTreesWell_174 (by decide) (gh_r1 rfl) ?_
        refine gh_lcmp gd_Law_areTreesWell_175 ?_
        obtain ⟨J189, hJ189, h⟩ := h
        have hJ189 : ∀ (m : gh_M), gh_F m → J189 m → gh_T E (gh_yLaw_areTreesWell.cls, method_8_code, 9, false, 8) (d + 37) 189 [] [] m (fun r m1 => gh_F m1 ∧ Q r m1) := by
          intro m hF hj
          have h := hJ189 m hj
          refine gh_iconst gd_Law_areTreesWell_189 (gh_r0 rfl) ?_
          refine gh_goto (tgt := 194) gd_Law_areTreesWell_190 (by decide) ?_
          exact gh_ret8 rfl gd_Law_areTreesWell_194 (by decide) ⟨hF, h⟩
        obtain ⟨hA, hB⟩ := h
        refine gh_clt (tgt := 189) gd_Law_areTreesWell_176 (by decide) (fun c2124 => ?_) (fun c2124 => ?_)
        · have h := hA c2124
          refine gh_pick (L2 := []) [] rfl ?_
          exact hJ189 m hF h
        · have h := hB c2124
          refine gh_aload_n gd_Law_areTreesWell_179 0 rfl (by decide) ?_
          refine gh_lload gd_Law_areTreesWell_180 1 rfl ?_
          refine cv_House_pick (d := d + 36) gd_Law_areTreesWell_182 gh_k1124 hF (Nat.le_of_ble_eq_true rfl) (gh_C.mono (s_House_pick (d + 1) r2071 hF h) (fun r2125 m2126 hq => ?_))
          obtain ⟨hF, h⟩ := hq
          refine gh_iconst gd_Law_areTreesWell_185 (gh_r0 rfl) ?_
          obtain ⟨hA, hB⟩ := h
          refine gh_jne (tgt := 193) gd_Law_areTreesWell_186 (by decide) (fun c2127 => ?_) (fun c2127 => ?_)
          · have h := hA c2127
            refine gh_pick (L2 := []) [] rfl ?_
            exact hJ189 m2126 hF h
          · have h := hB c2127
            refine gh_pick (L2 := []) [] rfl ?_
            exact hJ193 m2126 hF h
    obtain ⟨hA, hB⟩ := h
    have k2128 : ((r2080 = 0) ∨ (r2071 ≤ 1)) → gh_T E (gh_yLaw_areTreesWell.cls, method_8_code, 9, false, 8) (d + 37) 167 [(6, 0, r2080), (4, 1, r2071), (0, 2, 2), (1, 0, v1), (2, 2, 64), (3, 2, 65)] [] m2081 (fun r m1 => gh_F m1 ∧ Q r m1) := by
      intro c
      have h := hA c
      refine gh_pick (L2 := [(0, 2, 2), (4, 1, r2071), (6, 0, r2080)]) [2, 1, 0] rfl ?_
      exact hJ167 r2080 m2081 hF h
    have k2129 : ¬ ((r2080 = 0) ∨ (r2071 ≤ 1)) → gh_T E (gh_yLaw_areTreesWell.cls, method_8_code, 9, false, 8) (d + 37) 61 [(6, 0, r2080), (4, 1, r2071), (0, 2, 2), (1, 0, v1), (2, 2, 64), (3, 2, 65)] [] m2081 (fun r m1 => gh_F m1 ∧ Q r m1) := by
      intro c
      have h := hB c
      refine gh_aload_n gd_Law_areTreesWell_61 2 rfl (by decide) ?_
      refine gh_lload gd_Law_areTreesWell_62 1 rfl ?_
      refine gh_lconst (n := 1) gd_Law_areTreesWell_64 (by decide) (gh_r1 rfl) ?_
      obtain ⟨q2130, h⟩ := h
      refine gh_lsub gd_Law_areTreesWell_65 q2130 ?_
      refine gh_iload_n gd_Law_areTreesWell_66 3 rfl ?_
      refine gh_aload_n gd_Law_areTreesWell_67 5 rfl (by decide) ?_
      refine cv_Law_isTreeWell (d := d + 36) gd_Law_areTreesWell_68 gh_k1168 (Nat.le_of_ble_eq_true rfl) (gh_C.mono (s_Law_isTreeWell_2_65 d (r2071 - 1) v1 hF h) (fun r2131 m2132 hq => ?_))
      obtain ⟨hF, h⟩ := hq
      refine gh_istore (L2 := [(6, 0, r2131), (4, 1, r2071), (0, 2, 2), (1, 0, v1), (2, 2, 64), (3, 2, 65)]) gd_Law_areTreesWell_71 (by decide) rfl ?_
      refine gh_aload_n gd_Law_areTreesWell_73 4 rfl (by decide) ?_
      refine gh_iconst gd_Law_areTreesWell_74 (gh_r0 rfl) ?_
      refine la_64 gd_Law_areTreesWell_75 hF (by decide) (by decide) rfl ?_
      refine gh_aload_n gd_Law_areTreesWell_76 5 rfl (by decide) ?_
      refine gh_iconst gd_Law_areTreesWell_77 (gh_r0 rfl) ?_
      refine la_65 gd_Law_areTreesWell_78 hF (by decide) (by decide) rfl ?_
      have k2174 : ∀ x2175 : Int, x2175 = (if (¬ ((m2132 64 0) = (m2132 65 0)) ∨ (((m2132 64 0) = 0) ∨ (¬ ((m2132 64 0) ≤ 63)))) then (1:Int) else 0) → gh_T E (gh_yLaw_areTreesWell.cls, method_8_code, 9, false, 8) (d + 37) 101 [(6, 0, r2131), (4, 1, r2071), (0, 2, 2), (1, 0, v1), (2, 2, 64), (3, 2, 65)] [(0, x2175)] m2132 (fun r m1 => gh_F m1 ∧ Q r m1) := by
        rintro _ rfl
        refine gh_name (fun v7 hn => ?_)
        have h := h v7 hn
        refine gh_istore (L2 := [(7, 0, v7), (6, 0, r2131), (4, 1, r2071), (0, 2, 2), (1, 0, v1), (2, 2, 64), (3, 2, 65)]) gd_Law_areTreesWell_101 (by decide) rfl ?_
        refine gh_iconst gd_Law_areTreesWell_103 (gh_r0 rfl) ?_
        refine gh_istore (L2 := [(8, 0, 1), (7, 0, v7), (6, 0, r2131), (4, 1, r2071), (0, 2, 2), (1, 0, v1), (2, 2, 64), (3, 2, 65)]) gd_Law_areTreesWell_104 (by decide) rfl ?_
        refine gh_pick (L2 := [(0, 2, 2), (2, 2, 64), (3, 2, 65), (4, 1, r2071), (6, 0, r2131), (7, 0, v7), (8, 0, 1)]) [4, 6, 7, 3, 2, 1, 0] rfl ?_
        exact gh_L2_sound (T := fun v7 v8 => gh_T E (gh_yLaw_areTreesWell.cls, method_8_code, 9, false, 8) (d + 37) 106 [(0, 2, 2), (2, 2, 64), (3, 2, 65), (4, 1, r2071), (6, 0, r2131), (7, 0, v7), (8, 0, v8)] [] m2132 (fun r m1 => gh_F m1 ∧ Q r m1)) (fun _ _ => gh_F m2132) (fun K106 v7 v8 hK hF h => b_Law_areTreesWell_2_64_65_106 d hJ167 hK v7 v8 hF h) v7 1 hF h
      refine gh_jne (tgt := 96) gd_Law_areTreesWell_79 (by decide) (fun c2193 => ?_) (fun c2193 => ?_)
      · have hz : True := trivial
        refine gh_aload_n gd_Law_areTreesWell_82 4 rfl (by decide) ?_
        refine gh_iconst gd_Law_areTreesWell_83 (gh_r0 rfl) ?_
        refine la_64 gd_Law_areTreesWell_84 hF (by decide) (by decide) rfl ?_
        refine gh_zeq (tgt := 96) gd_Law_areTreesWell_85 (by decide) (fun c2194 => ?_) (fun c2194 => ?_)
        · have hz : True := trivial
          refine gh_iconst gd_Law_areTreesWell_96 (gh_r0 rfl) ?_
          refine gh_goto (tgt := 101) gd_Law_areTreesWell_97 (by decide) ?_
          exact k2174 _ (if_pos (c := (¬ ((m2132 64 0) = (m2132 65 0)) ∨ (((m2132 64 0) = 0) ∨ (¬ ((m2132 64 0) ≤ 63))))) (Or.inr (Or.inl c2194))).symm
        · have hz : True := trivial
          refine gh_aload_n gd_Law_areTreesWell_88 4 rfl (by decide) ?_
          refine gh_iconst gd_Law_areTreesWell_89 (gh_r0 rfl) ?_
          refine la_64 gd_Law_areTreesWell_90 hF (by decide) (by decide) rfl ?_
          refine gh_bipush gd_Law_areTreesWell_91 (by decide) (gh_r0 rfl) ?_
          refine gh_jle (tgt := 100) gd_Law_areTreesWell_93 (by decide) (fun c2195 => ?_) (fun c2195 => ?_)
          · have hz : True := trivial
            refine gh_iconst gd_Law_areTreesWell_100 (gh_r0 rfl) ?_
            exact k2174 _ (if_neg (c := (¬ ((m2132 64 0) = (m2132 65 0)) ∨ (((m2132 64 0) = 0) ∨ (¬ ((m2132 64 0) ≤ 63))))) (fun z => z.elim (fun w => w c2193) (fun z => z.elim c2194 (not_not_intro c2195)))).symm
          · have hz : True := trivial
            refine gh_iconst gd_Law_areTreesWell_96 (gh_r0 rfl) ?_
            refine gh_goto (tgt := 101) gd_Law_areTreesWell_97 (by decide) ?_
            exact k2174 _ (if_pos (c := (¬ ((m2132 64 0) = (m2132 65 0)) ∨ (((m2132 64 0) = 0) ∨ (¬ ((m2132 64 0) ≤ 63))))) (Or.inr (Or.inr c2195))).symm
      · have hz : True := trivial
        refine gh_iconst gd_Law_areTreesWell_96 (gh_r0 rfl) ?_
        refine gh_goto (tgt := 101) gd_Law_areTreesWell_97 (by decide) ?_
        exact k2174 _ (if_pos (c := (¬ ((m2132 64 0) = (m2132 65 0)) ∨ (((m2132 64 0) = 0) ∨ (¬ ((m2132 64 0) ≤ 63))))) (Or.inl c2193)).symm
    refine gh_zeq (tgt := 167) gd_Law_areTreesWell_51 (by decide) (fun c2196 => ?_) (fun c2196 => ?_)
    · have hz : True := trivial
      exact k2128 (Or.inl c2196)
    · have hz : True := trivial
      refine gh_lload gd_Law_areTreesWell_54 1 rfl ?_
      refine gh_lconst (n := 1) gd_Law_areTreesWell_56 (by decide) (gh_r1 rfl) ?_
      refine gh_lcmp gd_Law_areTreesWell_57 ?_
      refine gh_cle (tgt := 167) gd_Law_areTreesWell_58 (by decide) (fun c2197 => ?_) (fun c2197 => ?_)
      · have hz : True := trivial
        exact k2128 (Or.inr c2197)
      · have hz : True := trivial
        exact k2129 (fun z => z.elim c2196 c2197)
def f_Law_isTextWell_2_64_65_12 (r1996 : Int) (Q : Int → gh_M → Prop) (K12 : Int → Int → gh_M → Prop) (v4 : Int) (v5 : Int) (m : gh_M) : Prop := ((v5 ≤ r1996 → ∃ J38 : Int → gh_M → Prop, (∀ (y0 : Int) (m : gh_M), J38 y0 m → gh_i (v5 + 1) ∧ K12 y0 (v5 + 1) m) ∧ ∃ J37 : gh_M → Prop, (∀ (m : gh_M), J37 m → J38 0 m) ∧ ((v4 = 0 → J37 m) ∧ (¬ (v4 = 0) → w_Law_isPlaceWell_2 v5 r1996 m (fun r2001 m2002 => ((r2001 = 0 → J37 m2002) ∧ (¬ (r2001 = 0) → J38 1 m2002)))))) ∧ (¬ (v5 ≤ r1996) → w_House_repair m (fun r2064 m2065 => w_House_end r1996 m2065 (fun r2066 m2067 => ∃ J143 : Int → gh_M → Prop, (∀ (y0 : Int) (m : gh_M), J143 y0 m → ∃ J164 : gh_M → Prop, (∀ (m : gh_M), J164 m → Q 0 m) ∧ ((y0 = 0 → J164 m) ∧ (¬ (y0 = 0) → w_Law_areTreesWell_2_64_65 r1996 m (fun r2069 m2070 => ((r2069 = 0 → J164 m2070) ∧ (¬ (r2069 = 0) → Q 1 m2070)))))) ∧ ∃ J142 : gh_M → Prop, (∀ (m : gh_M), J142 m → J143 0 m) ∧ ((v4 = 0 → J142 (gh_u (gh_u m2067 64 0 0) 65 0 0)) ∧ (¬ (v4 = 0) → w_House_accepts r1996 (gh_u (gh_u m2067 64 0 0) 65 0 0) (fun r2202 m2203 => (((if (r2064 = 0) then (1:Int) else 0) = (if (r2202 = 1) then (1:Int) else 0) → w_House_name 0 3 m2203 (fun r2209 => (((((if (r2064 < 0) then (1:Int) else 0) = (if (r2209 = 0) then (1:Int) else 0)) ∧ ((r2066 < 0) ∨ (r2064 ≤ r2066))) → J143 1 m2203) ∧ (¬ (((if (r2064 < 0) then (1:Int) else 0) = (if (r2209 = 0) then (1:Int) else 0)) ∧ ((r2066 < 0) ∨ (r2064 ≤ r2066))) → J142 m2203)))) ∧ (¬ ((if (r2064 = 0) then (1:Int) else 0) = (if (r2202 = 1) then (1:Int) else 0)) → J142 m2203)))))))))
def w_Law_isTextWell_2_64_65 (m : gh_M) (Q : Int → gh_M → Prop) : Prop := w_House_sum 4 m (fun r1996 => gh_M2 (fun K12 v4 v5 m => f_Law_isTextWell_2_64_65_12 r1996 Q K12 v4 v5 m) 1 0 m)
theorem b_Law_isTextWell_2_64_65_12 {E : gh_E} {r1996 : Int} {Q : Int → gh_M → Prop} {K12 : Int → Int → gh_M → Prop} (d : Nat) (hK : ∀ (v4 : Int) (v5 : Int) (m : gh_M), gh_F m → K12 v4 v5 m → gh_T E (gh_yLaw_isTextWell.cls, method_9_code, 7, false, 8) (d + 38) 12 [(0, 2, 2), (1, 2, 64), (2, 2, 65), (3, 0, r1996), (4, 0, v4), (5, 0, v5)] [] m (fun r m1 => gh_F m1 ∧ Q r m1)) (v4 : Int) (v5 : Int) (m : gh_M) (hF : gh_F m) (h : f_Law_isTextWell_2_64_65_12 r1996 Q K12 v4 v5 m) : gh_T E (gh_yLaw_isTextWell.cls, method_9_code, 7, false, 8) (d + 38) 12 [(0, 2, 2), (1, 2, 64), (2, 2, 65), (3, 0, r1996), (4, 0, v4), (5, 0, v5)] [] m (fun r m1 => gh_F m1 ∧ Q r m1) := by
  have hK12 := hK
  unfold f_Law_isTextWell_2_64_65_12 at h
  refine gh_iload gd_Law_isTextWell_12 5 rfl ?_
  refine gh_iload_n gd_Law_isTextWell_14 3 rfl ?_
  obtain ⟨hA, hB⟩ := h
  refine gh_jgt (tgt := 46) gd_Law_isTextWell_15 (by decide) (fun c1998 => ?_) (fun c1998 => ?_)
  · have h := hA c1998
    refine gh_iload gd_Law_isTextWell_18 4 rfl ?_
    obtain ⟨J38, hJ38, h⟩ := h
    have hJ38 : ∀ (y0 : Int) (m : gh_M), gh_F m → J38 y0 m → gh_T E (gh_yLaw_isTextWell.cls, method_9_code, 7, false, 8) (d + 38) 38 [(0, 2, 2), (1, 2, 64), (2, 2, 65), (3, 0, r1996), (5, 0, v5)] [(0, y0)] m (fun r m1 => gh_F m1 ∧ Q r m1) := by
      intro y0 m hF hj
      have h := hJ38 y0 m hj
      refine gh_istore (L2 := [(4, 0, y0), (0, 2, 2), (1, 2, 64), (2, 2, 65), (3, 0, r1996), (5, 0, v5)]) gd_Law_isTextWell_38 (by decide) rfl ?_
      obtain ⟨q1999, h⟩ := h
      refine gh_iinc (L2 := [(5, 0, v5 + 1), (4, 0, y0), (0, 2, 2), (1, 2, 64), (2, 2, 65), (3, 0, r1996)]) gd_Law_isTextWell_40 5 rfl q1999 (by decide) rfl ?_
      refine gh_goto (tgt := 12) gd_Law_isTextWell_43 (by decide) ?_
      refine gh_pick (L2 := [(0, 2, 2), (1, 2, 64), (2, 2, 65), (3, 0, r1996), (4, 0, y0), (5, 0, v5 + 1)]) [2, 3, 4, 5, 1, 0] rfl ?_
      exact hK12 y0 (v5 + 1) m hF h
    obtain ⟨J37, hJ37, h⟩ := h
    have hJ37 : ∀ (m : gh_M), gh_F m → J37 m → gh_T E (gh_yLaw_isTextWell.cls, method_9_code, 7, false, 8) (d + 38) 37 [(0, 2, 2), (1, 2, 64), (2, 2, 65), (3, 0, r1996), (5, 0, v5)] [] m (fun r m1 => gh_F m1 ∧ Q r m1) := by
      intro m hF hj
      have h := hJ37 m hj
      refine gh_iconst gd_Law_isTextWell_37 (gh_r0 rfl) ?_
      exact hJ38 0 m hF h
    obtain ⟨hA, hB⟩ := h
    refine gh_zeq (tgt := 37) gd_Law_isTextWell_20 (by decide) (fun c2000 => ?_) (fun c2000 => ?_)
    · have h := hA c2000
      refine gh_pick (L2 := [(0, 2, 2), (1, 2, 64), (2, 2, 65), (3, 0, r1996), (5, 0, v5)]) [0, 1, 2, 3, 5] rfl ?_
      exact hJ37 m hF h
    · have h := hB c2000
      refine gh_aload_n gd_Law_isTextWell_23 0 rfl (by decide) ?_
      refine gh_iload gd_Law_isTextWell_24 5 rfl ?_
      refine gh_iload_n gd_Law_isTextWell_26 3 rfl ?_
      refine cv_Law_isPlaceWell (d := d + 37) gd_Law_isTextWell_27 gh_k980 (Nat.le_of_ble_eq_true rfl) (gh_C.mono (s_Law_isPlaceWell_2 (d + 3) v5 r1996 hF h) (fun r2001 m2002 hq => ?_))
      obtain ⟨hF, h⟩ := hq
      obtain ⟨hA, hB⟩ := h
      refine gh_zeq (tgt := 37) gd_Law_isTextWell_30 (by decide) (fun c2063 => ?_) (fun c2063 => ?_)
      · have h := hA c2063
        refine gh_pick (L2 := [(0, 2, 2), (1, 2, 64), (2, 2, 65), (3, 0, r1996), (5, 0, v5)]) [0, 1, 2, 3, 5] rfl ?_
        exact hJ37 m2002 hF h
      · have h := hB c2063
        refine gh_iconst gd_Law_isTextWell_33 (gh_r0 rfl) ?_
        refine gh_goto (tgt := 38) gd_Law_isTextWell_34 (by decide) ?_
        refine gh_pick (L2 := [(0, 2, 2), (1, 2, 64), (2, 2, 65), (3, 0, r1996), (5, 0, v5)]) [0, 1, 2, 3, 5] rfl ?_
        exact hJ38 1 m2002 hF h
  · have h := hB c1998
    refine gh_aload_n gd_Law_isTextWell_46 0 rfl (by decide) ?_
    refine cv_House_repair (d := d + 37) gd_Law_isTextWell_47 gh_k1089 hF (Nat.le_of_ble_eq_true rfl) (gh_C.mono (s_House_repair (d + 32) hF h) (fun r2064 m2065 hq => ?_))
    obtain ⟨hF, h⟩ := hq
    refine gh_istore (L2 := [(5, 0, r2064), (0, 2, 2), (1, 2, 64), (2, 2, 65), (3, 0, r1996), (4, 0, v4)]) gd_Law_isTextWell_50 (by decide) rfl ?_
    refine gh_aload_n gd_Law_isTextWell_52 1 rfl (by decide) ?_
    refine gh_iload_n gd_Law_isTextWell_53 4 rfl ?_
    refine cv_House_end (d := d + 37) gd_Law_isTextWell_54 gh_k987 hF (Nat.le_of_ble_eq_true rfl) (gh_C.mono (s_House_end (d + 31) r1996 hF h) (fun r2066 m2067 hq => ?_))
    obtain ⟨hF, h⟩ := hq
    refine gh_istore (L2 := [(6, 0, r2066), (5, 0, r2064), (0, 2, 2), (1, 2, 64), (2, 2, 65), (3, 0, r1996), (4, 0, v4)]) gd_Law_isTextWell_57 (by decide) rfl ?_
    refine gh_aload_n gd_Law_isTextWell_59 3 rfl (by decide) ?_
    refine gh_iconst gd_Law_isTextWell_60 (gh_r0 rfl) ?_
    refine gh_iconst gd_Law_isTextWell_61 (gh_r0 rfl) ?_
    refine sa_64 gd_Law_isTextWell_62 hF (by decide) (by decide) (fun hF => ?_)
    refine gh_aload_n gd_Law_isTextWell_63 4 rfl (by decide) ?_
    refine gh_iconst gd_Law_isTextWell_64 (gh_r0 rfl) ?_
    refine gh_iconst gd_Law_isTextWell_65 (gh_r0 rfl) ?_
    refine sa_65 gd_Law_isTextWell_66 hF (by decide) (by decide) (fun hF => ?_)
    refine gh_iload gd_Law_isTextWell_67 6 rfl ?_
    obtain ⟨J143, hJ143, h⟩ := h
    have hJ143 : ∀ (y0 : Int) (m : gh_M), gh_F m → J143 y0 m → gh_T E (gh_yLaw_isTextWell.cls, method_9_code, 7, false, 8) (d + 38) 143 [(0, 2, 2), (1, 2, 64), (2, 2, 65), (3, 0, r1996)] [(0, y0)] m (fun r m1 => gh_F m1 ∧ Q r m1) := by
      intro y0 m hF hj
      have h := hJ143 y0 m hj
      refine gh_istore (L2 := [(4, 0, y0), (0, 2, 2), (1, 2, 64), (2, 2, 65), (3, 0, r1996)]) gd_Law_isTextWell_143 (by decide) rfl ?_
      refine gh_iload gd_Law_isTextWell_145 0 rfl ?_
      obtain ⟨J164, hJ164, h⟩ := h
      have hJ164 : ∀ (m : gh_M), gh_F m → J164 m → gh_T E (gh_yLaw_isTextWell.cls, method_9_code, 7, false, 8) (d + 38) 164 [] [] m (fun r m1 => gh_F m1 ∧ Q r m1) := by
        intro m hF hj
        have h := hJ164 m hj
        refine gh_iconst gd_Law_isTextWell_164 (gh_r0 rfl) ?_
        exact gh_ret8 rfl gd_Law_isTextWell_165 (by decide) ⟨hF, h⟩
      obtain ⟨hA, hB⟩ := h
      refine gh_zeq (tgt := 164) gd_Law_isTextWell_147 (by decide) (fun c2068 => ?_) (fun c2068 => ?_)
      · have h := hA c2068
        refine gh_pick (L2 := []) [] rfl ?_
        exact hJ164 m hF h
      · have h := hB c2068
        refine gh_aload_n gd_Law_isTextWell_150 1 rfl (by decide) ?_
        refine gh_iload_n gd_Law_isTextWell_151 4 rfl ?_
        refine gh_aload_n gd_Law_isTextWell_152 2 rfl (by decide) ?_
        refine gh_aload_n gd_Law_isTextWell_153 3 rfl (by decide) ?_
        refine cv_Law_areTreesWell (d := d + 37) gd_Law_isTextWell_154 gh_k1121 (Nat.le_of_ble_eq_true rfl) (gh_C.mono (s_Law_areTreesWell_2_64_65 d r1996 hF h) (fun r2069 m2070 hq => ?_))
        obtain ⟨hF, h⟩ := hq
        obtain ⟨hA, hB⟩ := h
        refine gh_zeq (tgt := 164) gd_Law_isTextWell_157 (by decide) (fun c2198 => ?_) (fun c2198 => ?_)
        · have h := hA c2198
          refine gh_pick (L2 := []) [] rfl ?_
          exact hJ164 m2070 hF h
        · have h := hB c2198
          refine gh_iconst gd_Law_isTextWell_160 (gh_r0 rfl) ?_
          refine gh_goto (tgt := 165) gd_Law_isTextWell_161 (by decide) ?_
          exact gh_ret8 rfl gd_Law_isTextWell_165 (by decide) ⟨hF, h⟩
    obtain ⟨J142, hJ142, h⟩ := h
    have hJ142 : ∀ (m : gh_M), gh_F m → J142 m → gh_T E (gh_yLaw_isTextWell.cls, method_9_code, 7, false, 8) (d + 38) 142 [(0, 2, 2), (1, 2, 64), (2, 2, 65), (3, 0, r1996)] [] m (fun r m1 => gh_F m1 ∧ Q r m1) := by
      intro m hF hj
      have h := hJ142 m hj
      refine gh_iconst gd_Law_isTextWell_142 (gh_r0 rfl) ?_
      exact hJ143 0 m hF h
    obtain ⟨hA, hB⟩ := h
    refine gh_zeq (tgt := 142) gd_Law_isTextWell_69 (by decide) (fun c2199 => ?_) (fun c2199 => ?_)
    · have h := hA c2199
      refine gh_pick (L2 := [(0, 2, 2), (1, 2, 64), (2, 2, 65), (3, 0, r1996)]) [2, 3, 4, 5] rfl ?_
      exact hJ142 (gh_u (gh_u m2067 64 0 0) 65 0 0) hF h
    · have h := hB c2199
      refine gh_iload gd_Law_isTextWell_72 1 rfl ?_
      have k2200 : ∀ x2201 : Int, x2201 = (if (r2064 = 0) then (1:Int) else 0) → gh_T E (gh_yLaw_isTextWell.cls, method_9_code, 7, false, 8) (d + 38) 82 [(6, 0, r2066), (5, 0, r2064), (0, 2, 2), (1, 2, 64), (2, 2, 65), (3, 0, r1996), (4, 0, v4)] [(0, x2201)] (gh_u (gh_u m2067 64 0 0) 65 0 0) (fun r m1 => gh_F m1 ∧ Q r m1) := by
        rintro _ rfl
        refine gh_aload_n gd_Law_isTextWell_82 2 rfl (by decide) ?_
        refine gh_iload_n gd_Law_isTextWell_83 5 rfl ?_
        refine cv_House_accepts (d := d + 37) gd_Law_isTextWell_84 gh_k899 hF (Nat.le_of_ble_eq_true rfl) (gh_C.mono (s_House_accepts (d + 31) r1996 hF h) (fun r2202 m2203 hq => ?_))
        obtain ⟨hF, h⟩ := hq
        refine gh_iconst gd_Law_isTextWell_87 (gh_r0 rfl) ?_
        have k2204 : ∀ x2205 : Int, x2205 = (if (r2202 = 1) then (1:Int) else 0) → gh_T E (gh_yLaw_isTextWell.cls, method_9_code, 7, false, 8) (d + 38) 96 [(6, 0, r2066), (5, 0, r2064), (0, 2, 2), (1, 2, 64), (2, 2, 65), (3, 0, r1996), (4, 0, v4)] [(0, x2205), (0, (if (r2064 = 0) then (1:Int) else 0))] m2203 (fun r m1 => gh_F m1 ∧ Q r m1) := by
          rintro _ rfl
          obtain ⟨hA, hB⟩ := h
          refine gh_jne (tgt := 142) gd_Law_isTextWell_96 (by decide) (fun c2206 => ?_) (fun c2206 => ?_)
          · have h := hA c2206
            refine gh_iload gd_Law_isTextWell_99 1 rfl ?_
            have k2207 : ∀ x2208 : Int, x2208 = (if (r2064 < 0) then (1:Int) else 0) → gh_T E (gh_yLaw_isTextWell.cls, method_9_code, 7, false, 8) (d + 38) 109 [(6, 0, r2066), (5, 0, r2064), (0, 2, 2), (1, 2, 64), (2, 2, 65), (3, 0, r1996), (4, 0, v4)] [(0, x2208)] m2203 (fun r m1 => gh_F m1 ∧ Q r m1) := by
              rintro _ rfl
              refine gh_aload_n gd_Law_isTextWell_109 2 rfl (by decide) ?_
              refine gh_iconst gd_Law_isTextWell_110 (gh_r0 rfl) ?_
              refine gh_iconst gd_Law_isTextWell_111 (gh_r0 rfl) ?_
              refine cv_House_name (d := d + 37) gd_Law_isTextWell_112 gh_k1116 hF (Nat.le_of_ble_eq_true rfl) (gh_C.pw (s_House_name (d + 36) 0 3 hF h) (fun r2209 h => ?_))
              have k2211 : ∀ x2212 : Int, x2212 = (if (r2209 = 0) then (1:Int) else 0) → gh_T E (gh_yLaw_isTextWell.cls, method_9_code, 7, false, 8) (d + 38) 123 [(6, 0, r2066), (5, 0, r2064), (0, 2, 2), (1, 2, 64), (2, 2, 65), (3, 0, r1996), (4, 0, v4)] [(0, x2212), (0, (if (r2064 < 0) then (1:Int) else 0))] m2203 (fun r m1 => gh_F m1 ∧ Q r m1) := by
                rintro _ rfl
                obtain ⟨hA, hB⟩ := h
                have k2213 : (((if (r2064 < 0) then (1:Int) else 0) = (if (r2209 = 0) then (1:Int) else 0)) ∧ ((r2066 < 0) ∨ (r2064 ≤ r2066))) → gh_T E (gh_yLaw_isTextWell.cls, method_9_code, 7, false, 8) (d + 38) 138 [(6, 0, r2066), (5, 0, r2064), (0, 2, 2), (1, 2, 64), (2, 2, 65), (3, 0, r1996), (4, 0, v4)] [] m2203 (fun r m1 => gh_F m1 ∧ Q r m1) := by
                  intro c
                  have h := hA c
                  refine gh_iconst gd_Law_isTextWell_138 (gh_r0 rfl) ?_
                  refine gh_goto (tgt := 143) gd_Law_isTextWell_139 (by decide) ?_
                  refine gh_pick (L2 := [(0, 2, 2), (1, 2, 64), (2, 2, 65), (3, 0, r1996)]) [2, 3, 4, 5] rfl ?_
                  exact hJ143 1 m2203 hF h
                have k2214 : ¬ (((if (r2064 < 0) then (1:Int) else 0) = (if (r2209 = 0) then (1:Int) else 0)) ∧ ((r2066 < 0) ∨ (r2064 ≤ r2066))) → gh_T E (gh_yLaw_isTextWell.cls, method_9_code, 7, false, 8) (d + 38) 142 [(6, 0, r2066), (5, 0, r2064), (0, 2, 2), (1, 2, 64), (2, 2, 65), (3, 0, r1996), (4, 0, v4)] [] m2203 (fun r m1 => gh_F m1 ∧ Q r m1) := by
                  intro c
                  have h := hB c
                  refine gh_pick (L2 := [(0, 2, 2), (1, 2, 64), (2, 2, 65), (3, 0, r1996)]) [2, 3, 4, 5] rfl ?_
                  exact hJ142 m2203 hF h
                refine gh_jne (tgt := 142) gd_Law_isTextWell_123 (by decide) (fun c2215 => ?_) (fun c2215 => ?_)
                · have hz : True := trivial
                  refine gh_iload gd_Law_isTextWell_126 0 rfl ?_
                  refine gh_zlt (tgt := 138) gd_Law_isTextWell_128 (by decide) (fun c2216 => ?_) (fun c2216 => ?_)
                  · have hz : True := trivial
                    exact k2213 ⟨c2215, (Or.inl c2216)⟩
                  · have hz : True := trivial
                    refine gh_iload gd_Law_isTextWell_131 1 rfl ?_
                    refine gh_iload gd_Law_isTextWell_133 0 rfl ?_
                    refine gh_jgt (tgt := 142) gd_Law_isTextWell_135 (by decide) (fun c2217 => ?_) (fun c2217 => ?_)
                    · have hz : True := trivial
                      exact k2213 ⟨c2215, (Or.inr c2217)⟩
                    · have hz : True := trivial
                      exact k2214 (fun z => (fun z => z.elim c2216 c2217) z.2)
                · have hz : True := trivial
                  exact k2214 (fun z => c2215 z.1)
              refine gh_zne (tgt := 122) gd_Law_isTextWell_115 (by decide) (fun c2218 => ?_) (fun c2218 => ?_)
              · have hz : True := trivial
                refine gh_iconst gd_Law_isTextWell_118 (gh_r0 rfl) ?_
                refine gh_goto (tgt := 123) gd_Law_isTextWell_119 (by decide) ?_
                exact k2211 _ (if_pos (c := (r2209 = 0)) c2218).symm
              · have hz : True := trivial
                refine gh_iconst gd_Law_isTextWell_122 (gh_r0 rfl) ?_
                exact k2211 _ (if_neg (c := (r2209 = 0)) c2218).symm
            refine gh_zge (tgt := 108) gd_Law_isTextWell_101 (by decide) (fun c2219 => ?_) (fun c2219 => ?_)
            · have hz : True := trivial
              refine gh_iconst gd_Law_isTextWell_104 (gh_r0 rfl) ?_
              refine gh_goto (tgt := 109) gd_Law_isTextWell_105 (by decide) ?_
              exact k2207 _ (if_pos (c := (r2064 < 0)) c2219).symm
            · have hz : True := trivial
              refine gh_iconst gd_Law_isTextWell_108 (gh_r0 rfl) ?_
              exact k2207 _ (if_neg (c := (r2064 < 0)) c2219).symm
          · have h := hB c2206
            refine gh_pick (L2 := [(0, 2, 2), (1, 2, 64), (2, 2, 65), (3, 0, r1996)]) [2, 3, 4, 5] rfl ?_
            exact hJ142 m2203 hF h
        refine gh_jne (tgt := 95) gd_Law_isTextWell_88 (by decide) (fun c2220 => ?_) (fun c2220 => ?_)
        · have hz : True := trivial
          refine gh_iconst gd_Law_isTextWell_91 (gh_r0 rfl) ?_
          refine gh_goto (tgt := 96) gd_Law_isTextWell_92 (by decide) ?_
          exact k2204 _ (if_pos (c := (r2202 = 1)) c2220).symm
        · have hz : True := trivial
          refine gh_iconst gd_Law_isTextWell_95 (gh_r0 rfl) ?_
          exact k2204 _ (if_neg (c := (r2202 = 1)) c2220).symm
      refine gh_zne (tgt := 81) gd_Law_isTextWell_74 (by decide) (fun c2221 => ?_) (fun c2221 => ?_)
      · have hz : True := trivial
        refine gh_iconst gd_Law_isTextWell_77 (gh_r0 rfl) ?_
        refine gh_goto (tgt := 82) gd_Law_isTextWell_78 (by decide) ?_
        exact k2200 _ (if_pos (c := (r2064 = 0)) c2221).symm
      · have hz : True := trivial
        refine gh_iconst gd_Law_isTextWell_81 (gh_r0 rfl) ?_
        exact k2200 _ (if_neg (c := (r2064 = 0)) c2221).symm
theorem s_Law_isTextWell_2_64_65 {E : gh_E} {m : gh_M} {Q : Int → gh_M → Prop} (d : Nat) (hF : gh_F m) (h : w_Law_isTextWell_2_64_65 m Q) : gh_C E gh_yLaw_isTextWell method_9_code 7 (some .boolean) 8 (d + 38) [(2, 2), (2, 64), (2, 65)] m (fun r m1 => gh_F m1 ∧ Q r m1) := by
  refine gh_enter2 (L := [(0, 2, 2), (1, 2, 64), (2, 2, 65)]) (by decide +kernel) gh_rt8 (Nat.le_of_ble_eq_true rfl) rfl rfl ?_
  unfold w_Law_isTextWell_2_64_65 at h
  refine gh_aload_n gd_Law_isTextWell_0 0 rfl (by decide) ?_
  refine gh_iconst gd_Law_isTextWell_1 (gh_r0 rfl) ?_
  refine cv_House_sum (d := d + 37) gd_Law_isTextWell_2 gh_k841 hF (Nat.le_of_ble_eq_true rfl) (gh_C.pw (s_House_sum (d + 35) 4 hF h) (fun r1996 h => ?_))
  refine gh_istore_n (L2 := [(3, 0, r1996), (0, 2, 2), (1, 2, 64), (2, 2, 65)]) gd_Law_isTextWell_5 (by decide) rfl ?_
  refine gh_iconst gd_Law_isTextWell_6 (gh_r0 rfl) ?_
  refine gh_istore (L2 := [(4, 0, 1), (3, 0, r1996), (0, 2, 2), (1, 2, 64), (2, 2, 65)]) gd_Law_isTextWell_7 (by decide) rfl ?_
  refine gh_iconst gd_Law_isTextWell_9 (gh_r0 rfl) ?_
  refine gh_istore (L2 := [(5, 0, 0), (4, 0, 1), (3, 0, r1996), (0, 2, 2), (1, 2, 64), (2, 2, 65)]) gd_Law_isTextWell_10 (by decide) rfl ?_
  refine gh_pick (L2 := [(0, 2, 2), (1, 2, 64), (2, 2, 65), (3, 0, r1996), (4, 0, 1), (5, 0, 0)]) [3, 4, 5, 2, 1, 0] rfl ?_
  exact gh_M2_sound (T := fun v4 v5 m => gh_T E (gh_yLaw_isTextWell.cls, method_9_code, 7, false, 8) (d + 38) 12 [(0, 2, 2), (1, 2, 64), (2, 2, 65), (3, 0, r1996), (4, 0, v4), (5, 0, v5)] [] m (fun r m1 => gh_F m1 ∧ Q r m1)) (fun _ _ m => gh_F m) (fun K12 v4 v5 m hK hF h => b_Law_isTextWell_2_64_65_12 d hK v4 v5 m hF h) 1 0 m hF h
