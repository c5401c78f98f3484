def f_Model_areSigns_4 (v0 : Int) (Q : Int → Prop) (m : gh_M) (K4 : Int → Int → Prop) (v1 : Int) (v2 : Int) : Prop := ((v2 < 4 → gh_i (8 * v2) ∧ ∀ v3 : Int, v3 = gh_iand_f (gh_ishr_f v0 (8 * v2)) 255 → ∀ v1' : Int, v1' = (if (¬ (v1 = 0) ∧ ((v3 = 0) ∨ ((¬ (v3 < 32) ∧ (v3 ≤ 126))))) then (1:Int) else 0) → gh_i (v2 + 1) ∧ K4 v1' (v2 + 1)) ∧ (¬ (v2 < 4) → (v1 = 0 ∨ v1 = 1) ∧ Q v1))
def w_Model_areSigns (v0 : Int) (m : gh_M) (Q : Int → Prop) : Prop := gh_L2 (fun K4 v1 v2 => f_Model_areSigns_4 v0 Q m K4 v1 v2) 1 0
theorem b_Model_areSigns_4 {E : gh_E} {v0 : Int} {Q : Int → Prop} {K4 : Int → Int → Prop} (d : Nat) {m : gh_M} (hK : ∀ (v1 : Int) (v2 : Int), gh_F m → K4 v1 v2 → gh_T E (gh_yModel_areSigns.cls, prog_14_method_3_code, 4, false, 8) (d + 1) 4 [(0, 0, v0), (1, 0, v1), (2, 0, v2)] [] m (fun r m1 => m1 = m ∧ Q r)) (v1 : Int) (v2 : Int) (hF : gh_F m) (h : f_Model_areSigns_4 v0 Q m K4 v1 v2) : gh_T E (gh_yModel_areSigns.cls, prog_14_method_3_code, 4, false, 8) (d + 1) 4 [(0, 0, v0), (1, 0, v1), (2, 0, v2)] [] m (fun r m1 => m1 = m ∧ Q r) := by
  have hK4 := hK
  unfold f_Model_areSigns_4 at h
  refine gh_iload_n gd_Model_areSigns_4 2 rfl ?_
  refine gh_iconst gd_Model_areSigns_5 (gh_r0 rfl) ?_
  obtain ⟨hA, hB⟩ := h
  refine gh_jge (tgt := 51) gd_Model_areSigns_6 (by decide) (fun c2311 => ?_) (fun c2311 => ?_)
  · have h := hA c2311
    refine gh_iload_n gd_Model_areSigns_9 0 rfl ?_
    refine gh_bipush gd_Model_areSigns_10 (by decide) (gh_r0 rfl) ?_
    refine gh_iload_n gd_Model_areSigns_12 2 rfl ?_
    obtain ⟨q2312, h⟩ := h
    refine gh_imul gd_Model_areSigns_13 q2312 ?_
    refine gh_ishr gd_Model_areSigns_14 ?_
    refine gh_sipush gd_Model_areSigns_15 (by decide) (gh_r0 rfl) ?_
    refine gh_iand gd_Model_areSigns_18 ?_
    refine gh_name (fun v3 hn => ?_)
    have h := h v3 hn
    refine gh_istore_n (L2 := [(3, 0, v3), (0, 0, v0), (1, 0, v1), (2, 0, v2)]) gd_Model_areSigns_19 (by decide) rfl ?_
    refine gh_iload_n gd_Model_areSigns_20 2 rfl ?_
    have k2313 : ∀ x2314 : Int, x2314 = (if (¬ (v1 = 0) ∧ ((v3 = 0) ∨ ((¬ (v3 < 32) ∧ (v3 ≤ 126))))) then (1:Int) else 0) → gh_T E (gh_yModel_areSigns.cls, prog_14_method_3_code, 4, false, 8) (d + 1) 44 [(3, 0, v3), (0, 0, v0), (1, 0, v1), (2, 0, v2)] [(0, x2314)] m (fun r m1 => m1 = m ∧ Q r) := by
      rintro _ rfl
      refine gh_name (fun v1' hn => ?_)
      have h := h v1' hn
      refine gh_istore_n (L2 := [(1, 0, v1'), (3, 0, v3), (0, 0, v0), (2, 0, v2)]) gd_Model_areSigns_44 (by decide) rfl ?_
      obtain ⟨q2315, h⟩ := h
      refine gh_iinc (L2 := [(2, 0, v2 + 1), (1, 0, v1'), (3, 0, v3), (0, 0, v0)]) gd_Model_areSigns_45 3 rfl q2315 (by decide) rfl ?_
      refine gh_goto (tgt := 4) gd_Model_areSigns_48 (by decide) ?_
      refine gh_pick (L2 := [(0, 0, v0), (1, 0, v1'), (2, 0, v2 + 1)]) [3, 1, 0] rfl ?_
      exact hK4 v1' (v2 + 1) hF h
    refine gh_zeq (tgt := 43) gd_Model_areSigns_21 (by decide) (fun c2316 => ?_) (fun c2316 => ?_)
    · have hz : True := trivial
      refine gh_iconst gd_Model_areSigns_43 (gh_r0 rfl) ?_
      exact k2313 _ (if_neg (c := (¬ (v1 = 0) ∧ ((v3 = 0) ∨ ((¬ (v3 < 32) ∧ (v3 ≤ 126)))))) (fun z => z.1 c2316)).symm
    · have hz : True := trivial
      refine gh_iload_n gd_Model_areSigns_24 0 rfl ?_
      refine gh_zeq (tgt := 39) gd_Model_areSigns_25 (by decide) (fun c2317 => ?_) (fun c2317 => ?_)
      · have hz : True := trivial
        refine gh_iconst gd_Model_areSigns_39 (gh_r0 rfl) ?_
        refine gh_goto (tgt := 44) gd_Model_areSigns_40 (by decide) ?_
        exact k2313 _ (if_pos (c := (¬ (v1 = 0) ∧ ((v3 = 0) ∨ ((¬ (v3 < 32) ∧ (v3 ≤ 126)))))) ⟨c2316, (Or.inl c2317)⟩).symm
      · have hz : True := trivial
        refine gh_iload_n gd_Model_areSigns_28 0 rfl ?_
        refine gh_bipush gd_Model_areSigns_29 (by decide) (gh_r0 rfl) ?_
        refine gh_bipush gd_Model_areSigns_31 (by decide) (gh_r0 rfl) ?_
        refine cv_Model_in (d := d) gd_Model_areSigns_33 gh_k1631 (Nat.le_of_ble_eq_true rfl) (gh_C.pe (e_Model_in d v3 32 126) ?_)
        refine gh_beq (tgt := 43) gd_Model_areSigns_36 (by decide) (fun c2318 => ?_) (fun c2318 => ?_)
        · have hz : True := trivial
          refine gh_iconst gd_Model_areSigns_39 (gh_r0 rfl) ?_
          refine gh_goto (tgt := 44) gd_Model_areSigns_40 (by decide) ?_
          exact k2313 _ (if_pos (c := (¬ (v1 = 0) ∧ ((v3 = 0) ∨ ((¬ (v3 < 32) ∧ (v3 ≤ 126)))))) ⟨c2316, (Or.inr c2318)⟩).symm
        · have hz : True := trivial
          refine gh_iconst gd_Model_areSigns_43 (gh_r0 rfl) ?_
          exact k2313 _ (if_neg (c := (¬ (v1 = 0) ∧ ((v3 = 0) ∨ ((¬ (v3 < 32) ∧ (v3 ≤ 126)))))) (fun z => (fun z => z.elim c2317 c2318) z.2)).symm
  · have h := hB c2311
    refine gh_iload_n gd_Model_areSigns_51 1 rfl ?_
    obtain ⟨q2319, h⟩ := h
    exact gh_ret8 rfl gd_Model_areSigns_52 q2319 ⟨rfl, h⟩
theorem s_Model_areSigns {E : gh_E} {m : gh_M} {Q : Int → Prop} (d : Nat) (v0 : Int) (hF : gh_F m) (h : w_Model_areSigns v0 m Q) : gh_C E gh_yModel_areSigns prog_14_method_3_code 4 (some .boolean) 8 (d + 1) [(0, v0)] m (fun r m1 => m1 = m ∧ Q r) := by
  refine gh_enter2 (L := [(0, 0, v0)]) (by decide +kernel) gh_rt8 (Nat.le_of_ble_eq_true rfl) rfl rfl ?_
  unfold w_Model_areSigns at h
  refine gh_iconst gd_Model_areSigns_0 (gh_r0 rfl) ?_
  refine gh_istore_n (L2 := [(1, 0, 1), (0, 0, v0)]) gd_Model_areSigns_1 (by decide) rfl ?_
  refine gh_iconst gd_Model_areSigns_2 (gh_r0 rfl) ?_
  refine gh_istore_n (L2 := [(2, 0, 0), (1, 0, 1), (0, 0, v0)]) gd_Model_areSigns_3 (by decide) rfl ?_
  refine gh_pick (L2 := [(0, 0, v0), (1, 0, 1), (2, 0, 0)]) [2, 1, 0] rfl ?_
  exact gh_L2_sound (T := fun v1 v2 => gh_T E (gh_yModel_areSigns.cls, prog_14_method_3_code, 4, false, 8) (d + 1) 4 [(0, 0, v0), (1, 0, v1), (2, 0, v2)] [] m (fun r m1 => m1 = m ∧ Q r)) (fun _ _ => gh_F m) (fun K4 v1 v2 hK hF h => b_Model_areSigns_4 d hK v1 v2 hF h) 1 0 hF h
def f_Model_signsIn_4 (v0 : Int) (Q : Int → Prop) (m : gh_M) (K4 : Int → Int → Prop) (v1 : Int) (v2 : Int) : Prop := ((v2 < 4 → gh_i (8 * v2) ∧ gh_i (v1 + (if (¬ ((gh_iand_f (gh_ishr_f v0 (8 * v2)) 255) = 0)) then (1:Int) else 0)) ∧ ∀ v1' : Int, v1' = v1 + (if (¬ ((gh_iand_f (gh_ishr_f v0 (8 * v2)) 255) = 0)) then (1:Int) else 0) → gh_i (v2 + 1) ∧ K4 v1' (v2 + 1)) ∧ (¬ (v2 < 4) → Q v1))
def w_Model_signsIn (v0 : Int) (m : gh_M) (Q : Int → Prop) : Prop := gh_L2 (fun K4 v1 v2 => f_Model_signsIn_4 v0 Q m K4 v1 v2) 0 0
theorem b_Model_signsIn_4 {E : gh_E} {v0 : Int} {Q : Int → Prop} {K4 : Int → Int → Prop} (d : Nat) {m : gh_M} (hK : ∀ (v1 : Int) (v2 : Int), gh_F m → K4 v1 v2 → gh_T E (gh_yModel_signsIn.cls, prog_14_method_4_code, 3, false, 0) (d + 0) 4 [(0, 0, v0), (1, 0, v1), (2, 0, v2)] [] m (fun r m1 => m1 = m ∧ Q r)) (v1 : Int) (v2 : Int) (hF : gh_F m) (h : f_Model_signsIn_4 v0 Q m K4 v1 v2) : gh_T E (gh_yModel_signsIn.cls, prog_14_method_4_code, 3, false, 0) (d + 0) 4 [(0, 0, v0), (1, 0, v1), (2, 0, v2)] [] m (fun r m1 => m1 = m ∧ Q r) := by
  have hK4 := hK
  unfold f_Model_signsIn_4 at h
  refine gh_iload_n gd_Model_signsIn_4 2 rfl ?_
  refine gh_iconst gd_Model_signsIn_5 (gh_r0 rfl) ?_
  obtain ⟨hA, hB⟩ := h
  refine gh_jge (tgt := 36) gd_Model_signsIn_6 (by decide) (fun c2320 => ?_) (fun c2320 => ?_)
  · have h := hA c2320
    refine gh_iload_n gd_Model_signsIn_9 1 rfl ?_
    refine gh_iload_n gd_Model_signsIn_10 0 rfl ?_
    refine gh_bipush gd_Model_signsIn_11 (by decide) (gh_r0 rfl) ?_
    refine gh_iload_n gd_Model_signsIn_13 2 rfl ?_
    obtain ⟨q2321, h⟩ := h
    refine gh_imul gd_Model_signsIn_14 q2321 ?_
    refine gh_ishr gd_Model_signsIn_15 ?_
    refine gh_sipush gd_Model_signsIn_16 (by decide) (gh_r0 rfl) ?_
    refine gh_iand gd_Model_signsIn_19 ?_
    have k2322 : ∀ x2323 : Int, x2323 = (if (¬ ((gh_iand_f (gh_ishr_f v0 (8 * v2)) 255) = 0)) then (1:Int) else 0) → gh_T E (gh_yModel_signsIn.cls, prog_14_method_4_code, 3, false, 0) (d + 0) 28 [(0, 0, v0), (1, 0, v1), (2, 0, v2)] [(0, x2323), (0, v1)] m (fun r m1 => m1 = m ∧ Q r) := by
      rintro _ rfl
      obtain ⟨q2324, h⟩ := h
      refine gh_iadd gd_Model_signsIn_28 q2324 ?_
      refine gh_name (fun v1' hn => ?_)
      have h := h v1' hn
      refine gh_istore_n (L2 := [(1, 0, v1'), (0, 0, v0), (2, 0, v2)]) gd_Model_signsIn_29 (by decide) rfl ?_
      obtain ⟨q2325, h⟩ := h
      refine gh_iinc (L2 := [(2, 0, v2 + 1), (1, 0, v1'), (0, 0, v0)]) gd_Model_signsIn_30 2 rfl q2325 (by decide) rfl ?_
      refine gh_goto (tgt := 4) gd_Model_signsIn_33 (by decide) ?_
      refine gh_pick (L2 := [(0, 0, v0), (1, 0, v1'), (2, 0, v2 + 1)]) [2, 1, 0] rfl ?_
      exact hK4 v1' (v2 + 1) hF h
    refine gh_zne (tgt := 27) gd_Model_signsIn_20 (by decide) (fun c2326 => ?_) (fun c2326 => ?_)
    · have hz : True := trivial
      refine gh_iconst gd_Model_signsIn_23 (gh_r0 rfl) ?_
      refine gh_goto (tgt := 28) gd_Model_signsIn_24 (by decide) ?_
      exact k2322 _ (if_neg (c := (¬ ((gh_iand_f (gh_ishr_f v0 (8 * v2)) 255) = 0))) (not_not_intro c2326)).symm
    · have hz : True := trivial
      refine gh_iconst gd_Model_signsIn_27 (gh_r0 rfl) ?_
      exact k2322 _ (if_pos (c := (¬ ((gh_iand_f (gh_ishr_f v0 (8 * v2)) 255) = 0))) c2326).symm
  · have h := hB c2320
    refine gh_iload_n gd_Model_signsIn_36 1 rfl ?_
    exact gh_ret0 rfl gd_Model_signsIn_37 ⟨rfl, h⟩
theorem s_Model_signsIn {E : gh_E} {m : gh_M} {Q : Int → Prop} (d : Nat) (v0 : Int) (hF : gh_F m) (h : w_Model_signsIn v0 m Q) : gh_C E gh_yModel_signsIn prog_14_method_4_code 3 (some .int) 0 (d + 0) [(0, v0)] m (fun r m1 => m1 = m ∧ Q r) := by
  refine gh_enter2 (L := [(0, 0, v0)]) (by decide +kernel) gh_rt0 (Nat.le_of_ble_eq_true rfl) rfl rfl ?_
  unfold w_Model_signsIn at h
  refine gh_iconst gd_Model_signsIn_0 (gh_r0 rfl) ?_
  refine gh_istore_n (L2 := [(1, 0, 0), (0, 0, v0)]) gd_Model_signsIn_1 (by decide) rfl ?_
  refine gh_iconst gd_Model_signsIn_2 (gh_r0 rfl) ?_
  refine gh_istore_n (L2 := [(2, 0, 0), (1, 0, 0), (0, 0, v0)]) gd_Model_signsIn_3 (by decide) rfl ?_
  refine gh_pick (L2 := [(0, 0, v0), (1, 0, 0), (2, 0, 0)]) [2, 1, 0] rfl ?_
  exact gh_L2_sound (T := fun v1 v2 => gh_T E (gh_yModel_signsIn.cls, prog_14_method_4_code, 3, false, 0) (d + 0) 4 [(0, 0, v0), (1, 0, v1), (2, 0, v2)] [] m (fun r m1 => m1 = m ∧ Q r)) (fun _ _ => gh_F m) (fun K4 v1 v2 hK hF h => b_Model_signsIn_4 d hK v1 v2 hF h) 0 0 hF h
def f_Model_typeFour_2 (v1 : Int) (Q : Int → gh_M → Prop) (K2 : Int → gh_M → Prop) (v2 : Int) (m : gh_M) : Prop := ((v2 < 4 → gh_i (8 * v2) ∧ ∀ v3 : Int, v3 = gh_iand_f (gh_ishr_f v1 (8 * v2)) 255 → ∃ J42 : gh_M → Prop, (∀ (m : gh_M), J42 m → gh_i (v2 + 1) ∧ K2 (v2 + 1) m) ∧ ((v3 = 0 → J42 m) ∧ (¬ (v3 = 0) → 0 ≤ m 63 1 ∧ (m 63 1) < 240 ∧ gh_i ((m 63 1) + 1) ∧ J42 (gh_u (gh_u m 64 (m 63 1) v3) 63 1 ((m 63 1) + 1))))) ∧ (¬ (v2 < 4) → Q 0 m))
def w_Model_typeFour (v1 : Int) (m : gh_M) (Q : Int → gh_M → Prop) : Prop := gh_M1 (fun K2 v2 m => f_Model_typeFour_2 v1 Q K2 v2 m) 0 m
theorem b_Model_typeFour_2 {E : gh_E} {v1 : Int} {Q : Int → gh_M → Prop} {K2 : Int → gh_M → Prop} (d : Nat) (hK : ∀ (v2 : Int) (m : gh_M), gh_F m → K2 v2 m → gh_T E (gh_yModel_typeFour.cls, prog_14_method_5_code, 4, false, 9) (d + 0) 2 [(0, 2, 63), (1, 0, v1), (2, 0, v2)] [] m (fun r m1 => gh_F m1 ∧ Q r m1)) (v2 : Int) (m : gh_M) (hF : gh_F m) (h : f_Model_typeFour_2 v1 Q K2 v2 m) : gh_T E (gh_yModel_typeFour.cls, prog_14_method_5_code, 4, false, 9) (d + 0) 2 [(0, 2, 63), (1, 0, v1), (2, 0, v2)] [] m (fun r m1 => gh_F m1 ∧ Q r m1) := by
  have hK2 := hK
  unfold f_Model_typeFour_2 at h
  refine gh_iload_n gd_Model_typeFour_2 2 rfl ?_
  refine gh_iconst gd_Model_typeFour_3 (gh_r0 rfl) ?_
  obtain ⟨hA, hB⟩ := h
  refine gh_jge (tgt := 48) gd_Model_typeFour_4 (by decide) (fun c2327 => ?_) (fun c2327 => ?_)
  · have h := hA c2327
    refine gh_iload_n gd_Model_typeFour_7 1 rfl ?_
    refine gh_bipush gd_Model_typeFour_8 (by decide) (gh_r0 rfl) ?_
    refine gh_iload_n gd_Model_typeFour_10 2 rfl ?_
    obtain ⟨q2328, h⟩ := h
    refine gh_imul gd_Model_typeFour_11 q2328 ?_
    refine gh_ishr gd_Model_typeFour_12 ?_
    refine gh_sipush gd_Model_typeFour_13 (by decide) (gh_r0 rfl) ?_
    refine gh_iand gd_Model_typeFour_16 ?_
    refine gh_name (fun v3 hn => ?_)
    have h := h v3 hn
    refine gh_istore_n (L2 := [(3, 0, v3), (0, 2, 63), (1, 0, v1), (2, 0, v2)]) gd_Model_typeFour_17 (by decide) rfl ?_
    refine gh_iload_n gd_Model_typeFour_18 0 rfl ?_
    obtain ⟨J42, hJ42, h⟩ := h
    have hJ42 : ∀ (m : gh_M), gh_F m → J42 m → gh_T E (gh_yModel_typeFour.cls, prog_14_method_5_code, 4, false, 9) (d + 0) 42 [(0, 2, 63), (1, 0, v1), (2, 0, v2)] [] m (fun r m1 => gh_F m1 ∧ Q r m1) := by
      intro m hF hj
      have h := hJ42 m hj
      obtain ⟨q2329, h⟩ := h
      refine gh_iinc (L2 := [(2, 0, v2 + 1), (0, 2, 63), (1, 0, v1)]) gd_Model_typeFour_42 2 rfl q2329 (by decide) rfl ?_
      refine gh_goto (tgt := 2) gd_Model_typeFour_45 (by decide) ?_
      refine gh_pick (L2 := [(0, 2, 63), (1, 0, v1), (2, 0, v2 + 1)]) [1, 2, 0] rfl ?_
      exact hK2 (v2 + 1) m hF h
    obtain ⟨hA, hB⟩ := h
    refine gh_zeq (tgt := 42) gd_Model_typeFour_19 (by decide) (fun c2330 => ?_) (fun c2330 => ?_)
    · have h := hA c2330
      refine gh_pick (L2 := [(0, 2, 63), (1, 0, v1), (2, 0, v2)]) [1, 2, 3] rfl ?_
      exact hJ42 m hF h
    · have h := hB c2330
      refine gh_aload_n gd_Model_typeFour_22 1 rfl (by decide) ?_
      refine gf_63_0 gd_Model_typeFour_23 gh_k1370 hF ?_
      refine gh_aload_n gd_Model_typeFour_26 1 rfl (by decide) ?_
      refine gf_63_1 gd_Model_typeFour_27 gh_k1371 hF rfl ?_
      refine gh_iload_n gd_Model_typeFour_30 0 rfl ?_
      obtain ⟨q2331, h⟩ := h
      obtain ⟨q2332, h⟩ := h
      refine sa_64 gd_Model_typeFour_31 hF q2331 q2332 (fun hF => ?_)
      refine gh_aload_n gd_Model_typeFour_32 1 rfl (by decide) ?_
      refine gh_dup gd_Model_typeFour_33 (by decide) ?_
      refine gf_63_1 gd_Model_typeFour_34 gh_k1371 hF (gh_u_a (by decide)) ?_
      refine gh_iconst gd_Model_typeFour_37 (gh_r0 rfl) ?_
      obtain ⟨q2333, h⟩ := h
      refine gh_iadd gd_Model_typeFour_38 q2333 ?_
      refine pf_63_1 gd_Model_typeFour_39 gh_k1371 hF (fun hF => ?_)
      refine gh_pick (L2 := [(0, 2, 63), (1, 0, v1), (2, 0, v2)]) [1, 2, 3] rfl ?_
      exact hJ42 (gh_u (gh_u m 64 (m 63 1) v3) 63 1 ((m 63 1) + 1)) hF h
  · have h := hB c2327
    exact gh_ret9 rfl gd_Model_typeFour_48 ⟨hF, h⟩
theorem s_Model_typeFour {E : gh_E} {m : gh_M} {Q : Int → gh_M → Prop} (d : Nat) (v1 : Int) (hF : gh_F m) (h : w_Model_typeFour v1 m Q) : gh_C E gh_yModel_typeFour prog_14_method_5_code 4 none 9 (d + 0) [(2, 63), (0, v1)] m (fun r m1 => gh_F m1 ∧ Q r m1) := by
  refine gh_enter2 (L := [(0, 2, 63), (1, 0, v1)]) (by decide +kernel) gh_rt9 (Nat.le_of_ble_eq_true rfl) rfl rfl ?_
  unfold w_Model_typeFour at h
  refine gh_iconst gd_Model_typeFour_0 (gh_r0 rfl) ?_
  refine gh_istore_n (L2 := [(2, 0, 0), (0, 2, 63), (1, 0, v1)]) gd_Model_typeFour_1 (by decide) rfl ?_
  refine gh_pick (L2 := [(0, 2, 63), (1, 0, v1), (2, 0, 0)]) [1, 2, 0] rfl ?_
  exact gh_M1_sound (T := fun v2 m => gh_T E (gh_yModel_typeFour.cls, prog_14_method_5_code, 4, false, 9) (d + 0) 2 [(0, 2, 63), (1, 0, v1), (2, 0, v2)] [] m (fun r m1 => gh_F m1 ∧ Q r m1)) (fun _ m => gh_F m) (fun K2 v2 m hK hF h => b_Model_typeFour_2 d hK v2 m hF h) 0 m hF h
def w_Model_type (v1 : Int) (v2 : Int) (v3 : Int) (v4 : Int) (v5 : Int) (m : gh_M) (Q : Int → gh_M → Prop) : Prop := w_Model_areSigns v1 m (fun r2334 => ((r2334 = 0 → Q (-1002) m) ∧ (¬ (r2334 = 0) → w_Model_areSigns v2 m (fun r2337 => ((r2337 = 0 → Q (-1002) m) ∧ (¬ (r2337 = 0) → w_Model_areSigns v3 m (fun r2340 => ((r2340 = 0 → Q (-1002) m) ∧ (¬ (r2340 = 0) → w_Model_areSigns v4 m (fun r2343 => ((r2343 = 0 → Q (-1002) m) ∧ (¬ (r2343 = 0) → w_Model_areSigns v5 m (fun r2346 => ((r2346 = 0 → Q (-1002) m) ∧ (¬ (r2346 = 0) → w_Model_signsIn v1 m (fun r2349 => gh_i ((m 63 1) + r2349) ∧ w_Model_signsIn v2 m (fun r2352 => gh_i (((m 63 1) + r2349) + r2352) ∧ w_Model_signsIn v3 m (fun r2355 => gh_i ((((m 63 1) + r2349) + r2352) + r2355) ∧ w_Model_signsIn v4 m (fun r2358 => gh_i (((((m 63 1) + r2349) + r2352) + r2355) + r2358) ∧ w_Model_signsIn v5 m (fun r2361 => gh_i ((((((m 63 1) + r2349) + r2352) + r2355) + r2358) + r2361) ∧ ((((((((m 63 1) + r2349) + r2352) + r2355) + r2358) + r2361) ≤ 240 → w_Model_typeFour v1 m (fun _ m2366 => w_Model_typeFour v2 m2366 (fun _ m2368 => w_Model_typeFour v3 m2368 (fun _ m2370 => w_Model_typeFour v4 m2370 (fun _ m2372 => w_Model_typeFour v5 m2372 (fun _ m2374 => Q (m2374 63 1) m2374)))))) ∧ (¬ (((((((m 63 1) + r2349) + r2352) + r2355) + r2358) + r2361) ≤ 240) → Q (-1004) m))))))))))))))))))))))
theorem s_Model_type {E : gh_E} {m : gh_M} {Q : Int → gh_M → Prop} (d : Nat) (v1 : Int) (v2 : Int) (v3 : Int) (v4 : Int) (v5 : Int) (hF : gh_F m) (h : w_Model_type v1 v2 v3 v4 v5 m Q) : gh_C E gh_yModel_type prog_14_method_6_code 6 (some .int) 0 (d + 2) [(2, 63), (0, v1), (0, v2), (0, v3), (0, v4), (0, v5)] m (fun r m1 => gh_F m1 ∧ Q r m1) := by
  refine gh_enter2 (L := [(0, 2, 63), (1, 0, v1), (2, 0, v2), (3, 0, v3), (4, 0, v4), (5, 0, v5)]) (by decide +kernel) gh_rt0 (Nat.le_of_ble_eq_true rfl) rfl rfl ?_
  unfold w_Model_type at h
  refine gh_iload_n gd_Model_type_0 1 rfl ?_
  refine cv_Model_areSigns (d := d + 1) gd_Model_type_1 gh_k1628 (Nat.le_of_ble_eq_true rfl) (gh_C.pw (s_Model_areSigns d v1 hF h) (fun r2334 h => ?_))
  obtain ⟨hA, hB⟩ := h
  refine gh_zeq (tgt := 37) gd_Model_type_4 (by decide) (fun c2336 => ?_) (fun c2336 => ?_)
  · have h := hA c2336
    refine gh_sipush gd_Model_type_37 (by decide) (gh_r0 rfl) ?_
    exact gh_ret0 rfl gd_Model_type_40 ⟨hF, h⟩
  · have h := hB c2336
    refine gh_iload_n gd_Model_type_7 2 rfl ?_
    refine cv_Model_areSigns (d := d + 1) gd_Model_type_8 gh_k1628 (Nat.le_of_ble_eq_true rfl) (gh_C.pw (s_Model_areSigns d v2 hF h) (fun r2337 h => ?_))
    obtain ⟨hA, hB⟩ := h
    refine gh_zeq (tgt := 37) gd_Model_type_11 (by decide) (fun c2339 => ?_) (fun c2339 => ?_)
    · have h := hA c2339
      refine gh_sipush gd_Model_type_37 (by decide) (gh_r0 rfl) ?_
      exact gh_ret0 rfl gd_Model_type_40 ⟨hF, h⟩
    · have h := hB c2339
      refine gh_iload_n gd_Model_type_14 3 rfl ?_
      refine cv_Model_areSigns (d := d + 1) gd_Model_type_15 gh_k1628 (Nat.le_of_ble_eq_true rfl) (gh_C.pw (s_Model_areSigns d v3 hF h) (fun r2340 h => ?_))
      obtain ⟨hA, hB⟩ := h
      refine gh_zeq (tgt := 37) gd_Model_type_18 (by decide) (fun c2342 => ?_) (fun c2342 => ?_)
      · have h := hA c2342
        refine gh_sipush gd_Model_type_37 (by decide) (gh_r0 rfl) ?_
        exact gh_ret0 rfl gd_Model_type_40 ⟨hF, h⟩
      · have h := hB c2342
        refine gh_iload gd_Model_type_21 4 rfl ?_
        refine cv_Model_areSigns (d := d + 1) gd_Model_type_23 gh_k1628 (Nat.le_of_ble_eq_true rfl) (gh_C.pw (s_Model_areSigns d v4 hF h) (fun r2343 h => ?_))
        obtain ⟨hA, hB⟩ := h
        refine gh_zeq (tgt := 37) gd_Model_type_26 (by decide) (fun c2345 => ?_) (fun c2345 => ?_)
        · have h := hA c2345
          refine gh_sipush gd_Model_type_37 (by decide) (gh_r0 rfl) ?_
          exact gh_ret0 rfl gd_Model_type_40 ⟨hF, h⟩
        · have h := hB c2345
          refine gh_iload gd_Model_type_29 5 rfl ?_
          refine cv_Model_areSigns (d := d + 1) gd_Model_type_31 gh_k1628 (Nat.le_of_ble_eq_true rfl) (gh_C.pw (s_Model_areSigns d v5 hF h) (fun r2346 h => ?_))
          obtain ⟨hA, hB⟩ := h
          refine gh_zne (tgt := 41) gd_Model_type_34 (by decide) (fun c2348 => ?_) (fun c2348 => ?_)
          · have h := hA c2348
            refine gh_sipush gd_Model_type_37 (by decide) (gh_r0 rfl) ?_
            exact gh_ret0 rfl gd_Model_type_40 ⟨hF, h⟩
          · have h := hB c2348
            refine gh_aload_n gd_Model_type_41 0 rfl (by decide) ?_
            refine gf_63_1 gd_Model_type_42 gh_k1371 hF rfl ?_
            refine gh_iload_n gd_Model_type_45 1 rfl ?_
            refine cv_Model_signsIn (d := d + 1) gd_Model_type_46 gh_k1634 (Nat.le_of_ble_eq_true rfl) (gh_C.pw (s_Model_signsIn (d + 1) v1 hF h) (fun r2349 h => ?_))
            obtain ⟨q2351, h⟩ := h
            refine gh_iadd gd_Model_type_49 q2351 ?_
            refine gh_iload_n gd_Model_type_50 2 rfl ?_
            refine cv_Model_signsIn (d := d + 1) gd_Model_type_51 gh_k1634 (Nat.le_of_ble_eq_true rfl) (gh_C.pw (s_Model_signsIn (d + 1) v2 hF h) (fun r2352 h => ?_))
            obtain ⟨q2354, h⟩ := h
            refine gh_iadd gd_Model_type_54 q2354 ?_
            refine gh_iload_n gd_Model_type_55 3 rfl ?_
            refine cv_Model_signsIn (d := d + 1) gd_Model_type_56 gh_k1634 (Nat.le_of_ble_eq_true rfl) (gh_C.pw (s_Model_signsIn (d + 1) v3 hF h) (fun r2355 h => ?_))
            obtain ⟨q2357, h⟩ := h
            refine gh_iadd gd_Model_type_59 q2357 ?_
            refine gh_iload gd_Model_type_60 4 rfl ?_
            refine cv_Model_signsIn (d := d + 1) gd_Model_type_62 gh_k1634 (Nat.le_of_ble_eq_true rfl) (gh_C.pw (s_Model_signsIn (d + 1) v4 hF h) (fun r2358 h => ?_))
            obtain ⟨q2360, h⟩ := h
            refine gh_iadd gd_Model_type_65 q2360 ?_
            refine gh_iload gd_Model_type_66 5 rfl ?_
            refine cv_Model_signsIn (d := d + 1) gd_Model_type_68 gh_k1634 (Nat.le_of_ble_eq_true rfl) (gh_C.pw (s_Model_signsIn (d + 1) v5 hF h) (fun r2361 h => ?_))
            obtain ⟨q2363, h⟩ := h
            refine gh_iadd gd_Model_type_71 q2363 ?_
            refine gh_sipush gd_Model_type_72 (by decide) (gh_r0 rfl) ?_
            obtain ⟨hA, hB⟩ := h
            refine gh_jle (tgt := 82) gd_Model_type_75 (by decide) (fun c2364 => ?_) (fun c2364 => ?_)
            · have h := hA c2364
              refine gh_aload_n gd_Model_type_82 0 rfl (by decide) ?_
              refine gh_iload_n gd_Model_type_83 1 rfl ?_
              refine cv_Model_typeFour (d := d + 1) gd_Model_type_84 gh_k1637 hF (Nat.le_of_ble_eq_true rfl) (gh_C.mono (s_Model_typeFour (d + 1) v1 hF h) (fun r2365 m2366 hq => ?_))
              obtain ⟨hF, h⟩ := hq
              refine gh_aload_n gd_Model_type_87 0 rfl (by decide) ?_
              refine gh_iload_n gd_Model_type_88 2 rfl ?_
              refine cv_Model_typeFour (d := d + 1) gd_Model_type_89 gh_k1637 hF (Nat.le_of_ble_eq_true rfl) (gh_C.mono (s_Model_typeFour (d + 1) v2 hF h) (fun r2367 m2368 hq => ?_))
              obtain ⟨hF, h⟩ := hq
              refine gh_aload_n gd_Model_type_92 0 rfl (by decide) ?_
              refine gh_iload_n gd_Model_type_93 3 rfl ?_
              refine cv_Model_typeFour (d := d + 1) gd_Model_type_94 gh_k1637 hF (Nat.le_of_ble_eq_true rfl) (gh_C.mono (s_Model_typeFour (d + 1) v3 hF h) (fun r2369 m2370 hq => ?_))
              obtain ⟨hF, h⟩ := hq
              refine gh_aload_n gd_Model_type_97 0 rfl (by decide) ?_
              refine gh_iload gd_Model_type_98 4 rfl ?_
              refine cv_Model_typeFour (d := d + 1) gd_Model_type_100 gh_k1637 hF (Nat.le_of_ble_eq_true rfl) (gh_C.mono (s_Model_typeFour (d + 1) v4 hF h) (fun r2371 m2372 hq => ?_))
              obtain ⟨hF, h⟩ := hq
              refine gh_aload_n gd_Model_type_103 0 rfl (by decide) ?_
              refine gh_iload gd_Model_type_104 5 rfl ?_
              refine cv_Model_typeFour (d := d + 1) gd_Model_type_106 gh_k1637 hF (Nat.le_of_ble_eq_true rfl) (gh_C.mono (s_Model_typeFour (d + 1) v5 hF h) (fun r2373 m2374 hq => ?_))
              obtain ⟨hF, h⟩ := hq
              refine gh_aload_n gd_Model_type_109 0 rfl (by decide) ?_
              refine gf_63_1 gd_Model_type_110 gh_k1371 hF rfl ?_
              exact gh_ret0 rfl gd_Model_type_113 ⟨hF, h⟩
            · have h := hB c2364
              refine gh_sipush gd_Model_type_78 (by decide) (gh_r0 rfl) ?_
              exact gh_ret0 rfl gd_Model_type_81 ⟨hF, h⟩
def w_Model_wipe (m : gh_M) (Q : Int → gh_M → Prop) : Prop := ∀ v1 : Int, v1 = m 63 1 → Q v1 (gh_u m 63 1 0)
theorem s_Model_wipe {E : gh_E} {m : gh_M} {Q : Int → gh_M → Prop} (d : Nat) (hF : gh_F m) (h : w_Model_wipe m Q) : gh_C E gh_yModel_wipe prog_14_method_7_code 2 (some .int) 0 (d + 0) [(2, 63)] m (fun r m1 => gh_F m1 ∧ Q r m1) := by
  refine gh_enter2 (L := [(0, 2, 63)]) (by decide +kernel) gh_rt0 (Nat.le_of_ble_eq_true rfl) rfl rfl ?_
  unfold w_Model_wipe at h
  refine gh_aload_n gd_Model_wipe_0 0 rfl (by decide) ?_
  refine gf_63_1 gd_Model_wipe_1 gh_k1371 hF rfl ?_
  refine gh_name (fun v1 hn => ?_)
  have h := h v1 hn
  refine gh_istore_n (L2 := [(1, 0, v1), (0, 2, 63)]) gd_Model_wipe_4 (by decide) rfl ?_
  refine gh_aload_n gd_Model_wipe_5 1 rfl (by decide) ?_
  refine gh_iconst gd_Model_wipe_6 (gh_r0 rfl) ?_
  refine pf_63_1 gd_Model_wipe_7 gh_k1371 hF (fun hF => ?_)
  refine gh_iload_n gd_Model_wipe_10 0 rfl ?_
  exact gh_ret0 rfl gd_Model_wipe_11 ⟨hF, h⟩
def f_Model_nameLength_2 (v1 : Int) (Q : Int → Prop) (m : gh_M) (K2 : Int → Prop) (v2 : Int) : Prop := gh_i (v1 + v2) ∧ k_Model_signAt (v1 + v2) m ∧ (((¬ ((x_Model_signAt (v1 + v2) m) < 48) ∧ ((x_Model_signAt (v1 + v2) m) ≤ 57)) → gh_i (v2 + 1) ∧ K2 (v2 + 1)) ∧ (¬ ((¬ ((x_Model_signAt (v1 + v2) m) < 48) ∧ ((x_Model_signAt (v1 + v2) m) ≤ 57))) → Q v2))
def w_Model_nameLength (v1 : Int) (m : gh_M) (Q : Int → Prop) : Prop := gh_L1 (fun K2 v2 => f_Model_nameLength_2 v1 Q m K2 v2) 1
theorem b_Model_nameLength_2 {E : gh_E} {v1 : Int} {Q : Int → Prop} {K2 : Int → Prop} (d : Nat) {m : gh_M} (hK : ∀ (v2 : Int), gh_F m → K2 v2 → gh_T E (gh_yModel_nameLength.cls, prog_14_method_11_code, 3, false, 0) (d + 2) 2 [(0, 2, 63), (1, 0, v1), (2, 0, v2)] [] m (fun r m1 => m1 = m ∧ Q r)) (v2 : Int) (hF : gh_F m) (h : f_Model_nameLength_2 v1 Q m K2 v2) : gh_T E (gh_yModel_nameLength.cls, prog_14_method_11_code, 3, false, 0) (d + 2) 2 [(0, 2, 63), (1, 0, v1), (2, 0, v2)] [] m (fun r m1 => m1 = m ∧ Q r) := by
  have hK2 := hK
  unfold f_Model_nameLength_2 at h
  refine gh_aload_n gd_Model_nameLength_2 0 rfl (by decide) ?_
  refine gh_iload_n gd_Model_nameLength_3 1 rfl ?_
  refine gh_iload_n gd_Model_nameLength_4 2 rfl ?_
  obtain ⟨q2375, h⟩ := h
  refine gh_iadd gd_Model_nameLength_5 q2375 ?_
  obtain ⟨q2376, h⟩ := h
  refine cv_Model_signAt (d := d + 1) gd_Model_nameLength_6 gh_k1661 hF (Nat.le_of_ble_eq_true rfl) (gh_C.pe (e_Model_signAt d (v1 + v2) hF q2376) ?_)
  refine gh_bipush gd_Model_nameLength_9 (by decide) (gh_r0 rfl) ?_
  refine gh_bipush gd_Model_nameLength_11 (by decide) (gh_r0 rfl) ?_
  refine cv_Model_in (d := d + 1) gd_Model_nameLength_13 gh_k1631 (Nat.le_of_ble_eq_true rfl) (gh_C.pe (e_Model_in (d + 1) (x_Model_signAt (v1 + v2) m) 48 57) ?_)
  obtain ⟨hA, hB⟩ := h
  refine gh_beq (tgt := 25) gd_Model_nameLength_16 (by decide) (fun c2377 => ?_) (fun c2377 => ?_)
  · have h := hA c2377
    obtain ⟨q2378, h⟩ := h
    refine gh_iinc (L2 := [(2, 0, v2 + 1), (0, 2, 63), (1, 0, v1)]) gd_Model_nameLength_19 2 rfl q2378 (by decide) rfl ?_
    refine gh_goto (tgt := 2) gd_Model_nameLength_22 (by decide) ?_
    refine gh_pick (L2 := [(0, 2, 63), (1, 0, v1), (2, 0, v2 + 1)]) [1, 2, 0] rfl ?_
    exact hK2 (v2 + 1) hF h
  · have h := hB c2377
    refine gh_iload_n gd_Model_nameLength_25 2 rfl ?_
    exact gh_ret0 rfl gd_Model_nameLength_26 ⟨rfl, h⟩
theorem s_Model_nameLength {E : gh_E} {m : gh_M} {Q : Int → Prop} (d : Nat) (v1 : Int) (hF : gh_F m) (h : w_Model_nameLength v1 m Q) : gh_C E gh_yModel_nameLength prog_14_method_11_code 3 (some .int) 0 (d + 2) [(2, 63), (0, v1)] m (fun r m1 => m1 = m ∧ Q r) := by
  refine gh_enter2 (L := [(0, 2, 63), (1, 0, v1)]) (by decide +kernel) gh_rt0 (Nat.le_of_ble_eq_true rfl) rfl rfl ?_
  unfold w_Model_nameLength at h
  refine gh_iconst gd_Model_nameLength_0 (gh_r0 rfl) ?_
  refine gh_istore_n (L2 := [(2, 0, 1), (0, 2, 63), (1, 0, v1)]) gd_Model_nameLength_1 (by decide) rfl ?_
  refine gh_pick (L2 := [(0, 2, 63), (1, 0, v1), (2, 0, 1)]) [1, 2, 0] rfl ?_
  exact gh_L1_sound (T := fun v2 => gh_T E (gh_yModel_nameLength.cls, prog_14_method_11_code, 3, false, 0) (d + 2) 2 [(0, 2, 63), (1, 0, v1), (2, 0, v2)] [] m (fun r m1 => m1 = m ∧ Q r)) (fun _ => gh_F m) (fun K2 v2 hK hF h => b_Model_nameLength_2 d hK v2 hF h) 1 hF h
def f_Model_smallsFrom_2 (v1 : Int) (Q : Int → Prop) (m : gh_M) (K2 : Int → Prop) (v2 : Int) : Prop := gh_i (v1 + v2) ∧ k_Model_signAt (v1 + v2) m ∧ ((((if (¬ ((x_Model_signAt (v1 + v2) m) < 97) ∧ ((x_Model_signAt (v1 + v2) m) ≤ 122)) then (1:Int) else 0)) = 0 → Q v2) ∧ (¬ (((if (¬ ((x_Model_signAt (v1 + v2) m) < 97) ∧ ((x_Model_signAt (v1 + v2) m) ≤ 122)) then (1:Int) else 0)) = 0) → gh_i (v2 + 1) ∧ K2 (v2 + 1)))
def w_Model_smallsFrom (v1 : Int) (m : gh_M) (Q : Int → Prop) : Prop := gh_L1 (fun K2 v2 => f_Model_smallsFrom_2 v1 Q m K2 v2) 0
theorem b_Model_smallsFrom_2 {E : gh_E} {v1 : Int} {Q : Int → Prop} {K2 : Int → Prop} (d : Nat) {m : gh_M} (hK : ∀ (v2 : Int), gh_F m → K2 v2 → gh_T E (gh_yModel_smallsFrom.cls, prog_14_method_12_code, 3, false, 0) (d + 2) 2 [(0, 2, 63), (1, 0, v1), (2, 0, v2)] [] m (fun r m1 => m1 = m ∧ Q r)) (v2 : Int) (hF : gh_F m) (h : f_Model_smallsFrom_2 v1 Q m K2 v2) : gh_T E (gh_yModel_smallsFrom.cls, prog_14_method_12_code, 3, false, 0) (d + 2) 2 [(0, 2, 63), (1, 0, v1), (2, 0, v2)] [] m (fun r m1 => m1 = m ∧ Q r) := by
  have hK2 := hK
  unfold f_Model_smallsFrom_2 at h
  refine gh_aload_n gd_Model_smallsFrom_2 0 rfl (by decide) ?_
  refine gh_iload_n gd_Model_smallsFrom_3 1 rfl ?_
  refine gh_iload_n gd_Model_smallsFrom_4 2 rfl ?_
  obtain ⟨q2379, h⟩ := h
  refine gh_iadd gd_Model_smallsFrom_5 q2379 ?_
  obtain ⟨q2380, h⟩ := h
  refine cv_Model_signAt (d := d + 1) gd_Model_smallsFrom_6 gh_k1661 hF (Nat.le_of_ble_eq_true rfl) (gh_C.pe (e_Model_signAt d (v1 + v2) hF q2380) ?_)
  refine cv_Model_isSmall (d := d + 1) gd_Model_smallsFrom_9 gh_k1673 (Nat.le_of_ble_eq_true rfl) (gh_C.pe (e_Model_isSmall d (x_Model_signAt (v1 + v2) m)) ?_)
  obtain ⟨hA, hB⟩ := h
  refine gh_zeq (tgt := 21) gd_Model_smallsFrom_12 (by decide) (fun c2381 => ?_) (fun c2381 => ?_)
  · have h := hA c2381
    refine gh_iload_n gd_Model_smallsFrom_21 2 rfl ?_
    exact gh_ret0 rfl gd_Model_smallsFrom_22 ⟨rfl, h⟩
  · have h := hB c2381
    obtain ⟨q2382, h⟩ := h
    refine gh_iinc (L2 := [(2, 0, v2 + 1), (0, 2, 63), (1, 0, v1)]) gd_Model_smallsFrom_15 2 rfl q2382 (by decide) rfl ?_
    refine gh_goto (tgt := 2) gd_Model_smallsFrom_18 (by decide) ?_
    refine gh_pick (L2 := [(0, 2, 63), (1, 0, v1), (2, 0, v2 + 1)]) [1, 2, 0] rfl ?_
    exact hK2 (v2 + 1) hF h
theorem s_Model_smallsFrom {E : gh_E} {m : gh_M} {Q : Int → Prop} (d : Nat) (v1 : Int) (hF : gh_F m) (h : w_Model_smallsFrom v1 m Q) : gh_C E gh_yModel_smallsFrom prog_14_method_12_code 3 (some .int) 0 (d + 2) [(2, 63), (0, v1)] m (fun r m1 => m1 = m ∧ Q r) := by
  refine gh_enter2 (L := [(0, 2, 63), (1, 0, v1)]) (by decide +kernel) gh_rt0 (Nat.le_of_ble_eq_true rfl) rfl rfl ?_
  unfold w_Model_smallsFrom at h
  refine gh_iconst gd_Model_smallsFrom_0 (gh_r0 rfl) ?_
  refine gh_istore_n (L2 := [(2, 0, 0), (0, 2, 63), (1, 0, v1)]) gd_Model_smallsFrom_1 (by decide) rfl ?_
  refine gh_pick (L2 := [(0, 2, 63), (1, 0, v1), (2, 0, 0)]) [1, 2, 0] rfl ?_
  exact gh_L1_sound (T := fun v2 => gh_T E (gh_yModel_smallsFrom.cls, prog_14_method_12_code, 3, false, 0) (d + 2) 2 [(0, 2, 63), (1, 0, v1), (2, 0, v2)] [] m (fun r m1 => m1 = m ∧ Q r)) (fun _ => gh_F m) (fun K2 v2 hK hF h => b_Model_smallsFrom_2 d hK v2 hF h) 0 hF h
def f_Model_next_0 (Q : Int → gh_M → Prop) (K0 : gh_M → Prop) (m : gh_M) : Prop := k_Model_signAt (m 63 4) m ∧ (((x_Model_signAt (m 63 4) m) = 32 → gh_i ((m 63 4) + 1) ∧ K0 (gh_u m 63 4 ((m 63 4) + 1))) ∧ (¬ ((x_Model_signAt (m 63 4) m) = 32) → k_Model_signAt (m 63 4) (gh_u m 63 6 (m 63 4)) ∧ ∀ v1 : Int, v1 = x_Model_signAt (m 63 4) (gh_u m 63 6 (m 63 4)) → (((m 63 4) = (m 63 1) → Q 0 (gh_u (gh_u (gh_u (gh_u m 63 6 (m 63 4)) 63 7 v1) 63 5 0) 63 5 1)) ∧ (¬ ((m 63 4) = (m 63 1)) → (((¬ (v1 < 65) ∧ (v1 ≤ 90)) → w_Model_nameLength (m 63 4) (gh_u (gh_u (gh_u m 63 6 (m 63 4)) 63 7 v1) 63 5 0) (fun r2389 => gh_i ((m 63 4) + r2389) ∧ Q 0 (gh_u (gh_u (gh_u (gh_u (gh_u m 63 6 (m 63 4)) 63 7 v1) 63 5 0) 63 5 (if r2389 ≤ 3 then 2 else 0)) 63 4 ((m 63 4) + r2389)))) ∧ (¬ ((¬ (v1 < 65) ∧ (v1 ≤ 90))) → ((v1 = 39 → gh_i ((m 63 4) + 1) ∧ w_Model_smallsFrom ((m 63 4) + 1) (gh_u (gh_u (gh_u m 63 6 (m 63 4)) 63 7 v1) 63 5 0) (fun r2397 => ((((¬ (r2397 < 1) ∧ (r2397 ≤ 3))) → (gh_i ((m 63 4) + 1) ∧ gh_i (((m 63 4) + 1) + r2397) ∧ k_Model_signAt (((m 63 4) + 1) + r2397) (gh_u (gh_u (gh_u m 63 6 (m 63 4)) 63 7 v1) 63 5 0)))) ∧ gh_i (r2397 + 2) ∧ gh_i ((m 63 4) + (r2397 + 2)) ∧ Q 0 (gh_u (gh_u (gh_u (gh_u (gh_u m 63 6 (m 63 4)) 63 7 v1) 63 5 0) 63 5 (if (¬ (r2397 < 1) ∧ (r2397 ≤ 3)) then (if (x_Model_signAt (((m 63 4) + 1) + r2397) (gh_u (gh_u (gh_u m 63 6 (m 63 4)) 63 7 v1) 63 5 0)) = 39 then 3 else 0) else 0)) 63 4 ((m 63 4) + (r2397 + 2))))) ∧ (¬ (v1 = 39) → ((v1 = 91 → gh_i ((m 63 4) + 1) ∧ k_Model_signAt ((m 63 4) + 1) (gh_u (gh_u (gh_u m 63 6 (m 63 4)) 63 7 v1) 63 5 0) ∧ ((¬ (((if (¬ ((x_Model_signAt ((m 63 4) + 1) (gh_u (gh_u (gh_u m 63 6 (m 63 4)) 63 7 v1) 63 5 0)) < 97) ∧ ((x_Model_signAt ((m 63 4) + 1) (gh_u (gh_u (gh_u m 63 6 (m 63 4)) 63 7 v1) 63 5 0)) ≤ 122)) then (1:Int) else 0)) = 0) → (gh_i ((m 63 4) + 2) ∧ k_Model_signAt ((m 63 4) + 2) (gh_u (gh_u (gh_u m 63 6 (m 63 4)) 63 7 v1) 63 5 0) ∧ (((x_Model_signAt ((m 63 4) + 2) (gh_u (gh_u (gh_u m 63 6 (m 63 4)) 63 7 v1) 63 5 0)) = 45) → (gh_i ((m 63 4) + 3) ∧ k_Model_signAt ((m 63 4) + 3) (gh_u (gh_u (gh_u m 63 6 (m 63 4)) 63 7 v1) 63 5 0) ∧ (¬ (((if (¬ ((x_Model_signAt ((m 63 4) + 3) (gh_u (gh_u (gh_u m 63 6 (m 63 4)) 63 7 v1) 63 5 0)) < 97) ∧ ((x_Model_signAt ((m 63 4) + 3) (gh_u (gh_u (gh_u m 63 6 (m 63 4)) 63 7 v1) 63 5 0)) ≤ 122)) then (1:Int) else 0)) = 0) → (gh_i ((m 63 4) + 3) ∧ k_Model_signAt ((m 63 4) + 3) (gh_u (gh_u (gh_u m 63 6 (m 63 4)) 63 7 v1) 63 5 0) ∧ gh_i ((m 63 4) + 1) ∧ k_Model_signAt ((m 63 4) + 1) (gh_u (gh_u (gh_u m 63 6 (m 63 4)) 63 7 v1) 63 5 0) ∧ (¬ ((x_Model_signAt ((m 63 4) + 3) (gh_u (gh_u (gh_u m 63 6 (m 63 4)) 63 7 v1) 63 5 0)) < (x_Model_signAt ((m 63 4) + 1) (gh_u (gh_u (gh_u m 63 6 (m 63 4)) 63 7 v1) 63 5 0))) → (gh_i ((m 63 4) + 4) ∧ k_Model_signAt ((m 63 4) + 4) (gh_u (gh_u (gh_u m 63 6 (m 63 4)) 63 7 v1) 63 5 0)))))))))) ∧ ∀ v2 : Int, v2 = (if (¬ (((if (¬ ((x_Model_signAt ((m 63 4) + 1) (gh_u (gh_u (gh_u m 63 6 (m 63 4)) 63 7 v1) 63 5 0)) < 97) ∧ ((x_Model_signAt ((m 63 4) + 1) (gh_u (gh_u (gh_u m 63 6 (m 63 4)) 63 7 v1) 63 5 0)) ≤ 122)) then (1:Int) else 0)) = 0) ∧ (((x_Model_signAt ((m 63 4) + 2) (gh_u (gh_u (gh_u m 63 6 (m 63 4)) 63 7 v1) 63 5 0)) = 45) ∧ (¬ (((if (¬ ((x_Model_signAt ((m 63 4) + 3) (gh_u (gh_u (gh_u m 63 6 (m 63 4)) 63 7 v1) 63 5 0)) < 97) ∧ ((x_Model_signAt ((m 63 4) + 3) (gh_u (gh_u (gh_u m 63 6 (m 63 4)) 63 7 v1) 63 5 0)) ≤ 122)) then (1:Int) else 0)) = 0) ∧ (¬ ((x_Model_signAt ((m 63 4) + 3) (gh_u (gh_u (gh_u m 63 6 (m 63 4)) 63 7 v1) 63 5 0)) < (x_Model_signAt ((m 63 4) + 1) (gh_u (gh_u (gh_u m 63 6 (m 63 4)) 63 7 v1) 63 5 0))) ∧ ((x_Model_signAt ((m 63 4) + 4) (gh_u (gh_u (gh_u m 63 6 (m 63 4)) 63 7 v1) 63 5 0)) = 93))))) then (1:Int) else 0) → gh_i ((m 63 4) + 5) ∧ Q 0 (gh_u (gh_u (gh_u (gh_u (gh_u m 63 6 (m 63 4)) 63 7 v1) 63 5 0) 63 5 (if v2 = 0 then 0 else 4)) 63 4 ((m 63 4) + 5))) ∧ (¬ (v1 = 91) → ∀ v2 : Int, v2 = (if ((v1 = 58) ∨ ((v1 = 59) ∨ ((v1 = 124) ∨ ((v1 = 40) ∨ ((v1 = 41) ∨ ((v1 = 63) ∨ ((v1 = 42) ∨ (v1 = 43)))))))) then (1:Int) else 0) → gh_i ((m 63 4) + 1) ∧ Q 0 (gh_u (gh_u (gh_u (gh_u (gh_u m 63 6 (m 63 4)) 63 7 v1) 63 5 0) 63 5 (if v2 = 0 then 0 else 5)) 63 4 ((m 63 4) + 1))))))))))))
def w_Model_next (m : gh_M) (Q : Int → gh_M → Prop) : Prop := gh_M0 (fun K0 m => f_Model_next_0 Q K0 m) m
theorem b_Model_next_0 {E : gh_E} {Q : Int → gh_M → Prop} {K0 : gh_M → Prop} (d : Nat) (hK : ∀ (m : gh_M), gh_F m → K0 m → gh_T E (gh_yModel_next.cls, prog_14_method_13_code, 3, false, 9) (d + 3) 0 [(0, 2, 63)] [] m (fun r m1 => gh_F m1 ∧ Q r m1)) (m : gh_M) (hF : gh_F m) (h : f_Model_next_0 Q K0 m) : gh_T E (gh_yModel_next.cls, prog_14_method_13_code, 3, false, 9) (d + 3) 0 [(0, 2, 63)] [] m (fun r m1 => gh_F m1 ∧ Q r m1) := by
  have hK0 := hK
  unfold f_Model_next_0 at h
  refine gh_aload_n gd_Model_next_0 0 rfl (by decide) ?_
  refine gh_aload_n gd_Model_next_1 0 rfl (by decide) ?_
  refine gf_63_4 gd_Model_next_2 gh_k1374 hF rfl ?_
  obtain ⟨q2383, h⟩ := h
  refine cv_Model_signAt (d := d + 2) gd_Model_next_5 gh_k1661 hF (Nat.le_of_ble_eq_true rfl) (gh_C.pe (e_Model_signAt (d + 1) (m 63 4) hF q2383) ?_)
  refine gh_bipush gd_Model_next_8 (by decide) (gh_r0 rfl) ?_
  obtain ⟨hA, hB⟩ := h
  refine gh_jne (tgt := 26) gd_Model_next_10 (by decide) (fun c2384 => ?_) (fun c2384 => ?_)
  · have h := hA c2384
    refine gh_aload_n gd_Model_next_13 0 rfl (by decide) ?_
    refine gh_dup gd_Model_next_14 (by decide) ?_
    refine gf_63_4 gd_Model_next_15 gh_k1374 hF rfl ?_
    refine gh_iconst gd_Model_next_18 (gh_r0 rfl) ?_
    obtain ⟨q2385, h⟩ := h
    refine gh_iadd gd_Model_next_19 q2385 ?_
    refine pf_63_4 gd_Model_next_20 gh_k1374 hF (fun hF => ?_)
    refine gh_goto (tgt := 0) gd_Model_next_23 (by decide) ?_
    exact hK0 (gh_u m 63 4 ((m 63 4) + 1)) hF h
  · have h := hB c2384
    refine gh_aload_n gd_Model_next_26 0 rfl (by decide) ?_
    refine gh_aload_n gd_Model_next_27 0 rfl (by decide) ?_
    refine gf_63_4 gd_Model_next_28 gh_k1374 hF rfl ?_
    refine pf_63_6 gd_Model_next_31 gh_k1376 hF (fun hF => ?_)
    refine gh_aload_n gd_Model_next_34 0 rfl (by decide) ?_
    refine gh_aload_n gd_Model_next_35 0 rfl (by decide) ?_
    refine gf_63_4 gd_Model_next_36 gh_k1374 hF (gh_u_i (by decide)) ?_
    obtain ⟨q2386, h⟩ := h
    refine cv_Model_signAt (d := d + 2) gd_Model_next_39 gh_k1661 hF (Nat.le_of_ble_eq_true rfl) (gh_C.pe (e_Model_signAt (d + 1) (m 63 4) hF q2386) ?_)
    refine gh_name (fun v1 hn => ?_)
    have h := h v1 hn
    refine gh_istore_n (L2 := [(1, 0, v1), (0, 2, 63)]) gd_Model_next_42 (by decide) rfl ?_
    refine gh_aload_n gd_Model_next_43 1 rfl (by decide) ?_
    refine gh_iload_n gd_Model_next_44 0 rfl ?_
    refine pf_63_7 gd_Model_next_45 gh_k1377 hF (fun hF => ?_)
    refine gh_aload_n gd_Model_next_48 1 rfl (by decide) ?_
    refine gh_iconst gd_Model_next_49 (gh_r0 rfl) ?_
    refine pf_63_5 gd_Model_next_50 gh_k1375 hF (fun hF => ?_)
    refine gh_aload_n gd_Model_next_53 1 rfl (by decide) ?_
    refine gf_63_4 gd_Model_next_54 gh_k1374 hF ((gh_u_i (by decide)).trans ((gh_u_i (by decide)).trans (gh_u_i (by decide)))) ?_
    refine gh_aload_n gd_Model_next_57 1 rfl (by decide) ?_
    refine gf_63_1 gd_Model_next_58 gh_k1371 hF ((gh_u_i (by decide)).trans ((gh_u_i (by decide)).trans (gh_u_i (by decide)))) ?_
    obtain ⟨hA, hB⟩ := h
    refine gh_jne (tgt := 72) gd_Model_next_61 (by decide) (fun c2387 => ?_) (fun c2387 => ?_)
    · have h := hA c2387
      refine gh_aload_n gd_Model_next_64 1 rfl (by decide) ?_
      refine gh_iconst gd_Model_next_65 (gh_r0 rfl) ?_
      refine pf_63_5 gd_Model_next_66 gh_k1375 hF (fun hF => ?_)
      refine gh_goto (tgt := 386) gd_Model_next_69 (by decide) ?_
      exact gh_ret9 rfl gd_Model_next_386 ⟨hF, h⟩
    · have h := hB c2387
      refine gh_iload_n gd_Model_next_72 0 rfl ?_
      refine gh_bipush gd_Model_next_73 (by decide) (gh_r0 rfl) ?_
      refine gh_bipush gd_Model_next_75 (by decide) (gh_r0 rfl) ?_
      refine cv_Model_in (d := d + 2) gd_Model_next_77 gh_k1631 (Nat.le_of_ble_eq_true rfl) (gh_C.pe (e_Model_in (d + 2) v1 65 90) ?_)
      obtain ⟨hA, hB⟩ := h
      refine gh_beq (tgt := 119) gd_Model_next_80 (by decide) (fun c2388 => ?_) (fun c2388 => ?_)
      · have h := hA c2388
        refine gh_aload_n gd_Model_next_83 1 rfl (by decide) ?_
        refine gh_aload_n gd_Model_next_84 1 rfl (by decide) ?_
        refine gf_63_4 gd_Model_next_85 gh_k1374 hF ((gh_u_i (by decide)).trans ((gh_u_i (by decide)).trans (gh_u_i (by decide)))) ?_
        refine cv_Model_nameLength (d := d + 2) gd_Model_next_88 gh_k1665 hF (Nat.le_of_ble_eq_true rfl) (gh_C.pw (s_Model_nameLength d (m 63 4) hF h) (fun r2389 h => ?_))
        refine gh_istore_n (L2 := [(2, 0, r2389), (1, 0, v1), (0, 2, 63)]) gd_Model_next_91 (by decide) rfl ?_
        refine gh_aload_n gd_Model_next_92 2 rfl (by decide) ?_
        refine gh_iload_n gd_Model_next_93 0 rfl ?_
        refine gh_iconst gd_Model_next_94 (gh_r0 rfl) ?_
        have k2391 : ∀ x2392 : Int, x2392 = (if r2389 ≤ 3 then 2 else 0) → gh_T E (gh_yModel_next.cls, prog_14_method_13_code, 3, false, 9) (d + 3) 103 [(2, 0, r2389), (1, 0, v1), (0, 2, 63)] [(0, x2392), (2, 63)] (gh_u (gh_u (gh_u m 63 6 (m 63 4)) 63 7 v1) 63 5 0) (fun r m1 => gh_F m1 ∧ Q r m1) := by
          rintro _ rfl
          refine pf_63_5 gd_Model_next_103 gh_k1375 hF (fun hF => ?_)
          refine gh_aload_n gd_Model_next_106 2 rfl (by decide) ?_
          refine gh_dup gd_Model_next_107 (by decide) ?_
          refine gf_63_4 gd_Model_next_108 gh_k1374 hF ((gh_u_i (by decide)).trans ((gh_u_i (by decide)).trans ((gh_u_i (by decide)).trans (gh_u_i (by decide))))) ?_
          refine gh_iload_n gd_Model_next_111 0 rfl ?_
          obtain ⟨q2393, h⟩ := h
          refine gh_iadd gd_Model_next_112 q2393 ?_
          refine pf_63_4 gd_Model_next_113 gh_k1374 hF (fun hF => ?_)
          refine gh_goto (tgt := 386) gd_Model_next_116 (by decide) ?_
          exact gh_ret9 rfl gd_Model_next_386 ⟨hF, h⟩
        refine gh_jle (tgt := 102) gd_Model_next_95 (by decide) (fun c2394 => ?_) (fun c2394 => ?_)
        · have hz : True := trivial
          refine gh_iconst gd_Model_next_102 (gh_r0 rfl) ?_
          exact k2391 _ (by rw [if_pos c2394])
        · have hz : True := trivial
          refine gh_iconst gd_Model_next_98 (gh_r0 rfl) ?_
          refine gh_goto (tgt := 103) gd_Model_next_99 (by decide) ?_
          exact k2391 _ (by rw [if_neg c2394])
      · have h := hB c2388
        refine gh_iload_n gd_Model_next_119 0 rfl ?_
        refine gh_bipush gd_Model_next_120 (by decide) (gh_r0 rfl) ?_
        obtain ⟨hA, hB⟩ := h
        refine gh_jne (tgt := 186) gd_Model_next_122 (by decide) (fun c2395 => ?_) (fun c2395 => ?_)
        · have h := hA c2395
          refine gh_aload_n gd_Model_next_125 1 rfl (by decide) ?_
          refine gh_aload_n gd_Model_next_126 1 rfl (by decide) ?_
          refine gf_63_4 gd_Model_next_127 gh_k1374 hF ((gh_u_i (by decide)).trans ((gh_u_i (by decide)).trans (gh_u_i (by decide)))) ?_
          refine gh_iconst gd_Model_next_130 (gh_r0 rfl) ?_
          obtain ⟨q2396, h⟩ := h
          refine gh_iadd gd_Model_next_131 q2396 ?_
          refine cv_Model_smallsFrom (d := d + 2) gd_Model_next_132 gh_k1669 hF (Nat.le_of_ble_eq_true rfl) (gh_C.pw (s_Model_smallsFrom d ((m 63 4) + 1) hF h) (fun r2397 h => ?_))
          refine gh_istore_n (L2 := [(2, 0, r2397), (1, 0, v1), (0, 2, 63)]) gd_Model_next_135 (by decide) rfl ?_
          refine gh_aload_n gd_Model_next_136 2 rfl (by decide) ?_
          refine gh_iload_n gd_Model_next_137 0 rfl ?_
          refine gh_iconst gd_Model_next_138 (gh_r0 rfl) ?_
          refine gh_iconst gd_Model_next_139 (gh_r0 rfl) ?_
          refine cv_Model_in (d := d + 2) gd_Model_next_140 gh_k1631 (Nat.le_of_ble_eq_true rfl) (gh_C.pe (e_Model_in (d + 2) r2397 1 3) ?_)
          obtain ⟨hk, h⟩ := h
          have k2402 : ∀ x2403 : Int, x2403 = (if (¬ (r2397 < 1) ∧ (r2397 ≤ 3)) then (if (x_Model_signAt (((m 63 4) + 1) + r2397) (gh_u (gh_u (gh_u m 63 6 (m 63 4)) 63 7 v1) 63 5 0)) = 39 then 3 else 0) else 0) → gh_T E (gh_yModel_next.cls, prog_14_method_13_code, 3, false, 9) (d + 3) 168 [(2, 0, r2397), (1, 0, v1), (0, 2, 63)] [(0, x2403), (2, 63)] (gh_u (gh_u (gh_u m 63 6 (m 63 4)) 63 7 v1) 63 5 0) (fun r m1 => gh_F m1 ∧ Q r m1) := by
            rintro _ rfl
            refine pf_63_5 gd_Model_next_168 gh_k1375 hF (fun hF => ?_)
            refine gh_aload_n gd_Model_next_171 2 rfl (by decide) ?_
            refine gh_dup gd_Model_next_172 (by decide) ?_
            refine gf_63_4 gd_Model_next_173 gh_k1374 hF ((gh_u_i (by decide)).trans ((gh_u_i (by decide)).trans ((gh_u_i (by decide)).trans (gh_u_i (by decide))))) ?_
            refine gh_iload_n gd_Model_next_176 0 rfl ?_
            refine gh_iconst gd_Model_next_177 (gh_r0 rfl) ?_
            obtain ⟨q2404, h⟩ := h
            refine gh_iadd gd_Model_next_178 q2404 ?_
            obtain ⟨q2405, h⟩ := h
            refine gh_iadd gd_Model_next_179 q2405 ?_
            refine pf_63_4 gd_Model_next_180 gh_k1374 hF (fun hF => ?_)
            refine gh_goto (tgt := 386) gd_Model_next_183 (by decide) ?_
            exact gh_ret9 rfl gd_Model_next_386 ⟨hF, h⟩
          refine gh_beq (tgt := 167) gd_Model_next_143 (by decide) (fun c2406 => ?_) (fun c2406 => ?_)
          · have hz : True := trivial
            have hk := hk c2406
            refine gh_aload_n gd_Model_next_146 2 rfl (by decide) ?_
            refine gh_aload_n gd_Model_next_147 2 rfl (by decide) ?_
            refine gf_63_4 gd_Model_next_148 gh_k1374 hF ((gh_u_i (by decide)).trans ((gh_u_i (by decide)).trans (gh_u_i (by decide)))) ?_
            refine gh_iconst gd_Model_next_151 (gh_r0 rfl) ?_
            obtain ⟨q2399, hk⟩ := hk
            refine gh_iadd gd_Model_next_152 q2399 ?_
            refine gh_iload_n gd_Model_next_153 0 rfl ?_
            obtain ⟨q2400, hk⟩ := hk
            refine gh_iadd gd_Model_next_154 q2400 ?_
            have q2401 := hk
            refine cv_Model_signAt (d := d + 2) gd_Model_next_155 gh_k1661 hF (Nat.le_of_ble_eq_true rfl) (gh_C.pe (e_Model_signAt (d + 1) (((m 63 4) + 1) + r2397) hF q2401) ?_)
            refine gh_bipush gd_Model_next_158 (by decide) (gh_r0 rfl) ?_
            refine gh_jne (tgt := 167) gd_Model_next_160 (by decide) (fun c2407 => ?_) (fun c2407 => ?_)
            · have hz : True := trivial
              refine gh_iconst gd_Model_next_163 (gh_r0 rfl) ?_
              refine gh_goto (tgt := 168) gd_Model_next_164 (by decide) ?_
              exact k2402 _ (by rw [if_pos c2406, if_pos c2407])
            · have hz : True := trivial
              refine gh_iconst gd_Model_next_167 (gh_r0 rfl) ?_
              exact k2402 _ (by rw [if_pos c2406, if_neg c2407])
          · have hz : True := trivial
            refine gh_iconst gd_Model_next_167 (gh_r0 rfl) ?_
            exact k2402 _ (by rw [if_neg c2406])
        · have h := hB c2395
          refine gh_iload_n gd_Model_next_186 0 rfl ?_
          refine gh_bipush gd_Model_next_187 (by decide) (gh_r0 rfl) ?_
          obtain ⟨hA, hB⟩ := h
          refine gh_jne (tgt := 309) gd_Model_next_189 (by decide) (fun c2408 => ?_) (fun c2408 => ?_)
          · have h := hA c2408
            refine gh_aload_n gd_Model_next_192 1 rfl (by decide) ?_
            refine gh_aload_n gd_Model_next_193 1 rfl (by decide) ?_
            refine gf_63_4 gd_Model_next_194 gh_k1374 hF ((gh_u_i (by decide)).trans ((gh_u_i (by decide)).trans (gh_u_i (by decide)))) ?_
            refine gh_iconst gd_Model_next_197 (gh_r0 rfl) ?_
            obtain ⟨q2409, h⟩ := h
            refine gh_iadd gd_Model_next_198 q2409 ?_
            obtain ⟨q2410, h⟩ := h
            refine cv_Model_signAt (d := d + 2) gd_Model_next_199 gh_k1661 hF (Nat.le_of_ble_eq_true rfl) (gh_C.pe (e_Model_signAt (d + 1) ((m 63 4) + 1) hF q2410) ?_)
            refine cv_Model_isSmall (d := d + 2) gd_Model_next_202 gh_k1673 (Nat.le_of_ble_eq_true rfl) (gh_C.pe (e_Model_isSmall (d + 1) (x_Model_signAt ((m 63 4) + 1) (gh_u (gh_u (gh_u m 63 6 (m 63 4)) 63 7 v1) 63 5 0))) ?_)
            obtain ⟨hk, h⟩ := h
            have k2421 : ∀ x2422 : Int, x2422 = (if (¬ (((if (¬ ((x_Model_signAt ((m 63 4) + 1) (gh_u (gh_u (gh_u m 63 6 (m 63 4)) 63 7 v1) 63 5 0)) < 97) ∧ ((x_Model_signAt ((m 63 4) + 1) (gh_u (gh_u (gh_u m 63 6 (m 63 4)) 63 7 v1) 63 5 0)) ≤ 122)) then (1:Int) else 0)) = 0) ∧ (((x_Model_signAt ((m 63 4) + 2) (gh_u (gh_u (gh_u m 63 6 (m 63 4)) 63 7 v1) 63 5 0)) = 45) ∧ (¬ (((if (¬ ((x_Model_signAt ((m 63 4) + 3) (gh_u (gh_u (gh_u m 63 6 (m 63 4)) 63 7 v1) 63 5 0)) < 97) ∧ ((x_Model_signAt ((m 63 4) + 3) (gh_u (gh_u (gh_u m 63 6 (m 63 4)) 63 7 v1) 63 5 0)) ≤ 122)) then (1:Int) else 0)) = 0) ∧ (¬ ((x_Model_signAt ((m 63 4) + 3) (gh_u (gh_u (gh_u m 63 6 (m 63 4)) 63 7 v1) 63 5 0)) < (x_Model_signAt ((m 63 4) + 1) (gh_u (gh_u (gh_u m 63 6 (m 63 4)) 63 7 v1) 63 5 0))) ∧ ((x_Model_signAt ((m 63 4) + 4) (gh_u (gh_u (gh_u m 63 6 (m 63 4)) 63 7 v1) 63 5 0)) = 93))))) then (1:Int) else 0) → gh_T E (gh_yModel_next.cls, prog_14_method_13_code, 3, false, 9) (d + 3) 282 [(1, 0, v1), (0, 2, 63)] [(0, x2422)] (gh_u (gh_u (gh_u m 63 6 (m 63 4)) 63 7 v1) 63 5 0) (fun r m1 => gh_F m1 ∧ Q r m1) := by
              rintro _ rfl
              refine gh_name (fun v2 hn => ?_)
              have h := h v2 hn
              refine gh_istore_n (L2 := [(2, 0, v2), (1, 0, v1), (0, 2, 63)]) gd_Model_next_282 (by decide) rfl ?_
              refine gh_aload_n gd_Model_next_283 2 rfl (by decide) ?_
              refine gh_iload_n gd_Model_next_284 0 rfl ?_
              have k2423 : ∀ x2424 : Int, x2424 = (if v2 = 0 then 0 else 4) → gh_T E (gh_yModel_next.cls, prog_14_method_13_code, 3, false, 9) (d + 3) 293 [(2, 0, v2), (1, 0, v1), (0, 2, 63)] [(0, x2424), (2, 63)] (gh_u (gh_u (gh_u m 63 6 (m 63 4)) 63 7 v1) 63 5 0) (fun r m1 => gh_F m1 ∧ Q r m1) := by
                rintro _ rfl
                refine pf_63_5 gd_Model_next_293 gh_k1375 hF (fun hF => ?_)
                refine gh_aload_n gd_Model_next_296 2 rfl (by decide) ?_
                refine gh_dup gd_Model_next_297 (by decide) ?_
                refine gf_63_4 gd_Model_next_298 gh_k1374 hF ((gh_u_i (by decide)).trans ((gh_u_i (by decide)).trans ((gh_u_i (by decide)).trans (gh_u_i (by decide))))) ?_
                refine gh_iconst gd_Model_next_301 (gh_r0 rfl) ?_
                obtain ⟨q2425, h⟩ := h
                refine gh_iadd gd_Model_next_302 q2425 ?_
                refine pf_63_4 gd_Model_next_303 gh_k1374 hF (fun hF => ?_)
                refine gh_goto (tgt := 386) gd_Model_next_306 (by decide) ?_
                exact gh_ret9 rfl gd_Model_next_386 ⟨hF, h⟩
              refine gh_zeq (tgt := 292) gd_Model_next_285 (by decide) (fun c2426 => ?_) (fun c2426 => ?_)
              · have hz : True := trivial
                refine gh_iconst gd_Model_next_292 (gh_r0 rfl) ?_
                exact k2423 _ (by rw [if_pos c2426])
              · have hz : True := trivial
                refine gh_iconst gd_Model_next_288 (gh_r0 rfl) ?_
                refine gh_goto (tgt := 293) gd_Model_next_289 (by decide) ?_
                exact k2423 _ (by rw [if_neg c2426])
            refine gh_zeq (tgt := 281) gd_Model_next_205 (by decide) (fun c2427 => ?_) (fun c2427 => ?_)
            · have hz : True := trivial
              refine gh_iconst gd_Model_next_281 (gh_r0 rfl) ?_
              exact k2421 _ (if_neg (c := (¬ (((if (¬ ((x_Model_signAt ((m 63 4) + 1) (gh_u (gh_u (gh_u m 63 6 (m 63 4)) 63 7 v1) 63 5 0)) < 97) ∧ ((x_Model_signAt ((m 63 4) + 1) (gh_u (gh_u (gh_u m 63 6 (m 63 4)) 63 7 v1) 63 5 0)) ≤ 122)) then (1:Int) else 0)) = 0) ∧ (((x_Model_signAt ((m 63 4) + 2) (gh_u (gh_u (gh_u m 63 6 (m 63 4)) 63 7 v1) 63 5 0)) = 45) ∧ (¬ (((if (¬ ((x_Model_signAt ((m 63 4) + 3) (gh_u (gh_u (gh_u m 63 6 (m 63 4)) 63 7 v1) 63 5 0)) < 97) ∧ ((x_Model_signAt ((m 63 4) + 3) (gh_u (gh_u (gh_u m 63 6 (m 63 4)) 63 7 v1) 63 5 0)) ≤ 122)) then (1:Int) else 0)) = 0) ∧ (¬ ((x_Model_signAt ((m 63 4) + 3) (gh_u (gh_u (gh_u m 63 6 (m 63 4)) 63 7 v1) 63 5 0)) < (x_Model_signAt ((m 63 4) + 1) (gh_u (gh_u (gh_u m 63 6 (m 63 4)) 63 7 v1) 63 5 0))) ∧ ((x_Model_signAt ((m 63 4) + 4) (gh_u (gh_u (gh_u m 63 6 (m 63 4)) 63 7 v1) 63 5 0)) = 93)))))) (fun z => z.1 c2427)).symm
            · have hz : True := trivial
              have hk := hk c2427
              refine gh_aload_n gd_Model_next_208 1 rfl (by decide) ?_
              refine gh_aload_n gd_Model_next_209 1 rfl (by decide) ?_
              refine gf_63_4 gd_Model_next_210 gh_k1374 hF ((gh_u_i (by decide)).trans ((gh_u_i (by decide)).trans (gh_u_i (by decide)))) ?_
              refine gh_iconst gd_Model_next_213 (gh_r0 rfl) ?_
              obtain ⟨q2411, hk⟩ := hk
              refine gh_iadd gd_Model_next_214 q2411 ?_
              obtain ⟨q2412, hk⟩ := hk
              refine cv_Model_signAt (d := d + 2) gd_Model_next_215 gh_k1661 hF (Nat.le_of_ble_eq_true rfl) (gh_C.pe (e_Model_signAt (d + 1) ((m 63 4) + 2) hF q2412) ?_)
              refine gh_bipush gd_Model_next_218 (by decide) (gh_r0 rfl) ?_
              refine gh_jne (tgt := 281) gd_Model_next_220 (by decide) (fun c2428 => ?_) (fun c2428 => ?_)
              · have hz : True := trivial
                have hk := hk c2428
                refine gh_aload_n gd_Model_next_223 1 rfl (by decide) ?_
                refine gh_aload_n gd_Model_next_224 1 rfl (by decide) ?_
                refine gf_63_4 gd_Model_next_225 gh_k1374 hF ((gh_u_i (by decide)).trans ((gh_u_i (by decide)).trans (gh_u_i (by decide)))) ?_
                refine gh_iconst gd_Model_next_228 (gh_r0 rfl) ?_
                obtain ⟨q2413, hk⟩ := hk
                refine gh_iadd gd_Model_next_229 q2413 ?_
                obtain ⟨q2414, hk⟩ := hk
                refine cv_Model_signAt (d := d + 2) gd_Model_next_230 gh_k1661 hF (Nat.le_of_ble_eq_true rfl) (gh_C.pe (e_Model_signAt (d + 1) ((m 63 4) + 3) hF q2414) ?_)
                refine cv_Model_isSmall (d := d + 2) gd_Model_next_233 gh_k1673 (Nat.le_of_ble_eq_true rfl) (gh_C.pe (e_Model_isSmall (d + 1) (x_Model_signAt ((m 63 4) + 3) (gh_u (gh_u (gh_u m 63 6 (m 63 4)) 63 7 v1) 63 5 0))) ?_)
                refine gh_zeq (tgt := 281) gd_Model_next_236 (by decide) (fun c2429 => ?_) (fun c2429 => ?_)
                · have hz : True := trivial
                  refine gh_iconst gd_Model_next_281 (gh_r0 rfl) ?_
                  exact k2421 _ (if_neg (c := (¬ (((if (¬ ((x_Model_signAt ((m 63 4) + 1) (gh_u (gh_u (gh_u m 63 6 (m 63 4)) 63 7 v1) 63 5 0)) < 97) ∧ ((x_Model_signAt ((m 63 4) + 1) (gh_u (gh_u (gh_u m 63 6 (m 63 4)) 63 7 v1) 63 5 0)) ≤ 122)) then (1:Int) else 0)) = 0) ∧ (((x_Model_signAt ((m 63 4) + 2) (gh_u (gh_u (gh_u m 63 6 (m 63 4)) 63 7 v1) 63 5 0)) = 45) ∧ (¬ (((if (¬ ((x_Model_signAt ((m 63 4) + 3) (gh_u (gh_u (gh_u m 63 6 (m 63 4)) 63 7 v1) 63 5 0)) < 97) ∧ ((x_Model_signAt ((m 63 4) + 3) (gh_u (gh_u (gh_u m 63 6 (m 63 4)) 63 7 v1) 63 5 0)) ≤ 122)) then (1:Int) else 0)) = 0) ∧ (¬ ((x_Model_signAt ((m 63 4) + 3) (gh_u (gh_u (gh_u m 63 6 (m 63 4)) 63 7 v1) 63 5 0)) < (x_Model_signAt ((m 63 4) + 1) (gh_u (gh_u (gh_u m 63 6 (m 63 4)) 63 7 v1) 63 5 0))) ∧ ((x_Model_signAt ((m 63 4) + 4) (gh_u (gh_u (gh_u m 63 6 (m 63 4)) 63 7 v1) 63 5 0)) = 93)))))) (fun z => (fun z => (fun z => z.1 c2429) z.2) z.2)).symm
                · have hz : True := trivial
                  have hk := hk c2429
                  refine gh_aload_n gd_Model_next_239 1 rfl (by decide) ?_
                  refine gh_aload_n gd_Model_next_240 1 rfl (by decide) ?_
                  refine gf_63_4 gd_Model_next_241 gh_k1374 hF ((gh_u_i (by decide)).trans ((gh_u_i (by decide)).trans (gh_u_i (by decide)))) ?_
                  refine gh_iconst gd_Model_next_244 (gh_r0 rfl) ?_
                  obtain ⟨q2415, hk⟩ := hk
                  refine gh_iadd gd_Model_next_245 q2415 ?_
                  obtain ⟨q2416, hk⟩ := hk
                  refine cv_Model_signAt (d := d + 2) gd_Model_next_246 gh_k1661 hF (Nat.le_of_ble_eq_true rfl) (gh_C.pe (e_Model_signAt (d + 1) ((m 63 4) + 3) hF q2416) ?_)
                  refine gh_aload_n gd_Model_next_249 1 rfl (by decide) ?_
                  refine gh_aload_n gd_Model_next_250 1 rfl (by decide) ?_
                  refine gf_63_4 gd_Model_next_251 gh_k1374 hF ((gh_u_i (by decide)).trans ((gh_u_i (by decide)).trans (gh_u_i (by decide)))) ?_
                  refine gh_iconst gd_Model_next_254 (gh_r0 rfl) ?_
                  obtain ⟨q2417, hk⟩ := hk
                  refine gh_iadd gd_Model_next_255 q2417 ?_
                  obtain ⟨q2418, hk⟩ := hk
                  refine cv_Model_signAt (d := d + 2) gd_Model_next_256 gh_k1661 hF (Nat.le_of_ble_eq_true rfl) (gh_C.pe (e_Model_signAt (d + 1) ((m 63 4) + 1) hF q2418) ?_)
                  refine gh_jlt (tgt := 281) gd_Model_next_259 (by decide) (fun c2430 => ?_) (fun c2430 => ?_)
                  · have hz : True := trivial
                    refine gh_iconst gd_Model_next_281 (gh_r0 rfl) ?_
                    exact k2421 _ (if_neg (c := (¬ (((if (¬ ((x_Model_signAt ((m 63 4) + 1) (gh_u (gh_u (gh_u m 63 6 (m 63 4)) 63 7 v1) 63 5 0)) < 97) ∧ ((x_Model_signAt ((m 63 4) + 1) (gh_u (gh_u (gh_u m 63 6 (m 63 4)) 63 7 v1) 63 5 0)) ≤ 122)) then (1:Int) else 0)) = 0) ∧ (((x_Model_signAt ((m 63 4) + 2) (gh_u (gh_u (gh_u m 63 6 (m 63 4)) 63 7 v1) 63 5 0)) = 45) ∧ (¬ (((if (¬ ((x_Model_signAt ((m 63 4) + 3) (gh_u (gh_u (gh_u m 63 6 (m 63 4)) 63 7 v1) 63 5 0)) < 97) ∧ ((x_Model_signAt ((m 63 4) + 3) (gh_u (gh_u (gh_u m 63 6 (m 63 4)) 63 7 v1) 63 5 0)) ≤ 122)) then (1:Int) else 0)) = 0) ∧ (¬ ((x_Model_signAt ((m 63 4) + 3) (gh_u (gh_u (gh_u m 63 6 (m 63 4)) 63 7 v1) 63 5 0)) < (x_Model_signAt ((m 63 4) + 1) (gh_u (gh_u (gh_u m 63 6 (m 63 4)) 63 7 v1) 63 5 0))) ∧ ((x_Model_signAt ((m 63 4) + 4) (gh_u (gh_u (gh_u m 63 6 (m 63 4)) 63 7 v1) 63 5 0)) = 93)))))) (fun z => (fun z => (fun z => (fun z => z.1 c2430) z.2) z.2) z.2)).symm
                  · have hz : True := trivial
                    have hk := hk c2430
                    refine gh_aload_n gd_Model_next_262 1 rfl (by decide) ?_
                    refine gh_aload_n gd_Model_next_263 1 rfl (by decide) ?_
                    refine gf_63_4 gd_Model_next_264 gh_k1374 hF ((gh_u_i (by decide)).trans ((gh_u_i (by decide)).trans (gh_u_i (by decide)))) ?_
                    refine gh_iconst gd_Model_next_267 (gh_r0 rfl) ?_
                    obtain ⟨q2419, hk⟩ := hk
                    refine gh_iadd gd_Model_next_268 q2419 ?_
                    have q2420 := hk
                    refine cv_Model_signAt (d := d + 2) gd_Model_next_269 gh_k1661 hF (Nat.le_of_ble_eq_true rfl) (gh_C.pe (e_Model_signAt (d + 1) ((m 63 4) + 4) hF q2420) ?_)
                    refine gh_bipush gd_Model_next_272 (by decide) (gh_r0 rfl) ?_
                    refine gh_jne (tgt := 281) gd_Model_next_274 (by decide) (fun c2431 => ?_) (fun c2431 => ?_)
                    · have hz : True := trivial
                      refine gh_iconst gd_Model_next_277 (gh_r0 rfl) ?_
                      refine gh_goto (tgt := 282) gd_Model_next_278 (by decide) ?_
                      exact k2421 _ (if_pos (c := (¬ (((if (¬ ((x_Model_signAt ((m 63 4) + 1) (gh_u (gh_u (gh_u m 63 6 (m 63 4)) 63 7 v1) 63 5 0)) < 97) ∧ ((x_Model_signAt ((m 63 4) + 1) (gh_u (gh_u (gh_u m 63 6 (m 63 4)) 63 7 v1) 63 5 0)) ≤ 122)) then (1:Int) else 0)) = 0) ∧ (((x_Model_signAt ((m 63 4) + 2) (gh_u (gh_u (gh_u m 63 6 (m 63 4)) 63 7 v1) 63 5 0)) = 45) ∧ (¬ (((if (¬ ((x_Model_signAt ((m 63 4) + 3) (gh_u (gh_u (gh_u m 63 6 (m 63 4)) 63 7 v1) 63 5 0)) < 97) ∧ ((x_Model_signAt ((m 63 4) + 3) (gh_u (gh_u (gh_u m 63 6 (m 63 4)) 63 7 v1) 63 5 0)) ≤ 122)) then (1:Int) else 0)) = 0) ∧ (¬ ((x_Model_signAt ((m 63 4) + 3) (gh_u (gh_u (gh_u m 63 6 (m 63 4)) 63 7 v1) 63 5 0)) < (x_Model_signAt ((m 63 4) + 1) (gh_u (gh_u (gh_u m 63 6 (m 63 4)) 63 7 v1) 63 5 0))) ∧ ((x_Model_signAt ((m 63 4) + 4) (gh_u (gh_u (gh_u m 63 6 (m 63 4)) 63 7 v1) 63 5 0)) = 93)))))) ⟨c2427, ⟨c2428, ⟨c2429, ⟨c2430, c2431⟩⟩⟩⟩).symm
                    · have hz : True := trivial
                      refine gh_iconst gd_Model_next_281 (gh_r0 rfl) ?_
                      exact k2421 _ (if_neg (c := (¬ (((if (¬ ((x_Model_signAt ((m 63 4) + 1) (gh_u (gh_u (gh_u m 63 6 (m 63 4)) 63 7 v1) 63 5 0)) < 97) ∧ ((x_Model_signAt ((m 63 4) + 1) (gh_u (gh_u (gh_u m 63 6 (m 63 4)) 63 7 v1) 63 5 0)) ≤ 122)) then (1:Int) else 0)) = 0) ∧ (((x_Model_signAt ((m 63 4) + 2) (gh_u (gh_u (gh_u m 63 6 (m 63 4)) 63 7 v1) 63 5 0)) = 45) ∧ (¬ (((if (¬ ((x_Model_signAt ((m 63 4) + 3) (gh_u (gh_u (gh_u m 63 6 (m 63 4)) 63 7 v1) 63 5 0)) < 97) ∧ ((x_Model_signAt ((m 63 4) + 3) (gh_u (gh_u (gh_u m 63 6 (m 63 4)) 63 7 v1) 63 5 0)) ≤ 122)) then (1:Int) else 0)) = 0) ∧ (¬ ((x_Model_signAt ((m 63 4) + 3) (gh_u (gh_u (gh_u m 63 6 (m 63 4)) 63 7 v1) 63 5 0)) < (x_Model_signAt ((m 63 4) + 1) (gh_u (gh_u (gh_u m 63 6 (m 63 4)) 63 7 v1) 63 5 0))) ∧ ((x_Model_signAt ((m 63 4) + 4) (gh_u (gh_u (gh_u m 63 6 (m 63 4)) 63 7 v1) 63 5 0)) = 93)))))) (fun z => (fun z => (fun z => (fun z => c2431 z.2) z.2) z.2) z.2)).symm
              · have hz : True := trivial
                refine gh_iconst gd_Model_next_281 (gh_r0 rfl) ?_
                exact k2421 _ (if_neg (c := (¬ (((if (¬ ((x_Model_signAt ((m 63 4) + 1) (gh_u (gh_u (gh_u m 63 6 (m 63 4)) 63 7 v1) 63 5 0)) < 97) ∧ ((x_Model_signAt ((m 63 4) + 1) (gh_u (gh_u (gh_u m 63 6 (m 63 4)) 63 7 v1) 63 5 0)) ≤ 122)) then (1:Int) else 0)) = 0) ∧ (((x_Model_signAt ((m 63 4) + 2) (gh_u (gh_u (gh_u m 63 6 (m 63 4)) 63 7 v1) 63 5 0)) = 45) ∧ (¬ (((if (¬ ((x_Model_signAt ((m 63 4) + 3) (gh_u (gh_u (gh_u m 63 6 (m 63 4)) 63 7 v1) 63 5 0)) < 97) ∧ ((x_Model_signAt ((m 63 4) + 3) (gh_u (gh_u (gh_u m 63 6 (m 63 4)) 63 7 v1) 63 5 0)) ≤ 122)) then (1:Int) else 0)) = 0) ∧ (¬ ((x_Model_signAt ((m 63 4) + 3) (gh_u (gh_u (gh_u m 63 6 (m 63 4)) 63 7 v1) 63 5 0)) < (x_Model_signAt ((m 63 4) + 1) (gh_u (gh_u (gh_u m 63 6 (m 63 4)) 63 7 v1) 63 5 0))) ∧ ((x_Model_signAt ((m 63 4) + 4) (gh_u (gh_u (gh_u m 63 6 (m 63 4)) 63 7 v1) 63 5 0)) = 93)))))) (fun z => (fun z => c2428 z.1) z.2)).symm
          · have h := hB c2408
            refine gh_iload_n gd_Model_next_309 0 rfl ?_
            refine gh_bipush gd_Model_next_310 (by decide) (gh_r0 rfl) ?_
            have k2432 : ∀ x2433 : Int, x2433 = (if ((v1 = 58) ∨ ((v1 = 59) ∨ ((v1 = 124) ∨ ((v1 = 40) ∨ ((v1 = 41) ∨ ((v1 = 63) ∨ ((v1 = 42) ∨ (v1 = 43)))))))) then (1:Int) else 0) → gh_T E (gh_yModel_next.cls, prog_14_method_13_code, 3, false, 9) (d + 3) 362 [(1, 0, v1), (0, 2, 63)] [(0, x2433)] (gh_u (gh_u (gh_u m 63 6 (m 63 4)) 63 7 v1) 63 5 0) (fun r m1 => gh_F m1 ∧ Q r m1) := by
              rintro _ rfl
              refine gh_name (fun v2 hn => ?_)
              have h := h v2 hn
              refine gh_istore_n (L2 := [(2, 0, v2), (1, 0, v1), (0, 2, 63)]) gd_Model_next_362 (by decide) rfl ?_
              refine gh_aload_n gd_Model_next_363 2 rfl (by decide) ?_
              refine gh_iload_n gd_Model_next_364 0 rfl ?_
              have k2434 : ∀ x2435 : Int, x2435 = (if v2 = 0 then 0 else 5) → gh_T E (gh_yModel_next.cls, prog_14_method_13_code, 3, false, 9) (d + 3) 373 [(2, 0, v2), (1, 0, v1), (0, 2, 63)] [(0, x2435), (2, 63)] (gh_u (gh_u (gh_u m 63 6 (m 63 4)) 63 7 v1) 63 5 0) (fun r m1 => gh_F m1 ∧ Q r m1) := by
                rintro _ rfl
                refine pf_63_5 gd_Model_next_373 gh_k1375 hF (fun hF => ?_)
                refine gh_aload_n gd_Model_next_376 2 rfl (by decide) ?_
                refine gh_dup gd_Model_next_377 (by decide) ?_
                refine gf_63_4 gd_Model_next_378 gh_k1374 hF ((gh_u_i (by decide)).trans ((gh_u_i (by decide)).trans ((gh_u_i (by decide)).trans (gh_u_i (by decide))))) ?_
                refine gh_iconst gd_Model_next_381 (gh_r0 rfl) ?_
                obtain ⟨q2436, h⟩ := h
                refine gh_iadd gd_Model_next_382 q2436 ?_
                refine pf_63_4 gd_Model_next_383 gh_k1374 hF (fun hF => ?_)
                exact gh_ret9 rfl gd_Model_next_386 ⟨hF, h⟩
              refine gh_zeq (tgt := 372) gd_Model_next_365 (by decide) (fun c2437 => ?_) (fun c2437 => ?_)
              · have hz : True := trivial
                refine gh_iconst gd_Model_next_372 (gh_r0 rfl) ?_
                exact k2434 _ (by rw [if_pos c2437])
              · have hz : True := trivial
                refine gh_iconst gd_Model_next_368 (gh_r0 rfl) ?_
                refine gh_goto (tgt := 373) gd_Model_next_369 (by decide) ?_
                exact k2434 _ (by rw [if_neg c2437])
            refine gh_jeq (tgt := 357) gd_Model_next_312 (by decide) (fun c2438 => ?_) (fun c2438 => ?_)
            · have hz : True := trivial
              refine gh_iconst gd_Model_next_357 (gh_r0 rfl) ?_
              refine gh_goto (tgt := 362) gd_Model_next_358 (by decide) ?_
              exact k2432 _ (if_pos (c := ((v1 = 58) ∨ ((v1 = 59) ∨ ((v1 = 124) ∨ ((v1 = 40) ∨ ((v1 = 41) ∨ ((v1 = 63) ∨ ((v1 = 42) ∨ (v1 = 43))))))))) (Or.inl c2438)).symm
            · have hz : True := trivial
              refine gh_iload_n gd_Model_next_315 0 rfl ?_
              refine gh_bipush gd_Model_next_316 (by decide) (gh_r0 rfl) ?_
              refine gh_jeq (tgt := 357) gd_Model_next_318 (by decide) (fun c2439 => ?_) (fun c2439 => ?_)
              · have hz : True := trivial
                refine gh_iconst gd_Model_next_357 (gh_r0 rfl) ?_
                refine gh_goto (tgt := 362) gd_Model_next_358 (by decide) ?_
                exact k2432 _ (if_pos (c := ((v1 = 58) ∨ ((v1 = 59) ∨ ((v1 = 124) ∨ ((v1 = 40) ∨ ((v1 = 41) ∨ ((v1 = 63) ∨ ((v1 = 42) ∨ (v1 = 43))))))))) (Or.inr (Or.inl c2439))).symm
              · have hz : True := trivial
                refine gh_iload_n gd_Model_next_321 0 rfl ?_
                refine gh_bipush gd_Model_next_322 (by decide) (gh_r0 rfl) ?_
                refine gh_jeq (tgt := 357) gd_Model_next_324 (by decide) (fun c2440 => ?_) (fun c2440 => ?_)
                · have hz : True := trivial
                  refine gh_iconst gd_Model_next_357 (gh_r0 rfl) ?_
                  refine gh_goto (tgt := 362) gd_Model_next_358 (by decide) ?_
                  exact k2432 _ (if_pos (c := ((v1 = 58) ∨ ((v1 = 59) ∨ ((v1 = 124) ∨ ((v1 = 40) ∨ ((v1 = 41) ∨ ((v1 = 63) ∨ ((v1 = 42) ∨ (v1 = 43))))))))) (Or.inr (Or.inr (Or.inl c2440)))).symm
                · have hz : True := trivial
                  refine gh_iload_n gd_Model_next_327 0 rfl ?_
                  refine gh_bipush gd_Model_next_328 (by decide) (gh_r0 rfl) ?_
                  refine gh_jeq (tgt := 357) gd_Model_next_330 (by decide) (fun c2441 => ?_) (fun c2441 => ?_)
                  · have hz : True := trivial
                    refine gh_iconst gd_Model_next_357 (gh_r0 rfl) ?_
                    refine gh_goto (tgt := 362) gd_Model_next_358 (by decide) ?_
                    exact k2432 _ (if_pos (c := ((v1 = 58) ∨ ((v1 = 59) ∨ ((v1 = 124) ∨ ((v1 = 40) ∨ ((v1 = 41) ∨ ((v1 = 63) ∨ ((v1 = 42) ∨ (v1 = 43))))))))) (Or.inr (Or.inr (Or.inr (Or.inl c2441))))).symm
                  · have hz : True := trivial
                    refine gh_iload_n gd_Model_next_333 0 rfl ?_
                    refine gh_bipush gd_Model_next_334 (by decide) (gh_r0 rfl) ?_
                    refine gh_jeq (tgt := 357) gd_Model_next_336 (by decide) (fun c2442 => ?_) (fun c2442 => ?_)
                    · have hz : True := trivial
                      refine gh_iconst gd_Model_next_357 (gh_r0 rfl) ?_
                      refine gh_goto (tgt := 362) gd_Model_next_358 (by decide) ?_
                      exact k2432 _ (if_pos (c := ((v1 = 58) ∨ ((v1 = 59) ∨ ((v1 = 124) ∨ ((v1 = 40) ∨ ((v1 = 41) ∨ ((v1 = 63) ∨ ((v1 = 42) ∨ (v1 = 43))))))))) (Or.inr (Or.inr (Or.inr (Or.inr (Or.inl c2442)))))).symm
                    · have hz : True := trivial
                      refine gh_iload_n gd_Model_next_339 0 rfl ?_
                      refine gh_bipush gd_Model_next_340 (by decide) (gh_r0 rfl) ?_
                      refine gh_jeq (tgt := 357) gd_Model_next_342 (by decide) (fun c2443 => ?_) (fun c2443 => ?_)
                      · have hz : True := trivial
                        refine gh_iconst gd_Model_next_357 (gh_r0 rfl) ?_
                        refine gh_goto (tgt := 362) gd_Model_next_358 (by decide) ?_
                        exact k2432 _ (if_pos (c := ((v1 = 58) ∨ ((v1 = 59) ∨ ((v1 = 124) ∨ ((v1 = 40) ∨ ((v1 = 41) ∨ ((v1 = 63) ∨ ((v1 = 42) ∨ (v1 = 43))))))))) (Or.inr (Or.inr (Or.inr (Or.inr (Or.inr (Or.inl c2443))))))).symm
                      · have hz : True := trivial
                        refine gh_iload_n gd_Model_next_345 0 rfl ?_
                        refine gh_bipush gd_Model_next_346 (by decide) (gh_r0 rfl) ?_
                        refine gh_jeq (tgt := 357) gd_Model_next_348 (by decide) (fun c2444 => ?_) (fun c2444 => ?_)
                        · have hz : True := trivial
                          refine gh_iconst gd_Model_next_357 (gh_r0 rfl) ?_
                          refine gh_goto (tgt := 362) gd_Model_next_358 (by decide) ?_
                          exact k2432 _ (if_pos (c := ((v1 = 58) ∨ ((v1 = 59) ∨ ((v1 = 124) ∨ ((v1 = 40) ∨ ((v1 = 41) ∨ ((v1 = 63) ∨ ((v1 = 42) ∨ (v1 = 43))))))))) (Or.inr (Or.inr (Or.inr (Or.inr (Or.inr (Or.inr (Or.inl c2444)))))))).symm
                        · have hz : True := trivial
                          refine gh_iload_n gd_Model_next_351 0 rfl ?_
                          refine gh_bipush gd_Model_next_352 (by decide) (gh_r0 rfl) ?_
                          refine gh_jne (tgt := 361) gd_Model_next_354 (by decide) (fun c2445 => ?_) (fun c2445 => ?_)
                          · have hz : True := trivial
                            refine gh_iconst gd_Model_next_357 (gh_r0 rfl) ?_
                            refine gh_goto (tgt := 362) gd_Model_next_358 (by decide) ?_
                            exact k2432 _ (if_pos (c := ((v1 = 58) ∨ ((v1 = 59) ∨ ((v1 = 124) ∨ ((v1 = 40) ∨ ((v1 = 41) ∨ ((v1 = 63) ∨ ((v1 = 42) ∨ (v1 = 43))))))))) (Or.inr (Or.inr (Or.inr (Or.inr (Or.inr (Or.inr (Or.inr c2445)))))))).symm
                          · have hz : True := trivial
                            refine gh_iconst gd_Model_next_361 (gh_r0 rfl) ?_
                            exact k2432 _ (if_neg (c := ((v1 = 58) ∨ ((v1 = 59) ∨ ((v1 = 124) ∨ ((v1 = 40) ∨ ((v1 = 41) ∨ ((v1 = 63) ∨ ((v1 = 42) ∨ (v1 = 43))))))))) (fun z => z.elim c2438 (fun z => z.elim c2439 (fun z => z.elim c2440 (fun z => z.elim c2441 (fun z => z.elim c2442 (fun z => z.elim c2443 (fun z => z.elim c2444 c2445)))))))).symm
theorem s_Model_next {E : gh_E} {m : gh_M} {Q : Int → gh_M → Prop} (d : Nat) (hF : gh_F m) (h : w_Model_next m Q) : gh_C E gh_yModel_next prog_14_method_13_code 3 none 9 (d + 3) [(2, 63)] m (fun r m1 => gh_F m1 ∧ Q r m1) := by
  refine gh_enter2 (L := [(0, 2, 63)]) (by decide +kernel) gh_rt9 (Nat.le_of_ble_eq_true rfl) rfl rfl ?_
  unfold w_Model_next at h
  exact gh_M0_sound (T := fun m => gh_T E (gh_yModel_next.cls, prog_14_method_13_code, 3, false, 9) (d + 3) 0 [(0, 2, 63)] [] m (fun r m1 => gh_F m1 ∧ Q r m1)) (fun m => gh_F m) (fun K0 m hK hF h => b_Model_next_0 d hK m hF h) m hF h
def f_Model_isSameName_25 (v1 : Int) (v2 : Int) (r2446 : Int) (Q : Int → Prop) (m : gh_M) (K25 : Int → Int → Prop) (v4 : Int) (v5 : Int) : Prop := (((¬ (v5 < r2446) ∨ (v4 = 0)) → (v4 = 0 ∨ v4 = 1) ∧ Q v4) ∧ (¬ (¬ (v5 < r2446) ∨ (v4 = 0)) → gh_i (v1 + v5) ∧ 0 ≤ v1 + v5 ∧ (v1 + v5) < 240 ∧ gh_i (v2 + v5) ∧ 0 ≤ v2 + v5 ∧ (v2 + v5) < 240 ∧ ∀ v4' : Int, v4' = (if ((m 64 (v1 + v5)) = (m 64 (v2 + v5))) then (1:Int) else 0) → gh_i (v5 + 1) ∧ K25 v4' (v5 + 1)))
def w_Model_isSameName (v1 : Int) (v2 : Int) (m : gh_M) (Q : Int → Prop) : Prop := w_Model_nameLength v1 m (fun r2446 => w_Model_nameLength v2 m (fun r2448 => ∀ v4 : Int, v4 = (if (r2446 = r2448) then (1:Int) else 0) → gh_L2 (fun K25 v4 v5 => f_Model_isSameName_25 v1 v2 r2446 Q m K25 v4 v5) v4 0))
theorem b_Model_isSameName_25 {E : gh_E} {v1 : Int} {v2 : Int} {r2446 : Int} {Q : Int → Prop} {K25 : Int → Int → Prop} (d : Nat) {m : gh_M} (hK : ∀ (v4 : Int) (v5 : Int), gh_F m → K25 v4 v5 → gh_T E (gh_yModel_isSameName.cls, prog_14_method_14_code, 6, false, 8) (d + 3) 25 [(0, 2, 63), (1, 0, v1), (2, 0, v2), (3, 0, r2446), (4, 0, v4), (5, 0, v5)] [] m (fun r m1 => m1 = m ∧ Q r)) (v4 : Int) (v5 : Int) (hF : gh_F m) (h : f_Model_isSameName_25 v1 v2 r2446 Q m K25 v4 v5) : gh_T E (gh_yModel_isSameName.cls, prog_14_method_14_code, 6, false, 8) (d + 3) 25 [(0, 2, 63), (1, 0, v1), (2, 0, v2), (3, 0, r2446), (4, 0, v4), (5, 0, v5)] [] m (fun r m1 => m1 = m ∧ Q r) := by
  have hK25 := hK
  unfold f_Model_isSameName_25 at h
  refine gh_iload gd_Model_isSameName_25 5 rfl ?_
  refine gh_iload_n gd_Model_isSameName_27 3 rfl ?_
  obtain ⟨hA, hB⟩ := h
  have k2452 : (¬ (v5 < r2446) ∨ (v4 = 0)) → gh_T E (gh_yModel_isSameName.cls, prog_14_method_14_code, 6, false, 8) (d + 3) 70 [(0, 2, 63), (1, 0, v1), (2, 0, v2), (3, 0, r2446), (4, 0, v4), (5, 0, v5)] [] m (fun r m1 => m1 = m ∧ Q r) := by
    intro c
    have h := hA c
    refine gh_iload gd_Model_isSameName_70 4 rfl ?_
    obtain ⟨q2454, h⟩ := h
    exact gh_ret8 rfl gd_Model_isSameName_72 q2454 ⟨rfl, h⟩
  have k2453 : ¬ (¬ (v5 < r2446) ∨ (v4 = 0)) → gh_T E (gh_yModel_isSameName.cls, prog_14_method_14_code, 6, false, 8) (d + 3) 36 [(0, 2, 63), (1, 0, v1), (2, 0, v2), (3, 0, r2446), (4, 0, v4), (5, 0, v5)] [] m (fun r m1 => m1 = m ∧ Q r) := by
    intro c
    have h := hB c
    refine gh_aload_n gd_Model_isSameName_36 0 rfl (by decide) ?_
    refine gf_63_0 gd_Model_isSameName_37 gh_k1370 hF ?_
    refine gh_iload_n gd_Model_isSameName_40 1 rfl ?_
    refine gh_iload gd_Model_isSameName_41 5 rfl ?_
    obtain ⟨q2455, h⟩ := h
    refine gh_iadd gd_Model_isSameName_43 q2455 ?_
    obtain ⟨q2456, h⟩ := h
    obtain ⟨q2457, h⟩ := h
    refine la_64 gd_Model_isSameName_44 hF q2456 q2457 rfl ?_
    refine gh_aload_n gd_Model_isSameName_45 0 rfl (by decide) ?_
    refine gf_63_0 gd_Model_isSameName_46 gh_k1370 hF ?_
    refine gh_iload_n gd_Model_isSameName_49 2 rfl ?_
    refine gh_iload gd_Model_isSameName_50 5 rfl ?_
    obtain ⟨q2458, h⟩ := h
    refine gh_iadd gd_Model_isSameName_52 q2458 ?_
    obtain ⟨q2459, h⟩ := h
    obtain ⟨q2460, h⟩ := h
    refine la_64 gd_Model_isSameName_53 hF q2459 q2460 rfl ?_
    have k2461 : ∀ x2462 : Int, x2462 = (if ((m 64 (v1 + v5)) = (m 64 (v2 + v5))) then (1:Int) else 0) → gh_T E (gh_yModel_isSameName.cls, prog_14_method_14_code, 6, false, 8) (d + 3) 62 [(0, 2, 63), (1, 0, v1), (2, 0, v2), (3, 0, r2446), (4, 0, v4), (5, 0, v5)] [(0, x2462)] m (fun r m1 => m1 = m ∧ Q r) := by
      rintro _ rfl
      refine gh_name (fun v4' hn => ?_)
      have h := h v4' hn
      refine gh_istore (L2 := [(4, 0, v4'), (0, 2, 63), (1, 0, v1), (2, 0, v2), (3, 0, r2446), (5, 0, v5)]) gd_Model_isSameName_62 (by decide) rfl ?_
      obtain ⟨q2463, h⟩ := h
      refine gh_iinc (L2 := [(5, 0, v5 + 1), (4, 0, v4'), (0, 2, 63), (1, 0, v1), (2, 0, v2), (3, 0, r2446)]) gd_Model_isSameName_64 5 rfl q2463 (by decide) rfl ?_
      refine gh_goto (tgt := 25) gd_Model_isSameName_67 (by decide) ?_
      refine gh_pick (L2 := [(0, 2, 63), (1, 0, v1), (2, 0, v2), (3, 0, r2446), (4, 0, v4'), (5, 0, v5 + 1)]) [2, 3, 4, 5, 1, 0] rfl ?_
      exact hK25 v4' (v5 + 1) hF h
    refine gh_jne (tgt := 61) gd_Model_isSameName_54 (by decide) (fun c2464 => ?_) (fun c2464 => ?_)
    · have hz : True := trivial
      refine gh_iconst gd_Model_isSameName_57 (gh_r0 rfl) ?_
      refine gh_goto (tgt := 62) gd_Model_isSameName_58 (by decide) ?_
      exact k2461 _ (if_pos (c := ((m 64 (v1 + v5)) = (m 64 (v2 + v5)))) c2464).symm
    · have hz : True := trivial
      refine gh_iconst gd_Model_isSameName_61 (gh_r0 rfl) ?_
      exact k2461 _ (if_neg (c := ((m 64 (v1 + v5)) = (m 64 (v2 + v5)))) c2464).symm
  refine gh_jge (tgt := 70) gd_Model_isSameName_28 (by decide) (fun c2465 => ?_) (fun c2465 => ?_)
  · have hz : True := trivial
    refine gh_iload gd_Model_isSameName_31 4 rfl ?_
    refine gh_zeq (tgt := 70) gd_Model_isSameName_33 (by decide) (fun c2466 => ?_) (fun c2466 => ?_)
    · have hz : True := trivial
      exact k2452 (Or.inr c2466)
    · have hz : True := trivial
      exact k2453 (fun z => z.elim (fun w => w c2465) c2466)
  · have hz : True := trivial
    exact k2452 (Or.inl c2465)
theorem s_Model_isSameName {E : gh_E} {m : gh_M} {Q : Int → Prop} (d : Nat) (v1 : Int) (v2 : Int) (hF : gh_F m) (h : w_Model_isSameName v1 v2 m Q) : gh_C E gh_yModel_isSameName prog_14_method_14_code 6 (some .boolean) 8 (d + 3) [(2, 63), (0, v1), (0, v2)] m (fun r m1 => m1 = m ∧ Q r) := by
  refine gh_enter2 (L := [(0, 2, 63), (1, 0, v1), (2, 0, v2)]) (by decide +kernel) gh_rt8 (Nat.le_of_ble_eq_true rfl) rfl rfl ?_
  unfold w_Model_isSameName at h
  refine gh_aload_n gd_Model_isSameName_0 0 rfl (by decide) ?_
  refine gh_iload_n gd_Model_isSameName_1 1 rfl ?_
  refine cv_Model_nameLength (d := d + 2) gd_Model_isSameName_2 gh_k1665 hF (Nat.le_of_ble_eq_true rfl) (gh_C.pw (s_Model_nameLength d v1 hF h) (fun r2446 h => ?_))
  refine gh_istore_n (L2 := [(3, 0, r2446), (0, 2, 63), (1, 0, v1), (2, 0, v2)]) gd_Model_isSameName_5 (by decide) rfl ?_
  refine gh_iload_n gd_Model_isSameName_6 0 rfl ?_
  refine gh_aload_n gd_Model_isSameName_7 1 rfl (by decide) ?_
  refine gh_iload_n gd_Model_isSameName_8 3 rfl ?_
  refine cv_Model_nameLength (d := d + 2) gd_Model_isSameName_9 gh_k1665 hF (Nat.le_of_ble_eq_true rfl) (gh_C.pw (s_Model_nameLength d v2 hF h) (fun r2448 h => ?_))
  have k2450 : ∀ x2451 : Int, x2451 = (if (r2446 = r2448) then (1:Int) else 0) → gh_T E (gh_yModel_isSameName.cls, prog_14_method_14_code, 6, false, 8) (d + 3) 20 [(3, 0, r2446), (0, 2, 63), (1, 0, v1), (2, 0, v2)] [(0, x2451)] m (fun r m1 => m1 = m ∧ Q r) := by
    rintro _ rfl
    refine gh_name (fun v4 hn => ?_)
    have h := h v4 hn
    refine gh_istore (L2 := [(4, 0, v4), (3, 0, r2446), (0, 2, 63), (1, 0, v1), (2, 0, v2)]) gd_Model_isSameName_20 (by decide) rfl ?_
    refine gh_iconst gd_Model_isSameName_22 (gh_r0 rfl) ?_
    refine gh_istore (L2 := [(5, 0, 0), (4, 0, v4), (3, 0, r2446), (0, 2, 63), (1, 0, v1), (2, 0, v2)]) gd_Model_isSameName_23 (by decide) rfl ?_
    refine gh_pick (L2 := [(0, 2, 63), (1, 0, v1), (2, 0, v2), (3, 0, r2446), (4, 0, v4), (5, 0, 0)]) [3, 4, 5, 2, 1, 0] rfl ?_
    exact gh_L2_sound (T := fun v4 v5 => gh_T E (gh_yModel_isSameName.cls, prog_14_method_14_code, 6, false, 8) (d + 3) 25 [(0, 2, 63), (1, 0, v1), (2, 0, v2), (3, 0, r2446), (4, 0, v4), (5, 0, v5)] [] m (fun r m1 => m1 = m ∧ Q r)) (fun _ _ => gh_F m) (fun K25 v4 v5 hK hF h => b_Model_isSameName_25 d hK v4 v5 hF h) v4 0 hF h
  refine gh_jne (tgt := 19) gd_Model_isSameName_12 (by decide) (fun c2467 => ?_) (fun c2467 => ?_)
  · have hz : True := trivial
    refine gh_iconst gd_Model_isSameName_15 (gh_r0 rfl) ?_
    refine gh_goto (tgt := 20) gd_Model_isSameName_16 (by decide) ?_
    exact k2450 _ (if_pos (c := (r2446 = r2448)) c2467).symm
  · have hz : True := trivial
    refine gh_iconst gd_Model_isSameName_19 (gh_r0 rfl) ?_
    exact k2450 _ (if_neg (c := (r2446 = r2448)) c2467).symm
def f_Model_toldOf_4 (v1 : Int) (Q : Int → Prop) (m : gh_M) (K4 : Int → Int → Prop) (v2 : Int) (v3 : Int) : Prop := ((v3 < (m 63 8) → 0 ≤ v3 ∧ v3 < 8 ∧ w_Model_isSameName (m 65 v3) v1 m (fun r2471 => ∀ v2' : Int, v2' = (if r2471 = 0 then v2 else v3) → gh_i (v3 + 1) ∧ K4 v2' (v3 + 1))) ∧ (¬ (v3 < (m 63 8)) → Q v2))
def w_Model_toldOf (v1 : Int) (m : gh_M) (Q : Int → Prop) : Prop := gh_L2 (fun K4 v2 v3 => f_Model_toldOf_4 v1 Q m K4 v2 v3) (-1) 0
theorem b_Model_toldOf_4 {E : gh_E} {v1 : Int} {Q : Int → Prop} {K4 : Int → Int → Prop} (d : Nat) {m : gh_M} (hK : ∀ (v2 : Int) (v3 : Int), gh_F m → K4 v2 v3 → gh_T E (gh_yModel_toldOf.cls, prog_14_method_15_code, 4, false, 0) (d + 4) 4 [(0, 2, 63), (1, 0, v1), (2, 0, v2), (3, 0, v3)] [] m (fun r m1 => m1 = m ∧ Q r)) (v2 : Int) (v3 : Int) (hF : gh_F m) (h : f_Model_toldOf_4 v1 Q m K4 v2 v3) : gh_T E (gh_yModel_toldOf.cls, prog_14_method_15_code, 4, false, 0) (d + 4) 4 [(0, 2, 63), (1, 0, v1), (2, 0, v2), (3, 0, v3)] [] m (fun r m1 => m1 = m ∧ Q r) := by
  have hK4 := hK
  unfold f_Model_toldOf_4 at h
  refine gh_iload_n gd_Model_toldOf_4 3 rfl ?_
  refine gh_aload_n gd_Model_toldOf_5 0 rfl (by decide) ?_
  refine gf_63_8 gd_Model_toldOf_6 gh_k1378 hF rfl ?_
  obtain ⟨hA, hB⟩ := h
  refine gh_jge (tgt := 38) gd_Model_toldOf_9 (by decide) (fun c2468 => ?_) (fun c2468 => ?_)
  · have h := hA c2468
    refine gh_aload_n gd_Model_toldOf_12 0 rfl (by decide) ?_
    refine gh_aload_n gd_Model_toldOf_13 0 rfl (by decide) ?_
    refine gf_63_10 gd_Model_toldOf_14 gh_k1380 hF ?_
    refine gh_iload_n gd_Model_toldOf_17 3 rfl ?_
    obtain ⟨q2469, h⟩ := h
    obtain ⟨q2470, h⟩ := h
    refine la_65 gd_Model_toldOf_18 hF q2469 q2470 rfl ?_
    refine gh_iload_n gd_Model_toldOf_19 1 rfl ?_
    refine cv_Model_isSameName (d := d + 3) gd_Model_toldOf_20 gh_k1684 hF (Nat.le_of_ble_eq_true rfl) (gh_C.pw (s_Model_isSameName d (m 65 v3) v1 hF h) (fun r2471 h => ?_))
    have k2473 : ∀ x2474 : Int, x2474 = (if r2471 = 0 then v2 else v3) → gh_T E (gh_yModel_toldOf.cls, prog_14_method_15_code, 4, false, 0) (d + 4) 31 [(0, 2, 63), (1, 0, v1), (2, 0, v2), (3, 0, v3)] [(0, x2474)] m (fun r m1 => m1 = m ∧ Q r) := by
      rintro _ rfl
      refine gh_name (fun v2' hn => ?_)
      have h := h v2' hn
      refine gh_istore_n (L2 := [(2, 0, v2'), (0, 2, 63), (1, 0, v1), (3, 0, v3)]) gd_Model_toldOf_31 (by decide) rfl ?_
      obtain ⟨q2475, h⟩ := h
      refine gh_iinc (L2 := [(3, 0, v3 + 1), (2, 0, v2'), (0, 2, 63), (1, 0, v1)]) gd_Model_toldOf_32 3 rfl q2475 (by decide) rfl ?_
      refine gh_goto (tgt := 4) gd_Model_toldOf_35 (by decide) ?_
      refine gh_pick (L2 := [(0, 2, 63), (1, 0, v1), (2, 0, v2'), (3, 0, v3 + 1)]) [2, 3, 1, 0] rfl ?_
      exact hK4 v2' (v3 + 1) hF h
    refine gh_zeq (tgt := 30) gd_Model_toldOf_23 (by decide) (fun c2476 => ?_) (fun c2476 => ?_)
    · have hz : True := trivial
      refine gh_iload_n gd_Model_toldOf_30 2 rfl ?_
      exact k2473 _ (by rw [if_pos c2476])
    · have hz : True := trivial
      refine gh_iload_n gd_Model_toldOf_26 3 rfl ?_
      refine gh_goto (tgt := 31) gd_Model_toldOf_27 (by decide) ?_
      exact k2473 _ (by rw [if_neg c2476])
  · have h := hB c2468
    refine gh_iload_n gd_Model_toldOf_38 2 rfl ?_
    exact gh_ret0 rfl gd_Model_toldOf_39 ⟨rfl, h⟩
theorem s_Model_toldOf {E : gh_E} {m : gh_M} {Q : Int → Prop} (d : Nat) (v1 : Int) (hF : gh_F m) (h : w_Model_toldOf v1 m Q) : gh_C E gh_yModel_toldOf prog_14_method_15_code 4 (some .int) 0 (d + 4) [(2, 63), (0, v1)] m (fun r m1 => m1 = m ∧ Q r) := by
  refine gh_enter2 (L := [(0, 2, 63), (1, 0, v1)]) (by decide +kernel) gh_rt0 (Nat.le_of_ble_eq_true rfl) rfl rfl ?_
  unfold w_Model_toldOf at h
  refine gh_iconst gd_Model_toldOf_0 (gh_r0 rfl) ?_
  refine gh_istore_n (L2 := [(2, 0, (-1)), (0, 2, 63), (1, 0, v1)]) gd_Model_toldOf_1 (by decide) rfl ?_
  refine gh_iconst gd_Model_toldOf_2 (gh_r0 rfl) ?_
  refine gh_istore_n (L2 := [(3, 0, 0), (2, 0, (-1)), (0, 2, 63), (1, 0, v1)]) gd_Model_toldOf_3 (by decide) rfl ?_
  refine gh_pick (L2 := [(0, 2, 63), (1, 0, v1), (2, 0, (-1)), (3, 0, 0)]) [2, 3, 1, 0] rfl ?_
  exact gh_L2_sound (T := fun v2 v3 => gh_T E (gh_yModel_toldOf.cls, prog_14_method_15_code, 4, false, 0) (d + 4) 4 [(0, 2, 63), (1, 0, v1), (2, 0, v2), (3, 0, v3)] [] m (fun r m1 => m1 = m ∧ Q r)) (fun _ _ => gh_F m) (fun K4 v2 v3 hK hF h => b_Model_toldOf_4 d hK v2 v3 hF h) (-1) 0 hF h
def w_Model_takesHead (m : gh_M) (Q : Int → gh_M → Prop) : Prop := (((m 63 5) = 2 → w_Model_toldOf (m 63 6) m (fun r2478 => ((r2478 = (-1) → gh_i ((m 63 8) + (m 63 9)) ∧ ((((m 63 8) + (m 63 9)) = 8 → Q 3 m) ∧ (¬ (((m 63 8) + (m 63 9)) = 8) → 0 ≤ m 63 8 ∧ (m 63 8) < 8 ∧ gh_i ((m 63 8) + 1) ∧ Q 0 (gh_u (gh_u m 65 (m 63 8) (m 63 6)) 63 8 ((m 63 8) + 1))))) ∧ (¬ (r2478 = (-1)) → Q 4 m)))) ∧ (¬ ((m 63 5) = 2) → Q 2 m))
theorem s_Model_takesHead {E : gh_E} {m : gh_M} {Q : Int → gh_M → Prop} (d : Nat) (hF : gh_F m) (h : w_Model_takesHead m Q) : gh_C E gh_yModel_takesHead prog_14_method_25_code 1 (some .int) 0 (d + 5) [(2, 63)] m (fun r m1 => gh_F m1 ∧ Q r m1) := by
  refine gh_enter2 (L := [(0, 2, 63)]) (by decide +kernel) gh_rt0 (Nat.le_of_ble_eq_true rfl) rfl rfl ?_
  unfold w_Model_takesHead at h
  refine gh_aload_n gd_Model_takesHead_0 0 rfl (by decide) ?_
  refine gf_63_5 gd_Model_takesHead_1 gh_k1375 hF rfl ?_
  refine gh_iconst gd_Model_takesHead_4 (gh_r0 rfl) ?_
  obtain ⟨hA, hB⟩ := h
  refine gh_jeq (tgt := 10) gd_Model_takesHead_5 (by decide) (fun c2477 => ?_) (fun c2477 => ?_)
  · have h := hA c2477
    refine gh_aload_n gd_Model_takesHead_10 0 rfl (by decide) ?_
    refine gh_aload_n gd_Model_takesHead_11 0 rfl (by decide) ?_
    refine gf_63_6 gd_Model_takesHead_12 gh_k1376 hF rfl ?_
    refine cv_Model_toldOf (d := d + 4) gd_Model_takesHead_15 gh_k1680 hF (Nat.le_of_ble_eq_true rfl) (gh_C.pw (s_Model_toldOf d (m 63 6) hF h) (fun r2478 h => ?_))
    refine gh_iconst gd_Model_takesHead_18 (gh_r0 rfl) ?_
    obtain ⟨hA, hB⟩ := h
    refine gh_jeq (tgt := 24) gd_Model_takesHead_19 (by decide) (fun c2480 => ?_) (fun c2480 => ?_)
    · have h := hA c2480
      refine gh_aload_n gd_Model_takesHead_24 0 rfl (by decide) ?_
      refine gf_63_8 gd_Model_takesHead_25 gh_k1378 hF rfl ?_
      refine gh_aload_n gd_Model_takesHead_28 0 rfl (by decide) ?_
      refine gf_63_9 gd_Model_takesHead_29 gh_k1379 hF rfl ?_
      obtain ⟨q2481, h⟩ := h
      refine gh_iadd gd_Model_takesHead_32 q2481 ?_
      refine gh_bipush gd_Model_takesHead_33 (by decide) (gh_r0 rfl) ?_
      obtain ⟨hA, hB⟩ := h
      refine gh_jne (tgt := 40) gd_Model_takesHead_35 (by decide) (fun c2482 => ?_) (fun c2482 => ?_)
      · have h := hA c2482
        refine gh_iconst gd_Model_takesHead_38 (gh_r0 rfl) ?_
        exact gh_ret0 rfl gd_Model_takesHead_39 ⟨hF, h⟩
      · have h := hB c2482
        refine gh_aload_n gd_Model_takesHead_40 0 rfl (by decide) ?_
        refine gf_63_10 gd_Model_takesHead_41 gh_k1380 hF ?_
        refine gh_aload_n gd_Model_takesHead_44 0 rfl (by decide) ?_
        refine gf_63_8 gd_Model_takesHead_45 gh_k1378 hF rfl ?_
        refine gh_aload_n gd_Model_takesHead_48 0 rfl (by decide) ?_
        refine gf_63_6 gd_Model_takesHead_49 gh_k1376 hF rfl ?_
        obtain ⟨q2483, h⟩ := h
        obtain ⟨q2484, h⟩ := h
        refine sa_65 gd_Model_takesHead_52 hF q2483 q2484 (fun hF => ?_)
        refine gh_aload_n gd_Model_takesHead_53 0 rfl (by decide) ?_
        refine gh_dup gd_Model_takesHead_54 (by decide) ?_
        refine gf_63_8 gd_Model_takesHead_55 gh_k1378 hF (gh_u_a (by decide)) ?_
        refine gh_iconst gd_Model_takesHead_58 (gh_r0 rfl) ?_
        obtain ⟨q2485, h⟩ := h
        refine gh_iadd gd_Model_takesHead_59 q2485 ?_
        refine pf_63_8 gd_Model_takesHead_60 gh_k1378 hF (fun hF => ?_)
        refine gh_iconst gd_Model_takesHead_63 (gh_r0 rfl) ?_
        exact gh_ret0 rfl gd_Model_takesHead_64 ⟨hF, h⟩
    · have h := hB c2480
      refine gh_iconst gd_Model_takesHead_22 (gh_r0 rfl) ?_
      exact gh_ret0 rfl gd_Model_takesHead_23 ⟨hF, h⟩
  · have h := hB c2477
    refine gh_iconst gd_Model_takesHead_8 (gh_r0 rfl) ?_
    exact gh_ret0 rfl gd_Model_takesHead_9 ⟨hF, h⟩
def w_Model_addPart (v1 : Int) (m : gh_M) (Q : Int → gh_M → Prop) : Prop := gh_i (4 * (m 63 15)) ∧ 0 ≤ m 63 15 ∧ (m 63 15) < 4 ∧ gh_i ((4 * (m 63 15)) + (m 71 (m 63 15))) ∧ 0 ≤ (4 * (m 63 15)) + (m 71 (m 63 15)) ∧ ((4 * (m 63 15)) + (m 71 (m 63 15))) < 16 ∧ 0 ≤ m 63 15 ∧ (m 63 15) < 4 ∧ gh_i ((m 71 (m 63 15)) + 1) ∧ 0 ≤ m 63 15 ∧ (m 63 15) < 4 ∧ Q 0 (gh_u (gh_u m 72 ((4 * (m 63 15)) + (m 71 (m 63 15))) v1) 71 (m 63 15) ((m 71 (m 63 15)) + 1))
theorem s_Model_addPart {E : gh_E} {m : gh_M} {Q : Int → gh_M → Prop} (d : Nat) (v1 : Int) (hF : gh_F m) (h : w_Model_addPart v1 m Q) : gh_C E gh_yModel_addPart prog_14_method_17_code 2 none 9 (d + 0) [(2, 63), (0, v1)] m (fun r m1 => gh_F m1 ∧ Q r m1) := by
  refine gh_enter2 (L := [(0, 2, 63), (1, 0, v1)]) (by decide +kernel) gh_rt9 (Nat.le_of_ble_eq_true rfl) rfl rfl ?_
  unfold w_Model_addPart at h
  refine gh_aload_n gd_Model_addPart_0 0 rfl (by decide) ?_
  refine gf_63_20 gd_Model_addPart_1 gh_k1390 hF ?_
  refine gh_iconst gd_Model_addPart_4 (gh_r0 rfl) ?_
  refine gh_aload_n gd_Model_addPart_5 0 rfl (by decide) ?_
  refine gf_63_15 gd_Model_addPart_6 gh_k1385 hF rfl ?_
  obtain ⟨q2486, h⟩ := h
  refine gh_imul gd_Model_addPart_9 q2486 ?_
  refine gh_aload_n gd_Model_addPart_10 0 rfl (by decide) ?_
  refine gf_63_19 gd_Model_addPart_11 gh_k1389 hF ?_
  refine gh_aload_n gd_Model_addPart_14 0 rfl (by decide) ?_
  refine gf_63_15 gd_Model_addPart_15 gh_k1385 hF rfl ?_
  obtain ⟨q2487, h⟩ := h
  obtain ⟨q2488, h⟩ := h
  refine la_71 gd_Model_addPart_18 hF q2487 q2488 rfl ?_
  obtain ⟨q2489, h⟩ := h
  refine gh_iadd gd_Model_addPart_19 q2489 ?_
  refine gh_iload_n gd_Model_addPart_20 1 rfl ?_
  obtain ⟨q2490, h⟩ := h
  obtain ⟨q2491, h⟩ := h
  refine sa_72 gd_Model_addPart_21 hF q2490 q2491 (fun hF => ?_)
  refine gh_aload_n gd_Model_addPart_22 0 rfl (by decide) ?_
  refine gf_63_19 gd_Model_addPart_23 gh_k1389 hF ?_
  refine gh_aload_n gd_Model_addPart_26 0 rfl (by decide) ?_
  refine gf_63_15 gd_Model_addPart_27 gh_k1385 hF (gh_u_a (by decide)) ?_
  refine gh_dup2 gd_Model_addPart_30 (by decide) (by decide) ?_
  obtain ⟨q2492, h⟩ := h
  obtain ⟨q2493, h⟩ := h
  refine la_71 gd_Model_addPart_31 hF q2492 q2493 (gh_u_a (by decide)) ?_
  refine gh_iconst gd_Model_addPart_32 (gh_r0 rfl) ?_
  obtain ⟨q2494, h⟩ := h
  refine gh_iadd gd_Model_addPart_33 q2494 ?_
  obtain ⟨q2495, h⟩ := h
  obtain ⟨q2496, h⟩ := h
  refine sa_71 gd_Model_addPart_34 hF q2495 q2496 (fun hF => ?_)
  exact gh_ret9 rfl gd_Model_addPart_35 ⟨hF, h⟩
def f_Model_takesSets_142 (y0 : Int) (J173 : gh_M → Prop) (K142 : Int → gh_M → Prop) (v2 : Int) (m : gh_M) : Prop := ((v2 ≤ y0 → gh_i ((m 63 6) + v2) ∧ 0 ≤ (m 63 6) + v2 ∧ ((m 63 6) + v2) < 240 ∧ gh_i ((m 64 ((m 63 6) + v2)) - 97) ∧ w_Model_addPart (gh_ishl_f 1 ((m 64 ((m 63 6) + v2)) - 97)) m (fun _ m2529 => gh_i (v2 + 1) ∧ K142 (v2 + 1) m2529)) ∧ (¬ (v2 ≤ y0) → J173 m))
def w_Model_takesSets (m : gh_M) (Q : Int → gh_M → Prop) : Prop := ∃ J22 : Int → Prop, (∀ (y0 : Int), J22 y0 → 0 ≤ m 63 15 ∧ (m 63 15) < 4 ∧ gh_i ((m 71 (m 63 15)) + y0) ∧ ((((m 71 (m 63 15)) + y0) ≤ 4 → ∃ J173 : gh_M → Prop, (∀ (m : gh_M), J173 m → 0 ≤ m 63 15 ∧ (m 63 15) < 4 ∧ Q 0 (gh_u m 73 (m 63 15) y0)) ∧ (((m 63 5) = 2 → 0 ≤ m 63 22 ∧ (m 63 22) < 240 ∧ gh_i ((m 63 22) + 1) ∧ gh_i ((-1000) - (m 63 6)) ∧ w_Model_addPart ((-1000) - (m 63 6)) (gh_u (gh_u m 74 (m 63 22) (m 63 6)) 63 22 ((m 63 22) + 1)) (fun _ m2509 => J173 m2509)) ∧ (¬ ((m 63 5) = 2) → (((m 63 5) = 4 → gh_i ((m 63 6) + 1) ∧ 0 ≤ (m 63 6) + 1 ∧ ((m 63 6) + 1) < 240 ∧ gh_i ((m 64 ((m 63 6) + 1)) - 97) ∧ ∀ v2 : Int, v2 = (m 64 ((m 63 6) + 1)) - 97 → gh_i ((m 63 6) + 3) ∧ 0 ≤ (m 63 6) + 3 ∧ ((m 63 6) + 3) < 240 ∧ gh_i ((m 64 ((m 63 6) + 3)) - 97) ∧ ∀ v3 : Int, v3 = (m 64 ((m 63 6) + 3)) - 97 → gh_i (v3 + 1) ∧ gh_i ((gh_ishl_f 1 (v3 + 1)) - (gh_ishl_f 1 v2)) ∧ w_Model_addPart ((gh_ishl_f 1 (v3 + 1)) - (gh_ishl_f 1 v2)) m (fun _ m2522 => J173 m2522)) ∧ (¬ ((m 63 5) = 4) → gh_M1 (fun K142 v2 m => f_Model_takesSets_142 y0 J173 K142 v2 m) 1 m))))) ∧ (¬ (((m 71 (m 63 15)) + y0) ≤ 4) → Q 3 m))) ∧ (((m 63 5) = 3 → gh_i ((m 63 6) + 1) ∧ w_Model_smallsFrom ((m 63 6) + 1) m (fun r2533 => J22 r2533)) ∧ (¬ ((m 63 5) = 3) → J22 1))
theorem b_Model_takesSets_142 {E : gh_E} {y0 : Int} {J173 : gh_M → Prop} {Q : Int → gh_M → Prop} {K142 : Int → gh_M → Prop} (d : Nat) (hJ173 : ∀ (m : gh_M), gh_F m → J173 m → gh_T E (gh_yModel_takesSets.cls, prog_14_method_23_code, 4, false, 0) (d + 3) 173 [(0, 2, 63), (1, 0, y0)] [] m (fun r m1 => gh_F m1 ∧ Q r m1)) (hK : ∀ (v2 : Int) (m : gh_M), gh_F m → K142 v2 m → gh_T E (gh_yModel_takesSets.cls, prog_14_method_23_code, 4, false, 0) (d + 3) 142 [(0, 2, 63), (1, 0, y0), (2, 0, v2)] [] m (fun r m1 => gh_F m1 ∧ Q r m1)) (v2 : Int) (m : gh_M) (hF : gh_F m) (h : f_Model_takesSets_142 y0 J173 K142 v2 m) : gh_T E (gh_yModel_takesSets.cls, prog_14_method_23_code, 4, false, 0) (d + 3) 142 [(0, 2, 63), (1, 0, y0), (2, 0, v2)] [] m (fun r m1 => gh_F m1 ∧ Q r m1) := by
  have hK142 := hK
  unfold f_Model_takesSets_142 at h
  refine gh_iload_n gd_Model_takesSets_142 2 rfl ?_
  refine gh_iload_n gd_Model_takesSets_143 1 rfl ?_
  obtain ⟨hA, hB⟩ := h
  refine gh_jgt (tgt := 173) gd_Model_takesSets_144 (by decide) (fun c2523 => ?_) (fun c2523 => ?_)
  · have h := hA c2523
    refine gh_aload_n gd_Model_takesSets_147 0 rfl (by decide) ?_
    refine gh_iconst gd_Model_takesSets_148 (gh_r0 rfl) ?_
    refine gh_aload_n gd_Model_takesSets_149 0 rfl (by decide) ?_
    refine gf_63_0 gd_Model_takesSets_150 gh_k1370 hF ?_
    refine gh_aload_n gd_Model_takesSets_153 0 rfl (by decide) ?_
    refine gf_63_6 gd_Model_takesSets_154 gh_k1376 hF rfl ?_
    refine gh_iload_n gd_Model_takesSets_157 2 rfl ?_
    obtain ⟨q2524, h⟩ := h
    refine gh_iadd gd_Model_takesSets_158 q2524 ?_
    obtain ⟨q2525, h⟩ := h
    obtain ⟨q2526, h⟩ := h
    refine la_64 gd_Model_takesSets_159 hF q2525 q2526 rfl ?_
    refine gh_bipush gd_Model_takesSets_160 (by decide) (gh_r0 rfl) ?_
    obtain ⟨q2527, h⟩ := h
    refine gh_isub gd_Model_takesSets_162 q2527 ?_
    refine gh_ishl gd_Model_takesSets_163 ?_
    refine cv_Model_addPart (d := d + 2) gd_Model_takesSets_164 gh_k1696 hF (Nat.le_of_ble_eq_true rfl) (gh_C.mono (s_Model_addPart (d + 2) (gh_ishl_f 1 ((m 64 ((m 63 6) + v2)) - 97)) hF h) (fun r2528 m2529 hq => ?_))
    obtain ⟨hF, h⟩ := hq
    obtain ⟨q2530, h⟩ := h
    refine gh_iinc (L2 := [(2, 0, v2 + 1), (0, 2, 63), (1, 0, y0)]) gd_Model_takesSets_167 2 rfl q2530 (by decide) rfl ?_
    refine gh_goto (tgt := 142) gd_Model_takesSets_170 (by decide) ?_
    refine gh_pick (L2 := [(0, 2, 63), (1, 0, y0), (2, 0, v2 + 1)]) [1, 2, 0] rfl ?_
    exact hK142 (v2 + 1) m2529 hF h
  · have h := hB c2523
    refine gh_pick (L2 := [(0, 2, 63), (1, 0, y0)]) [0, 1] rfl ?_
    exact hJ173 m hF h
theorem s_Model_takesSets {E : gh_E} {m : gh_M} {Q : Int → gh_M → Prop} (d : Nat) (hF : gh_F m) (h : w_Model_takesSets m Q) : gh_C E gh_yModel_takesSets prog_14_method_23_code 4 (some .int) 0 (d + 3) [(2, 63)] m (fun r m1 => gh_F m1 ∧ Q r m1) := by
  refine gh_enter2 (L := [(0, 2, 63)]) (by decide +kernel) gh_rt0 (Nat.le_of_ble_eq_true rfl) rfl rfl ?_
  unfold w_Model_takesSets at h
  refine gh_aload_n gd_Model_takesSets_0 0 rfl (by decide) ?_
  refine gf_63_5 gd_Model_takesSets_1 gh_k1375 hF rfl ?_
  refine gh_iconst gd_Model_takesSets_4 (gh_r0 rfl) ?_
  obtain ⟨J22, hJ22, h⟩ := h
  have hJ22 : ∀ (y0 : Int), gh_F m → J22 y0 → gh_T E (gh_yModel_takesSets.cls, prog_14_method_23_code, 4, false, 0) (d + 3) 22 [(0, 2, 63)] [(0, y0)] m (fun r m1 => gh_F m1 ∧ Q r m1) := by
    intro y0 hF hj
    have h := hJ22 y0 hj
    refine gh_istore_n (L2 := [(1, 0, y0), (0, 2, 63)]) gd_Model_takesSets_22 (by decide) rfl ?_
    refine gh_aload_n gd_Model_takesSets_23 1 rfl (by decide) ?_
    refine gf_63_19 gd_Model_takesSets_24 gh_k1389 hF ?_
    refine gh_aload_n gd_Model_takesSets_27 1 rfl (by decide) ?_
    refine gf_63_15 gd_Model_takesSets_28 gh_k1385 hF rfl ?_
    obtain ⟨q2497, h⟩ := h
    obtain ⟨q2498, h⟩ := h
    refine la_71 gd_Model_takesSets_31 hF q2497 q2498 rfl ?_
    refine gh_iload_n gd_Model_takesSets_32 0 rfl ?_
    obtain ⟨q2499, h⟩ := h
    refine gh_iadd gd_Model_takesSets_33 q2499 ?_
    refine gh_iconst gd_Model_takesSets_34 (gh_r0 rfl) ?_
    obtain ⟨hA, hB⟩ := h
    refine gh_jle (tgt := 40) gd_Model_takesSets_35 (by decide) (fun c2500 => ?_) (fun c2500 => ?_)
    · have h := hA c2500
      refine gh_aload_n gd_Model_takesSets_40 1 rfl (by decide) ?_
      refine gf_63_5 gd_Model_takesSets_41 gh_k1375 hF rfl ?_
      refine gh_iconst gd_Model_takesSets_44 (gh_r0 rfl) ?_
      obtain ⟨J173, hJ173, h⟩ := h
      have hJ173 : ∀ (m : gh_M), gh_F m → J173 m → gh_T E (gh_yModel_takesSets.cls, prog_14_method_23_code, 4, false, 0) (d + 3) 173 [(0, 2, 63), (1, 0, y0)] [] m (fun r m1 => gh_F m1 ∧ Q r m1) := by
        intro m hF hj
        have h := hJ173 m hj
        refine gh_aload_n gd_Model_takesSets_173 0 rfl (by decide) ?_
        refine gf_63_21 gd_Model_takesSets_174 gh_k1391 hF ?_
        refine gh_aload_n gd_Model_takesSets_177 0 rfl (by decide) ?_
        refine gf_63_15 gd_Model_takesSets_178 gh_k1385 hF rfl ?_
        refine gh_iload_n gd_Model_takesSets_181 1 rfl ?_
        obtain ⟨q2501, h⟩ := h
        obtain ⟨q2502, h⟩ := h
        refine sa_73 gd_Model_takesSets_182 hF q2501 q2502 (fun hF => ?_)
        refine gh_iconst gd_Model_takesSets_183 (gh_r0 rfl) ?_
        exact gh_ret0 rfl gd_Model_takesSets_184 ⟨hF, h⟩
      obtain ⟨hA, hB⟩ := h
      refine gh_jne (tgt := 86) gd_Model_takesSets_45 (by decide) (fun c2503 => ?_) (fun c2503 => ?_)
      · have h := hA c2503
        refine gh_aload_n gd_Model_takesSets_48 1 rfl (by decide) ?_
        refine gf_63_23 gd_Model_takesSets_49 gh_k1393 hF ?_
        refine gh_aload_n gd_Model_takesSets_52 1 rfl (by decide) ?_
        refine gf_63_22 gd_Model_takesSets_53 gh_k1392 hF rfl ?_
        refine gh_aload_n gd_Model_takesSets_56 1 rfl (by decide) ?_
        refine gf_63_6 gd_Model_takesSets_57 gh_k1376 hF rfl ?_
        obtain ⟨q2504, h⟩ := h
        obtain ⟨q2505, h⟩ := h
        refine sa_74 gd_Model_takesSets_60 hF q2504 q2505 (fun hF => ?_)
        refine gh_aload_n gd_Model_takesSets_61 1 rfl (by decide) ?_
        refine gh_dup gd_Model_takesSets_62 (by decide) ?_
        refine gf_63_22 gd_Model_takesSets_63 gh_k1392 hF (gh_u_a (by decide)) ?_
        refine gh_iconst gd_Model_takesSets_66 (gh_r0 rfl) ?_
        obtain ⟨q2506, h⟩ := h
        refine gh_iadd gd_Model_takesSets_67 q2506 ?_
        refine pf_63_22 gd_Model_takesSets_68 gh_k1392 hF (fun hF => ?_)
        refine gh_aload_n gd_Model_takesSets_71 1 rfl (by decide) ?_
        refine gh_sipush gd_Model_takesSets_72 (by decide) (gh_r0 rfl) ?_
        refine gh_aload_n gd_Model_takesSets_75 1 rfl (by decide) ?_
        refine gf_63_6 gd_Model_takesSets_76 gh_k1376 hF ((gh_u_i (by decide)).trans (gh_u_a (by decide))) ?_
        obtain ⟨q2507, h⟩ := h
        refine gh_isub gd_Model_takesSets_79 q2507 ?_
        refine cv_Model_addPart (d := d + 2) gd_Model_takesSets_80 gh_k1696 hF (Nat.le_of_ble_eq_true rfl) (gh_C.mono (s_Model_addPart (d + 2) ((-1000) - (m 63 6)) hF h) (fun r2508 m2509 hq => ?_))
        obtain ⟨hF, h⟩ := hq
        refine gh_goto (tgt := 173) gd_Model_takesSets_83 (by decide) ?_
        refine gh_pick (L2 := [(0, 2, 63), (1, 0, y0)]) [1, 0] rfl ?_
        exact hJ173 m2509 hF h
      · have h := hB c2503
        refine gh_aload_n gd_Model_takesSets_86 1 rfl (by decide) ?_
        refine gf_63_5 gd_Model_takesSets_87 gh_k1375 hF rfl ?_
        refine gh_iconst gd_Model_takesSets_90 (gh_r0 rfl) ?_
        obtain ⟨hA, hB⟩ := h
        refine gh_jne (tgt := 140) gd_Model_takesSets_91 (by decide) (fun c2510 => ?_) (fun c2510 => ?_)
        · have h := hA c2510
          refine gh_aload_n gd_Model_takesSets_94 1 rfl (by decide) ?_
          refine gf_63_0 gd_Model_takesSets_95 gh_k1370 hF ?_
          refine gh_aload_n gd_Model_takesSets_98 1 rfl (by decide) ?_
          refine gf_63_6 gd_Model_takesSets_99 gh_k1376 hF rfl ?_
          refine gh_iconst gd_Model_takesSets_102 (gh_r0 rfl) ?_
          obtain ⟨q2511, h⟩ := h
          refine gh_iadd gd_Model_takesSets_103 q2511 ?_
          obtain ⟨q2512, h⟩ := h
          obtain ⟨q2513, h⟩ := h
          refine la_64 gd_Model_takesSets_104 hF q2512 q2513 rfl ?_
          refine gh_bipush gd_Model_takesSets_105 (by decide) (gh_r0 rfl) ?_
          obtain ⟨q2514, h⟩ := h
          refine gh_isub gd_Model_takesSets_107 q2514 ?_
          refine gh_name (fun v2 hn => ?_)
          have h := h v2 hn
          refine gh_istore_n (L2 := [(2, 0, v2), (1, 0, y0), (0, 2, 63)]) gd_Model_takesSets_108 (by decide) rfl ?_
          refine gh_aload_n gd_Model_takesSets_109 2 rfl (by decide) ?_
          refine gf_63_0 gd_Model_takesSets_110 gh_k1370 hF ?_
          refine gh_aload_n gd_Model_takesSets_113 2 rfl (by decide) ?_
          refine gf_63_6 gd_Model_takesSets_114 gh_k1376 hF rfl ?_
          refine gh_iconst gd_Model_takesSets_117 (gh_r0 rfl) ?_
          obtain ⟨q2515, h⟩ := h
          refine gh_iadd gd_Model_takesSets_118 q2515 ?_
          obtain ⟨q2516, h⟩ := h
          obtain ⟨q2517, h⟩ := h
          refine la_64 gd_Model_takesSets_119 hF q2516 q2517 rfl ?_
          refine gh_bipush gd_Model_takesSets_120 (by decide) (gh_r0 rfl) ?_
          obtain ⟨q2518, h⟩ := h
          refine gh_isub gd_Model_takesSets_122 q2518 ?_
          refine gh_name (fun v3 hn => ?_)
          have h := h v3 hn
          refine gh_istore_n (L2 := [(3, 0, v3), (2, 0, v2), (1, 0, y0), (0, 2, 63)]) gd_Model_takesSets_123 (by decide) rfl ?_
          refine gh_aload_n gd_Model_takesSets_124 3 rfl (by decide) ?_
          refine gh_iconst gd_Model_takesSets_125 (gh_r0 rfl) ?_
          refine gh_iload_n gd_Model_takesSets_126 0 rfl ?_
          refine gh_iconst gd_Model_takesSets_127 (gh_r0 rfl) ?_
          obtain ⟨q2519, h⟩ := h
          refine gh_iadd gd_Model_takesSets_128 q2519 ?_
          refine gh_ishl gd_Model_takesSets_129 ?_
          refine gh_iconst gd_Model_takesSets_130 (gh_r0 rfl) ?_
          refine gh_iload_n gd_Model_takesSets_131 1 rfl ?_
          refine gh_ishl gd_Model_takesSets_132 ?_
          obtain ⟨q2520, h⟩ := h
          refine gh_isub gd_Model_takesSets_133 q2520 ?_
          refine cv_Model_addPart (d := d + 2) gd_Model_takesSets_134 gh_k1696 hF (Nat.le_of_ble_eq_true rfl) (gh_C.mono (s_Model_addPart (d + 2) ((gh_ishl_f 1 (v3 + 1)) - (gh_ishl_f 1 v2)) hF h) (fun r2521 m2522 hq => ?_))
          obtain ⟨hF, h⟩ := hq
          refine gh_goto (tgt := 173) gd_Model_takesSets_137 (by decide) ?_
          refine gh_pick (L2 := [(0, 2, 63), (1, 0, y0)]) [3, 2] rfl ?_
          exact hJ173 m2522 hF h
        · have h := hB c2510
          refine gh_iconst gd_Model_takesSets_140 (gh_r0 rfl) ?_
          refine gh_istore_n (L2 := [(2, 0, 1), (1, 0, y0), (0, 2, 63)]) gd_Model_takesSets_141 (by decide) rfl ?_
          refine gh_pick (L2 := [(0, 2, 63), (1, 0, y0), (2, 0, 1)]) [2, 1, 0] rfl ?_
          exact gh_M1_sound (T := fun v2 m => gh_T E (gh_yModel_takesSets.cls, prog_14_method_23_code, 4, false, 0) (d + 3) 142 [(0, 2, 63), (1, 0, y0), (2, 0, v2)] [] m (fun r m1 => gh_F m1 ∧ Q r m1)) (fun _ m => gh_F m) (fun K142 v2 m hK hF h => b_Model_takesSets_142 d hJ173 hK v2 m hF h) 1 m hF h
    · have h := hB c2500
      refine gh_iconst gd_Model_takesSets_38 (gh_r0 rfl) ?_
      exact gh_ret0 rfl gd_Model_takesSets_39 ⟨hF, h⟩
  obtain ⟨hA, hB⟩ := h
  refine gh_jne (tgt := 21) gd_Model_takesSets_5 (by decide) (fun c2531 => ?_) (fun c2531 => ?_)
  · have h := hA c2531
    refine gh_aload_n gd_Model_takesSets_8 0 rfl (by decide) ?_
    refine gh_aload_n gd_Model_takesSets_9 0 rfl (by decide) ?_
    refine gf_63_6 gd_Model_takesSets_10 gh_k1376 hF rfl ?_
    refine gh_iconst gd_Model_takesSets_13 (gh_r0 rfl) ?_
    obtain ⟨q2532, h⟩ := h
    refine gh_iadd gd_Model_takesSets_14 q2532 ?_
    refine cv_Model_smallsFrom (d := d + 2) gd_Model_takesSets_15 gh_k1669 hF (Nat.le_of_ble_eq_true rfl) (gh_C.pw (s_Model_smallsFrom d ((m 63 6) + 1) hF h) (fun r2533 h => ?_))
    refine gh_goto (tgt := 22) gd_Model_takesSets_18 (by decide) ?_
    exact hJ22 r2533 hF h
  · have h := hB c2531
    refine gh_iconst gd_Model_takesSets_21 (gh_r0 rfl) ?_
    exact hJ22 1 hF h
def w_Model_opens (m : gh_M) (Q : Int → gh_M → Prop) : Prop := (((m 63 15) = 3 → Q 3 m) ∧ (¬ ((m 63 15) = 3) → gh_i ((m 63 15) + 1) ∧ 0 ≤ ((m 63 15) + 1) ∧ (((m 63 15) + 1)) < 4 ∧ gh_i ((m 63 16) + 1) ∧ 0 ≤ ((m 63 15) + 1) ∧ (((m 63 15) + 1)) < 4 ∧ 0 ≤ ((m 63 15) + 1) ∧ (((m 63 15) + 1)) < 4 ∧ Q 0 (gh_u (gh_u (gh_u (gh_u (gh_u m 63 15 ((m 63 15) + 1)) 69 (((m 63 15) + 1)) (m 63 16)) 63 16 ((m 63 16) + 1)) 71 (((m 63 15) + 1)) 0) 73 (((m 63 15) + 1)) 0)))
theorem s_Model_opens {E : gh_E} {m : gh_M} {Q : Int → gh_M → Prop} (d : Nat) (hF : gh_F m) (h : w_Model_opens m Q) : gh_C E gh_yModel_opens prog_14_method_22_code 1 (some .int) 0 (d + 0) [(2, 63)] m (fun r m1 => gh_F m1 ∧ Q r m1) := by
  refine gh_enter2 (L := [(0, 2, 63)]) (by decide +kernel) gh_rt0 (Nat.le_of_ble_eq_true rfl) rfl rfl ?_
  unfold w_Model_opens at h
  refine gh_aload_n gd_Model_opens_0 0 rfl (by decide) ?_
  refine gf_63_15 gd_Model_opens_1 gh_k1385 hF rfl ?_
  refine gh_iconst gd_Model_opens_4 (gh_r0 rfl) ?_
  obtain ⟨hA, hB⟩ := h
  refine gh_jne (tgt := 10) gd_Model_opens_5 (by decide) (fun c2535 => ?_) (fun c2535 => ?_)
  · have h := hA c2535
    refine gh_iconst gd_Model_opens_8 (gh_r0 rfl) ?_
    exact gh_ret0 rfl gd_Model_opens_9 ⟨hF, h⟩
  · have h := hB c2535
    refine gh_aload_n gd_Model_opens_10 0 rfl (by decide) ?_
    refine gh_dup gd_Model_opens_11 (by decide) ?_
    refine gf_63_15 gd_Model_opens_12 gh_k1385 hF rfl ?_
    refine gh_iconst gd_Model_opens_15 (gh_r0 rfl) ?_
    obtain ⟨q2536, h⟩ := h
    refine gh_iadd gd_Model_opens_16 q2536 ?_
    refine pf_63_15 gd_Model_opens_17 gh_k1385 hF (fun hF => ?_)
    refine gh_aload_n gd_Model_opens_20 0 rfl (by decide) ?_
    refine gf_63_17 gd_Model_opens_21 gh_k1387 hF ?_
    refine gh_aload_n gd_Model_opens_24 0 rfl (by decide) ?_
    refine gf_63_15 gd_Model_opens_25 gh_k1385 hF (gh_u_s _ _ _ _) ?_
    refine gh_aload_n gd_Model_opens_28 0 rfl (by decide) ?_
    refine gf_63_16 gd_Model_opens_29 gh_k1386 hF (gh_u_i (by decide)) ?_
    obtain ⟨q2537, h⟩ := h
    obtain ⟨q2538, h⟩ := h
    refine sa_69 gd_Model_opens_32 hF q2537 q2538 (fun hF => ?_)
    refine gh_aload_n gd_Model_opens_33 0 rfl (by decide) ?_
    refine gh_dup gd_Model_opens_34 (by decide) ?_
    refine gf_63_16 gd_Model_opens_35 gh_k1386 hF ((gh_u_a (by decide)).trans (gh_u_i (by decide))) ?_
    refine gh_iconst gd_Model_opens_38 (gh_r0 rfl) ?_
    obtain ⟨q2539, h⟩ := h
    refine gh_iadd gd_Model_opens_39 q2539 ?_
    refine pf_63_16 gd_Model_opens_40 gh_k1386 hF (fun hF => ?_)
    refine gh_aload_n gd_Model_opens_43 0 rfl (by decide) ?_
    refine gf_63_19 gd_Model_opens_44 gh_k1389 hF ?_
    refine gh_aload_n gd_Model_opens_47 0 rfl (by decide) ?_
    refine gf_63_15 gd_Model_opens_48 gh_k1385 hF ((gh_u_i (by decide)).trans ((gh_u_a (by decide)).trans (gh_u_s _ _ _ _))) ?_
    refine gh_iconst gd_Model_opens_51 (gh_r0 rfl) ?_
    obtain ⟨q2540, h⟩ := h
    obtain ⟨q2541, h⟩ := h
    refine sa_71 gd_Model_opens_52 hF q2540 q2541 (fun hF => ?_)
    refine gh_aload_n gd_Model_opens_53 0 rfl (by decide) ?_
    refine gf_63_21 gd_Model_opens_54 gh_k1391 hF ?_
    refine gh_aload_n gd_Model_opens_57 0 rfl (by decide) ?_
    refine gf_63_15 gd_Model_opens_58 gh_k1385 hF ((gh_u_a (by decide)).trans ((gh_u_i (by decide)).trans ((gh_u_a (by decide)).trans (gh_u_s _ _ _ _)))) ?_
    refine gh_iconst gd_Model_opens_61 (gh_r0 rfl) ?_
    obtain ⟨q2542, h⟩ := h
    obtain ⟨q2543, h⟩ := h
    refine sa_73 gd_Model_opens_62 hF q2542 q2543 (fun hF => ?_)
    refine gh_iconst gd_Model_opens_63 (gh_r0 rfl) ?_
    exact gh_ret0 rfl gd_Model_opens_64 ⟨hF, h⟩
def f_Model_endRow_33 (Q : Int → gh_M → Prop) (K33 : Int → gh_M → Prop) (v1 : Int) (m : gh_M) : Prop := 0 ≤ m 63 15 ∧ (m 63 15) < 4 ∧ ((v1 < (m 71 (m 63 15)) → gh_i (4 * (m 63 11)) ∧ gh_i ((4 * (m 63 11)) + v1) ∧ gh_i (4 * (m 63 15)) ∧ gh_i ((4 * (m 63 15)) + v1) ∧ 0 ≤ (4 * (m 63 15)) + v1 ∧ ((4 * (m 63 15)) + v1) < 16 ∧ 0 ≤ (4 * (m 63 11)) + v1 ∧ ((4 * (m 63 11)) + v1) < 80 ∧ gh_i (v1 + 1) ∧ K33 (v1 + 1) (gh_u m 68 ((4 * (m 63 11)) + v1) (m 72 ((4 * (m 63 15)) + v1)))) ∧ (¬ (v1 < (m 71 (m 63 15))) → gh_i ((m 63 11) + 1) ∧ 0 ≤ m 63 15 ∧ (m 63 15) < 4 ∧ 0 ≤ m 63 15 ∧ (m 63 15) < 4 ∧ Q 0 (gh_u (gh_u (gh_u m 63 11 ((m 63 11) + 1)) 71 (m 63 15) 0) 73 (m 63 15) 0)))
def w_Model_endRow (m : gh_M) (Q : Int → gh_M → Prop) : Prop := k_Model_ownerNow m ∧ 0 ≤ m 63 11 ∧ (m 63 11) < 20 ∧ 0 ≤ m 63 15 ∧ (m 63 15) < 4 ∧ 0 ≤ m 63 11 ∧ (m 63 11) < 20 ∧ gh_M1 (fun K33 v1 m => f_Model_endRow_33 Q K33 v1 m) 0 (gh_u (gh_u m 66 (m 63 11) (x_Model_ownerNow m)) 67 (m 63 11) (m 71 (m 63 15)))
theorem b_Model_endRow_33 {E : gh_E} {Q : Int → gh_M → Prop} {K33 : Int → gh_M → Prop} (d : Nat) (hK : ∀ (v1 : Int) (m : gh_M), gh_F m → K33 v1 m → gh_T E (gh_yModel_endRow.cls, prog_14_method_18_code, 2, false, 9) (d + 1) 33 [(0, 2, 63), (1, 0, v1)] [] m (fun r m1 => gh_F m1 ∧ Q r m1)) (v1 : Int) (m : gh_M) (hF : gh_F m) (h : f_Model_endRow_33 Q K33 v1 m) : gh_T E (gh_yModel_endRow.cls, prog_14_method_18_code, 2, false, 9) (d + 1) 33 [(0, 2, 63), (1, 0, v1)] [] m (fun r m1 => gh_F m1 ∧ Q r m1) := by
  have hK33 := hK
  unfold f_Model_endRow_33 at h
  refine gh_iload_n gd_Model_endRow_33 1 rfl ?_
  refine gh_aload_n gd_Model_endRow_34 0 rfl (by decide) ?_
  refine gf_63_19 gd_Model_endRow_35 gh_k1389 hF ?_
  refine gh_aload_n gd_Model_endRow_38 0 rfl (by decide) ?_
  refine gf_63_15 gd_Model_endRow_39 gh_k1385 hF rfl ?_
  obtain ⟨q2551, h⟩ := h
  obtain ⟨q2552, h⟩ := h
  refine la_71 gd_Model_endRow_42 hF q2551 q2552 rfl ?_
  obtain ⟨hA, hB⟩ := h
  refine gh_jge (tgt := 78) gd_Model_endRow_43 (by decide) (fun c2553 => ?_) (fun c2553 => ?_)
  · have h := hA c2553
    refine gh_aload_n gd_Model_endRow_46 0 rfl (by decide) ?_
    refine gf_63_14 gd_Model_endRow_47 gh_k1384 hF ?_
    refine gh_iconst gd_Model_endRow_50 (gh_r0 rfl) ?_
    refine gh_aload_n gd_Model_endRow_51 0 rfl (by decide) ?_
    refine gf_63_11 gd_Model_endRow_52 gh_k1381 hF rfl ?_
    obtain ⟨q2554, h⟩ := h
    refine gh_imul gd_Model_endRow_55 q2554 ?_
    refine gh_iload_n gd_Model_endRow_56 1 rfl ?_
    obtain ⟨q2555, h⟩ := h
    refine gh_iadd gd_Model_endRow_57 q2555 ?_
    refine gh_aload_n gd_Model_endRow_58 0 rfl (by decide) ?_
    refine gf_63_20 gd_Model_endRow_59 gh_k1390 hF ?_
    refine gh_iconst gd_Model_endRow_62 (gh_r0 rfl) ?_
    refine gh_aload_n gd_Model_endRow_63 0 rfl (by decide) ?_
    refine gf_63_15 gd_Model_endRow_64 gh_k1385 hF rfl ?_
    obtain ⟨q2556, h⟩ := h
    refine gh_imul gd_Model_endRow_67 q2556 ?_
    refine gh_iload_n gd_Model_endRow_68 1 rfl ?_
    obtain ⟨q2557, h⟩ := h
    refine gh_iadd gd_Model_endRow_69 q2557 ?_
    obtain ⟨q2558, h⟩ := h
    obtain ⟨q2559, h⟩ := h
    refine la_72 gd_Model_endRow_70 hF q2558 q2559 rfl ?_
    obtain ⟨q2560, h⟩ := h
    obtain ⟨q2561, h⟩ := h
    refine sa_68 gd_Model_endRow_71 hF q2560 q2561 (fun hF => ?_)
    obtain ⟨q2562, h⟩ := h
    refine gh_iinc (L2 := [(1, 0, v1 + 1), (0, 2, 63)]) gd_Model_endRow_72 1 rfl q2562 (by decide) rfl ?_
    refine gh_goto (tgt := 33) gd_Model_endRow_75 (by decide) ?_
    refine gh_pick (L2 := [(0, 2, 63), (1, 0, v1 + 1)]) [1, 0] rfl ?_
    exact hK33 (v1 + 1) (gh_u m 68 ((4 * (m 63 11)) + v1) (m 72 ((4 * (m 63 15)) + v1))) hF h
  · have h := hB c2553
    refine gh_aload_n gd_Model_endRow_78 0 rfl (by decide) ?_
    refine gh_dup gd_Model_endRow_79 (by decide) ?_
    refine gf_63_11 gd_Model_endRow_80 gh_k1381 hF rfl ?_
    refine gh_iconst gd_Model_endRow_83 (gh_r0 rfl) ?_
    obtain ⟨q2563, h⟩ := h
    refine gh_iadd gd_Model_endRow_84 q2563 ?_
    refine pf_63_11 gd_Model_endRow_85 gh_k1381 hF (fun hF => ?_)
    refine gh_aload_n gd_Model_endRow_88 0 rfl (by decide) ?_
    refine gf_63_19 gd_Model_endRow_89 gh_k1389 hF ?_
    refine gh_aload_n gd_Model_endRow_92 0 rfl (by decide) ?_
    refine gf_63_15 gd_Model_endRow_93 gh_k1385 hF (gh_u_i (by decide)) ?_
    refine gh_iconst gd_Model_endRow_96 (gh_r0 rfl) ?_
    obtain ⟨q2564, h⟩ := h
    obtain ⟨q2565, h⟩ := h
    refine sa_71 gd_Model_endRow_97 hF q2564 q2565 (fun hF => ?_)
    refine gh_aload_n gd_Model_endRow_98 0 rfl (by decide) ?_
    refine gf_63_21 gd_Model_endRow_99 gh_k1391 hF ?_
    refine gh_aload_n gd_Model_endRow_102 0 rfl (by decide) ?_
    refine gf_63_15 gd_Model_endRow_103 gh_k1385 hF ((gh_u_a (by decide)).trans (gh_u_i (by decide))) ?_
    refine gh_iconst gd_Model_endRow_106 (gh_r0 rfl) ?_
    obtain ⟨q2566, h⟩ := h
    obtain ⟨q2567, h⟩ := h
    refine sa_73 gd_Model_endRow_107 hF q2566 q2567 (fun hF => ?_)
    exact gh_ret9 rfl gd_Model_endRow_108 ⟨hF, h⟩
theorem s_Model_endRow {E : gh_E} {m : gh_M} {Q : Int → gh_M → Prop} (d : Nat) (hF : gh_F m) (h : w_Model_endRow m Q) : gh_C E gh_yModel_endRow prog_14_method_18_code 2 none 9 (d + 1) [(2, 63)] m (fun r m1 => gh_F m1 ∧ Q r m1) := by
  refine gh_enter2 (L := [(0, 2, 63)]) (by decide +kernel) gh_rt9 (Nat.le_of_ble_eq_true rfl) rfl rfl ?_
  unfold w_Model_endRow at h
  refine gh_aload_n gd_Model_endRow_0 0 rfl (by decide) ?_
  refine gf_63_12 gd_Model_endRow_1 gh_k1382 hF ?_
  refine gh_aload_n gd_Model_endRow_4 0 rfl (by decide) ?_
  refine gf_63_11 gd_Model_endRow_5 gh_k1381 hF rfl ?_
  refine gh_aload_n gd_Model_endRow_8 0 rfl (by decide) ?_
  obtain ⟨q2544, h⟩ := h
  refine cv_Model_ownerNow (d := d) gd_Model_endRow_9 gh_k1712 hF (Nat.le_of_ble_eq_true rfl) (gh_C.pe (e_Model_ownerNow d  hF q2544) ?_)
  obtain ⟨q2545, h⟩ := h
  obtain ⟨q2546, h⟩ := h
  refine sa_66 gd_Model_endRow_12 hF q2545 q2546 (fun hF => ?_)
  refine gh_aload_n gd_Model_endRow_13 0 rfl (by decide) ?_
  refine gf_63_13 gd_Model_endRow_14 gh_k1383 hF ?_
  refine gh_aload_n gd_Model_endRow_17 0 rfl (by decide) ?_
  refine gf_63_11 gd_Model_endRow_18 gh_k1381 hF (gh_u_a (by decide)) ?_
  refine gh_aload_n gd_Model_endRow_21 0 rfl (by decide) ?_
  refine gf_63_19 gd_Model_endRow_22 gh_k1389 hF ?_
  refine gh_aload_n gd_Model_endRow_25 0 rfl (by decide) ?_
  refine gf_63_15 gd_Model_endRow_26 gh_k1385 hF (gh_u_a (by decide)) ?_
  obtain ⟨q2547, h⟩ := h
  obtain ⟨q2548, h⟩ := h
  refine la_71 gd_Model_endRow_29 hF q2547 q2548 (gh_u_a (by decide)) ?_
  obtain ⟨q2549, h⟩ := h
  obtain ⟨q2550, h⟩ := h
  refine sa_67 gd_Model_endRow_30 hF q2549 q2550 (fun hF => ?_)
  refine gh_iconst gd_Model_endRow_31 (gh_r0 rfl) ?_
  refine gh_istore_n (L2 := [(1, 0, 0), (0, 2, 63)]) gd_Model_endRow_32 (by decide) rfl ?_
  refine gh_pick (L2 := [(0, 2, 63), (1, 0, 0)]) [1, 0] rfl ?_
  exact gh_M1_sound (T := fun v1 m => gh_T E (gh_yModel_endRow.cls, prog_14_method_18_code, 2, false, 9) (d + 1) 33 [(0, 2, 63), (1, 0, v1)] [] m (fun r m1 => gh_F m1 ∧ Q r m1)) (fun _ m => gh_F m) (fun K33 v1 m hK hF h => b_Model_endRow_33 d hK v1 m hF h) 0 (gh_u (gh_u m 66 (m 63 11) (x_Model_ownerNow m)) 67 (m 63 11) (m 71 (m 63 15))) hF h
def w_Model_closes (m : gh_M) (Q : Int → gh_M → Prop) : Prop := (((m 63 15) = 0 → Q 2 m) ∧ (¬ ((m 63 15) = 0) → ((¬ ((m 63 11) = 20) → (gh_i ((m 63 8) + (m 63 9)) ∧ (¬ (((m 63 8) + (m 63 9)) = 8) → (gh_i ((m 63 15) - 1) ∧ 0 ≤ (m 63 15) - 1 ∧ ((m 63 15) - 1) < 4))))) ∧ (((((m 63 11) = 20) ∨ ((((m 63 8) + (m 63 9)) = 8) ∨ ((m 71 ((m 63 15) - 1)) = 4))) → Q 3 m) ∧ (¬ (((m 63 11) = 20) ∨ ((((m 63 8) + (m 63 9)) = 8) ∨ ((m 71 ((m 63 15) - 1)) = 4))) → 0 ≤ m 63 15 ∧ (m 63 15) < 4 ∧ 0 ≤ m 69 (m 63 15) ∧ (m 69 (m 63 15)) < 300 ∧ w_Model_endRow (gh_u m 70 (m 69 (m 63 15)) (m 63 9)) (fun _ m2580 => gh_i ((m2580 63 15) - 1) ∧ gh_i ((-2000) - (m2580 63 9)) ∧ w_Model_addPart ((-2000) - (m2580 63 9)) (gh_u m2580 63 15 ((m2580 63 15) - 1)) (fun _ m2584 => gh_i ((m2584 63 9) + 1) ∧ 0 ≤ m2584 63 15 ∧ (m2584 63 15) < 4 ∧ Q 0 (gh_u (gh_u m2584 63 9 ((m2584 63 9) + 1)) 73 (m2584 63 15) 1)))))))
theorem s_Model_closes {E : gh_E} {m : gh_M} {Q : Int → gh_M → Prop} (d : Nat) (hF : gh_F m) (h : w_Model_closes m Q) : gh_C E gh_yModel_closes prog_14_method_21_code 1 (some .int) 0 (d + 2) [(2, 63)] m (fun r m1 => gh_F m1 ∧ Q r m1) := by
  refine gh_enter2 (L := [(0, 2, 63)]) (by decide +kernel) gh_rt0 (Nat.le_of_ble_eq_true rfl) rfl rfl ?_
  unfold w_Model_closes at h
  refine gh_aload_n gd_Model_closes_0 0 rfl (by decide) ?_
  refine gf_63_15 gd_Model_closes_1 gh_k1385 hF rfl ?_
  obtain ⟨hA, hB⟩ := h
  refine gh_zne (tgt := 9) gd_Model_closes_4 (by decide) (fun c2568 => ?_) (fun c2568 => ?_)
  · have h := hA c2568
    refine gh_iconst gd_Model_closes_7 (gh_r0 rfl) ?_
    exact gh_ret0 rfl gd_Model_closes_8 ⟨hF, h⟩
  · have h := hB c2568
    refine gh_aload_n gd_Model_closes_9 0 rfl (by decide) ?_
    refine gf_63_11 gd_Model_closes_10 gh_k1381 hF rfl ?_
    refine gh_bipush gd_Model_closes_13 (by decide) (gh_r0 rfl) ?_
    obtain ⟨hk, hA, hB⟩ := h
    have k2573 : (((m 63 11) = 20) ∨ ((((m 63 8) + (m 63 9)) = 8) ∨ ((m 71 ((m 63 15) - 1)) = 4))) → gh_T E (gh_yModel_closes.cls, prog_14_method_21_code, 1, false, 0) (d + 2) 47 [(0, 2, 63)] [] m (fun r m1 => gh_F m1 ∧ Q r m1) := by
      intro c
      have h := hA c
      refine gh_iconst gd_Model_closes_47 (gh_r0 rfl) ?_
      exact gh_ret0 rfl gd_Model_closes_48 ⟨hF, h⟩
    have k2574 : ¬ (((m 63 11) = 20) ∨ ((((m 63 8) + (m 63 9)) = 8) ∨ ((m 71 ((m 63 15) - 1)) = 4))) → gh_T E (gh_yModel_closes.cls, prog_14_method_21_code, 1, false, 0) (d + 2) 49 [(0, 2, 63)] [] m (fun r m1 => gh_F m1 ∧ Q r m1) := by
      intro c
      have h := hB c
      refine gh_aload_n gd_Model_closes_49 0 rfl (by decide) ?_
      refine gf_63_18 gd_Model_closes_50 gh_k1388 hF ?_
      refine gh_aload_n gd_Model_closes_53 0 rfl (by decide) ?_
      refine gf_63_17 gd_Model_closes_54 gh_k1387 hF ?_
      refine gh_aload_n gd_Model_closes_57 0 rfl (by decide) ?_
      refine gf_63_15 gd_Model_closes_58 gh_k1385 hF rfl ?_
      obtain ⟨q2575, h⟩ := h
      obtain ⟨q2576, h⟩ := h
      refine la_69 gd_Model_closes_61 hF q2575 q2576 rfl ?_
      refine gh_aload_n gd_Model_closes_62 0 rfl (by decide) ?_
      refine gf_63_9 gd_Model_closes_63 gh_k1379 hF rfl ?_
      obtain ⟨q2577, h⟩ := h
      obtain ⟨q2578, h⟩ := h
      refine sa_70 gd_Model_closes_66 hF q2577 q2578 (fun hF => ?_)
      refine gh_aload_n gd_Model_closes_67 0 rfl (by decide) ?_
      refine cv_Model_endRow (d := d + 1) gd_Model_closes_68 gh_k1708 hF (Nat.le_of_ble_eq_true rfl) (gh_C.mono (s_Model_endRow d hF h) (fun r2579 m2580 hq => ?_))
      obtain ⟨hF, h⟩ := hq
      refine gh_aload_n gd_Model_closes_71 0 rfl (by decide) ?_
      refine gh_dup gd_Model_closes_72 (by decide) ?_
      refine gf_63_15 gd_Model_closes_73 gh_k1385 hF rfl ?_
      refine gh_iconst gd_Model_closes_76 (gh_r0 rfl) ?_
      obtain ⟨q2581, h⟩ := h
      refine gh_isub gd_Model_closes_77 q2581 ?_
      refine pf_63_15 gd_Model_closes_78 gh_k1385 hF (fun hF => ?_)
      refine gh_aload_n gd_Model_closes_81 0 rfl (by decide) ?_
      refine gh_sipush gd_Model_closes_82 (by decide) (gh_r0 rfl) ?_
      refine gh_aload_n gd_Model_closes_85 0 rfl (by decide) ?_
      refine gf_63_9 gd_Model_closes_86 gh_k1379 hF (gh_u_i (by decide)) ?_
      obtain ⟨q2582, h⟩ := h
      refine gh_isub gd_Model_closes_89 q2582 ?_
      refine cv_Model_addPart (d := d + 1) gd_Model_closes_90 gh_k1696 hF (Nat.le_of_ble_eq_true rfl) (gh_C.mono (s_Model_addPart (d + 1) ((-2000) - (m2580 63 9)) hF h) (fun r2583 m2584 hq => ?_))
      obtain ⟨hF, h⟩ := hq
      refine gh_aload_n gd_Model_closes_93 0 rfl (by decide) ?_
      refine gh_dup gd_Model_closes_94 (by decide) ?_
      refine gf_63_9 gd_Model_closes_95 gh_k1379 hF rfl ?_
      refine gh_iconst gd_Model_closes_98 (gh_r0 rfl) ?_
      obtain ⟨q2585, h⟩ := h
      refine gh_iadd gd_Model_closes_99 q2585 ?_
      refine pf_63_9 gd_Model_closes_100 gh_k1379 hF (fun hF => ?_)
      refine gh_aload_n gd_Model_closes_103 0 rfl (by decide) ?_
      refine gf_63_21 gd_Model_closes_104 gh_k1391 hF ?_
      refine gh_aload_n gd_Model_closes_107 0 rfl (by decide) ?_
      refine gf_63_15 gd_Model_closes_108 gh_k1385 hF (gh_u_i (by decide)) ?_
      refine gh_iconst gd_Model_closes_111 (gh_r0 rfl) ?_
      obtain ⟨q2586, h⟩ := h
      obtain ⟨q2587, h⟩ := h
      refine sa_73 gd_Model_closes_112 hF q2586 q2587 (fun hF => ?_)
      refine gh_iconst gd_Model_closes_113 (gh_r0 rfl) ?_
      exact gh_ret0 rfl gd_Model_closes_114 ⟨hF, h⟩
    refine gh_jeq (tgt := 47) gd_Model_closes_15 (by decide) (fun c2588 => ?_) (fun c2588 => ?_)
    · have hz : True := trivial
      exact k2573 (Or.inl c2588)
    · have hz : True := trivial
      have hk := hk c2588
      refine gh_aload_n gd_Model_closes_18 0 rfl (by decide) ?_
      refine gf_63_8 gd_Model_closes_19 gh_k1378 hF rfl ?_
      refine gh_aload_n gd_Model_closes_22 0 rfl (by decide) ?_
      refine gf_63_9 gd_Model_closes_23 gh_k1379 hF rfl ?_
      obtain ⟨q2569, hk⟩ := hk
      refine gh_iadd gd_Model_closes_26 q2569 ?_
      refine gh_bipush gd_Model_closes_27 (by decide) (gh_r0 rfl) ?_
      refine gh_jeq (tgt := 47) gd_Model_closes_29 (by decide) (fun c2589 => ?_) (fun c2589 => ?_)
      · have hz : True := trivial
        exact k2573 (Or.inr (Or.inl c2589))
      · have hz : True := trivial
        have hk := hk c2589
        refine gh_aload_n gd_Model_closes_32 0 rfl (by decide) ?_
        refine gf_63_19 gd_Model_closes_33 gh_k1389 hF ?_
        refine gh_aload_n gd_Model_closes_36 0 rfl (by decide) ?_
        refine gf_63_15 gd_Model_closes_37 gh_k1385 hF rfl ?_
        refine gh_iconst gd_Model_closes_40 (gh_r0 rfl) ?_
        obtain ⟨q2570, hk⟩ := hk
        refine gh_isub gd_Model_closes_41 q2570 ?_
        obtain ⟨q2571, hk⟩ := hk
        have q2572 := hk
        refine la_71 gd_Model_closes_42 hF q2571 q2572 rfl ?_
        refine gh_iconst gd_Model_closes_43 (gh_r0 rfl) ?_
        refine gh_jne (tgt := 49) gd_Model_closes_44 (by decide) (fun c2590 => ?_) (fun c2590 => ?_)
        · have hz : True := trivial
          exact k2573 (Or.inr (Or.inr c2590))
        · have hz : True := trivial
          exact k2574 (fun z => z.elim c2588 (fun z => z.elim c2589 c2590))
def f_Model_makeRow_67 (v3 : Int) (v5 : Int) (Q : Int → gh_M → Prop) (K67 : Int → Int → gh_M → Prop) (v4 : Int) (v6 : Int) (m : gh_M) : Prop := 0 ≤ m 63 15 ∧ (m 63 15) < 4 ∧ ∃ J118 : Int → gh_M → Prop, (∀ (v4' : Int) (m : gh_M), J118 v4' m → 0 ≤ m 63 11 ∧ (m 63 11) < 20 ∧ gh_i ((m 63 11) + 1) ∧ Q 0 (gh_u (gh_u m 67 (m 63 11) v4') 63 11 ((m 63 11) + 1))) ∧ (((¬ (v6 < (m 73 (m 63 15))) ∨ (v3 = 0)) → J118 v4 m) ∧ (¬ (¬ (v6 < (m 73 (m 63 15))) ∨ (v3 = 0)) → gh_i (4 * (m 63 11)) ∧ gh_i ((4 * (m 63 11)) + v4) ∧ gh_i (v5 + v6) ∧ 0 ≤ v5 + v6 ∧ (v5 + v6) < 16 ∧ 0 ≤ (4 * (m 63 11)) + v4 ∧ ((4 * (m 63 11)) + v4) < 80 ∧ gh_i (v4 + 1) ∧ gh_i (v6 + 1) ∧ K67 (v4 + 1) (v6 + 1) (gh_u m 68 ((4 * (m 63 11)) + v4) (m 72 (v5 + v6)))))
def w_Model_makeRow (v1 : Int) (v2 : Int) (v3 : Int) (m : gh_M) (Q : Int → gh_M → Prop) : Prop := gh_i (200 + v1) ∧ 0 ≤ m 63 11 ∧ (m 63 11) < 20 ∧ ∃ J36 : Int → gh_M → Prop, (∀ (v4 : Int) (m : gh_M), J36 v4 m → gh_i (4 * (m 63 15)) ∧ 0 ≤ m 63 15 ∧ (m 63 15) < 4 ∧ gh_i ((4 * (m 63 15)) + (m 71 (m 63 15))) ∧ 0 ≤ m 63 15 ∧ (m 63 15) < 4 ∧ gh_i (((4 * (m 63 15)) + (m 71 (m 63 15))) - (m 73 (m 63 15))) ∧ ∀ v5 : Int, v5 = ((4 * (m 63 15)) + (m 71 (m 63 15))) - (m 73 (m 63 15)) → gh_M2 (fun K67 v4 v6 m => f_Model_makeRow_67 v3 v5 Q K67 v4 v6 m) v4 0 m) ∧ ((v2 = 0 → J36 0 (gh_u m 66 (m 63 11) (200 + v1))) ∧ (¬ (v2 = 0) → gh_i (4 * (m 63 11)) ∧ 0 ≤ 4 * (m 63 11) ∧ (4 * (m 63 11)) < 80 ∧ J36 1 (gh_u (gh_u m 66 (m 63 11) (200 + v1)) 68 (4 * (m 63 11)) v2)))
theorem b_Model_makeRow_67 {E : gh_E} {v3 : Int} {v5 : Int} {Q : Int → gh_M → Prop} {K67 : Int → Int → gh_M → Prop} (d : Nat) (hK : ∀ (v4 : Int) (v6 : Int) (m : gh_M), gh_F m → K67 v4 v6 m → gh_T E (gh_yModel_makeRow.cls, prog_14_method_19_code, 7, false, 9) (d + 0) 67 [(0, 2, 63), (3, 0, v3), (4, 0, v4), (5, 0, v5), (6, 0, v6)] [] m (fun r m1 => gh_F m1 ∧ Q r m1)) (v4 : Int) (v6 : Int) (m : gh_M) (hF : gh_F m) (h : f_Model_makeRow_67 v3 v5 Q K67 v4 v6 m) : gh_T E (gh_yModel_makeRow.cls, prog_14_method_19_code, 7, false, 9) (d + 0) 67 [(0, 2, 63), (3, 0, v3), (4, 0, v4), (5, 0, v5), (6, 0, v6)] [] m (fun r m1 => gh_F m1 ∧ Q r m1) := by
  have hK67 := hK
  unfold f_Model_makeRow_67 at h
  refine gh_iload gd_Model_makeRow_67 4 rfl ?_
  refine gh_aload_n gd_Model_makeRow_69 0 rfl (by decide) ?_
  refine gf_63_21 gd_Model_makeRow_70 gh_k1391 hF ?_
  refine gh_aload_n gd_Model_makeRow_73 0 rfl (by decide) ?_
  refine gf_63_15 gd_Model_makeRow_74 gh_k1385 hF rfl ?_
  obtain ⟨q2601, h⟩ := h
  obtain ⟨q2602, h⟩ := h
  refine la_73 gd_Model_makeRow_77 hF q2601 q2602 rfl ?_
  obtain ⟨J118, hJ118, h⟩ := h
  have hJ118 : ∀ (v4' : Int) (m : gh_M), gh_F m → J118 v4' m → gh_T E (gh_yModel_makeRow.cls, prog_14_method_19_code, 7, false, 9) (d + 0) 118 [(0, 2, 63), (4, 0, v4')] [] m (fun r m1 => gh_F m1 ∧ Q r m1) := by
    intro v4' m hF hj
    have h := hJ118 v4' m hj
    refine gh_aload_n gd_Model_makeRow_118 0 rfl (by decide) ?_
    refine gf_63_13 gd_Model_makeRow_119 gh_k1383 hF ?_
    refine gh_aload_n gd_Model_makeRow_122 0 rfl (by decide) ?_
    refine gf_63_11 gd_Model_makeRow_123 gh_k1381 hF rfl ?_
    refine gh_iload gd_Model_makeRow_126 1 rfl ?_
    obtain ⟨q2603, h⟩ := h
    obtain ⟨q2604, h⟩ := h
    refine sa_67 gd_Model_makeRow_128 hF q2603 q2604 (fun hF => ?_)
    refine gh_aload_n gd_Model_makeRow_129 0 rfl (by decide) ?_
    refine gh_dup gd_Model_makeRow_130 (by decide) ?_
    refine gf_63_11 gd_Model_makeRow_131 gh_k1381 hF (gh_u_a (by decide)) ?_
    refine gh_iconst gd_Model_makeRow_134 (gh_r0 rfl) ?_
    obtain ⟨q2605, h⟩ := h
    refine gh_iadd gd_Model_makeRow_135 q2605 ?_
    refine pf_63_11 gd_Model_makeRow_136 gh_k1381 hF (fun hF => ?_)
    exact gh_ret9 rfl gd_Model_makeRow_139 ⟨hF, h⟩
  obtain ⟨hA, hB⟩ := h
  have k2606 : (¬ (v6 < (m 73 (m 63 15))) ∨ (v3 = 0)) → gh_T E (gh_yModel_makeRow.cls, prog_14_method_19_code, 7, false, 9) (d + 0) 118 [(0, 2, 63), (3, 0, v3), (4, 0, v4), (5, 0, v5), (6, 0, v6)] [] m (fun r m1 => gh_F m1 ∧ Q r m1) := by
    intro c
    have h := hA c
    refine gh_pick (L2 := [(0, 2, 63), (4, 0, v4)]) [0, 2] rfl ?_
    exact hJ118 v4 m hF h
  have k2607 : ¬ (¬ (v6 < (m 73 (m 63 15))) ∨ (v3 = 0)) → gh_T E (gh_yModel_makeRow.cls, prog_14_method_19_code, 7, false, 9) (d + 0) 85 [(0, 2, 63), (3, 0, v3), (4, 0, v4), (5, 0, v5), (6, 0, v6)] [] m (fun r m1 => gh_F m1 ∧ Q r m1) := by
    intro c
    have h := hB c
    refine gh_aload_n gd_Model_makeRow_85 0 rfl (by decide) ?_
    refine gf_63_14 gd_Model_makeRow_86 gh_k1384 hF ?_
    refine gh_iconst gd_Model_makeRow_89 (gh_r0 rfl) ?_
    refine gh_aload_n gd_Model_makeRow_90 0 rfl (by decide) ?_
    refine gf_63_11 gd_Model_makeRow_91 gh_k1381 hF rfl ?_
    obtain ⟨q2608, h⟩ := h
    refine gh_imul gd_Model_makeRow_94 q2608 ?_
    refine gh_iload gd_Model_makeRow_95 2 rfl ?_
    obtain ⟨q2609, h⟩ := h
    refine gh_iadd gd_Model_makeRow_97 q2609 ?_
    refine gh_aload_n gd_Model_makeRow_98 0 rfl (by decide) ?_
    refine gf_63_20 gd_Model_makeRow_99 gh_k1390 hF ?_
    refine gh_iload gd_Model_makeRow_102 3 rfl ?_
    refine gh_iload gd_Model_makeRow_104 4 rfl ?_
    obtain ⟨q2610, h⟩ := h
    refine gh_iadd gd_Model_makeRow_106 q2610 ?_
    obtain ⟨q2611, h⟩ := h
    obtain ⟨q2612, h⟩ := h
    refine la_72 gd_Model_makeRow_107 hF q2611 q2612 rfl ?_
    obtain ⟨q2613, h⟩ := h
    obtain ⟨q2614, h⟩ := h
    refine sa_68 gd_Model_makeRow_108 hF q2613 q2614 (fun hF => ?_)
    obtain ⟨q2615, h⟩ := h
    refine gh_iinc (L2 := [(4, 0, v4 + 1), (0, 2, 63), (3, 0, v3), (5, 0, v5), (6, 0, v6)]) gd_Model_makeRow_109 2 rfl q2615 (by decide) rfl ?_
    obtain ⟨q2616, h⟩ := h
    refine gh_iinc (L2 := [(6, 0, v6 + 1), (4, 0, v4 + 1), (0, 2, 63), (3, 0, v3), (5, 0, v5)]) gd_Model_makeRow_112 4 rfl q2616 (by decide) rfl ?_
    refine gh_goto (tgt := 67) gd_Model_makeRow_115 (by decide) ?_
    refine gh_pick (L2 := [(0, 2, 63), (3, 0, v3), (4, 0, v4 + 1), (5, 0, v5), (6, 0, v6 + 1)]) [2, 3, 1, 4, 0] rfl ?_
    exact hK67 (v4 + 1) (v6 + 1) (gh_u m 68 ((4 * (m 63 11)) + v4) (m 72 (v5 + v6))) hF h
  refine gh_jge (tgt := 118) gd_Model_makeRow_78 (by decide) (fun c2617 => ?_) (fun c2617 => ?_)
  · have hz : True := trivial
    refine gh_iload_n gd_Model_makeRow_81 1 rfl ?_
    refine gh_zeq (tgt := 118) gd_Model_makeRow_82 (by decide) (fun c2618 => ?_) (fun c2618 => ?_)
    · have hz : True := trivial
      exact k2606 (Or.inr c2618)
    · have hz : True := trivial
      exact k2607 (fun z => z.elim (fun w => w c2617) c2618)
  · have hz : True := trivial
    exact k2606 (Or.inl c2617)
theorem s_Model_makeRow {E : gh_E} {m : gh_M} {Q : Int → gh_M → Prop} (d : Nat) (v1 : Int) (v2 : Int) (v3 : Int) (hF : gh_F m) (h : w_Model_makeRow v1 v2 v3 m Q) : gh_C E gh_yModel_makeRow prog_14_method_19_code 7 none 9 (d + 0) [(2, 63), (0, v1), (0, v2), (0, v3)] m (fun r m1 => gh_F m1 ∧ Q r m1) := by
  refine gh_enter2 (L := [(0, 2, 63), (1, 0, v1), (2, 0, v2), (3, 0, v3)]) (by decide +kernel) gh_rt9 (Nat.le_of_ble_eq_true rfl) rfl rfl ?_
  unfold w_Model_makeRow at h
  refine gh_iconst gd_Model_makeRow_0 (gh_r0 rfl) ?_
  refine gh_istore (L2 := [(4, 0, 0), (0, 2, 63), (1, 0, v1), (2, 0, v2), (3, 0, v3)]) gd_Model_makeRow_1 (by decide) rfl ?_
  refine gh_aload_n gd_Model_makeRow_3 1 rfl (by decide) ?_
  refine gf_63_12 gd_Model_makeRow_4 gh_k1382 hF ?_
  refine gh_aload_n gd_Model_makeRow_7 1 rfl (by decide) ?_
  refine gf_63_11 gd_Model_makeRow_8 gh_k1381 hF rfl ?_
  refine gh_sipush gd_Model_makeRow_11 (by decide) (gh_r0 rfl) ?_
  refine gh_iload_n gd_Model_makeRow_14 2 rfl ?_
  obtain ⟨q2591, h⟩ := h
  refine gh_iadd gd_Model_makeRow_15 q2591 ?_
  obtain ⟨q2592, h⟩ := h
  obtain ⟨q2593, h⟩ := h
  refine sa_66 gd_Model_makeRow_16 hF q2592 q2593 (fun hF => ?_)
  refine gh_iload_n gd_Model_makeRow_17 3 rfl ?_
  obtain ⟨J36, hJ36, h⟩ := h
  have hJ36 : ∀ (v4 : Int) (m : gh_M), gh_F m → J36 v4 m → gh_T E (gh_yModel_makeRow.cls, prog_14_method_19_code, 7, false, 9) (d + 0) 36 [(0, 2, 63), (3, 0, v3), (4, 0, v4)] [] m (fun r m1 => gh_F m1 ∧ Q r m1) := by
    intro v4 m hF hj
    have h := hJ36 v4 m hj
    refine gh_iconst gd_Model_makeRow_36 (gh_r0 rfl) ?_
    refine gh_aload_n gd_Model_makeRow_37 0 rfl (by decide) ?_
    refine gf_63_15 gd_Model_makeRow_38 gh_k1385 hF rfl ?_
    obtain ⟨q2594, h⟩ := h
    refine gh_imul gd_Model_makeRow_41 q2594 ?_
    refine gh_aload_n gd_Model_makeRow_42 0 rfl (by decide) ?_
    refine gf_63_19 gd_Model_makeRow_43 gh_k1389 hF ?_
    refine gh_aload_n gd_Model_makeRow_46 0 rfl (by decide) ?_
    refine gf_63_15 gd_Model_makeRow_47 gh_k1385 hF rfl ?_
    obtain ⟨q2595, h⟩ := h
    obtain ⟨q2596, h⟩ := h
    refine la_71 gd_Model_makeRow_50 hF q2595 q2596 rfl ?_
    obtain ⟨q2597, h⟩ := h
    refine gh_iadd gd_Model_makeRow_51 q2597 ?_
    refine gh_aload_n gd_Model_makeRow_52 0 rfl (by decide) ?_
    refine gf_63_21 gd_Model_makeRow_53 gh_k1391 hF ?_
    refine gh_aload_n gd_Model_makeRow_56 0 rfl (by decide) ?_
    refine gf_63_15 gd_Model_makeRow_57 gh_k1385 hF rfl ?_
    obtain ⟨q2598, h⟩ := h
    obtain ⟨q2599, h⟩ := h
    refine la_73 gd_Model_makeRow_60 hF q2598 q2599 rfl ?_
    obtain ⟨q2600, h⟩ := h
    refine gh_isub gd_Model_makeRow_61 q2600 ?_
    refine gh_name (fun v5 hn => ?_)
    have h := h v5 hn
    refine gh_istore (L2 := [(5, 0, v5), (0, 2, 63), (3, 0, v3), (4, 0, v4)]) gd_Model_makeRow_62 (by decide) rfl ?_
    refine gh_iconst gd_Model_makeRow_64 (gh_r0 rfl) ?_
    refine gh_istore (L2 := [(6, 0, 0), (5, 0, v5), (0, 2, 63), (3, 0, v3), (4, 0, v4)]) gd_Model_makeRow_65 (by decide) rfl ?_
    refine gh_pick (L2 := [(0, 2, 63), (3, 0, v3), (4, 0, v4), (5, 0, v5), (6, 0, 0)]) [2, 3, 4, 1, 0] rfl ?_
    exact gh_M2_sound (T := fun v4 v6 m => gh_T E (gh_yModel_makeRow.cls, prog_14_method_19_code, 7, false, 9) (d + 0) 67 [(0, 2, 63), (3, 0, v3), (4, 0, v4), (5, 0, v5), (6, 0, v6)] [] m (fun r m1 => gh_F m1 ∧ Q r m1)) (fun _ _ m => gh_F m) (fun K67 v4 v6 m hK hF h => b_Model_makeRow_67 d hK v4 v6 m hF h) v4 0 m hF h
  obtain ⟨hA, hB⟩ := h
  refine gh_zeq (tgt := 36) gd_Model_makeRow_18 (by decide) (fun c2619 => ?_) (fun c2619 => ?_)
  · have h := hA c2619
    refine gh_pick (L2 := [(0, 2, 63), (3, 0, v3), (4, 0, 0)]) [1, 4, 0] rfl ?_
    exact hJ36 0 (gh_u m 66 (m 63 11) (200 + v1)) hF h
  · have h := hB c2619
    refine gh_aload_n gd_Model_makeRow_21 1 rfl (by decide) ?_
    refine gf_63_14 gd_Model_makeRow_22 gh_k1384 hF ?_
    refine gh_iconst gd_Model_makeRow_25 (gh_r0 rfl) ?_
    refine gh_aload_n gd_Model_makeRow_26 1 rfl (by decide) ?_
    refine gf_63_11 gd_Model_makeRow_27 gh_k1381 hF (gh_u_a (by decide)) ?_
    obtain ⟨q2620, h⟩ := h
    refine gh_imul gd_Model_makeRow_30 q2620 ?_
    refine gh_iload_n gd_Model_makeRow_31 3 rfl ?_
    obtain ⟨q2621, h⟩ := h
    obtain ⟨q2622, h⟩ := h
    refine sa_68 gd_Model_makeRow_32 hF q2621 q2622 (fun hF => ?_)
    refine gh_iconst gd_Model_makeRow_33 (gh_r0 rfl) ?_
    refine gh_istore (L2 := [(4, 0, 1), (0, 2, 63), (1, 0, v1), (2, 0, v2), (3, 0, v3)]) gd_Model_makeRow_34 (by decide) rfl ?_
    refine gh_pick (L2 := [(0, 2, 63), (3, 0, v3), (4, 0, 1)]) [1, 4, 0] rfl ?_
    exact hJ36 1 (gh_u (gh_u m 66 (m 63 11) (200 + v1)) 68 (4 * (m 63 11)) v2) hF h
def w_Model_repeats (m : gh_M) (Q : Int → gh_M → Prop) : Prop := 0 ≤ m 63 15 ∧ (m 63 15) < 4 ∧ (((m 73 (m 63 15)) = 0 → Q 2 m) ∧ (¬ ((m 73 (m 63 15)) = 0) → gh_i ((m 63 8) + (m 63 9)) ∧ ((¬ (((m 63 8) + (m 63 9)) = 8) → (gh_i ((m 63 11) + 2)))) ∧ (((¬ (((m 63 8) + (m 63 9)) = 8) ∧ (((m 63 11) + 2) ≤ 20)) → gh_i ((-2000) - (m 63 9)) ∧ ∀ v1 : Int, v1 = (-2000) - (m 63 9) → ∃ J115 : gh_M → Prop, (∀ (m : gh_M), J115 m → gh_i ((m 63 9) + 1) ∧ 0 ≤ m 63 15 ∧ (m 63 15) < 4 ∧ 0 ≤ m 63 15 ∧ (m 63 15) < 4 ∧ gh_i ((m 71 (m 63 15)) - (m 73 (m 63 15))) ∧ 0 ≤ m 63 15 ∧ (m 63 15) < 4 ∧ w_Model_addPart v1 (gh_u (gh_u m 63 9 ((m 63 9) + 1)) 71 (m 63 15) ((m 71 (m 63 15)) - (m 73 (m 63 15)))) (fun _ m2640 => 0 ≤ m2640 63 15 ∧ (m2640 63 15) < 4 ∧ Q 0 (gh_u m2640 73 (m2640 63 15) 0))) ∧ (((m 63 7) = 63 → w_Model_makeRow (m 63 9) 0 1 m (fun _ m2645 => w_Model_makeRow (m2645 63 9) 0 0 m2645 (fun _ m2647 => J115 m2647))) ∧ (¬ ((m 63 7) = 63) → w_Model_makeRow (m 63 9) 0 (if ((m 63 7) = 43) then (1:Int) else 0) m (fun _ m2651 => w_Model_makeRow (m2651 63 9) v1 1 m2651 (fun _ m2653 => J115 m2653))))) ∧ (¬ (¬ (((m 63 8) + (m 63 9)) = 8) ∧ (((m 63 11) + 2) ≤ 20)) → Q 3 m))))
theorem s_Model_repeats {E : gh_E} {m : gh_M} {Q : Int → gh_M → Prop} (d : Nat) (hF : gh_F m) (h : w_Model_repeats m Q) : gh_C E gh_yModel_repeats prog_14_method_20_code 2 (some .int) 0 (d + 1) [(2, 63)] m (fun r m1 => gh_F m1 ∧ Q r m1) := by
  refine gh_enter2 (L := [(0, 2, 63)]) (by decide +kernel) gh_rt0 (Nat.le_of_ble_eq_true rfl) rfl rfl ?_
  unfold w_Model_repeats at h
  refine gh_aload_n gd_Model_repeats_0 0 rfl (by decide) ?_
  refine gf_63_21 gd_Model_repeats_1 gh_k1391 hF ?_
  refine gh_aload_n gd_Model_repeats_4 0 rfl (by decide) ?_
  refine gf_63_15 gd_Model_repeats_5 gh_k1385 hF rfl ?_
  obtain ⟨q2623, h⟩ := h
  obtain ⟨q2624, h⟩ := h
  refine la_73 gd_Model_repeats_8 hF q2623 q2624 rfl ?_
  obtain ⟨hA, hB⟩ := h
  refine gh_zne (tgt := 14) gd_Model_repeats_9 (by decide) (fun c2625 => ?_) (fun c2625 => ?_)
  · have h := hA c2625
    refine gh_iconst gd_Model_repeats_12 (gh_r0 rfl) ?_
    exact gh_ret0 rfl gd_Model_repeats_13 ⟨hF, h⟩
  · have h := hB c2625
    refine gh_aload_n gd_Model_repeats_14 0 rfl (by decide) ?_
    refine gf_63_8 gd_Model_repeats_15 gh_k1378 hF rfl ?_
    refine gh_aload_n gd_Model_repeats_18 0 rfl (by decide) ?_
    refine gf_63_9 gd_Model_repeats_19 gh_k1379 hF rfl ?_
    obtain ⟨q2626, h⟩ := h
    refine gh_iadd gd_Model_repeats_22 q2626 ?_
    refine gh_bipush gd_Model_repeats_23 (by decide) (gh_r0 rfl) ?_
    obtain ⟨hk, hA, hB⟩ := h
    have k2628 : (¬ (((m 63 8) + (m 63 9)) = 8) ∧ (((m 63 11) + 2) ≤ 20)) → gh_T E (gh_yModel_repeats.cls, prog_14_method_20_code, 2, false, 0) (d + 1) 41 [(0, 2, 63)] [] m (fun r m1 => gh_F m1 ∧ Q r m1) := by
      intro c
      have h := hA c
      refine gh_sipush gd_Model_repeats_41 (by decide) (gh_r0 rfl) ?_
      refine gh_aload_n gd_Model_repeats_44 0 rfl (by decide) ?_
      refine gf_63_9 gd_Model_repeats_45 gh_k1379 hF rfl ?_
      obtain ⟨q2630, h⟩ := h
      refine gh_isub gd_Model_repeats_48 q2630 ?_
      refine gh_name (fun v1 hn => ?_)
      have h := h v1 hn
      refine gh_istore_n (L2 := [(1, 0, v1), (0, 2, 63)]) gd_Model_repeats_49 (by decide) rfl ?_
      refine gh_aload_n gd_Model_repeats_50 1 rfl (by decide) ?_
      refine gf_63_7 gd_Model_repeats_51 gh_k1377 hF rfl ?_
      refine gh_bipush gd_Model_repeats_54 (by decide) (gh_r0 rfl) ?_
      obtain ⟨J115, hJ115, h⟩ := h
      have hJ115 : ∀ (m : gh_M), gh_F m → J115 m → gh_T E (gh_yModel_repeats.cls, prog_14_method_20_code, 2, false, 0) (d + 1) 115 [(0, 2, 63), (1, 0, v1)] [] m (fun r m1 => gh_F m1 ∧ Q r m1) := by
        intro m hF hj
        have h := hJ115 m hj
        refine gh_aload_n gd_Model_repeats_115 0 rfl (by decide) ?_
        refine gh_dup gd_Model_repeats_116 (by decide) ?_
        refine gf_63_9 gd_Model_repeats_117 gh_k1379 hF rfl ?_
        refine gh_iconst gd_Model_repeats_120 (gh_r0 rfl) ?_
        obtain ⟨q2631, h⟩ := h
        refine gh_iadd gd_Model_repeats_121 q2631 ?_
        refine pf_63_9 gd_Model_repeats_122 gh_k1379 hF (fun hF => ?_)
        refine gh_aload_n gd_Model_repeats_125 0 rfl (by decide) ?_
        refine gf_63_19 gd_Model_repeats_126 gh_k1389 hF ?_
        refine gh_aload_n gd_Model_repeats_129 0 rfl (by decide) ?_
        refine gf_63_15 gd_Model_repeats_130 gh_k1385 hF (gh_u_i (by decide)) ?_
        refine gh_dup2 gd_Model_repeats_133 (by decide) (by decide) ?_
        obtain ⟨q2632, h⟩ := h
        obtain ⟨q2633, h⟩ := h
        refine la_71 gd_Model_repeats_134 hF q2632 q2633 (gh_u_a (by decide)) ?_
        refine gh_aload_n gd_Model_repeats_135 0 rfl (by decide) ?_
        refine gf_63_21 gd_Model_repeats_136 gh_k1391 hF ?_
        refine gh_aload_n gd_Model_repeats_139 0 rfl (by decide) ?_
        refine gf_63_15 gd_Model_repeats_140 gh_k1385 hF (gh_u_i (by decide)) ?_
        obtain ⟨q2634, h⟩ := h
        obtain ⟨q2635, h⟩ := h
        refine la_73 gd_Model_repeats_143 hF q2634 q2635 (gh_u_a (by decide)) ?_
        obtain ⟨q2636, h⟩ := h
        refine gh_isub gd_Model_repeats_144 q2636 ?_
        obtain ⟨q2637, h⟩ := h
        obtain ⟨q2638, h⟩ := h
        refine sa_71 gd_Model_repeats_145 hF q2637 q2638 (fun hF => ?_)
        refine gh_aload_n gd_Model_repeats_146 0 rfl (by decide) ?_
        refine gh_iload_n gd_Model_repeats_147 1 rfl ?_
        refine cv_Model_addPart (d := d) gd_Model_repeats_148 gh_k1696 hF (Nat.le_of_ble_eq_true rfl) (gh_C.mono (s_Model_addPart d v1 hF h) (fun r2639 m2640 hq => ?_))
        obtain ⟨hF, h⟩ := hq
        refine gh_aload_n gd_Model_repeats_151 0 rfl (by decide) ?_
        refine gf_63_21 gd_Model_repeats_152 gh_k1391 hF ?_
        refine gh_aload_n gd_Model_repeats_155 0 rfl (by decide) ?_
        refine gf_63_15 gd_Model_repeats_156 gh_k1385 hF rfl ?_
        refine gh_iconst gd_Model_repeats_159 (gh_r0 rfl) ?_
        obtain ⟨q2641, h⟩ := h
        obtain ⟨q2642, h⟩ := h
        refine sa_73 gd_Model_repeats_160 hF q2641 q2642 (fun hF => ?_)
        refine gh_iconst gd_Model_repeats_161 (gh_r0 rfl) ?_
        exact gh_ret0 rfl gd_Model_repeats_162 ⟨hF, h⟩
      obtain ⟨hA, hB⟩ := h
      refine gh_jne (tgt := 82) gd_Model_repeats_56 (by decide) (fun c2643 => ?_) (fun c2643 => ?_)
      · have h := hA c2643
        refine gh_aload_n gd_Model_repeats_59 1 rfl (by decide) ?_
        refine gh_aload_n gd_Model_repeats_60 1 rfl (by decide) ?_
        refine gf_63_9 gd_Model_repeats_61 gh_k1379 hF rfl ?_
        refine gh_iconst gd_Model_repeats_64 (gh_r0 rfl) ?_
        refine gh_iconst gd_Model_repeats_65 (gh_r0 rfl) ?_
        refine cv_Model_makeRow (d := d) gd_Model_repeats_66 gh_k1720 hF (Nat.le_of_ble_eq_true rfl) (gh_C.mono (s_Model_makeRow d (m 63 9) 0 1 hF h) (fun r2644 m2645 hq => ?_))
        obtain ⟨hF, h⟩ := hq
        refine gh_aload_n gd_Model_repeats_69 1 rfl (by decide) ?_
        refine gh_aload_n gd_Model_repeats_70 1 rfl (by decide) ?_
        refine gf_63_9 gd_Model_repeats_71 gh_k1379 hF rfl ?_
        refine gh_iconst gd_Model_repeats_74 (gh_r0 rfl) ?_
        refine gh_iconst gd_Model_repeats_75 (gh_r0 rfl) ?_
        refine cv_Model_makeRow (d := d) gd_Model_repeats_76 gh_k1720 hF (Nat.le_of_ble_eq_true rfl) (gh_C.mono (s_Model_makeRow d (m2645 63 9) 0 0 hF h) (fun r2646 m2647 hq => ?_))
        obtain ⟨hF, h⟩ := hq
        refine gh_goto (tgt := 115) gd_Model_repeats_79 (by decide) ?_
        refine gh_pick (L2 := [(0, 2, 63), (1, 0, v1)]) [1, 0] rfl ?_
        exact hJ115 m2647 hF h
      · have h := hB c2643
        refine gh_aload_n gd_Model_repeats_82 1 rfl (by decide) ?_
        refine gh_aload_n gd_Model_repeats_83 1 rfl (by decide) ?_
        refine gf_63_9 gd_Model_repeats_84 gh_k1379 hF rfl ?_
        refine gh_iconst gd_Model_repeats_87 (gh_r0 rfl) ?_
        refine gh_aload_n gd_Model_repeats_88 1 rfl (by decide) ?_
        refine gf_63_7 gd_Model_repeats_89 gh_k1377 hF rfl ?_
        refine gh_bipush gd_Model_repeats_92 (by decide) (gh_r0 rfl) ?_
        have k2648 : ∀ x2649 : Int, x2649 = (if ((m 63 7) = 43) then (1:Int) else 0) → gh_T E (gh_yModel_repeats.cls, prog_14_method_20_code, 2, false, 0) (d + 1) 102 [(1, 0, v1), (0, 2, 63)] [(0, x2649), (0, 0), (0, m 63 9), (2, 63)] m (fun r m1 => gh_F m1 ∧ Q r m1) := by
          rintro _ rfl
          refine cv_Model_makeRow (d := d) gd_Model_repeats_102 gh_k1720 hF (Nat.le_of_ble_eq_true rfl) (gh_C.mono (s_Model_makeRow d (m 63 9) 0 (if ((m 63 7) = 43) then (1:Int) else 0) hF h) (fun r2650 m2651 hq => ?_))
          obtain ⟨hF, h⟩ := hq
          refine gh_aload_n gd_Model_repeats_105 1 rfl (by decide) ?_
          refine gh_aload_n gd_Model_repeats_106 1 rfl (by decide) ?_
          refine gf_63_9 gd_Model_repeats_107 gh_k1379 hF rfl ?_
          refine gh_iload_n gd_Model_repeats_110 0 rfl ?_
          refine gh_iconst gd_Model_repeats_111 (gh_r0 rfl) ?_
          refine cv_Model_makeRow (d := d) gd_Model_repeats_112 gh_k1720 hF (Nat.le_of_ble_eq_true rfl) (gh_C.mono (s_Model_makeRow d (m2651 63 9) v1 1 hF h) (fun r2652 m2653 hq => ?_))
          obtain ⟨hF, h⟩ := hq
          refine gh_pick (L2 := [(0, 2, 63), (1, 0, v1)]) [1, 0] rfl ?_
          exact hJ115 m2653 hF h
        refine gh_jne (tgt := 101) gd_Model_repeats_94 (by decide) (fun c2654 => ?_) (fun c2654 => ?_)
        · have hz : True := trivial
          refine gh_iconst gd_Model_repeats_97 (gh_r0 rfl) ?_
          refine gh_goto (tgt := 102) gd_Model_repeats_98 (by decide) ?_
          exact k2648 _ (if_pos (c := ((m 63 7) = 43)) c2654).symm
        · have hz : True := trivial
          refine gh_iconst gd_Model_repeats_101 (gh_r0 rfl) ?_
          exact k2648 _ (if_neg (c := ((m 63 7) = 43)) c2654).symm
    have k2629 : ¬ (¬ (((m 63 8) + (m 63 9)) = 8) ∧ (((m 63 11) + 2) ≤ 20)) → gh_T E (gh_yModel_repeats.cls, prog_14_method_20_code, 2, false, 0) (d + 1) 39 [(0, 2, 63)] [] m (fun r m1 => gh_F m1 ∧ Q r m1) := by
      intro c
      have h := hB c
      refine gh_iconst gd_Model_repeats_39 (gh_r0 rfl) ?_
      exact gh_ret0 rfl gd_Model_repeats_40 ⟨hF, h⟩
    refine gh_jeq (tgt := 39) gd_Model_repeats_25 (by decide) (fun c2655 => ?_) (fun c2655 => ?_)
    · have hz : True := trivial
      exact k2629 (fun z => z.1 c2655)
    · have hz : True := trivial
      have hk := hk c2655
      refine gh_aload_n gd_Model_repeats_28 0 rfl (by decide) ?_
      refine gf_63_11 gd_Model_repeats_29 gh_k1381 hF rfl ?_
      refine gh_iconst gd_Model_repeats_32 (gh_r0 rfl) ?_
      have q2627 := hk
      refine gh_iadd gd_Model_repeats_33 q2627 ?_
      refine gh_bipush gd_Model_repeats_34 (by decide) (gh_r0 rfl) ?_
      refine gh_jle (tgt := 41) gd_Model_repeats_36 (by decide) (fun c2656 => ?_) (fun c2656 => ?_)
      · have hz : True := trivial
        exact k2628 ⟨c2655, c2656⟩
      · have hz : True := trivial
        exact k2629 (fun z => c2656 z.2)
def w_Model_takes (m : gh_M) (Q : Int → gh_M → Prop) : Prop := ∃ J24 : Prop, (J24 → w_Model_takesSets m (fun r2657 m2658 => Q r2657 m2658)) ∧ (((((m 63 5) = 2) ∨ (((m 63 5) = 3) ∨ ((m 63 5) = 4))) → J24) ∧ (¬ (((m 63 5) = 2) ∨ (((m 63 5) = 3) ∨ ((m 63 5) = 4))) → (((¬ ((m 63 5) = 5) ∨ ((m 63 7) = 58)) → Q 2 m) ∧ (¬ (¬ ((m 63 5) = 5) ∨ ((m 63 7) = 58)) → (((m 63 7) = 40 → w_Model_opens m (fun r2664 m2665 => Q r2664 m2665)) ∧ (¬ ((m 63 7) = 40) → (((m 63 7) = 41 → w_Model_closes m (fun r2667 m2668 => Q r2667 m2668)) ∧ (¬ ((m 63 7) = 41) → ∃ J99 : Prop, (J99 → ∃ J117 : Prop, (J117 → (((m 63 11) = 20 → Q 3 m) ∧ (¬ ((m 63 11) = 20) → w_Model_endRow m (fun _ m2671 => Q 0 m2671)))) ∧ (((¬ ((m 63 7) = 59) ∨ ((m 63 15) ≤ 0)) → J117) ∧ (¬ (¬ ((m 63 7) = 59) ∨ ((m 63 15) ≤ 0)) → Q 2 m))) ∧ (((((m 63 7) = 124) ∨ ((m 63 7) = 59)) → J99) ∧ (¬ (((m 63 7) = 124) ∨ ((m 63 7) = 59)) → w_Model_repeats m (fun r2678 m2679 => Q r2678 m2679)))))))))))
theorem s_Model_takes {E : gh_E} {m : gh_M} {Q : Int → gh_M → Prop} (d : Nat) (hF : gh_F m) (h : w_Model_takes m Q) : gh_C E gh_yModel_takes prog_14_method_24_code 1 (some .int) 0 (d + 4) [(2, 63)] m (fun r m1 => gh_F m1 ∧ Q r m1) := by
  refine gh_enter2 (L := [(0, 2, 63)]) (by decide +kernel) gh_rt0 (Nat.le_of_ble_eq_true rfl) rfl rfl ?_
  unfold w_Model_takes at h
  refine gh_aload_n gd_Model_takes_0 0 rfl (by decide) ?_
  refine gf_63_5 gd_Model_takes_1 gh_k1375 hF rfl ?_
  refine gh_iconst gd_Model_takes_4 (gh_r0 rfl) ?_
  obtain ⟨J24, hJ24, h⟩ := h
  have hJ24 : gh_F m → J24 → gh_T E (gh_yModel_takes.cls, prog_14_method_24_code, 1, false, 0) (d + 4) 24 [(0, 2, 63)] [] m (fun r m1 => gh_F m1 ∧ Q r m1) := by
    intro hF hj
    have h := hJ24 hj
    refine gh_aload_n gd_Model_takes_24 0 rfl (by decide) ?_
    refine cv_Model_takesSets (d := d + 3) gd_Model_takes_25 gh_k1692 hF (Nat.le_of_ble_eq_true rfl) (gh_C.mono (s_Model_takesSets d hF h) (fun r2657 m2658 hq => ?_))
    obtain ⟨hF, h⟩ := hq
    exact gh_ret0 rfl gd_Model_takes_28 ⟨hF, h⟩
  obtain ⟨hA, hB⟩ := h
  have k2659 : (((m 63 5) = 2) ∨ (((m 63 5) = 3) ∨ ((m 63 5) = 4))) → gh_T E (gh_yModel_takes.cls, prog_14_method_24_code, 1, false, 0) (d + 4) 24 [(0, 2, 63)] [] m (fun r m1 => gh_F m1 ∧ Q r m1) := by
    intro c
    have h := hA c
    exact hJ24 hF h
  have k2660 : ¬ (((m 63 5) = 2) ∨ (((m 63 5) = 3) ∨ ((m 63 5) = 4))) → gh_T E (gh_yModel_takes.cls, prog_14_method_24_code, 1, false, 0) (d + 4) 29 [(0, 2, 63)] [] m (fun r m1 => gh_F m1 ∧ Q r m1) := by
    intro c
    have h := hB c
    refine gh_aload_n gd_Model_takes_29 0 rfl (by decide) ?_
    refine gf_63_5 gd_Model_takes_30 gh_k1375 hF rfl ?_
    refine gh_iconst gd_Model_takes_33 (gh_r0 rfl) ?_
    obtain ⟨hA, hB⟩ := h
    have k2661 : (¬ ((m 63 5) = 5) ∨ ((m 63 7) = 58)) → gh_T E (gh_yModel_takes.cls, prog_14_method_24_code, 1, false, 0) (d + 4) 46 [(0, 2, 63)] [] m (fun r m1 => gh_F m1 ∧ Q r m1) := by
      intro c
      have h := hA c
      refine gh_iconst gd_Model_takes_46 (gh_r0 rfl) ?_
      exact gh_ret0 rfl gd_Model_takes_47 ⟨hF, h⟩
    have k2662 : ¬ (¬ ((m 63 5) = 5) ∨ ((m 63 7) = 58)) → gh_T E (gh_yModel_takes.cls, prog_14_method_24_code, 1, false, 0) (d + 4) 48 [(0, 2, 63)] [] m (fun r m1 => gh_F m1 ∧ Q r m1) := by
      intro c
      have h := hB c
      refine gh_aload_n gd_Model_takes_48 0 rfl (by decide) ?_
      refine gf_63_7 gd_Model_takes_49 gh_k1377 hF rfl ?_
      refine gh_bipush gd_Model_takes_52 (by decide) (gh_r0 rfl) ?_
      obtain ⟨hA, hB⟩ := h
      refine gh_jne (tgt := 62) gd_Model_takes_54 (by decide) (fun c2663 => ?_) (fun c2663 => ?_)
      · have h := hA c2663
        refine gh_aload_n gd_Model_takes_57 0 rfl (by decide) ?_
        refine cv_Model_opens (d := d + 3) gd_Model_takes_58 gh_k1700 hF (Nat.le_of_ble_eq_true rfl) (gh_C.mono (s_Model_opens (d + 3) hF h) (fun r2664 m2665 hq => ?_))
        obtain ⟨hF, h⟩ := hq
        exact gh_ret0 rfl gd_Model_takes_61 ⟨hF, h⟩
      · have h := hB c2663
        refine gh_aload_n gd_Model_takes_62 0 rfl (by decide) ?_
        refine gf_63_7 gd_Model_takes_63 gh_k1377 hF rfl ?_
        refine gh_bipush gd_Model_takes_66 (by decide) (gh_r0 rfl) ?_
        obtain ⟨hA, hB⟩ := h
        refine gh_jne (tgt := 76) gd_Model_takes_68 (by decide) (fun c2666 => ?_) (fun c2666 => ?_)
        · have h := hA c2666
          refine gh_aload_n gd_Model_takes_71 0 rfl (by decide) ?_
          refine cv_Model_closes (d := d + 3) gd_Model_takes_72 gh_k1704 hF (Nat.le_of_ble_eq_true rfl) (gh_C.mono (s_Model_closes (d + 1) hF h) (fun r2667 m2668 hq => ?_))
          obtain ⟨hF, h⟩ := hq
          exact gh_ret0 rfl gd_Model_takes_75 ⟨hF, h⟩
        · have h := hB c2666
          refine gh_aload_n gd_Model_takes_76 0 rfl (by decide) ?_
          refine gf_63_7 gd_Model_takes_77 gh_k1377 hF rfl ?_
          refine gh_bipush gd_Model_takes_80 (by decide) (gh_r0 rfl) ?_
          obtain ⟨J99, hJ99, h⟩ := h
          have hJ99 : gh_F m → J99 → gh_T E (gh_yModel_takes.cls, prog_14_method_24_code, 1, false, 0) (d + 4) 99 [(0, 2, 63)] [] m (fun r m1 => gh_F m1 ∧ Q r m1) := by
            intro hF hj
            have h := hJ99 hj
            refine gh_aload_n gd_Model_takes_99 0 rfl (by decide) ?_
            refine gf_63_7 gd_Model_takes_100 gh_k1377 hF rfl ?_
            refine gh_bipush gd_Model_takes_103 (by decide) (gh_r0 rfl) ?_
            obtain ⟨J117, hJ117, h⟩ := h
            have hJ117 : gh_F m → J117 → gh_T E (gh_yModel_takes.cls, prog_14_method_24_code, 1, false, 0) (d + 4) 117 [(0, 2, 63)] [] m (fun r m1 => gh_F m1 ∧ Q r m1) := by
              intro hF hj
              have h := hJ117 hj
              refine gh_aload_n gd_Model_takes_117 0 rfl (by decide) ?_
              refine gf_63_11 gd_Model_takes_118 gh_k1381 hF rfl ?_
              refine gh_bipush gd_Model_takes_121 (by decide) (gh_r0 rfl) ?_
              obtain ⟨hA, hB⟩ := h
              refine gh_jne (tgt := 128) gd_Model_takes_123 (by decide) (fun c2669 => ?_) (fun c2669 => ?_)
              · have h := hA c2669
                refine gh_iconst gd_Model_takes_126 (gh_r0 rfl) ?_
                exact gh_ret0 rfl gd_Model_takes_127 ⟨hF, h⟩
              · have h := hB c2669
                refine gh_aload_n gd_Model_takes_128 0 rfl (by decide) ?_
                refine cv_Model_endRow (d := d + 3) gd_Model_takes_129 gh_k1708 hF (Nat.le_of_ble_eq_true rfl) (gh_C.mono (s_Model_endRow (d + 2) hF h) (fun r2670 m2671 hq => ?_))
                obtain ⟨hF, h⟩ := hq
                refine gh_iconst gd_Model_takes_132 (gh_r0 rfl) ?_
                exact gh_ret0 rfl gd_Model_takes_133 ⟨hF, h⟩
            obtain ⟨hA, hB⟩ := h
            have k2672 : (¬ ((m 63 7) = 59) ∨ ((m 63 15) ≤ 0)) → gh_T E (gh_yModel_takes.cls, prog_14_method_24_code, 1, false, 0) (d + 4) 117 [(0, 2, 63)] [] m (fun r m1 => gh_F m1 ∧ Q r m1) := by
              intro c
              have h := hA c
              exact hJ117 hF h
            have k2673 : ¬ (¬ ((m 63 7) = 59) ∨ ((m 63 15) ≤ 0)) → gh_T E (gh_yModel_takes.cls, prog_14_method_24_code, 1, false, 0) (d + 4) 115 [(0, 2, 63)] [] m (fun r m1 => gh_F m1 ∧ Q r m1) := by
              intro c
              have h := hB c
              refine gh_iconst gd_Model_takes_115 (gh_r0 rfl) ?_
              exact gh_ret0 rfl gd_Model_takes_116 ⟨hF, h⟩
            refine gh_jne (tgt := 117) gd_Model_takes_105 (by decide) (fun c2674 => ?_) (fun c2674 => ?_)
            · have hz : True := trivial
              refine gh_aload_n gd_Model_takes_108 0 rfl (by decide) ?_
              refine gf_63_15 gd_Model_takes_109 gh_k1385 hF rfl ?_
              refine gh_zle (tgt := 117) gd_Model_takes_112 (by decide) (fun c2675 => ?_) (fun c2675 => ?_)
              · have hz : True := trivial
                exact k2672 (Or.inr c2675)
              · have hz : True := trivial
                exact k2673 (fun z => z.elim (fun w => w c2674) c2675)
            · have hz : True := trivial
              exact k2672 (Or.inl c2674)
          obtain ⟨hA, hB⟩ := h
          have k2676 : (((m 63 7) = 124) ∨ ((m 63 7) = 59)) → gh_T E (gh_yModel_takes.cls, prog_14_method_24_code, 1, false, 0) (d + 4) 99 [(0, 2, 63)] [] m (fun r m1 => gh_F m1 ∧ Q r m1) := by
            intro c
            have h := hA c
            exact hJ99 hF h
          have k2677 : ¬ (((m 63 7) = 124) ∨ ((m 63 7) = 59)) → gh_T E (gh_yModel_takes.cls, prog_14_method_24_code, 1, false, 0) (d + 4) 94 [(0, 2, 63)] [] m (fun r m1 => gh_F m1 ∧ Q r m1) := by
            intro c
            have h := hB c
            refine gh_aload_n gd_Model_takes_94 0 rfl (by decide) ?_
            refine cv_Model_repeats (d := d + 3) gd_Model_takes_95 gh_k1716 hF (Nat.le_of_ble_eq_true rfl) (gh_C.mono (s_Model_repeats (d + 2) hF h) (fun r2678 m2679 hq => ?_))
            obtain ⟨hF, h⟩ := hq
            exact gh_ret0 rfl gd_Model_takes_98 ⟨hF, h⟩
          refine gh_jeq (tgt := 99) gd_Model_takes_82 (by decide) (fun c2680 => ?_) (fun c2680 => ?_)
          · have hz : True := trivial
            exact k2676 (Or.inl c2680)
          · have hz : True := trivial
            refine gh_aload_n gd_Model_takes_85 0 rfl (by decide) ?_
            refine gf_63_7 gd_Model_takes_86 gh_k1377 hF rfl ?_
            refine gh_bipush gd_Model_takes_89 (by decide) (gh_r0 rfl) ?_
            refine gh_jeq (tgt := 99) gd_Model_takes_91 (by decide) (fun c2681 => ?_) (fun c2681 => ?_)
            · have hz : True := trivial
              exact k2676 (Or.inr c2681)
            · have hz : True := trivial
              exact k2677 (fun z => z.elim c2680 c2681)
    refine gh_jne (tgt := 46) gd_Model_takes_34 (by decide) (fun c2682 => ?_) (fun c2682 => ?_)
    · have hz : True := trivial
      refine gh_aload_n gd_Model_takes_37 0 rfl (by decide) ?_
      refine gf_63_7 gd_Model_takes_38 gh_k1377 hF rfl ?_
      refine gh_bipush gd_Model_takes_41 (by decide) (gh_r0 rfl) ?_
      refine gh_jne (tgt := 48) gd_Model_takes_43 (by decide) (fun c2683 => ?_) (fun c2683 => ?_)
      · have hz : True := trivial
        exact k2661 (Or.inr c2683)
      · have hz : True := trivial
        exact k2662 (fun z => z.elim (fun w => w c2682) c2683)
    · have hz : True := trivial
      exact k2661 (Or.inl c2682)
  refine gh_jeq (tgt := 24) gd_Model_takes_5 (by decide) (fun c2684 => ?_) (fun c2684 => ?_)
  · have hz : True := trivial
    exact k2659 (Or.inl c2684)
  · have hz : True := trivial
    refine gh_aload_n gd_Model_takes_8 0 rfl (by decide) ?_
    refine gf_63_5 gd_Model_takes_9 gh_k1375 hF rfl ?_
    refine gh_iconst gd_Model_takes_12 (gh_r0 rfl) ?_
    refine gh_jeq (tgt := 24) gd_Model_takes_13 (by decide) (fun c2685 => ?_) (fun c2685 => ?_)
    · have hz : True := trivial
      exact k2659 (Or.inr (Or.inl c2685))
    · have hz : True := trivial
      refine gh_aload_n gd_Model_takes_16 0 rfl (by decide) ?_
      refine gf_63_5 gd_Model_takes_17 gh_k1375 hF rfl ?_
      refine gh_iconst gd_Model_takes_20 (gh_r0 rfl) ?_
      refine gh_jne (tgt := 29) gd_Model_takes_21 (by decide) (fun c2686 => ?_) (fun c2686 => ?_)
      · have hz : True := trivial
        exact k2659 (Or.inr (Or.inr c2686))
      · have hz : True := trivial
        exact k2660 (fun z => z.elim c2684 (fun z => z.elim c2685 c2686))
def f_Model_readRows_190 (Q : Int → gh_M → Prop) (K190 : Int → Int → gh_M → Prop) (v2 : Int) (v3 : Int) (m : gh_M) : Prop := ((((v3 < (m 63 22)) ∧ (v2 = 0)) → 0 ≤ v3 ∧ v3 < 240 ∧ w_Model_toldOf (m 74 v3) m (fun r2693 => ∃ J228 : Int → gh_M → Prop, (∀ (v2'' : Int) (m : gh_M), J228 v2'' m → gh_i (v3 + 1) ∧ K190 v2'' (v3 + 1) m) ∧ ((r2693 = (-1) → 0 ≤ v3 ∧ v3 < 240 ∧ J228 5 (gh_u m 63 6 (m 74 v3))) ∧ (¬ (r2693 = (-1)) → J228 v2 m)))) ∧ (¬ ((v3 < (m 63 22)) ∧ (v2 = 0)) → Q v2 m))
def f_Model_readRows_38 (Q : Int → gh_M → Prop) (K38 : Int → Int → gh_M → Prop) (v1 : Int) (v2 : Int) (m : gh_M) : Prop := ∃ J188 : Int → gh_M → Prop, (∀ (v2' : Int) (m : gh_M), J188 v2' m → gh_M2 (fun K190 v2 v3 m => f_Model_readRows_190 Q K190 v2 v3 m) v2' 0 m) ∧ ((((v2 = 0) ∧ (¬ (v1 ≤ 0) ∨ (¬ ((m 63 5) = 1) ∨ ((m 63 8) = 0)))) → ∃ J177 : Int → Int → gh_M → Prop, (∀ (v1' : Int) (v2' : Int) (m : gh_M), J177 v1' v2' m → ((v2' = 0 → w_Model_next m (fun _ m2705 => K38 v1' v2' m2705)) ∧ (¬ (v2' = 0) → K38 v1' v2' m))) ∧ (((m 63 5) = 0 → J177 v1 1 m) ∧ (¬ ((m 63 5) = 0) → ((v1 = 0 → w_Model_takesHead m (fun r2708 m2709 => J177 1 r2708 m2709)) ∧ (¬ (v1 = 0) → ((v1 = 1 → ∀ v2' : Int, v2' = (if (m 63 5) = 5 then (if (m 63 7) = 58 then 0 else 2) else 2) → J177 2 v2' (gh_u (gh_u (gh_u m 63 15 0) 71 0 0) 73 0 0)) ∧ (¬ (v1 = 1) → ∀ v3 : Int, v3 = (if (((m 63 5) = 5) ∧ ((m 63 7) = 59)) then (1:Int) else 0) → w_Model_takes m (fun r2717 m2718 => ∀ v1' : Int, v1' = (if v3 = 0 then 2 else 0) → J177 v1' r2717 m2718)))))))) ∧ (¬ ((v2 = 0) ∧ (¬ (v1 ≤ 0) ∨ (¬ ((m 63 5) = 1) ∨ ((m 63 8) = 0)))) → J188 v2 m))
def w_Model_readRows (m : gh_M) (Q : Int → gh_M → Prop) : Prop := w_Model_next (gh_u (gh_u (gh_u (gh_u (gh_u (gh_u m 63 4 0) 63 8 0) 63 9 0) 63 11 0) 63 16 0) 63 22 0) (fun _ m2688 => gh_M2 (fun K38 v1 v2 m => f_Model_readRows_38 Q K38 v1 v2 m) 0 0 m2688)
theorem b_Model_readRows_190 {E : gh_E} {Q : Int → gh_M → Prop} {K190 : Int → Int → gh_M → Prop} (d : Nat) (hK : ∀ (v2 : Int) (v3 : Int) (m : gh_M), gh_F m → K190 v2 v3 m → gh_T E (gh_yModel_readRows.cls, prog_14_method_26_code, 4, false, 0) (d + 6) 190 [(0, 2, 63), (2, 0, v2), (3, 0, v3)] [] m (fun r m1 => gh_F m1 ∧ Q r m1)) (v2 : Int) (v3 : Int) (m : gh_M) (hF : gh_F m) (h : f_Model_readRows_190 Q K190 v2 v3 m) : gh_T E (gh_yModel_readRows.cls, prog_14_method_26_code, 4, false, 0) (d + 6) 190 [(0, 2, 63), (2, 0, v2), (3, 0, v3)] [] m (fun r m1 => gh_F m1 ∧ Q r m1) := by
  have hK190 := hK
  unfold f_Model_readRows_190 at h
  refine gh_iload_n gd_Model_readRows_190 2 rfl ?_
  refine gh_aload_n gd_Model_readRows_191 0 rfl (by decide) ?_
  refine gf_63_22 gd_Model_readRows_192 gh_k1392 hF rfl ?_
  obtain ⟨hA, hB⟩ := h
  have k2689 : ((v3 < (m 63 22)) ∧ (v2 = 0)) → gh_T E (gh_yModel_readRows.cls, prog_14_method_26_code, 4, false, 0) (d + 6) 202 [(0, 2, 63), (2, 0, v2), (3, 0, v3)] [] m (fun r m1 => gh_F m1 ∧ Q r m1) := by
    intro c
    have h := hA c
    refine gh_aload_n gd_Model_readRows_202 0 rfl (by decide) ?_
    refine gh_aload_n gd_Model_readRows_203 0 rfl (by decide) ?_
    refine gf_63_23 gd_Model_readRows_204 gh_k1393 hF ?_
    refine gh_iload_n gd_Model_readRows_207 2 rfl ?_
    obtain ⟨q2691, h⟩ := h
    obtain ⟨q2692, h⟩ := h
    refine la_74 gd_Model_readRows_208 hF q2691 q2692 rfl ?_
    refine cv_Model_toldOf (d := d + 5) gd_Model_readRows_209 gh_k1680 hF (Nat.le_of_ble_eq_true rfl) (gh_C.pw (s_Model_toldOf (d + 1) (m 74 v3) hF h) (fun r2693 h => ?_))
    refine gh_iconst gd_Model_readRows_212 (gh_r0 rfl) ?_
    obtain ⟨J228, hJ228, h⟩ := h
    have hJ228 : ∀ (v2'' : Int) (m : gh_M), gh_F m → J228 v2'' m → gh_T E (gh_yModel_readRows.cls, prog_14_method_26_code, 4, false, 0) (d + 6) 228 [(0, 2, 63), (2, 0, v2''), (3, 0, v3)] [] m (fun r m1 => gh_F m1 ∧ Q r m1) := by
      intro v2'' m hF hj
      have h := hJ228 v2'' m hj
      obtain ⟨q2695, h⟩ := h
      refine gh_iinc (L2 := [(3, 0, v3 + 1), (0, 2, 63), (2, 0, v2'')]) gd_Model_readRows_228 2 rfl q2695 (by decide) rfl ?_
      refine gh_goto (tgt := 190) gd_Model_readRows_231 (by decide) ?_
      refine gh_pick (L2 := [(0, 2, 63), (2, 0, v2''), (3, 0, v3 + 1)]) [1, 2, 0] rfl ?_
      exact hK190 v2'' (v3 + 1) m hF h
    obtain ⟨hA, hB⟩ := h
    refine gh_jne (tgt := 228) gd_Model_readRows_213 (by decide) (fun c2696 => ?_) (fun c2696 => ?_)
    · have h := hA c2696
      refine gh_iconst gd_Model_readRows_216 (gh_r0 rfl) ?_
      refine gh_istore_n (L2 := [(2, 0, 5), (0, 2, 63), (3, 0, v3)]) gd_Model_readRows_217 (by decide) rfl ?_
      refine gh_aload_n gd_Model_readRows_218 1 rfl (by decide) ?_
      refine gh_aload_n gd_Model_readRows_219 1 rfl (by decide) ?_
      refine gf_63_23 gd_Model_readRows_220 gh_k1393 hF ?_
      refine gh_iload_n gd_Model_readRows_223 2 rfl ?_
      obtain ⟨q2697, h⟩ := h
      obtain ⟨q2698, h⟩ := h
      refine la_74 gd_Model_readRows_224 hF q2697 q2698 rfl ?_
      refine pf_63_6 gd_Model_readRows_225 gh_k1376 hF (fun hF => ?_)
      refine gh_pick (L2 := [(0, 2, 63), (2, 0, 5), (3, 0, v3)]) [1, 0, 2] rfl ?_
      exact hJ228 5 (gh_u m 63 6 (m 74 v3)) hF h
    · have h := hB c2696
      exact hJ228 v2 m hF h
  have k2690 : ¬ ((v3 < (m 63 22)) ∧ (v2 = 0)) → gh_T E (gh_yModel_readRows.cls, prog_14_method_26_code, 4, false, 0) (d + 6) 234 [(0, 2, 63), (2, 0, v2), (3, 0, v3)] [] m (fun r m1 => gh_F m1 ∧ Q r m1) := by
    intro c
    have h := hB c
    refine gh_iload_n gd_Model_readRows_234 1 rfl ?_
    exact gh_ret0 rfl gd_Model_readRows_235 ⟨hF, h⟩
  refine gh_jge (tgt := 234) gd_Model_readRows_195 (by decide) (fun c2699 => ?_) (fun c2699 => ?_)
  · have hz : True := trivial
    refine gh_iload_n gd_Model_readRows_198 1 rfl ?_
    refine gh_zne (tgt := 234) gd_Model_readRows_199 (by decide) (fun c2700 => ?_) (fun c2700 => ?_)
    · have hz : True := trivial
      exact k2689 ⟨c2699, c2700⟩
    · have hz : True := trivial
      exact k2690 (fun z => c2700 z.2)
  · have hz : True := trivial
    exact k2690 (fun z => c2699 z.1)
theorem b_Model_readRows_38 {E : gh_E} {Q : Int → gh_M → Prop} {K38 : Int → Int → gh_M → Prop} (d : Nat) (hK : ∀ (v1 : Int) (v2 : Int) (m : gh_M), gh_F m → K38 v1 v2 m → gh_T E (gh_yModel_readRows.cls, prog_14_method_26_code, 4, false, 0) (d + 6) 38 [(0, 2, 63), (1, 0, v1), (2, 0, v2)] [] m (fun r m1 => gh_F m1 ∧ Q r m1)) (v1 : Int) (v2 : Int) (m : gh_M) (hF : gh_F m) (h : f_Model_readRows_38 Q K38 v1 v2 m) : gh_T E (gh_yModel_readRows.cls, prog_14_method_26_code, 4, false, 0) (d + 6) 38 [(0, 2, 63), (1, 0, v1), (2, 0, v2)] [] m (fun r m1 => gh_F m1 ∧ Q r m1) := by
  have hK38 := hK
  unfold f_Model_readRows_38 at h
  refine gh_iload_n gd_Model_readRows_38 2 rfl ?_
  obtain ⟨J188, hJ188, h⟩ := h
  have hJ188 : ∀ (v2' : Int) (m : gh_M), gh_F m → J188 v2' m → gh_T E (gh_yModel_readRows.cls, prog_14_method_26_code, 4, false, 0) (d + 6) 188 [(0, 2, 63), (2, 0, v2')] [] m (fun r m1 => gh_F m1 ∧ Q r m1) := by
    intro v2' m hF hj
    have h := hJ188 v2' m hj
    refine gh_iconst gd_Model_readRows_188 (gh_r0 rfl) ?_
    refine gh_istore_n (L2 := [(3, 0, 0), (0, 2, 63), (2, 0, v2')]) gd_Model_readRows_189 (by decide) rfl ?_
    refine gh_pick (L2 := [(0, 2, 63), (2, 0, v2'), (3, 0, 0)]) [1, 2, 0] rfl ?_
    exact gh_M2_sound (T := fun v2 v3 m => gh_T E (gh_yModel_readRows.cls, prog_14_method_26_code, 4, false, 0) (d + 6) 190 [(0, 2, 63), (2, 0, v2), (3, 0, v3)] [] m (fun r m1 => gh_F m1 ∧ Q r m1)) (fun _ _ m => gh_F m) (fun K190 v2 v3 m hK hF h => b_Model_readRows_190 d hK v2 v3 m hF h) v2' 0 m hF h
  obtain ⟨hA, hB⟩ := h
  have k2701 : ((v2 = 0) ∧ (¬ (v1 ≤ 0) ∨ (¬ ((m 63 5) = 1) ∨ ((m 63 8) = 0)))) → gh_T E (gh_yModel_readRows.cls, prog_14_method_26_code, 4, false, 0) (d + 6) 61 [(0, 2, 63), (1, 0, v1), (2, 0, v2)] [] m (fun r m1 => gh_F m1 ∧ Q r m1) := by
    intro c
    have h := hA c
    refine gh_aload_n gd_Model_readRows_61 0 rfl (by decide) ?_
    refine gf_63_5 gd_Model_readRows_62 gh_k1375 hF rfl ?_
    obtain ⟨J177, hJ177, h⟩ := h
    have hJ177 : ∀ (v1' : Int) (v2' : Int) (m : gh_M), gh_F m → J177 v1' v2' m → gh_T E (gh_yModel_readRows.cls, prog_14_method_26_code, 4, false, 0) (d + 6) 177 [(0, 2, 63), (1, 0, v1'), (2, 0, v2')] [] m (fun r m1 => gh_F m1 ∧ Q r m1) := by
      intro v1' v2' m hF hj
      have h := hJ177 v1' v2' m hj
      refine gh_iload_n gd_Model_readRows_177 2 rfl ?_
      obtain ⟨hA, hB⟩ := h
      refine gh_zne (tgt := 38) gd_Model_readRows_178 (by decide) (fun c2703 => ?_) (fun c2703 => ?_)
      · have h := hA c2703
        refine gh_aload_n gd_Model_readRows_181 0 rfl (by decide) ?_
        refine cv_Model_next (d := d + 5) gd_Model_readRows_182 gh_k1657 hF (Nat.le_of_ble_eq_true rfl) (gh_C.mono (s_Model_next (d + 2) hF h) (fun r2704 m2705 hq => ?_))
        obtain ⟨hF, h⟩ := hq
        refine gh_goto (tgt := 38) gd_Model_readRows_185 (by decide) ?_
        exact hK38 v1' v2' m2705 hF h
      · have h := hB c2703
        exact hK38 v1' v2' m hF h
    obtain ⟨hA, hB⟩ := h
    refine gh_zne (tgt := 73) gd_Model_readRows_65 (by decide) (fun c2706 => ?_) (fun c2706 => ?_)
    · have h := hA c2706
      refine gh_iconst gd_Model_readRows_68 (gh_r0 rfl) ?_
      refine gh_istore_n (L2 := [(2, 0, 1), (0, 2, 63), (1, 0, v1)]) gd_Model_readRows_69 (by decide) rfl ?_
      refine gh_goto (tgt := 177) gd_Model_readRows_70 (by decide) ?_
      refine gh_pick (L2 := [(0, 2, 63), (1, 0, v1), (2, 0, 1)]) [1, 2, 0] rfl ?_
      exact hJ177 v1 1 m hF h
    · have h := hB c2706
      refine gh_iload_n gd_Model_readRows_73 1 rfl ?_
      obtain ⟨hA, hB⟩ := h
      refine gh_zne (tgt := 87) gd_Model_readRows_74 (by decide) (fun c2707 => ?_) (fun c2707 => ?_)
      · have h := hA c2707
        refine gh_aload_n gd_Model_readRows_77 0 rfl (by decide) ?_
        refine cv_Model_takesHead (d := d + 5) gd_Model_readRows_78 gh_k1676 hF (Nat.le_of_ble_eq_true rfl) (gh_C.mono (s_Model_takesHead d hF h) (fun r2708 m2709 hq => ?_))
        obtain ⟨hF, h⟩ := hq
        refine gh_istore_n (L2 := [(2, 0, r2708), (0, 2, 63), (1, 0, v1)]) gd_Model_readRows_81 (by decide) rfl ?_
        refine gh_iconst gd_Model_readRows_82 (gh_r0 rfl) ?_
        refine gh_istore_n (L2 := [(1, 0, 1), (2, 0, r2708), (0, 2, 63)]) gd_Model_readRows_83 (by decide) rfl ?_
        refine gh_goto (tgt := 177) gd_Model_readRows_84 (by decide) ?_
        refine gh_pick (L2 := [(0, 2, 63), (1, 0, 1), (2, 0, r2708)]) [2, 0, 1] rfl ?_
        exact hJ177 1 r2708 m2709 hF h
      · have h := hB c2707
        refine gh_iload_n gd_Model_readRows_87 1 rfl ?_
        refine gh_iconst gd_Model_readRows_88 (gh_r0 rfl) ?_
        obtain ⟨hA, hB⟩ := h
        refine gh_jne (tgt := 139) gd_Model_readRows_89 (by decide) (fun c2710 => ?_) (fun c2710 => ?_)
        · have h := hA c2710
          refine gh_aload_n gd_Model_readRows_92 0 rfl (by decide) ?_
          refine gf_63_5 gd_Model_readRows_93 gh_k1375 hF rfl ?_
          refine gh_iconst gd_Model_readRows_96 (gh_r0 rfl) ?_
          have k2711 : ∀ x2712 : Int, x2712 = (if (m 63 5) = 5 then (if (m 63 7) = 58 then 0 else 2) else 2) → gh_T E (gh_yModel_readRows.cls, prog_14_method_26_code, 4, false, 0) (d + 6) 114 [(0, 2, 63), (1, 0, v1), (2, 0, v2)] [(0, x2712)] m (fun r m1 => gh_F m1 ∧ Q r m1) := by
            rintro _ rfl
            refine gh_name (fun v2' hn => ?_)
            have h := h v2' hn
            refine gh_istore_n (L2 := [(2, 0, v2'), (0, 2, 63), (1, 0, v1)]) gd_Model_readRows_114 (by decide) rfl ?_
            refine gh_iconst gd_Model_readRows_115 (gh_r0 rfl) ?_
            refine gh_istore_n (L2 := [(1, 0, 2), (2, 0, v2'), (0, 2, 63)]) gd_Model_readRows_116 (by decide) rfl ?_
            refine gh_aload_n gd_Model_readRows_117 2 rfl (by decide) ?_
            refine gh_iconst gd_Model_readRows_118 (gh_r0 rfl) ?_
            refine pf_63_15 gd_Model_readRows_119 gh_k1385 hF (fun hF => ?_)
            refine gh_aload_n gd_Model_readRows_122 2 rfl (by decide) ?_
            refine gf_63_19 gd_Model_readRows_123 gh_k1389 hF ?_
            refine gh_iconst gd_Model_readRows_126 (gh_r0 rfl) ?_
            refine gh_iconst gd_Model_readRows_127 (gh_r0 rfl) ?_
            refine sa_71 gd_Model_readRows_128 hF (by decide) (by decide) (fun hF => ?_)
            refine gh_aload_n gd_Model_readRows_129 2 rfl (by decide) ?_
            refine gf_63_21 gd_Model_readRows_130 gh_k1391 hF ?_
            refine gh_iconst gd_Model_readRows_133 (gh_r0 rfl) ?_
            refine gh_iconst gd_Model_readRows_134 (gh_r0 rfl) ?_
            refine sa_73 gd_Model_readRows_135 hF (by decide) (by decide) (fun hF => ?_)
            refine gh_goto (tgt := 177) gd_Model_readRows_136 (by decide) ?_
            refine gh_pick (L2 := [(0, 2, 63), (1, 0, 2), (2, 0, v2')]) [2, 0, 1] rfl ?_
            exact hJ177 2 v2' (gh_u (gh_u (gh_u m 63 15 0) 71 0 0) 73 0 0) hF h
          refine gh_jne (tgt := 113) gd_Model_readRows_97 (by decide) (fun c2713 => ?_) (fun c2713 => ?_)
          · have hz : True := trivial
            refine gh_aload_n gd_Model_readRows_100 0 rfl (by decide) ?_
            refine gf_63_7 gd_Model_readRows_101 gh_k1377 hF rfl ?_
            refine gh_bipush gd_Model_readRows_104 (by decide) (gh_r0 rfl) ?_
            refine gh_jne (tgt := 113) gd_Model_readRows_106 (by decide) (fun c2714 => ?_) (fun c2714 => ?_)
            · have hz : True := trivial
              refine gh_iconst gd_Model_readRows_109 (gh_r0 rfl) ?_
              refine gh_goto (tgt := 114) gd_Model_readRows_110 (by decide) ?_
              exact k2711 _ (by rw [if_pos c2713, if_pos c2714])
            · have hz : True := trivial
              refine gh_iconst gd_Model_readRows_113 (gh_r0 rfl) ?_
              exact k2711 _ (by rw [if_pos c2713, if_neg c2714])
          · have hz : True := trivial
            refine gh_iconst gd_Model_readRows_113 (gh_r0 rfl) ?_
            exact k2711 _ (by rw [if_neg c2713])
        · have h := hB c2710
          refine gh_aload_n gd_Model_readRows_139 0 rfl (by decide) ?_
          refine gf_63_5 gd_Model_readRows_140 gh_k1375 hF rfl ?_
          refine gh_iconst gd_Model_readRows_143 (gh_r0 rfl) ?_
          have k2715 : ∀ x2716 : Int, x2716 = (if (((m 63 5) = 5) ∧ ((m 63 7) = 59)) then (1:Int) else 0) → gh_T E (gh_yModel_readRows.cls, prog_14_method_26_code, 4, false, 0) (d + 6) 161 [(0, 2, 63), (1, 0, v1), (2, 0, v2)] [(0, x2716)] m (fun r m1 => gh_F m1 ∧ Q r m1) := by
            rintro _ rfl
            refine gh_name (fun v3 hn => ?_)
            have h := h v3 hn
            refine gh_istore_n (L2 := [(3, 0, v3), (0, 2, 63), (1, 0, v1), (2, 0, v2)]) gd_Model_readRows_161 (by decide) rfl ?_
            refine gh_aload_n gd_Model_readRows_162 1 rfl (by decide) ?_
            refine cv_Model_takes (d := d + 5) gd_Model_readRows_163 gh_k1688 hF (Nat.le_of_ble_eq_true rfl) (gh_C.mono (s_Model_takes (d + 1) hF h) (fun r2717 m2718 hq => ?_))
            obtain ⟨hF, h⟩ := hq
            refine gh_istore_n (L2 := [(2, 0, r2717), (3, 0, v3), (0, 2, 63), (1, 0, v1)]) gd_Model_readRows_166 (by decide) rfl ?_
            refine gh_iload_n gd_Model_readRows_167 1 rfl ?_
            have k2719 : ∀ x2720 : Int, x2720 = (if v3 = 0 then 2 else 0) → gh_T E (gh_yModel_readRows.cls, prog_14_method_26_code, 4, false, 0) (d + 6) 176 [(2, 0, r2717), (3, 0, v3), (0, 2, 63), (1, 0, v1)] [(0, x2720)] m2718 (fun r m1 => gh_F m1 ∧ Q r m1) := by
              rintro _ rfl
              refine gh_name (fun v1' hn => ?_)
              have h := h v1' hn
              refine gh_istore_n (L2 := [(1, 0, v1'), (2, 0, r2717), (3, 0, v3), (0, 2, 63)]) gd_Model_readRows_176 (by decide) rfl ?_
              refine gh_pick (L2 := [(0, 2, 63), (1, 0, v1'), (2, 0, r2717)]) [3, 0, 1] rfl ?_
              exact hJ177 v1' r2717 m2718 hF h
            refine gh_zeq (tgt := 175) gd_Model_readRows_168 (by decide) (fun c2721 => ?_) (fun c2721 => ?_)
            · have hz : True := trivial
              refine gh_iconst gd_Model_readRows_175 (gh_r0 rfl) ?_
              exact k2719 _ (by rw [if_pos c2721])
            · have hz : True := trivial
              refine gh_iconst gd_Model_readRows_171 (gh_r0 rfl) ?_
              refine gh_goto (tgt := 176) gd_Model_readRows_172 (by decide) ?_
              exact k2719 _ (by rw [if_neg c2721])
          refine gh_jne (tgt := 160) gd_Model_readRows_144 (by decide) (fun c2722 => ?_) (fun c2722 => ?_)
          · have hz : True := trivial
            refine gh_aload_n gd_Model_readRows_147 0 rfl (by decide) ?_
            refine gf_63_7 gd_Model_readRows_148 gh_k1377 hF rfl ?_
            refine gh_bipush gd_Model_readRows_151 (by decide) (gh_r0 rfl) ?_
            refine gh_jne (tgt := 160) gd_Model_readRows_153 (by decide) (fun c2723 => ?_) (fun c2723 => ?_)
            · have hz : True := trivial
              refine gh_iconst gd_Model_readRows_156 (gh_r0 rfl) ?_
              refine gh_goto (tgt := 161) gd_Model_readRows_157 (by decide) ?_
              exact k2715 _ (if_pos (c := (((m 63 5) = 5) ∧ ((m 63 7) = 59))) ⟨c2722, c2723⟩).symm
            · have hz : True := trivial
              refine gh_iconst gd_Model_readRows_160 (gh_r0 rfl) ?_
              exact k2715 _ (if_neg (c := (((m 63 5) = 5) ∧ ((m 63 7) = 59))) (fun z => c2723 z.2)).symm
          · have hz : True := trivial
            refine gh_iconst gd_Model_readRows_160 (gh_r0 rfl) ?_
            exact k2715 _ (if_neg (c := (((m 63 5) = 5) ∧ ((m 63 7) = 59))) (fun z => c2722 z.1)).symm
  have k2702 : ¬ ((v2 = 0) ∧ (¬ (v1 ≤ 0) ∨ (¬ ((m 63 5) = 1) ∨ ((m 63 8) = 0)))) → gh_T E (gh_yModel_readRows.cls, prog_14_method_26_code, 4, false, 0) (d + 6) 188 [(0, 2, 63), (1, 0, v1), (2, 0, v2)] [] m (fun r m1 => gh_F m1 ∧ Q r m1) := by
    intro c
    have h := hB c
    refine gh_pick (L2 := [(0, 2, 63), (2, 0, v2)]) [0, 2] rfl ?_
    exact hJ188 v2 m hF h
  refine gh_zne (tgt := 188) gd_Model_readRows_39 (by decide) (fun c2724 => ?_) (fun c2724 => ?_)
  · have hz : True := trivial
    refine gh_iload_n gd_Model_readRows_42 1 rfl ?_
    refine gh_zgt (tgt := 61) gd_Model_readRows_43 (by decide) (fun c2725 => ?_) (fun c2725 => ?_)
    · have hz : True := trivial
      refine gh_aload_n gd_Model_readRows_46 0 rfl (by decide) ?_
      refine gf_63_5 gd_Model_readRows_47 gh_k1375 hF rfl ?_
      refine gh_iconst gd_Model_readRows_50 (gh_r0 rfl) ?_
      refine gh_jne (tgt := 61) gd_Model_readRows_51 (by decide) (fun c2726 => ?_) (fun c2726 => ?_)
      · have hz : True := trivial
        refine gh_aload_n gd_Model_readRows_54 0 rfl (by decide) ?_
        refine gf_63_8 gd_Model_readRows_55 gh_k1378 hF rfl ?_
        refine gh_zne (tgt := 188) gd_Model_readRows_58 (by decide) (fun c2727 => ?_) (fun c2727 => ?_)
        · have hz : True := trivial
          exact k2701 ⟨c2724, (Or.inr (Or.inr c2727))⟩
        · have hz : True := trivial
          exact k2702 (fun z => (fun z => z.elim (fun w => w c2725) (fun z => z.elim (fun w => w c2726) c2727)) z.2)
      · have hz : True := trivial
        exact k2701 ⟨c2724, (Or.inr (Or.inl c2726))⟩
    · have hz : True := trivial
      exact k2701 ⟨c2724, (Or.inl c2725)⟩
  · have hz : True := trivial
    exact k2702 (fun z => c2724 z.1)
theorem s_Model_readRows {E : gh_E} {m : gh_M} {Q : Int → gh_M → Prop} (d : Nat) (hF : gh_F m) (h : w_Model_readRows m Q) : gh_C E gh_yModel_readRows prog_14_method_26_code 4 (some .int) 0 (d + 6) [(2, 63)] m (fun r m1 => gh_F m1 ∧ Q r m1) := by
  refine gh_enter2 (L := [(0, 2, 63)]) (by decide +kernel) gh_rt0 (Nat.le_of_ble_eq_true rfl) rfl rfl ?_
  unfold w_Model_readRows at h
  refine gh_aload_n gd_Model_readRows_0 0 rfl (by decide) ?_
  refine gh_iconst gd_Model_readRows_1 (gh_r0 rfl) ?_
  refine pf_63_4 gd_Model_readRows_2 gh_k1374 hF (fun hF => ?_)
  refine gh_aload_n gd_Model_readRows_5 0 rfl (by decide) ?_
  refine gh_iconst gd_Model_readRows_6 (gh_r0 rfl) ?_
  refine pf_63_8 gd_Model_readRows_7 gh_k1378 hF (fun hF => ?_)
  refine gh_aload_n gd_Model_readRows_10 0 rfl (by decide) ?_
  refine gh_iconst gd_Model_readRows_11 (gh_r0 rfl) ?_
  refine pf_63_9 gd_Model_readRows_12 gh_k1379 hF (fun hF => ?_)
  refine gh_aload_n gd_Model_readRows_15 0 rfl (by decide) ?_
  refine gh_iconst gd_Model_readRows_16 (gh_r0 rfl) ?_
  refine pf_63_11 gd_Model_readRows_17 gh_k1381 hF (fun hF => ?_)
  refine gh_aload_n gd_Model_readRows_20 0 rfl (by decide) ?_
  refine gh_iconst gd_Model_readRows_21 (gh_r0 rfl) ?_
  refine pf_63_16 gd_Model_readRows_22 gh_k1386 hF (fun hF => ?_)
  refine gh_aload_n gd_Model_readRows_25 0 rfl (by decide) ?_
  refine gh_iconst gd_Model_readRows_26 (gh_r0 rfl) ?_
  refine pf_63_22 gd_Model_readRows_27 gh_k1392 hF (fun hF => ?_)
  refine gh_iconst gd_Model_readRows_30 (gh_r0 rfl) ?_
  refine gh_istore_n (L2 := [(1, 0, 0), (0, 2, 63)]) gd_Model_readRows_31 (by decide) rfl ?_
  refine gh_iconst gd_Model_readRows_32 (gh_r0 rfl) ?_
  refine gh_istore_n (L2 := [(2, 0, 0), (1, 0, 0), (0, 2, 63)]) gd_Model_readRows_33 (by decide) rfl ?_
  refine gh_aload_n gd_Model_readRows_34 2 rfl (by decide) ?_
  refine cv_Model_next (d := d + 5) gd_Model_readRows_35 gh_k1657 hF (Nat.le_of_ble_eq_true rfl) (gh_C.mono (s_Model_next (d + 2) hF h) (fun r2687 m2688 hq => ?_))
  obtain ⟨hF, h⟩ := hq
  refine gh_pick (L2 := [(0, 2, 63), (1, 0, 0), (2, 0, 0)]) [2, 1, 0] rfl ?_
  exact gh_M2_sound (T := fun v1 v2 m => gh_T E (gh_yModel_readRows.cls, prog_14_method_26_code, 4, false, 0) (d + 6) 38 [(0, 2, 63), (1, 0, v1), (2, 0, v2)] [] m (fun r m1 => gh_F m1 ∧ Q r m1)) (fun _ _ m => gh_F m) (fun K38 v1 v2 m hK hF h => b_Model_readRows_38 d hK v1 v2 m hF h) 0 0 m2688 hF h
def f_Model_takeNames_40 (v1 : Int) (K2 : Int → gh_M → Prop) (K40 : Int → gh_M → Prop) (v2 : Int) (m : gh_M) : Prop := 0 ≤ v1 ∧ v1 < 8 ∧ ((v2 < (m 75 v1) → gh_i (3 * v1) ∧ gh_i ((3 * v1) + v2) ∧ 0 ≤ v1 ∧ v1 < 8 ∧ gh_i ((m 65 v1) + v2) ∧ 0 ≤ (m 65 v1) + v2 ∧ ((m 65 v1) + v2) < 240 ∧ 0 ≤ (3 * v1) + v2 ∧ ((3 * v1) + v2) < 24 ∧ gh_i (v2 + 1) ∧ K40 (v2 + 1) (gh_u m 76 ((3 * v1) + v2) (m 64 ((m 65 v1) + v2)))) ∧ (¬ (v2 < (m 75 v1)) → gh_i (v1 + 1) ∧ K2 (v1 + 1) m))
def f_Model_takeNames_2 (Q : Int → gh_M → Prop) (K2 : Int → gh_M → Prop) (v1 : Int) (m : gh_M) : Prop := ((v1 < (m 63 26) → ∃ J37 : Int → Int → Int → Prop, (∀ (y2 : Int) (y1 : Int) (z2 : Int), J37 y2 y1 z2 → 0 ≤ y1 ∧ y1 < 8 ∧ gh_M1 (fun K40 v2 m => f_Model_takeNames_40 v1 K2 K40 v2 m) 0 (gh_u m 75 y1 y2)) ∧ ((v1 < (m 63 25) → 0 ≤ v1 ∧ v1 < 8 ∧ w_Model_nameLength (m 65 v1) m (fun r2748 => J37 r2748 v1 75)) ∧ (¬ (v1 < (m 63 25)) → J37 0 v1 75))) ∧ (¬ (v1 < (m 63 26)) → Q 0 m))
def w_Model_takeNames (m : gh_M) (Q : Int → gh_M → Prop) : Prop := gh_M1 (fun K2 v1 m => f_Model_takeNames_2 Q K2 v1 m) 0 m
theorem b_Model_takeNames_40 {E : gh_E} {v1 : Int} {K2 : Int → gh_M → Prop} {Q : Int → gh_M → Prop} {K40 : Int → gh_M → Prop} (d : Nat) (hK2 : ∀ (v1 : Int) (m : gh_M), gh_F m → K2 v1 m → gh_T E (gh_yModel_takeNames.cls, prog_14_method_29_code, 3, false, 9) (d + 3) 2 [(0, 2, 63), (1, 0, v1)] [] m (fun r m1 => gh_F m1 ∧ Q r m1)) (hK : ∀ (v2 : Int) (m : gh_M), gh_F m → K40 v2 m → gh_T E (gh_yModel_takeNames.cls, prog_14_method_29_code, 3, false, 9) (d + 3) 40 [(0, 2, 63), (1, 0, v1), (2, 0, v2)] [] m (fun r m1 => gh_F m1 ∧ Q r m1)) (v2 : Int) (m : gh_M) (hF : gh_F m) (h : f_Model_takeNames_40 v1 K2 K40 v2 m) : gh_T E (gh_yModel_takeNames.cls, prog_14_method_29_code, 3, false, 9) (d + 3) 40 [(0, 2, 63), (1, 0, v1), (2, 0, v2)] [] m (fun r m1 => gh_F m1 ∧ Q r m1) := by
  have hK40 := hK
  unfold f_Model_takeNames_40 at h
  refine gh_iload_n gd_Model_takeNames_40 2 rfl ?_
  refine gh_aload_n gd_Model_takeNames_41 0 rfl (by decide) ?_
  refine gf_63_28 gd_Model_takeNames_42 gh_k1398 hF ?_
  refine gh_iload_n gd_Model_takeNames_45 1 rfl ?_
  obtain ⟨q2731, h⟩ := h
  obtain ⟨q2732, h⟩ := h
  refine la_75 gd_Model_takeNames_46 hF q2731 q2732 rfl ?_
  obtain ⟨hA, hB⟩ := h
  refine gh_jge (tgt := 79) gd_Model_takeNames_47 (by decide) (fun c2733 => ?_) (fun c2733 => ?_)
  · have h := hA c2733
    refine gh_aload_n gd_Model_takeNames_50 0 rfl (by decide) ?_
    refine gf_63_29 gd_Model_takeNames_51 gh_k1399 hF ?_
    refine gh_iconst gd_Model_takeNames_54 (gh_r0 rfl) ?_
    refine gh_iload_n gd_Model_takeNames_55 1 rfl ?_
    obtain ⟨q2734, h⟩ := h
    refine gh_imul gd_Model_takeNames_56 q2734 ?_
    refine gh_iload_n gd_Model_takeNames_57 2 rfl ?_
    obtain ⟨q2735, h⟩ := h
    refine gh_iadd gd_Model_takeNames_58 q2735 ?_
    refine gh_aload_n gd_Model_takeNames_59 0 rfl (by decide) ?_
    refine gf_63_0 gd_Model_takeNames_60 gh_k1370 hF ?_
    refine gh_aload_n gd_Model_takeNames_63 0 rfl (by decide) ?_
    refine gf_63_10 gd_Model_takeNames_64 gh_k1380 hF ?_
    refine gh_iload_n gd_Model_takeNames_67 1 rfl ?_
    obtain ⟨q2736, h⟩ := h
    obtain ⟨q2737, h⟩ := h
    refine la_65 gd_Model_takeNames_68 hF q2736 q2737 rfl ?_
    refine gh_iload_n gd_Model_takeNames_69 2 rfl ?_
    obtain ⟨q2738, h⟩ := h
    refine gh_iadd gd_Model_takeNames_70 q2738 ?_
    obtain ⟨q2739, h⟩ := h
    obtain ⟨q2740, h⟩ := h
    refine la_64 gd_Model_takeNames_71 hF q2739 q2740 rfl ?_
    obtain ⟨q2741, h⟩ := h
    obtain ⟨q2742, h⟩ := h
    refine sa_76 gd_Model_takeNames_72 hF q2741 q2742 (fun hF => ?_)
    obtain ⟨q2743, h⟩ := h
    refine gh_iinc (L2 := [(2, 0, v2 + 1), (0, 2, 63), (1, 0, v1)]) gd_Model_takeNames_73 2 rfl q2743 (by decide) rfl ?_
    refine gh_goto (tgt := 40) gd_Model_takeNames_76 (by decide) ?_
    refine gh_pick (L2 := [(0, 2, 63), (1, 0, v1), (2, 0, v2 + 1)]) [1, 2, 0] rfl ?_
    exact hK40 (v2 + 1) (gh_u m 76 ((3 * v1) + v2) (m 64 ((m 65 v1) + v2))) hF h
  · have h := hB c2733
    obtain ⟨q2744, h⟩ := h
    refine gh_iinc (L2 := [(1, 0, v1 + 1), (0, 2, 63), (2, 0, v2)]) gd_Model_takeNames_79 1 rfl q2744 (by decide) rfl ?_
    refine gh_goto (tgt := 2) gd_Model_takeNames_82 (by decide) ?_
    refine gh_pick (L2 := [(0, 2, 63), (1, 0, v1 + 1)]) [1, 0] rfl ?_
    exact hK2 (v1 + 1) m hF h
theorem b_Model_takeNames_2 {E : gh_E} {Q : Int → gh_M → Prop} {K2 : Int → gh_M → Prop} (d : Nat) (hK : ∀ (v1 : Int) (m : gh_M), gh_F m → K2 v1 m → gh_T E (gh_yModel_takeNames.cls, prog_14_method_29_code, 3, false, 9) (d + 3) 2 [(0, 2, 63), (1, 0, v1)] [] m (fun r m1 => gh_F m1 ∧ Q r m1)) (v1 : Int) (m : gh_M) (hF : gh_F m) (h : f_Model_takeNames_2 Q K2 v1 m) : gh_T E (gh_yModel_takeNames.cls, prog_14_method_29_code, 3, false, 9) (d + 3) 2 [(0, 2, 63), (1, 0, v1)] [] m (fun r m1 => gh_F m1 ∧ Q r m1) := by
  have hK2 := hK
  unfold f_Model_takeNames_2 at h
  refine gh_iload_n gd_Model_takeNames_2 1 rfl ?_
  refine gh_aload_n gd_Model_takeNames_3 0 rfl (by decide) ?_
  refine gf_63_26 gd_Model_takeNames_4 gh_k1396 hF rfl ?_
  obtain ⟨hA, hB⟩ := h
  refine gh_jge (tgt := 85) gd_Model_takeNames_7 (by decide) (fun c2728 => ?_) (fun c2728 => ?_)
  · have h := hA c2728
    refine gh_aload_n gd_Model_takeNames_10 0 rfl (by decide) ?_
    refine gf_63_28 gd_Model_takeNames_11 gh_k1398 hF ?_
    refine gh_iload_n gd_Model_takeNames_14 1 rfl ?_
    refine gh_iload_n gd_Model_takeNames_15 1 rfl ?_
    refine gh_aload_n gd_Model_takeNames_16 0 rfl (by decide) ?_
    refine gf_63_25 gd_Model_takeNames_17 gh_k1395 hF rfl ?_
    obtain ⟨J37, hJ37, h⟩ := h
    have hJ37 : ∀ (y2 : Int) (y1 : Int) (z2 : Int), gh_F m → J37 y2 y1 z2 → gh_T E (gh_yModel_takeNames.cls, prog_14_method_29_code, 3, false, 9) (d + 3) 37 [(0, 2, 63), (1, 0, v1)] [(0, y2), (0, y1), (2, 75)] m (fun r m1 => gh_F m1 ∧ Q r m1) := by
      intro y2 y1 z2 hF hj
      have h := hJ37 y2 y1 z2 hj
      obtain ⟨q2729, h⟩ := h
      obtain ⟨q2730, h⟩ := h
      refine sa_75 gd_Model_takeNames_37 hF q2729 q2730 (fun hF => ?_)
      refine gh_iconst gd_Model_takeNames_38 (gh_r0 rfl) ?_
      refine gh_istore_n (L2 := [(2, 0, 0), (0, 2, 63), (1, 0, v1)]) gd_Model_takeNames_39 (by decide) rfl ?_
      refine gh_pick (L2 := [(0, 2, 63), (1, 0, v1), (2, 0, 0)]) [1, 2, 0] rfl ?_
      exact gh_M1_sound (T := fun v2 m => gh_T E (gh_yModel_takeNames.cls, prog_14_method_29_code, 3, false, 9) (d + 3) 40 [(0, 2, 63), (1, 0, v1), (2, 0, v2)] [] m (fun r m1 => gh_F m1 ∧ Q r m1)) (fun _ m => gh_F m) (fun K40 v2 m hK hF h => b_Model_takeNames_40 d hK2 hK v2 m hF h) 0 (gh_u m 75 y1 y2) hF h
    obtain ⟨hA, hB⟩ := h
    refine gh_jge (tgt := 36) gd_Model_takeNames_20 (by decide) (fun c2745 => ?_) (fun c2745 => ?_)
    · have h := hA c2745
      refine gh_aload_n gd_Model_takeNames_23 0 rfl (by decide) ?_
      refine gh_aload_n gd_Model_takeNames_24 0 rfl (by decide) ?_
      refine gf_63_10 gd_Model_takeNames_25 gh_k1380 hF ?_
      refine gh_iload_n gd_Model_takeNames_28 1 rfl ?_
      obtain ⟨q2746, h⟩ := h
      obtain ⟨q2747, h⟩ := h
      refine la_65 gd_Model_takeNames_29 hF q2746 q2747 rfl ?_
      refine cv_Model_nameLength (d := d + 2) gd_Model_takeNames_30 gh_k1665 hF (Nat.le_of_ble_eq_true rfl) (gh_C.pw (s_Model_nameLength d (m 65 v1) hF h) (fun r2748 h => ?_))
      refine gh_goto (tgt := 37) gd_Model_takeNames_33 (by decide) ?_
      exact hJ37 r2748 v1 75 hF h
    · have h := hB c2745
      refine gh_iconst gd_Model_takeNames_36 (gh_r0 rfl) ?_
      exact hJ37 0 v1 75 hF h
  · have h := hB c2728
    exact gh_ret9 rfl gd_Model_takeNames_85 ⟨hF, h⟩
theorem s_Model_takeNames {E : gh_E} {m : gh_M} {Q : Int → gh_M → Prop} (d : Nat) (hF : gh_F m) (h : w_Model_takeNames m Q) : gh_C E gh_yModel_takeNames prog_14_method_29_code 3 none 9 (d + 3) [(2, 63)] m (fun r m1 => gh_F m1 ∧ Q r m1) := by
  refine gh_enter2 (L := [(0, 2, 63)]) (by decide +kernel) gh_rt9 (Nat.le_of_ble_eq_true rfl) rfl rfl ?_
  unfold w_Model_takeNames at h
  refine gh_iconst gd_Model_takeNames_0 (gh_r0 rfl) ?_
  refine gh_istore_n (L2 := [(1, 0, 0), (0, 2, 63)]) gd_Model_takeNames_1 (by decide) rfl ?_
  refine gh_pick (L2 := [(0, 2, 63), (1, 0, 0)]) [1, 0] rfl ?_
  exact gh_M1_sound (T := fun v1 m => gh_T E (gh_yModel_takeNames.cls, prog_14_method_29_code, 3, false, 9) (d + 3) 2 [(0, 2, 63), (1, 0, v1)] [] m (fun r m1 => gh_F m1 ∧ Q r m1)) (fun _ m => gh_F m) (fun K2 v1 m hK hF h => b_Model_takeNames_2 d hK v1 m hF h) 0 m hF h
def w_Model_partOf (v1 : Int) (m : gh_M) (Q : Int → Prop) : Prop := ((v1 ≤ 0 → ((v1 ≤ (-2000) → gh_i ((-1) - (m 63 8)) ∧ gh_i ((-2000) - v1) ∧ gh_i (((-1) - (m 63 8)) - ((-2000) - v1)) ∧ Q (((-1) - (m 63 8)) - ((-2000) - v1))) ∧ (¬ (v1 ≤ (-2000)) → gh_i ((-1000) - v1) ∧ w_Model_toldOf ((-1000) - v1) m (fun r2756 => gh_i ((-1) - r2756) ∧ Q ((-1) - r2756))))) ∧ (¬ (v1 ≤ 0) → Q v1))
theorem s_Model_partOf {E : gh_E} {m : gh_M} {Q : Int → Prop} (d : Nat) (v1 : Int) (hF : gh_F m) (h : w_Model_partOf v1 m Q) : gh_C E gh_yModel_partOf prog_14_method_28_code 2 (some .int) 0 (d + 5) [(2, 63), (0, v1)] m (fun r m1 => m1 = m ∧ Q r) := by
  refine gh_enter2 (L := [(0, 2, 63), (1, 0, v1)]) (by decide +kernel) gh_rt0 (Nat.le_of_ble_eq_true rfl) rfl rfl ?_
  unfold w_Model_partOf at h
  refine gh_iload_n gd_Model_partOf_0 1 rfl ?_
  obtain ⟨hA, hB⟩ := h
  refine gh_zle (tgt := 8) gd_Model_partOf_1 (by decide) (fun c2750 => ?_) (fun c2750 => ?_)
  · have h := hA c2750
    refine gh_iload_n gd_Model_partOf_8 1 rfl ?_
    refine gh_sipush gd_Model_partOf_9 (by decide) (gh_r0 rfl) ?_
    obtain ⟨hA, hB⟩ := h
    refine gh_jgt (tgt := 30) gd_Model_partOf_12 (by decide) (fun c2751 => ?_) (fun c2751 => ?_)
    · have h := hA c2751
      refine gh_iconst gd_Model_partOf_15 (gh_r0 rfl) ?_
      refine gh_aload_n gd_Model_partOf_16 0 rfl (by decide) ?_
      refine gf_63_8 gd_Model_partOf_17 gh_k1378 hF rfl ?_
      obtain ⟨q2752, h⟩ := h
      refine gh_isub gd_Model_partOf_20 q2752 ?_
      refine gh_sipush gd_Model_partOf_21 (by decide) (gh_r0 rfl) ?_
      refine gh_iload_n gd_Model_partOf_24 1 rfl ?_
      obtain ⟨q2753, h⟩ := h
      refine gh_isub gd_Model_partOf_25 q2753 ?_
      obtain ⟨q2754, h⟩ := h
      refine gh_isub gd_Model_partOf_26 q2754 ?_
      refine gh_goto (tgt := 41) gd_Model_partOf_27 (by decide) ?_
      exact gh_ret0 rfl gd_Model_partOf_41 ⟨rfl, h⟩
    · have h := hB c2751
      refine gh_iconst gd_Model_partOf_30 (gh_r0 rfl) ?_
      refine gh_aload_n gd_Model_partOf_31 0 rfl (by decide) ?_
      refine gh_sipush gd_Model_partOf_32 (by decide) (gh_r0 rfl) ?_
      refine gh_iload_n gd_Model_partOf_35 1 rfl ?_
      obtain ⟨q2755, h⟩ := h
      refine gh_isub gd_Model_partOf_36 q2755 ?_
      refine cv_Model_toldOf (d := d + 4) gd_Model_partOf_37 gh_k1680 hF (Nat.le_of_ble_eq_true rfl) (gh_C.pw (s_Model_toldOf d ((-1000) - v1) hF h) (fun r2756 h => ?_))
      obtain ⟨q2758, h⟩ := h
      refine gh_isub gd_Model_partOf_40 q2758 ?_
      exact gh_ret0 rfl gd_Model_partOf_41 ⟨rfl, h⟩
  · have h := hB c2750
    refine gh_iload_n gd_Model_partOf_4 1 rfl ?_
    refine gh_goto (tgt := 41) gd_Model_partOf_5 (by decide) ?_
    exact gh_ret0 rfl gd_Model_partOf_41 ⟨rfl, h⟩
def f_Model_takeRules_76 (v1 : Int) (v2 : Int) (J129 : gh_M → Prop) (K76 : Int → gh_M → Prop) (v3 : Int) (m : gh_M) : Prop := 0 ≤ v2 ∧ v2 < 20 ∧ ((v3 < (m 67 v2) → gh_i (4 * (m 63 27)) ∧ gh_i ((4 * (m 63 27)) + v3) ∧ gh_i (4 * v2) ∧ gh_i ((4 * v2) + v3) ∧ 0 ≤ (4 * v2) + v3 ∧ ((4 * v2) + v3) < 80 ∧ w_Model_partOf (m 68 ((4 * v2) + v3)) m (fun r2783 => 0 ≤ (4 * (m 63 27)) + v3 ∧ ((4 * (m 63 27)) + v3) < 80 ∧ gh_i (v3 + 1) ∧ K76 (v3 + 1) (gh_u m 81 ((4 * (m 63 27)) + v3) r2783))) ∧ (¬ (v3 < (m 67 v2)) → gh_i ((m 63 27) + 1) ∧ J129 (gh_u m 63 27 ((m 63 27) + 1))))
def f_Model_takeRules_27 (v1 : Int) (K7 : Int → gh_M → Prop) (K27 : Int → gh_M → Prop) (v2 : Int) (m : gh_M) : Prop := ((v2 < (m 63 11) → 0 ≤ v2 ∧ v2 < 20 ∧ k_Model_numberOf (m 66 v2) m ∧ ∃ J129 : gh_M → Prop, (∀ (m : gh_M), J129 m → gh_i (v2 + 1) ∧ K27 (v2 + 1) m) ∧ (((x_Model_numberOf (m 66 v2) m) = v1 → 0 ≤ m 63 27 ∧ (m 63 27) < 20 ∧ 0 ≤ v2 ∧ v2 < 20 ∧ 0 ≤ m 63 27 ∧ (m 63 27) < 20 ∧ gh_M1 (fun K76 v3 m => f_Model_takeRules_76 v1 v2 J129 K76 v3 m) 0 (gh_u (gh_u m 79 (m 63 27) v1) 80 (m 63 27) (m 67 v2))) ∧ (¬ ((x_Model_numberOf (m 66 v2) m) = v1) → J129 m))) ∧ (¬ (v2 < (m 63 11)) → 0 ≤ v1 ∧ v1 < 8 ∧ gh_i ((m 63 27) - (m 77 v1)) ∧ 0 ≤ v1 ∧ v1 < 8 ∧ gh_i (v1 + 1) ∧ K7 (v1 + 1) (gh_u m 78 v1 ((m 63 27) - (m 77 v1)))))
def f_Model_takeRules_7 (Q : Int → gh_M → Prop) (K7 : Int → gh_M → Prop) (v1 : Int) (m : gh_M) : Prop := ((v1 < (m 63 26) → 0 ≤ v1 ∧ v1 < 8 ∧ gh_M1 (fun K27 v2 m => f_Model_takeRules_27 v1 K7 K27 v2 m) 0 (gh_u m 77 v1 (m 63 27))) ∧ (¬ (v1 < (m 63 26)) → Q 0 m))
def w_Model_takeRules (m : gh_M) (Q : Int → gh_M → Prop) : Prop := gh_M1 (fun K7 v1 m => f_Model_takeRules_7 Q K7 v1 m) 0 (gh_u m 63 27 0)
theorem b_Model_takeRules_76 {E : gh_E} {v1 : Int} {v2 : Int} {J129 : gh_M → Prop} {Q : Int → gh_M → Prop} {K76 : Int → gh_M → Prop} (d : Nat) (hJ129 : ∀ (m : gh_M), gh_F m → J129 m → gh_T E (gh_yModel_takeRules.cls, prog_14_method_30_code, 4, false, 9) (d + 6) 129 [(0, 2, 63), (1, 0, v1), (2, 0, v2)] [] m (fun r m1 => gh_F m1 ∧ Q r m1)) (hK : ∀ (v3 : Int) (m : gh_M), gh_F m → K76 v3 m → gh_T E (gh_yModel_takeRules.cls, prog_14_method_30_code, 4, false, 9) (d + 6) 76 [(0, 2, 63), (1, 0, v1), (2, 0, v2), (3, 0, v3)] [] m (fun r m1 => gh_F m1 ∧ Q r m1)) (v3 : Int) (m : gh_M) (hF : gh_F m) (h : f_Model_takeRules_76 v1 v2 J129 K76 v3 m) : gh_T E (gh_yModel_takeRules.cls, prog_14_method_30_code, 4, false, 9) (d + 6) 76 [(0, 2, 63), (1, 0, v1), (2, 0, v2), (3, 0, v3)] [] m (fun r m1 => gh_F m1 ∧ Q r m1) := by
  have hK76 := hK
  unfold f_Model_takeRules_76 at h
  refine gh_iload_n gd_Model_takeRules_76 3 rfl ?_
  refine gh_aload_n gd_Model_takeRules_77 0 rfl (by decide) ?_
  refine gf_63_13 gd_Model_takeRules_78 gh_k1383 hF ?_
  refine gh_iload_n gd_Model_takeRules_81 2 rfl ?_
  obtain ⟨q2774, h⟩ := h
  obtain ⟨q2775, h⟩ := h
  refine la_67 gd_Model_takeRules_82 hF q2774 q2775 rfl ?_
  obtain ⟨hA, hB⟩ := h
  refine gh_jge (tgt := 119) gd_Model_takeRules_83 (by decide) (fun c2776 => ?_) (fun c2776 => ?_)
  · have h := hA c2776
    refine gh_aload_n gd_Model_takeRules_86 0 rfl (by decide) ?_
    refine gf_63_34 gd_Model_takeRules_87 gh_k1404 hF ?_
    refine gh_iconst gd_Model_takeRules_90 (gh_r0 rfl) ?_
    refine gh_aload_n gd_Model_takeRules_91 0 rfl (by decide) ?_
    refine gf_63_27 gd_Model_takeRules_92 gh_k1397 hF rfl ?_
    obtain ⟨q2777, h⟩ := h
    refine gh_imul gd_Model_takeRules_95 q2777 ?_
    refine gh_iload_n gd_Model_takeRules_96 3 rfl ?_
    obtain ⟨q2778, h⟩ := h
    refine gh_iadd gd_Model_takeRules_97 q2778 ?_
    refine gh_aload_n gd_Model_takeRules_98 0 rfl (by decide) ?_
    refine gh_aload_n gd_Model_takeRules_99 0 rfl (by decide) ?_
    refine gf_63_14 gd_Model_takeRules_100 gh_k1384 hF ?_
    refine gh_iconst gd_Model_takeRules_103 (gh_r0 rfl) ?_
    refine gh_iload_n gd_Model_takeRules_104 2 rfl ?_
    obtain ⟨q2779, h⟩ := h
    refine gh_imul gd_Model_takeRules_105 q2779 ?_
    refine gh_iload_n gd_Model_takeRules_106 3 rfl ?_
    obtain ⟨q2780, h⟩ := h
    refine gh_iadd gd_Model_takeRules_107 q2780 ?_
    obtain ⟨q2781, h⟩ := h
    obtain ⟨q2782, h⟩ := h
    refine la_68 gd_Model_takeRules_108 hF q2781 q2782 rfl ?_
    refine cv_Model_partOf (d := d + 5) gd_Model_takeRules_109 gh_k1736 hF (Nat.le_of_ble_eq_true rfl) (gh_C.pw (s_Model_partOf d (m 68 ((4 * v2) + v3)) hF h) (fun r2783 h => ?_))
    obtain ⟨q2785, h⟩ := h
    obtain ⟨q2786, h⟩ := h
    refine sa_81 gd_Model_takeRules_112 hF q2785 q2786 (fun hF => ?_)
    obtain ⟨q2787, h⟩ := h
    refine gh_iinc (L2 := [(3, 0, v3 + 1), (0, 2, 63), (1, 0, v1), (2, 0, v2)]) gd_Model_takeRules_113 3 rfl q2787 (by decide) rfl ?_
    refine gh_goto (tgt := 76) gd_Model_takeRules_116 (by decide) ?_
    refine gh_pick (L2 := [(0, 2, 63), (1, 0, v1), (2, 0, v2), (3, 0, v3 + 1)]) [1, 2, 3, 0] rfl ?_
    exact hK76 (v3 + 1) (gh_u m 81 ((4 * (m 63 27)) + v3) r2783) hF h
  · have h := hB c2776
    refine gh_aload_n gd_Model_takeRules_119 0 rfl (by decide) ?_
    refine gh_dup gd_Model_takeRules_120 (by decide) ?_
    refine gf_63_27 gd_Model_takeRules_121 gh_k1397 hF rfl ?_
    refine gh_iconst gd_Model_takeRules_124 (gh_r0 rfl) ?_
    obtain ⟨q2788, h⟩ := h
    refine gh_iadd gd_Model_takeRules_125 q2788 ?_
    refine pf_63_27 gd_Model_takeRules_126 gh_k1397 hF (fun hF => ?_)
    refine gh_pick (L2 := [(0, 2, 63), (1, 0, v1), (2, 0, v2)]) [0, 1, 2] rfl ?_
    exact hJ129 (gh_u m 63 27 ((m 63 27) + 1)) hF h
theorem b_Model_takeRules_27 {E : gh_E} {v1 : Int} {K7 : Int → gh_M → Prop} {Q : Int → gh_M → Prop} {K27 : Int → gh_M → Prop} (d : Nat) (hK7 : ∀ (v1 : Int) (m : gh_M), gh_F m → K7 v1 m → gh_T E (gh_yModel_takeRules.cls, prog_14_method_30_code, 4, false, 9) (d + 6) 7 [(0, 2, 63), (1, 0, v1)] [] m (fun r m1 => gh_F m1 ∧ Q r m1)) (hK : ∀ (v2 : Int) (m : gh_M), gh_F m → K27 v2 m → gh_T E (gh_yModel_takeRules.cls, prog_14_method_30_code, 4, false, 9) (d + 6) 27 [(0, 2, 63), (1, 0, v1), (2, 0, v2)] [] m (fun r m1 => gh_F m1 ∧ Q r m1)) (v2 : Int) (m : gh_M) (hF : gh_F m) (h : f_Model_takeRules_27 v1 K7 K27 v2 m) : gh_T E (gh_yModel_takeRules.cls, prog_14_method_30_code, 4, false, 9) (d + 6) 27 [(0, 2, 63), (1, 0, v1), (2, 0, v2)] [] m (fun r m1 => gh_F m1 ∧ Q r m1) := by
  have hK27 := hK
  unfold f_Model_takeRules_27 at h
  refine gh_iload_n gd_Model_takeRules_27 2 rfl ?_
  refine gh_aload_n gd_Model_takeRules_28 0 rfl (by decide) ?_
  refine gf_63_11 gd_Model_takeRules_29 gh_k1381 hF rfl ?_
  obtain ⟨hA, hB⟩ := h
  refine gh_jge (tgt := 135) gd_Model_takeRules_32 (by decide) (fun c2762 => ?_) (fun c2762 => ?_)
  · have h := hA c2762
    refine gh_aload_n gd_Model_takeRules_35 0 rfl (by decide) ?_
    refine gh_aload_n gd_Model_takeRules_36 0 rfl (by decide) ?_
    refine gf_63_12 gd_Model_takeRules_37 gh_k1382 hF ?_
    refine gh_iload_n gd_Model_takeRules_40 2 rfl ?_
    obtain ⟨q2763, h⟩ := h
    obtain ⟨q2764, h⟩ := h
    refine la_66 gd_Model_takeRules_41 hF q2763 q2764 rfl ?_
    obtain ⟨q2765, h⟩ := h
    refine cv_Model_numberOf (d := d + 5) gd_Model_takeRules_42 gh_k1732 hF (Nat.le_of_ble_eq_true rfl) (gh_C.pe (e_Model_numberOf (d + 5) (m 66 v2) hF q2765) ?_)
    refine gh_iload_n gd_Model_takeRules_45 1 rfl ?_
    obtain ⟨J129, hJ129, h⟩ := h
    have hJ129 : ∀ (m : gh_M), gh_F m → J129 m → gh_T E (gh_yModel_takeRules.cls, prog_14_method_30_code, 4, false, 9) (d + 6) 129 [(0, 2, 63), (1, 0, v1), (2, 0, v2)] [] m (fun r m1 => gh_F m1 ∧ Q r m1) := by
      intro m hF hj
      have h := hJ129 m hj
      obtain ⟨q2766, h⟩ := h
      refine gh_iinc (L2 := [(2, 0, v2 + 1), (0, 2, 63), (1, 0, v1)]) gd_Model_takeRules_129 2 rfl q2766 (by decide) rfl ?_
      refine gh_goto (tgt := 27) gd_Model_takeRules_132 (by decide) ?_
      refine gh_pick (L2 := [(0, 2, 63), (1, 0, v1), (2, 0, v2 + 1)]) [1, 2, 0] rfl ?_
      exact hK27 (v2 + 1) m hF h
    obtain ⟨hA, hB⟩ := h
    refine gh_jne (tgt := 129) gd_Model_takeRules_46 (by decide) (fun c2767 => ?_) (fun c2767 => ?_)
    · have h := hA c2767
      refine gh_aload_n gd_Model_takeRules_49 0 rfl (by decide) ?_
      refine gf_63_32 gd_Model_takeRules_50 gh_k1402 hF ?_
      refine gh_aload_n gd_Model_takeRules_53 0 rfl (by decide) ?_
      refine gf_63_27 gd_Model_takeRules_54 gh_k1397 hF rfl ?_
      refine gh_iload_n gd_Model_takeRules_57 1 rfl ?_
      obtain ⟨q2768, h⟩ := h
      obtain ⟨q2769, h⟩ := h
      refine sa_79 gd_Model_takeRules_58 hF q2768 q2769 (fun hF => ?_)
      refine gh_aload_n gd_Model_takeRules_59 0 rfl (by decide) ?_
      refine gf_63_33 gd_Model_takeRules_60 gh_k1403 hF ?_
      refine gh_aload_n gd_Model_takeRules_63 0 rfl (by decide) ?_
      refine gf_63_27 gd_Model_takeRules_64 gh_k1397 hF (gh_u_a (by decide)) ?_
      refine gh_aload_n gd_Model_takeRules_67 0 rfl (by decide) ?_
      refine gf_63_13 gd_Model_takeRules_68 gh_k1383 hF ?_
      refine gh_iload_n gd_Model_takeRules_71 2 rfl ?_
      obtain ⟨q2770, h⟩ := h
      obtain ⟨q2771, h⟩ := h
      refine la_67 gd_Model_takeRules_72 hF q2770 q2771 (gh_u_a (by decide)) ?_
      obtain ⟨q2772, h⟩ := h
      obtain ⟨q2773, h⟩ := h
      refine sa_80 gd_Model_takeRules_73 hF q2772 q2773 (fun hF => ?_)
      refine gh_iconst gd_Model_takeRules_74 (gh_r0 rfl) ?_
      refine gh_istore_n (L2 := [(3, 0, 0), (0, 2, 63), (1, 0, v1), (2, 0, v2)]) gd_Model_takeRules_75 (by decide) rfl ?_
      refine gh_pick (L2 := [(0, 2, 63), (1, 0, v1), (2, 0, v2), (3, 0, 0)]) [1, 2, 3, 0] rfl ?_
      exact gh_M1_sound (T := fun v3 m => gh_T E (gh_yModel_takeRules.cls, prog_14_method_30_code, 4, false, 9) (d + 6) 76 [(0, 2, 63), (1, 0, v1), (2, 0, v2), (3, 0, v3)] [] m (fun r m1 => gh_F m1 ∧ Q r m1)) (fun _ m => gh_F m) (fun K76 v3 m hK hF h => b_Model_takeRules_76 d hJ129 hK v3 m hF h) 0 (gh_u (gh_u m 79 (m 63 27) v1) 80 (m 63 27) (m 67 v2)) hF h
    · have h := hB c2767
      exact hJ129 m hF h
  · have h := hB c2762
    refine gh_aload_n gd_Model_takeRules_135 0 rfl (by decide) ?_
    refine gf_63_31 gd_Model_takeRules_136 gh_k1401 hF ?_
    refine gh_iload_n gd_Model_takeRules_139 1 rfl ?_
    refine gh_aload_n gd_Model_takeRules_140 0 rfl (by decide) ?_
    refine gf_63_27 gd_Model_takeRules_141 gh_k1397 hF rfl ?_
    refine gh_aload_n gd_Model_takeRules_144 0 rfl (by decide) ?_
    refine gf_63_30 gd_Model_takeRules_145 gh_k1400 hF ?_
    refine gh_iload_n gd_Model_takeRules_148 1 rfl ?_
    obtain ⟨q2789, h⟩ := h
    obtain ⟨q2790, h⟩ := h
    refine la_77 gd_Model_takeRules_149 hF q2789 q2790 rfl ?_
    obtain ⟨q2791, h⟩ := h
    refine gh_isub gd_Model_takeRules_150 q2791 ?_
    obtain ⟨q2792, h⟩ := h
    obtain ⟨q2793, h⟩ := h
    refine sa_78 gd_Model_takeRules_151 hF q2792 q2793 (fun hF => ?_)
    obtain ⟨q2794, h⟩ := h
    refine gh_iinc (L2 := [(1, 0, v1 + 1), (0, 2, 63), (2, 0, v2)]) gd_Model_takeRules_152 1 rfl q2794 (by decide) rfl ?_
    refine gh_goto (tgt := 7) gd_Model_takeRules_155 (by decide) ?_
    refine gh_pick (L2 := [(0, 2, 63), (1, 0, v1 + 1)]) [1, 0] rfl ?_
    exact hK7 (v1 + 1) (gh_u m 78 v1 ((m 63 27) - (m 77 v1))) hF h
theorem b_Model_takeRules_7 {E : gh_E} {Q : Int → gh_M → Prop} {K7 : Int → gh_M → Prop} (d : Nat) (hK : ∀ (v1 : Int) (m : gh_M), gh_F m → K7 v1 m → gh_T E (gh_yModel_takeRules.cls, prog_14_method_30_code, 4, false, 9) (d + 6) 7 [(0, 2, 63), (1, 0, v1)] [] m (fun r m1 => gh_F m1 ∧ Q r m1)) (v1 : Int) (m : gh_M) (hF : gh_F m) (h : f_Model_takeRules_7 Q K7 v1 m) : gh_T E (gh_yModel_takeRules.cls, prog_14_method_30_code, 4, false, 9) (d + 6) 7 [(0, 2, 63), (1, 0, v1)] [] m (fun r m1 => gh_F m1 ∧ Q r m1) := by
  have hK7 := hK
  unfold f_Model_takeRules_7 at h
  refine gh_iload_n gd_Model_takeRules_7 1 rfl ?_
  refine gh_aload_n gd_Model_takeRules_8 0 rfl (by decide) ?_
  refine gf_63_26 gd_Model_takeRules_9 gh_k1396 hF rfl ?_
  obtain ⟨hA, hB⟩ := h
  refine gh_jge (tgt := 158) gd_Model_takeRules_12 (by decide) (fun c2759 => ?_) (fun c2759 => ?_)
  · have h := hA c2759
    refine gh_aload_n gd_Model_takeRules_15 0 rfl (by decide) ?_
    refine gf_63_30 gd_Model_takeRules_16 gh_k1400 hF ?_
    refine gh_iload_n gd_Model_takeRules_19 1 rfl ?_
    refine gh_aload_n gd_Model_takeRules_20 0 rfl (by decide) ?_
    refine gf_63_27 gd_Model_takeRules_21 gh_k1397 hF rfl ?_
    obtain ⟨q2760, h⟩ := h
    obtain ⟨q2761, h⟩ := h
    refine sa_77 gd_Model_takeRules_24 hF q2760 q2761 (fun hF => ?_)
    refine gh_iconst gd_Model_takeRules_25 (gh_r0 rfl) ?_
    refine gh_istore_n (L2 := [(2, 0, 0), (0, 2, 63), (1, 0, v1)]) gd_Model_takeRules_26 (by decide) rfl ?_
    refine gh_pick (L2 := [(0, 2, 63), (1, 0, v1), (2, 0, 0)]) [1, 2, 0] rfl ?_
    exact gh_M1_sound (T := fun v2 m => gh_T E (gh_yModel_takeRules.cls, prog_14_method_30_code, 4, false, 9) (d + 6) 27 [(0, 2, 63), (1, 0, v1), (2, 0, v2)] [] m (fun r m1 => gh_F m1 ∧ Q r m1)) (fun _ m => gh_F m) (fun K27 v2 m hK hF h => b_Model_takeRules_27 d hK7 hK v2 m hF h) 0 (gh_u m 77 v1 (m 63 27)) hF h
  · have h := hB c2759
    exact gh_ret9 rfl gd_Model_takeRules_158 ⟨hF, h⟩
theorem s_Model_takeRules {E : gh_E} {m : gh_M} {Q : Int → gh_M → Prop} (d : Nat) (hF : gh_F m) (h : w_Model_takeRules m Q) : gh_C E gh_yModel_takeRules prog_14_method_30_code 4 none 9 (d + 6) [(2, 63)] m (fun r m1 => gh_F m1 ∧ Q r m1) := by
  refine gh_enter2 (L := [(0, 2, 63)]) (by decide +kernel) gh_rt9 (Nat.le_of_ble_eq_true rfl) rfl rfl ?_
  unfold w_Model_takeRules at h
  refine gh_aload_n gd_Model_takeRules_0 0 rfl (by decide) ?_
  refine gh_iconst gd_Model_takeRules_1 (gh_r0 rfl) ?_
  refine pf_63_27 gd_Model_takeRules_2 gh_k1397 hF (fun hF => ?_)
  refine gh_iconst gd_Model_takeRules_5 (gh_r0 rfl) ?_
  refine gh_istore_n (L2 := [(1, 0, 0), (0, 2, 63)]) gd_Model_takeRules_6 (by decide) rfl ?_
  refine gh_pick (L2 := [(0, 2, 63), (1, 0, 0)]) [1, 0] rfl ?_
  exact gh_M1_sound (T := fun v1 m => gh_T E (gh_yModel_takeRules.cls, prog_14_method_30_code, 4, false, 9) (d + 6) 7 [(0, 2, 63), (1, 0, v1)] [] m (fun r m1 => gh_F m1 ∧ Q r m1)) (fun _ m => gh_F m) (fun K7 v1 m hK hF h => b_Model_takeRules_7 d hK v1 m hF h) 0 (gh_u m 63 27 0) hF h
def f_Model_leastOf_5 (v1 : Int) (Q : Int → Prop) (m : gh_M) (K5 : Int → Int → Prop) (v3 : Int) (v4 : Int) : Prop := 0 ≤ v1 ∧ v1 < 20 ∧ ((v4 < (m 80 v1) → gh_i (4 * v1) ∧ gh_i ((4 * v1) + v4) ∧ 0 ≤ (4 * v1) + v4 ∧ ((4 * v1) + v4) < 80 ∧ ∀ v5 : Int, v5 = m 81 ((4 * v1) + v4) → (((v5 ≤ 0) → (gh_i ((-1) - v5) ∧ 0 ≤ (-1) - v5 ∧ ((-1) - v5) < 8))) ∧ gh_i (v3 + (if v5 ≤ 0 then (m 82 ((-1) - v5)) else 1)) ∧ ∀ v3' : Int, v3' = v3 + (if v5 ≤ 0 then (m 82 ((-1) - v5)) else 1) → ∀ v3'' : Int, v3'' = (if v3' ≤ 1000000000 then v3' else 1000000000) → gh_i (v4 + 1) ∧ K5 v3'' (v4 + 1)) ∧ (¬ (v4 < (m 80 v1)) → Q v3))
def w_Model_leastOf (v1 : Int) (v2 : Int) (m : gh_M) (Q : Int → Prop) : Prop := gh_L2 (fun K5 v3 v4 => f_Model_leastOf_5 v1 Q m K5 v3 v4) 0 v2
theorem b_Model_leastOf_5 {E : gh_E} {v1 : Int} {Q : Int → Prop} {K5 : Int → Int → Prop} (d : Nat) {m : gh_M} (hK : ∀ (v3 : Int) (v4 : Int), gh_F m → K5 v3 v4 → gh_T E (gh_yModel_leastOf.cls, prog_14_method_34_code, 6, false, 0) (d + 0) 5 [(0, 2, 63), (1, 0, v1), (3, 0, v3), (4, 0, v4)] [] m (fun r m1 => m1 = m ∧ Q r)) (v3 : Int) (v4 : Int) (hF : gh_F m) (h : f_Model_leastOf_5 v1 Q m K5 v3 v4) : gh_T E (gh_yModel_leastOf.cls, prog_14_method_34_code, 6, false, 0) (d + 0) 5 [(0, 2, 63), (1, 0, v1), (3, 0, v3), (4, 0, v4)] [] m (fun r m1 => m1 = m ∧ Q r) := by
  have hK5 := hK
  unfold f_Model_leastOf_5 at h
  refine gh_iload gd_Model_leastOf_5 3 rfl ?_
  refine gh_aload_n gd_Model_leastOf_7 0 rfl (by decide) ?_
  refine gf_63_33 gd_Model_leastOf_8 gh_k1403 hF ?_
  refine gh_iload_n gd_Model_leastOf_11 1 rfl ?_
  obtain ⟨q2795, h⟩ := h
  obtain ⟨q2796, h⟩ := h
  refine la_80 gd_Model_leastOf_12 hF q2795 q2796 rfl ?_
  obtain ⟨hA, hB⟩ := h
  refine gh_jge (tgt := 71) gd_Model_leastOf_13 (by decide) (fun c2797 => ?_) (fun c2797 => ?_)
  · have h := hA c2797
    refine gh_aload_n gd_Model_leastOf_16 0 rfl (by decide) ?_
    refine gf_63_34 gd_Model_leastOf_17 gh_k1404 hF ?_
    refine gh_iconst gd_Model_leastOf_20 (gh_r0 rfl) ?_
    refine gh_iload_n gd_Model_leastOf_21 1 rfl ?_
    obtain ⟨q2798, h⟩ := h
    refine gh_imul gd_Model_leastOf_22 q2798 ?_
    refine gh_iload gd_Model_leastOf_23 3 rfl ?_
    obtain ⟨q2799, h⟩ := h
    refine gh_iadd gd_Model_leastOf_25 q2799 ?_
    obtain ⟨q2800, h⟩ := h
    obtain ⟨q2801, h⟩ := h
    refine la_81 gd_Model_leastOf_26 hF q2800 q2801 rfl ?_
    refine gh_name (fun v5 hn => ?_)
    have h := h v5 hn
    refine gh_istore (L2 := [(5, 0, v5), (0, 2, 63), (1, 0, v1), (3, 0, v3), (4, 0, v4)]) gd_Model_leastOf_27 (by decide) rfl ?_
    refine gh_iload_n gd_Model_leastOf_29 3 rfl ?_
    refine gh_iload gd_Model_leastOf_30 0 rfl ?_
    obtain ⟨hk, h⟩ := h
    have k2805 : ∀ x2806 : Int, x2806 = (if v5 ≤ 0 then (m 82 ((-1) - v5)) else 1) → gh_T E (gh_yModel_leastOf.cls, prog_14_method_34_code, 6, false, 0) (d + 0) 48 [(5, 0, v5), (0, 2, 63), (1, 0, v1), (3, 0, v3), (4, 0, v4)] [(0, x2806), (0, v3)] m (fun r m1 => m1 = m ∧ Q r) := by
      rintro _ rfl
      obtain ⟨q2807, h⟩ := h
      refine gh_iadd gd_Model_leastOf_48 q2807 ?_
      refine gh_name (fun v3' hn => ?_)
      have h := h v3' hn
      refine gh_istore_n (L2 := [(3, 0, v3'), (5, 0, v5), (0, 2, 63), (1, 0, v1), (4, 0, v4)]) gd_Model_leastOf_49 (by decide) rfl ?_
      refine gh_iload_n gd_Model_leastOf_50 0 rfl ?_
      refine gh_ldcw (n := 1000000000) gd_Model_leastOf_51 gh_k1744 (by decide) (gh_r0 rfl) ?_
      have k2808 : ∀ x2809 : Int, x2809 = (if v3' ≤ 1000000000 then v3' else 1000000000) → gh_T E (gh_yModel_leastOf.cls, prog_14_method_34_code, 6, false, 0) (d + 0) 64 [(3, 0, v3'), (5, 0, v5), (0, 2, 63), (1, 0, v1), (4, 0, v4)] [(0, x2809)] m (fun r m1 => m1 = m ∧ Q r) := by
        rintro _ rfl
        refine gh_name (fun v3'' hn => ?_)
        have h := h v3'' hn
        refine gh_istore_n (L2 := [(3, 0, v3''), (5, 0, v5), (0, 2, 63), (1, 0, v1), (4, 0, v4)]) gd_Model_leastOf_64 (by decide) rfl ?_
        obtain ⟨q2810, h⟩ := h
        refine gh_iinc (L2 := [(4, 0, v4 + 1), (3, 0, v3''), (5, 0, v5), (0, 2, 63), (1, 0, v1)]) gd_Model_leastOf_65 4 rfl q2810 (by decide) rfl ?_
        refine gh_goto (tgt := 5) gd_Model_leastOf_68 (by decide) ?_
        refine gh_pick (L2 := [(0, 2, 63), (1, 0, v1), (3, 0, v3''), (4, 0, v4 + 1)]) [3, 4, 1, 0] rfl ?_
        exact hK5 v3'' (v4 + 1) hF h
      refine gh_jle (tgt := 63) gd_Model_leastOf_54 (by decide) (fun c2811 => ?_) (fun c2811 => ?_)
      · have hz : True := trivial
        refine gh_iload_n gd_Model_leastOf_63 0 rfl ?_
        exact k2808 _ (by rw [if_pos c2811])
      · have hz : True := trivial
        refine gh_ldcw (n := 1000000000) gd_Model_leastOf_57 gh_k1744 (by decide) (gh_r0 rfl) ?_
        refine gh_goto (tgt := 64) gd_Model_leastOf_60 (by decide) ?_
        exact k2808 _ (by rw [if_neg c2811])
    refine gh_zle (tgt := 39) gd_Model_leastOf_32 (by decide) (fun c2812 => ?_) (fun c2812 => ?_)
    · have hz : True := trivial
      have hk := hk c2812
      refine gh_aload_n gd_Model_leastOf_39 1 rfl (by decide) ?_
      refine gf_63_35 gd_Model_leastOf_40 gh_k1405 hF ?_
      refine gh_iconst gd_Model_leastOf_43 (gh_r0 rfl) ?_
      refine gh_iload gd_Model_leastOf_44 0 rfl ?_
      obtain ⟨q2802, hk⟩ := hk
      refine gh_isub gd_Model_leastOf_46 q2802 ?_
      obtain ⟨q2803, hk⟩ := hk
      have q2804 := hk
      refine la_82 gd_Model_leastOf_47 hF q2803 q2804 rfl ?_
      exact k2805 _ (by rw [if_pos c2812])
    · have hz : True := trivial
      refine gh_iconst gd_Model_leastOf_35 (gh_r0 rfl) ?_
      refine gh_goto (tgt := 48) gd_Model_leastOf_36 (by decide) ?_
      exact k2805 _ (by rw [if_neg c2812])
  · have h := hB c2797
    refine gh_iload_n gd_Model_leastOf_71 2 rfl ?_
    exact gh_ret0 rfl gd_Model_leastOf_72 ⟨rfl, h⟩
theorem s_Model_leastOf {E : gh_E} {m : gh_M} {Q : Int → Prop} (d : Nat) (v1 : Int) (v2 : Int) (hF : gh_F m) (h : w_Model_leastOf v1 v2 m Q) : gh_C E gh_yModel_leastOf prog_14_method_34_code 6 (some .int) 0 (d + 0) [(2, 63), (0, v1), (0, v2)] m (fun r m1 => m1 = m ∧ Q r) := by
  refine gh_enter2 (L := [(0, 2, 63), (1, 0, v1), (2, 0, v2)]) (by decide +kernel) gh_rt0 (Nat.le_of_ble_eq_true rfl) rfl rfl ?_
  unfold w_Model_leastOf at h
  refine gh_iconst gd_Model_leastOf_0 (gh_r0 rfl) ?_
  refine gh_istore_n (L2 := [(3, 0, 0), (0, 2, 63), (1, 0, v1), (2, 0, v2)]) gd_Model_leastOf_1 (by decide) rfl ?_
  refine gh_iload_n gd_Model_leastOf_2 3 rfl ?_
  refine gh_istore (L2 := [(4, 0, v2), (3, 0, 0), (0, 2, 63), (1, 0, v1), (2, 0, v2)]) gd_Model_leastOf_3 (by decide) rfl ?_
  refine gh_pick (L2 := [(0, 2, 63), (1, 0, v1), (3, 0, 0), (4, 0, v2)]) [2, 3, 1, 0] rfl ?_
  exact gh_L2_sound (T := fun v3 v4 => gh_T E (gh_yModel_leastOf.cls, prog_14_method_34_code, 6, false, 0) (d + 0) 5 [(0, 2, 63), (1, 0, v1), (3, 0, v3), (4, 0, v4)] [] m (fun r m1 => m1 = m ∧ Q r)) (fun _ _ => gh_F m) (fun K5 v3 v4 hK hF h => b_Model_leastOf_5 d hK v3 v4 hF h) 0 v2 hF h
def f_Model_findLeast_35 (K27 : Int → gh_M → Prop) (K35 : Int → Int → gh_M → Prop) (v1 : Int) (v2 : Int) (m : gh_M) : Prop := ((v2 < (m 63 27) → w_Model_leastOf v2 0 m (fun r2819 => 0 ≤ v2 ∧ v2 < 20 ∧ 0 ≤ m 79 v2 ∧ (m 79 v2) < 8 ∧ ∃ J79 : Int → gh_M → Prop, (∀ (v1' : Int) (m : gh_M), J79 v1' m → gh_i (v2 + 1) ∧ K35 v1' (v2 + 1) m) ∧ ((r2819 < (m 82 (m 79 v2)) → 0 ≤ v2 ∧ v2 < 20 ∧ 0 ≤ m 79 v2 ∧ (m 79 v2) < 8 ∧ J79 1 (gh_u m 82 (m 79 v2) r2819)) ∧ (¬ (r2819 < (m 82 (m 79 v2))) → J79 v1 m)))) ∧ (¬ (v2 < (m 63 27)) → K27 v1 m))
def f_Model_findLeast_27 (Q : Int → gh_M → Prop) (K27 : Int → gh_M → Prop) (v1 : Int) (m : gh_M) : Prop := ((v1 = 0 → Q 0 m) ∧ (¬ (v1 = 0) → gh_M2 (fun K35 v1 v2 m => f_Model_findLeast_35 K27 K35 v1 v2 m) 0 0 m))
def f_Model_findLeast_2 (Q : Int → gh_M → Prop) (K2 : Int → gh_M → Prop) (v1 : Int) (m : gh_M) : Prop := ((v1 < (m 63 26) → 0 ≤ v1 ∧ v1 < 8 ∧ gh_i (v1 + 1) ∧ K2 (v1 + 1) (gh_u m 82 v1 1000000000)) ∧ (¬ (v1 < (m 63 26)) → gh_M1 (fun K27 v1 m => f_Model_findLeast_27 Q K27 v1 m) 1 m))
def w_Model_findLeast (m : gh_M) (Q : Int → gh_M → Prop) : Prop := gh_M1 (fun K2 v1 m => f_Model_findLeast_2 Q K2 v1 m) 0 m
theorem b_Model_findLeast_35 {E : gh_E} {K27 : Int → gh_M → Prop} {Q : Int → gh_M → Prop} {K35 : Int → Int → gh_M → Prop} (d : Nat) (hK27 : ∀ (v1 : Int) (m : gh_M), gh_F m → K27 v1 m → gh_T E (gh_yModel_findLeast.cls, prog_14_method_35_code, 4, false, 9) (d + 1) 27 [(0, 2, 63), (1, 0, v1)] [] m (fun r m1 => gh_F m1 ∧ Q r m1)) (hK : ∀ (v1 : Int) (v2 : Int) (m : gh_M), gh_F m → K35 v1 v2 m → gh_T E (gh_yModel_findLeast.cls, prog_14_method_35_code, 4, false, 9) (d + 1) 35 [(0, 2, 63), (1, 0, v1), (2, 0, v2)] [] m (fun r m1 => gh_F m1 ∧ Q r m1)) (v1 : Int) (v2 : Int) (m : gh_M) (hF : gh_F m) (h : f_Model_findLeast_35 K27 K35 v1 v2 m) : gh_T E (gh_yModel_findLeast.cls, prog_14_method_35_code, 4, false, 9) (d + 1) 35 [(0, 2, 63), (1, 0, v1), (2, 0, v2)] [] m (fun r m1 => gh_F m1 ∧ Q r m1) := by
  have hK35 := hK
  unfold f_Model_findLeast_35 at h
  refine gh_iload_n gd_Model_findLeast_35 2 rfl ?_
  refine gh_aload_n gd_Model_findLeast_36 0 rfl (by decide) ?_
  refine gf_63_27 gd_Model_findLeast_37 gh_k1397 hF rfl ?_
  obtain ⟨hA, hB⟩ := h
  refine gh_jge (tgt := 85) gd_Model_findLeast_40 (by decide) (fun c2818 => ?_) (fun c2818 => ?_)
  · have h := hA c2818
    refine gh_aload_n gd_Model_findLeast_43 0 rfl (by decide) ?_
    refine gh_iload_n gd_Model_findLeast_44 2 rfl ?_
    refine gh_iconst gd_Model_findLeast_45 (gh_r0 rfl) ?_
    refine cv_Model_leastOf (d := d) gd_Model_findLeast_46 gh_k1745 hF (Nat.le_of_ble_eq_true rfl) (gh_C.pw (s_Model_leastOf d v2 0 hF h) (fun r2819 h => ?_))
    refine gh_istore_n (L2 := [(3, 0, r2819), (0, 2, 63), (1, 0, v1), (2, 0, v2)]) gd_Model_findLeast_49 (by decide) rfl ?_
    refine gh_iload_n gd_Model_findLeast_50 0 rfl ?_
    refine gh_aload_n gd_Model_findLeast_51 1 rfl (by decide) ?_
    refine gf_63_35 gd_Model_findLeast_52 gh_k1405 hF ?_
    refine gh_aload_n gd_Model_findLeast_55 1 rfl (by decide) ?_
    refine gf_63_32 gd_Model_findLeast_56 gh_k1402 hF ?_
    refine gh_iload_n gd_Model_findLeast_59 3 rfl ?_
    obtain ⟨q2821, h⟩ := h
    obtain ⟨q2822, h⟩ := h
    refine la_79 gd_Model_findLeast_60 hF q2821 q2822 rfl ?_
    obtain ⟨q2823, h⟩ := h
    obtain ⟨q2824, h⟩ := h
    refine la_82 gd_Model_findLeast_61 hF q2823 q2824 rfl ?_
    obtain ⟨J79, hJ79, h⟩ := h
    have hJ79 : ∀ (v1' : Int) (m : gh_M), gh_F m → J79 v1' m → gh_T E (gh_yModel_findLeast.cls, prog_14_method_35_code, 4, false, 9) (d + 1) 79 [(0, 2, 63), (1, 0, v1'), (2, 0, v2)] [] m (fun r m1 => gh_F m1 ∧ Q r m1) := by
      intro v1' m hF hj
      have h := hJ79 v1' m hj
      obtain ⟨q2825, h⟩ := h
      refine gh_iinc (L2 := [(2, 0, v2 + 1), (0, 2, 63), (1, 0, v1')]) gd_Model_findLeast_79 2 rfl q2825 (by decide) rfl ?_
      refine gh_goto (tgt := 35) gd_Model_findLeast_82 (by decide) ?_
      refine gh_pick (L2 := [(0, 2, 63), (1, 0, v1'), (2, 0, v2 + 1)]) [1, 2, 0] rfl ?_
      exact hK35 v1' (v2 + 1) m hF h
    obtain ⟨hA, hB⟩ := h
    refine gh_jge (tgt := 79) gd_Model_findLeast_62 (by decide) (fun c2826 => ?_) (fun c2826 => ?_)
    · have h := hA c2826
      refine gh_aload_n gd_Model_findLeast_65 1 rfl (by decide) ?_
      refine gf_63_35 gd_Model_findLeast_66 gh_k1405 hF ?_
      refine gh_aload_n gd_Model_findLeast_69 1 rfl (by decide) ?_
      refine gf_63_32 gd_Model_findLeast_70 gh_k1402 hF ?_
      refine gh_iload_n gd_Model_findLeast_73 3 rfl ?_
      obtain ⟨q2827, h⟩ := h
      obtain ⟨q2828, h⟩ := h
      refine la_79 gd_Model_findLeast_74 hF q2827 q2828 rfl ?_
      refine gh_iload_n gd_Model_findLeast_75 0 rfl ?_
      obtain ⟨q2829, h⟩ := h
      obtain ⟨q2830, h⟩ := h
      refine sa_82 gd_Model_findLeast_76 hF q2829 q2830 (fun hF => ?_)
      refine gh_iconst gd_Model_findLeast_77 (gh_r0 rfl) ?_
      refine gh_istore_n (L2 := [(1, 0, 1), (3, 0, r2819), (0, 2, 63), (2, 0, v2)]) gd_Model_findLeast_78 (by decide) rfl ?_
      refine gh_pick (L2 := [(0, 2, 63), (1, 0, 1), (2, 0, v2)]) [2, 0, 3] rfl ?_
      exact hJ79 1 (gh_u m 82 (m 79 v2) r2819) hF h
    · have h := hB c2826
      refine gh_pick (L2 := [(0, 2, 63), (1, 0, v1), (2, 0, v2)]) [1, 2, 3] rfl ?_
      exact hJ79 v1 m hF h
  · have h := hB c2818
    refine gh_goto (tgt := 27) gd_Model_findLeast_85 (by decide) ?_
    refine gh_pick (L2 := [(0, 2, 63), (1, 0, v1)]) [0, 1] rfl ?_
    exact hK27 v1 m hF h
theorem b_Model_findLeast_27 {E : gh_E} {Q : Int → gh_M → Prop} {K27 : Int → gh_M → Prop} (d : Nat) (hK : ∀ (v1 : Int) (m : gh_M), gh_F m → K27 v1 m → gh_T E (gh_yModel_findLeast.cls, prog_14_method_35_code, 4, false, 9) (d + 1) 27 [(0, 2, 63), (1, 0, v1)] [] m (fun r m1 => gh_F m1 ∧ Q r m1)) (v1 : Int) (m : gh_M) (hF : gh_F m) (h : f_Model_findLeast_27 Q K27 v1 m) : gh_T E (gh_yModel_findLeast.cls, prog_14_method_35_code, 4, false, 9) (d + 1) 27 [(0, 2, 63), (1, 0, v1)] [] m (fun r m1 => gh_F m1 ∧ Q r m1) := by
  have hK27 := hK
  unfold f_Model_findLeast_27 at h
  refine gh_iload_n gd_Model_findLeast_27 1 rfl ?_
  obtain ⟨hA, hB⟩ := h
  refine gh_zeq (tgt := 88) gd_Model_findLeast_28 (by decide) (fun c2817 => ?_) (fun c2817 => ?_)
  · have h := hA c2817
    exact gh_ret9 rfl gd_Model_findLeast_88 ⟨hF, h⟩
  · have h := hB c2817
    refine gh_iconst gd_Model_findLeast_31 (gh_r0 rfl) ?_
    refine gh_istore_n (L2 := [(1, 0, 0), (0, 2, 63)]) gd_Model_findLeast_32 (by decide) rfl ?_
    refine gh_iconst gd_Model_findLeast_33 (gh_r0 rfl) ?_
    refine gh_istore_n (L2 := [(2, 0, 0), (1, 0, 0), (0, 2, 63)]) gd_Model_findLeast_34 (by decide) rfl ?_
    refine gh_pick (L2 := [(0, 2, 63), (1, 0, 0), (2, 0, 0)]) [2, 1, 0] rfl ?_
    exact gh_M2_sound (T := fun v1 v2 m => gh_T E (gh_yModel_findLeast.cls, prog_14_method_35_code, 4, false, 9) (d + 1) 35 [(0, 2, 63), (1, 0, v1), (2, 0, v2)] [] m (fun r m1 => gh_F m1 ∧ Q r m1)) (fun _ _ m => gh_F m) (fun K35 v1 v2 m hK hF h => b_Model_findLeast_35 d hK27 hK v1 v2 m hF h) 0 0 m hF h
theorem b_Model_findLeast_2 {E : gh_E} {Q : Int → gh_M → Prop} {K2 : Int → gh_M → Prop} (d : Nat) (hK : ∀ (v1 : Int) (m : gh_M), gh_F m → K2 v1 m → gh_T E (gh_yModel_findLeast.cls, prog_14_method_35_code, 4, false, 9) (d + 1) 2 [(0, 2, 63), (1, 0, v1)] [] m (fun r m1 => gh_F m1 ∧ Q r m1)) (v1 : Int) (m : gh_M) (hF : gh_F m) (h : f_Model_findLeast_2 Q K2 v1 m) : gh_T E (gh_yModel_findLeast.cls, prog_14_method_35_code, 4, false, 9) (d + 1) 2 [(0, 2, 63), (1, 0, v1)] [] m (fun r m1 => gh_F m1 ∧ Q r m1) := by
  have hK2 := hK
  unfold f_Model_findLeast_2 at h
  refine gh_iload_n gd_Model_findLeast_2 1 rfl ?_
  refine gh_aload_n gd_Model_findLeast_3 0 rfl (by decide) ?_
  refine gf_63_26 gd_Model_findLeast_4 gh_k1396 hF rfl ?_
  obtain ⟨hA, hB⟩ := h
  refine gh_jge (tgt := 25) gd_Model_findLeast_7 (by decide) (fun c2813 => ?_) (fun c2813 => ?_)
  · have h := hA c2813
    refine gh_aload_n gd_Model_findLeast_10 0 rfl (by decide) ?_
    refine gf_63_35 gd_Model_findLeast_11 gh_k1405 hF ?_
    refine gh_iload_n gd_Model_findLeast_14 1 rfl ?_
    refine gh_ldcw (n := 1000000000) gd_Model_findLeast_15 gh_k1744 (by decide) (gh_r0 rfl) ?_
    obtain ⟨q2814, h⟩ := h
    obtain ⟨q2815, h⟩ := h
    refine sa_82 gd_Model_findLeast_18 hF q2814 q2815 (fun hF => ?_)
    obtain ⟨q2816, h⟩ := h
    refine gh_iinc (L2 := [(1, 0, v1 + 1), (0, 2, 63)]) gd_Model_findLeast_19 1 rfl q2816 (by decide) rfl ?_
    refine gh_goto (tgt := 2) gd_Model_findLeast_22 (by decide) ?_
    refine gh_pick (L2 := [(0, 2, 63), (1, 0, v1 + 1)]) [1, 0] rfl ?_
    exact hK2 (v1 + 1) (gh_u m 82 v1 1000000000) hF h
  · have h := hB c2813
    refine gh_iconst gd_Model_findLeast_25 (gh_r0 rfl) ?_
    refine gh_istore_n (L2 := [(1, 0, 1), (0, 2, 63)]) gd_Model_findLeast_26 (by decide) rfl ?_
    refine gh_pick (L2 := [(0, 2, 63), (1, 0, 1)]) [1, 0] rfl ?_
    exact gh_M1_sound (T := fun v1 m => gh_T E (gh_yModel_findLeast.cls, prog_14_method_35_code, 4, false, 9) (d + 1) 27 [(0, 2, 63), (1, 0, v1)] [] m (fun r m1 => gh_F m1 ∧ Q r m1)) (fun _ m => gh_F m) (fun K27 v1 m hK hF h => b_Model_findLeast_27 d hK v1 m hF h) 1 m hF h
theorem s_Model_findLeast {E : gh_E} {m : gh_M} {Q : Int → gh_M → Prop} (d : Nat) (hF : gh_F m) (h : w_Model_findLeast m Q) : gh_C E gh_yModel_findLeast prog_14_method_35_code 4 none 9 (d + 1) [(2, 63)] m (fun r m1 => gh_F m1 ∧ Q r m1) := by
  refine gh_enter2 (L := [(0, 2, 63)]) (by decide +kernel) gh_rt9 (Nat.le_of_ble_eq_true rfl) rfl rfl ?_
  unfold w_Model_findLeast at h
  refine gh_iconst gd_Model_findLeast_0 (gh_r0 rfl) ?_
  refine gh_istore_n (L2 := [(1, 0, 0), (0, 2, 63)]) gd_Model_findLeast_1 (by decide) rfl ?_
  refine gh_pick (L2 := [(0, 2, 63), (1, 0, 0)]) [1, 0] rfl ?_
  exact gh_M1_sound (T := fun v1 m => gh_T E (gh_yModel_findLeast.cls, prog_14_method_35_code, 4, false, 9) (d + 1) 2 [(0, 2, 63), (1, 0, v1)] [] m (fun r m1 => gh_F m1 ∧ Q r m1)) (fun _ m => gh_F m) (fun K2 v1 m hK hF h => b_Model_findLeast_2 d hK v1 m hF h) 0 m hF h
def f_Model_findUseful_109 (v1 : Int) (K99 : Int → gh_M → Prop) (K109 : Int → gh_M → Prop) (v2 : Int) (m : gh_M) : Prop := gh_i (4 * (m 63 27)) ∧ ((v2 < (4 * (m 63 27)) → 0 ≤ v2 ∧ ∀ v3 : Int, v3 = v2 / 4 → 0 ≤ v2 ∧ 0 ≤ v3 ∧ v3 < 20 ∧ ∃ J235 : gh_M → Prop, (∀ (m : gh_M), J235 m → gh_i (v2 + 1) ∧ K109 (v2 + 1) m) ∧ ((((v2 % 4) < (m 80 v3)) → (0 ≤ v2 ∧ v2 < 80))) ∧ (((((v2 % 4) < (m 80 v3)) ∧ ((m 81 v2) < 0)) → 0 ≤ v2 ∧ v2 < 80 ∧ gh_i ((-1) - (m 81 v2)) ∧ ∀ v4 : Int, v4 = (-1) - (m 81 v2) → 0 ≤ v4 ∧ v4 < 8 ∧ ((((m 84 v4) = 0) → (0 ≤ v3 ∧ v3 < 20 ∧ 0 ≤ m 79 v3 ∧ (m 79 v3) < 8))) ∧ 0 ≤ v4 ∧ v4 < 8 ∧ 0 ≤ v4 ∧ v4 < 8 ∧ ((((m 85 v4) = 0) → (0 ≤ v3 ∧ v3 < 20 ∧ 0 ≤ m 79 v3 ∧ (m 79 v3) < 8 ∧ (¬ ((m 85 (m 79 v3)) = 0) → (0 ≤ v3 ∧ v3 < 20))))) ∧ 0 ≤ v4 ∧ v4 < 8 ∧ J235 (gh_u (gh_u m 84 v4 (if (¬ ((m 84 v4) = 0) ∨ (¬ ((m 84 (m 79 v3)) = 0))) then (1:Int) else 0)) 85 v4 (if (¬ ((m 85 v4) = 0) ∨ (¬ ((m 85 (m 79 v3)) = 0) ∧ (¬ ((m 83 v3) = 0)))) then (1:Int) else 0))) ∧ (¬ (((v2 % 4) < (m 80 v3)) ∧ ((m 81 v2) < 0)) → J235 m))) ∧ (¬ (v2 < (4 * (m 63 27))) → gh_i (v1 + 1) ∧ K99 (v1 + 1) m))
def f_Model_findUseful_99 (Q : Int → gh_M → Prop) (K99 : Int → gh_M → Prop) (v1 : Int) (m : gh_M) : Prop := ((v1 < (m 63 26) → gh_M1 (fun K109 v2 m => f_Model_findUseful_109 v1 K99 K109 v2 m) 0 m) ∧ (¬ (v1 < (m 63 26)) → Q 0 m))
def f_Model_findUseful_41 (Q : Int → gh_M → Prop) (K41 : Int → gh_M → Prop) (v1 : Int) (m : gh_M) : Prop := ((v1 < (m 63 26) → 0 ≤ v1 ∧ v1 < 8 ∧ 0 ≤ v1 ∧ v1 < 8 ∧ gh_i (v1 + 1) ∧ K41 (v1 + 1) (gh_u (gh_u m 84 v1 (if (v1 = 0) then (1:Int) else 0)) 85 v1 (if ((v1 = 0) ∧ ((m 82 0) < 1000000000)) then (1:Int) else 0))) ∧ (¬ (v1 < (m 63 26)) → gh_M1 (fun K99 v1 m => f_Model_findUseful_99 Q K99 v1 m) 0 m))
def f_Model_findUseful_2 (Q : Int → gh_M → Prop) (K2 : Int → gh_M → Prop) (v1 : Int) (m : gh_M) : Prop := ((v1 < (m 63 27) → w_Model_leastOf v1 0 m (fun r2832 => 0 ≤ v1 ∧ v1 < 20 ∧ gh_i (v1 + 1) ∧ K2 (v1 + 1) (gh_u m 83 v1 (if (r2832 < 1000000000) then (1:Int) else 0)))) ∧ (¬ (v1 < (m 63 27)) → gh_M1 (fun K41 v1 m => f_Model_findUseful_41 Q K41 v1 m) 0 m))
def w_Model_findUseful (m : gh_M) (Q : Int → gh_M → Prop) : Prop := gh_M1 (fun K2 v1 m => f_Model_findUseful_2 Q K2 v1 m) 0 m
theorem b_Model_findUseful_109 {E : gh_E} {v1 : Int} {K99 : Int → gh_M → Prop} {Q : Int → gh_M → Prop} {K109 : Int → gh_M → Prop} (d : Nat) (hK99 : ∀ (v1 : Int) (m : gh_M), gh_F m → K99 v1 m → gh_T E (gh_yModel_findUseful.cls, prog_14_method_36_code, 5, false, 9) (d + 1) 99 [(0, 2, 63), (1, 0, v1)] [] m (fun r m1 => gh_F m1 ∧ Q r m1)) (hK : ∀ (v2 : Int) (m : gh_M), gh_F m → K109 v2 m → gh_T E (gh_yModel_findUseful.cls, prog_14_method_36_code, 5, false, 9) (d + 1) 109 [(0, 2, 63), (1, 0, v1), (2, 0, v2)] [] m (fun r m1 => gh_F m1 ∧ Q r m1)) (v2 : Int) (m : gh_M) (hF : gh_F m) (h : f_Model_findUseful_109 v1 K99 K109 v2 m) : gh_T E (gh_yModel_findUseful.cls, prog_14_method_36_code, 5, false, 9) (d + 1) 109 [(0, 2, 63), (1, 0, v1), (2, 0, v2)] [] m (fun r m1 => gh_F m1 ∧ Q r m1) := by
  have hK109 := hK
  unfold f_Model_findUseful_109 at h
  refine gh_iload_n gd_Model_findUseful_109 2 rfl ?_
  refine gh_iconst gd_Model_findUseful_110 (gh_r0 rfl) ?_
  refine gh_aload_n gd_Model_findUseful_111 0 rfl (by decide) ?_
  refine gf_63_27 gd_Model_findUseful_112 gh_k1397 hF rfl ?_
  obtain ⟨q2854, h⟩ := h
  refine gh_imul gd_Model_findUseful_115 q2854 ?_
  obtain ⟨hA, hB⟩ := h
  refine gh_jge (tgt := 241) gd_Model_findUseful_116 (by decide) (fun c2855 => ?_) (fun c2855 => ?_)
  · have h := hA c2855
    refine gh_iload_n gd_Model_findUseful_119 2 rfl ?_
    refine gh_iconst gd_Model_findUseful_120 (gh_r0 rfl) ?_
    obtain ⟨q2856, h⟩ := h
    refine gh_idiv gd_Model_findUseful_121 q2856 (by decide) ?_
    refine gh_name (fun v3 hn => ?_)
    have h := h v3 hn
    refine gh_istore_n (L2 := [(3, 0, v3), (0, 2, 63), (1, 0, v1), (2, 0, v2)]) gd_Model_findUseful_122 (by decide) rfl ?_
    refine gh_iload_n gd_Model_findUseful_123 3 rfl ?_
    refine gh_iconst gd_Model_findUseful_124 (gh_r0 rfl) ?_
    obtain ⟨q2857, h⟩ := h
    refine gh_irem gd_Model_findUseful_125 q2857 (by decide) ?_
    refine gh_aload_n gd_Model_findUseful_126 1 rfl (by decide) ?_
    refine gf_63_33 gd_Model_findUseful_127 gh_k1403 hF ?_
    refine gh_iload_n gd_Model_findUseful_130 0 rfl ?_
    obtain ⟨q2858, h⟩ := h
    obtain ⟨q2859, h⟩ := h
    refine la_80 gd_Model_findUseful_131 hF q2858 q2859 rfl ?_
    obtain ⟨J235, hJ235, h⟩ := h
    have hJ235 : ∀ (m : gh_M), gh_F m → J235 m → gh_T E (gh_yModel_findUseful.cls, prog_14_method_36_code, 5, false, 9) (d + 1) 235 [(0, 2, 63), (1, 0, v1), (2, 0, v2)] [] m (fun r m1 => gh_F m1 ∧ Q r m1) := by
      intro m hF hj
      have h := hJ235 m hj
      obtain ⟨q2860, h⟩ := h
      refine gh_iinc (L2 := [(2, 0, v2 + 1), (0, 2, 63), (1, 0, v1)]) gd_Model_findUseful_235 2 rfl q2860 (by decide) rfl ?_
      refine gh_goto (tgt := 109) gd_Model_findUseful_238 (by decide) ?_
      refine gh_pick (L2 := [(0, 2, 63), (1, 0, v1), (2, 0, v2 + 1)]) [1, 2, 0] rfl ?_
      exact hK109 (v2 + 1) m hF h
    obtain ⟨hk, hA, hB⟩ := h
    have k2863 : (((v2 % 4) < (m 80 v3)) ∧ ((m 81 v2) < 0)) → gh_T E (gh_yModel_findUseful.cls, prog_14_method_36_code, 5, false, 9) (d + 1) 144 [(3, 0, v3), (0, 2, 63), (1, 0, v1), (2, 0, v2)] [] m (fun r m1 => gh_F m1 ∧ Q r m1) := by
      intro c
      have h := hA c
      refine gh_iconst gd_Model_findUseful_144 (gh_r0 rfl) ?_
      refine gh_aload_n gd_Model_findUseful_145 1 rfl (by decide) ?_
      refine gf_63_34 gd_Model_findUseful_146 gh_k1404 hF ?_
      refine gh_iload_n gd_Model_findUseful_149 3 rfl ?_
      obtain ⟨q2865, h⟩ := h
      obtain ⟨q2866, h⟩ := h
      refine la_81 gd_Model_findUseful_150 hF q2865 q2866 rfl ?_
      obtain ⟨q2867, h⟩ := h
      refine gh_isub gd_Model_findUseful_151 q2867 ?_
      refine gh_name (fun v4 hn => ?_)
      have h := h v4 hn
      refine gh_istore (L2 := [(4, 0, v4), (3, 0, v3), (0, 2, 63), (1, 0, v1), (2, 0, v2)]) gd_Model_findUseful_152 (by decide) rfl ?_
      refine gh_aload_n gd_Model_findUseful_154 2 rfl (by decide) ?_
      refine gf_63_37 gd_Model_findUseful_155 gh_k1407 hF ?_
      refine gh_iload gd_Model_findUseful_158 0 rfl ?_
      refine gh_aload_n gd_Model_findUseful_160 2 rfl (by decide) ?_
      refine gf_63_37 gd_Model_findUseful_161 gh_k1407 hF ?_
      refine gh_iload gd_Model_findUseful_164 0 rfl ?_
      obtain ⟨q2868, h⟩ := h
      obtain ⟨q2869, h⟩ := h
      refine la_84 gd_Model_findUseful_166 hF q2868 q2869 rfl ?_
      obtain ⟨hk, h⟩ := h
      have k2874 : ∀ x2875 : Int, x2875 = (if (¬ ((m 84 v4) = 0) ∨ (¬ ((m 84 (m 79 v3)) = 0))) then (1:Int) else 0) → gh_T E (gh_yModel_findUseful.cls, prog_14_method_36_code, 5, false, 9) (d + 1) 189 [(4, 0, v4), (3, 0, v3), (0, 2, 63), (1, 0, v1), (2, 0, v2)] [(0, x2875), (0, v4), (2, 84)] m (fun r m1 => gh_F m1 ∧ Q r m1) := by
        rintro _ rfl
        obtain ⟨q2876, h⟩ := h
        obtain ⟨q2877, h⟩ := h
        refine sa_84 gd_Model_findUseful_189 hF q2876 q2877 gh_ib01 (fun hF => ?_)
        refine gh_aload_n gd_Model_findUseful_190 2 rfl (by decide) ?_
        refine gf_63_38 gd_Model_findUseful_191 gh_k1408 hF ?_
        refine gh_iload gd_Model_findUseful_194 0 rfl ?_
        refine gh_aload_n gd_Model_findUseful_196 2 rfl (by decide) ?_
        refine gf_63_38 gd_Model_findUseful_197 gh_k1408 hF ?_
        refine gh_iload gd_Model_findUseful_200 0 rfl ?_
        obtain ⟨q2878, h⟩ := h
        obtain ⟨q2879, h⟩ := h
        refine la_85 gd_Model_findUseful_202 hF q2878 q2879 (gh_u_a (by decide)) ?_
        obtain ⟨hk, h⟩ := h
        have k2886 : ∀ x2887 : Int, x2887 = (if (¬ ((m 85 v4) = 0) ∨ (¬ ((m 85 (m 79 v3)) = 0) ∧ (¬ ((m 83 v3) = 0)))) then (1:Int) else 0) → gh_T E (gh_yModel_findUseful.cls, prog_14_method_36_code, 5, false, 9) (d + 1) 234 [(4, 0, v4), (3, 0, v3), (0, 2, 63), (1, 0, v1), (2, 0, v2)] [(0, x2887), (0, v4), (2, 85)] (gh_u m 84 v4 (if (¬ ((m 84 v4) = 0) ∨ (¬ ((m 84 (m 79 v3)) = 0))) then (1:Int) else 0)) (fun r m1 => gh_F m1 ∧ Q r m1) := by
          rintro _ rfl
          obtain ⟨q2888, h⟩ := h
          obtain ⟨q2889, h⟩ := h
          refine sa_85 gd_Model_findUseful_234 hF q2888 q2889 gh_ib01 (fun hF => ?_)
          refine gh_pick (L2 := [(0, 2, 63), (1, 0, v1), (2, 0, v2)]) [2, 3, 4] rfl ?_
          exact hJ235 (gh_u (gh_u m 84 v4 (if (¬ ((m 84 v4) = 0) ∨ (¬ ((m 84 (m 79 v3)) = 0))) then (1:Int) else 0)) 85 v4 (if (¬ ((m 85 v4) = 0) ∨ (¬ ((m 85 (m 79 v3)) = 0) ∧ (¬ ((m 83 v3) = 0)))) then (1:Int) else 0)) hF h
        refine gh_zne (tgt := 229) gd_Model_findUseful_203 (by decide) (fun c2890 => ?_) (fun c2890 => ?_)
        · have hz : True := trivial
          have hk := hk c2890
          refine gh_aload_n gd_Model_findUseful_206 2 rfl (by decide) ?_
          refine gf_63_38 gd_Model_findUseful_207 gh_k1408 hF ?_
          refine gh_aload_n gd_Model_findUseful_210 2 rfl (by decide) ?_
          refine gf_63_32 gd_Model_findUseful_211 gh_k1402 hF ?_
          refine gh_iload_n gd_Model_findUseful_214 1 rfl ?_
          obtain ⟨q2880, hk⟩ := hk
          obtain ⟨q2881, hk⟩ := hk
          refine la_79 gd_Model_findUseful_215 hF q2880 q2881 (gh_u_a (by decide)) ?_
          obtain ⟨q2882, hk⟩ := hk
          obtain ⟨q2883, hk⟩ := hk
          refine la_85 gd_Model_findUseful_216 hF q2882 q2883 (gh_u_a (by decide)) ?_
          refine gh_zeq (tgt := 233) gd_Model_findUseful_217 (by decide) (fun c2891 => ?_) (fun c2891 => ?_)
          · have hz : True := trivial
            refine gh_iconst gd_Model_findUseful_233 (gh_r0 rfl) ?_
            exact k2886 _ (if_neg (c := (¬ ((m 85 v4) = 0) ∨ (¬ ((m 85 (m 79 v3)) = 0) ∧ (¬ ((m 83 v3) = 0))))) (fun z => z.elim (fun w => w c2890) (fun z => z.1 c2891))).symm
          · have hz : True := trivial
            have hk := hk c2891
            refine gh_aload_n gd_Model_findUseful_220 2 rfl (by decide) ?_
            refine gf_63_36 gd_Model_findUseful_221 gh_k1406 hF ?_
            refine gh_iload_n gd_Model_findUseful_224 1 rfl ?_
            obtain ⟨q2884, hk⟩ := hk
            have q2885 := hk
            refine la_83 gd_Model_findUseful_225 hF q2884 q2885 (gh_u_a (by decide)) ?_
            refine gh_zeq (tgt := 233) gd_Model_findUseful_226 (by decide) (fun c2892 => ?_) (fun c2892 => ?_)
            · have hz : True := trivial
              refine gh_iconst gd_Model_findUseful_233 (gh_r0 rfl) ?_
              exact k2886 _ (if_neg (c := (¬ ((m 85 v4) = 0) ∨ (¬ ((m 85 (m 79 v3)) = 0) ∧ (¬ ((m 83 v3) = 0))))) (fun z => z.elim (fun w => w c2890) (fun z => (not_not_intro c2892) z.2))).symm
            · have hz : True := trivial
              refine gh_iconst gd_Model_findUseful_229 (gh_r0 rfl) ?_
              refine gh_goto (tgt := 234) gd_Model_findUseful_230 (by decide) ?_
              exact k2886 _ (if_pos (c := (¬ ((m 85 v4) = 0) ∨ (¬ ((m 85 (m 79 v3)) = 0) ∧ (¬ ((m 83 v3) = 0))))) (Or.inr ⟨c2891, c2892⟩)).symm
        · have hz : True := trivial
          refine gh_iconst gd_Model_findUseful_229 (gh_r0 rfl) ?_
          refine gh_goto (tgt := 234) gd_Model_findUseful_230 (by decide) ?_
          exact k2886 _ (if_pos (c := (¬ ((m 85 v4) = 0) ∨ (¬ ((m 85 (m 79 v3)) = 0) ∧ (¬ ((m 83 v3) = 0))))) (Or.inl c2890)).symm
      refine gh_zne (tgt := 184) gd_Model_findUseful_167 (by decide) (fun c2893 => ?_) (fun c2893 => ?_)
      · have hz : True := trivial
        have hk := hk c2893
        refine gh_aload_n gd_Model_findUseful_170 2 rfl (by decide) ?_
        refine gf_63_37 gd_Model_findUseful_171 gh_k1407 hF ?_
        refine gh_aload_n gd_Model_findUseful_174 2 rfl (by decide) ?_
        refine gf_63_32 gd_Model_findUseful_175 gh_k1402 hF ?_
        refine gh_iload_n gd_Model_findUseful_178 1 rfl ?_
        obtain ⟨q2870, hk⟩ := hk
        obtain ⟨q2871, hk⟩ := hk
        refine la_79 gd_Model_findUseful_179 hF q2870 q2871 rfl ?_
        obtain ⟨q2872, hk⟩ := hk
        have q2873 := hk
        refine la_84 gd_Model_findUseful_180 hF q2872 q2873 rfl ?_
        refine gh_zeq (tgt := 188) gd_Model_findUseful_181 (by decide) (fun c2894 => ?_) (fun c2894 => ?_)
        · have hz : True := trivial
          refine gh_iconst gd_Model_findUseful_188 (gh_r0 rfl) ?_
          exact k2874 _ (if_neg (c := (¬ ((m 84 v4) = 0) ∨ (¬ ((m 84 (m 79 v3)) = 0)))) (fun z => z.elim (fun w => w c2893) (not_not_intro c2894))).symm
        · have hz : True := trivial
          refine gh_iconst gd_Model_findUseful_184 (gh_r0 rfl) ?_
          refine gh_goto (tgt := 189) gd_Model_findUseful_185 (by decide) ?_
          exact k2874 _ (if_pos (c := (¬ ((m 84 v4) = 0) ∨ (¬ ((m 84 (m 79 v3)) = 0)))) (Or.inr c2894)).symm
      · have hz : True := trivial
        refine gh_iconst gd_Model_findUseful_184 (gh_r0 rfl) ?_
        refine gh_goto (tgt := 189) gd_Model_findUseful_185 (by decide) ?_
        exact k2874 _ (if_pos (c := (¬ ((m 84 v4) = 0) ∨ (¬ ((m 84 (m 79 v3)) = 0)))) (Or.inl c2893)).symm
    have k2864 : ¬ (((v2 % 4) < (m 80 v3)) ∧ ((m 81 v2) < 0)) → gh_T E (gh_yModel_findUseful.cls, prog_14_method_36_code, 5, false, 9) (d + 1) 235 [(3, 0, v3), (0, 2, 63), (1, 0, v1), (2, 0, v2)] [] m (fun r m1 => gh_F m1 ∧ Q r m1) := by
      intro c
      have h := hB c
      refine gh_pick (L2 := [(0, 2, 63), (1, 0, v1), (2, 0, v2)]) [1, 2, 3] rfl ?_
      exact hJ235 m hF h
    refine gh_jge (tgt := 235) gd_Model_findUseful_132 (by decide) (fun c2895 => ?_) (fun c2895 => ?_)
    · have hz : True := trivial
      have hk := hk c2895
      refine gh_aload_n gd_Model_findUseful_135 1 rfl (by decide) ?_
      refine gf_63_34 gd_Model_findUseful_136 gh_k1404 hF ?_
      refine gh_iload_n gd_Model_findUseful_139 3 rfl ?_
      obtain ⟨q2861, hk⟩ := hk
      have q2862 := hk
      refine la_81 gd_Model_findUseful_140 hF q2861 q2862 rfl ?_
      refine gh_zge (tgt := 235) gd_Model_findUseful_141 (by decide) (fun c2896 => ?_) (fun c2896 => ?_)
      · have hz : True := trivial
        exact k2863 ⟨c2895, c2896⟩
      · have hz : True := trivial
        exact k2864 (fun z => c2896 z.2)
    · have hz : True := trivial
      exact k2864 (fun z => c2895 z.1)
  · have h := hB c2855
    obtain ⟨q2897, h⟩ := h
    refine gh_iinc (L2 := [(1, 0, v1 + 1), (0, 2, 63), (2, 0, v2)]) gd_Model_findUseful_241 1 rfl q2897 (by decide) rfl ?_
    refine gh_goto (tgt := 99) gd_Model_findUseful_244 (by decide) ?_
    refine gh_pick (L2 := [(0, 2, 63), (1, 0, v1 + 1)]) [1, 0] rfl ?_
    exact hK99 (v1 + 1) m hF h
theorem b_Model_findUseful_99 {E : gh_E} {Q : Int → gh_M → Prop} {K99 : Int → gh_M → Prop} (d : Nat) (hK : ∀ (v1 : Int) (m : gh_M), gh_F m → K99 v1 m → gh_T E (gh_yModel_findUseful.cls, prog_14_method_36_code, 5, false, 9) (d + 1) 99 [(0, 2, 63), (1, 0, v1)] [] m (fun r m1 => gh_F m1 ∧ Q r m1)) (v1 : Int) (m : gh_M) (hF : gh_F m) (h : f_Model_findUseful_99 Q K99 v1 m) : gh_T E (gh_yModel_findUseful.cls, prog_14_method_36_code, 5, false, 9) (d + 1) 99 [(0, 2, 63), (1, 0, v1)] [] m (fun r m1 => gh_F m1 ∧ Q r m1) := by
  have hK99 := hK
  unfold f_Model_findUseful_99 at h
  refine gh_iload_n gd_Model_findUseful_99 1 rfl ?_
  refine gh_aload_n gd_Model_findUseful_100 0 rfl (by decide) ?_
  refine gf_63_26 gd_Model_findUseful_101 gh_k1396 hF rfl ?_
  obtain ⟨hA, hB⟩ := h
  refine gh_jge (tgt := 247) gd_Model_findUseful_104 (by decide) (fun c2853 => ?_) (fun c2853 => ?_)
  · have h := hA c2853
    refine gh_iconst gd_Model_findUseful_107 (gh_r0 rfl) ?_
    refine gh_istore_n (L2 := [(2, 0, 0), (0, 2, 63), (1, 0, v1)]) gd_Model_findUseful_108 (by decide) rfl ?_
    refine gh_pick (L2 := [(0, 2, 63), (1, 0, v1), (2, 0, 0)]) [1, 2, 0] rfl ?_
    exact gh_M1_sound (T := fun v2 m => gh_T E (gh_yModel_findUseful.cls, prog_14_method_36_code, 5, false, 9) (d + 1) 109 [(0, 2, 63), (1, 0, v1), (2, 0, v2)] [] m (fun r m1 => gh_F m1 ∧ Q r m1)) (fun _ m => gh_F m) (fun K109 v2 m hK hF h => b_Model_findUseful_109 d hK99 hK v2 m hF h) 0 m hF h
  · have h := hB c2853
    exact gh_ret9 rfl gd_Model_findUseful_247 ⟨hF, h⟩
theorem b_Model_findUseful_41 {E : gh_E} {Q : Int → gh_M → Prop} {K41 : Int → gh_M → Prop} (d : Nat) (hK : ∀ (v1 : Int) (m : gh_M), gh_F m → K41 v1 m → gh_T E (gh_yModel_findUseful.cls, prog_14_method_36_code, 5, false, 9) (d + 1) 41 [(0, 2, 63), (1, 0, v1)] [] m (fun r m1 => gh_F m1 ∧ Q r m1)) (v1 : Int) (m : gh_M) (hF : gh_F m) (h : f_Model_findUseful_41 Q K41 v1 m) : gh_T E (gh_yModel_findUseful.cls, prog_14_method_36_code, 5, false, 9) (d + 1) 41 [(0, 2, 63), (1, 0, v1)] [] m (fun r m1 => gh_F m1 ∧ Q r m1) := by
  have hK41 := hK
  unfold f_Model_findUseful_41 at h
  refine gh_iload_n gd_Model_findUseful_41 1 rfl ?_
  refine gh_aload_n gd_Model_findUseful_42 0 rfl (by decide) ?_
  refine gf_63_26 gd_Model_findUseful_43 gh_k1396 hF rfl ?_
  obtain ⟨hA, hB⟩ := h
  refine gh_jge (tgt := 97) gd_Model_findUseful_46 (by decide) (fun c2840 => ?_) (fun c2840 => ?_)
  · have h := hA c2840
    refine gh_aload_n gd_Model_findUseful_49 0 rfl (by decide) ?_
    refine gf_63_37 gd_Model_findUseful_50 gh_k1407 hF ?_
    refine gh_iload_n gd_Model_findUseful_53 1 rfl ?_
    refine gh_iload_n gd_Model_findUseful_54 1 rfl ?_
    have k2841 : ∀ x2842 : Int, x2842 = (if (v1 = 0) then (1:Int) else 0) → gh_T E (gh_yModel_findUseful.cls, prog_14_method_36_code, 5, false, 9) (d + 1) 63 [(0, 2, 63), (1, 0, v1)] [(0, x2842), (0, v1), (2, 84)] m (fun r m1 => gh_F m1 ∧ Q r m1) := by
      rintro _ rfl
      obtain ⟨q2843, h⟩ := h
      obtain ⟨q2844, h⟩ := h
      refine sa_84 gd_Model_findUseful_63 hF q2843 q2844 gh_ib01 (fun hF => ?_)
      refine gh_aload_n gd_Model_findUseful_64 0 rfl (by decide) ?_
      refine gf_63_38 gd_Model_findUseful_65 gh_k1408 hF ?_
      refine gh_iload_n gd_Model_findUseful_68 1 rfl ?_
      refine gh_iload_n gd_Model_findUseful_69 1 rfl ?_
      have k2845 : ∀ x2846 : Int, x2846 = (if ((v1 = 0) ∧ ((m 82 0) < 1000000000)) then (1:Int) else 0) → gh_T E (gh_yModel_findUseful.cls, prog_14_method_36_code, 5, false, 9) (d + 1) 90 [(0, 2, 63), (1, 0, v1)] [(0, x2846), (0, v1), (2, 85)] (gh_u m 84 v1 (if (v1 = 0) then (1:Int) else 0)) (fun r m1 => gh_F m1 ∧ Q r m1) := by
        rintro _ rfl
        obtain ⟨q2847, h⟩ := h
        obtain ⟨q2848, h⟩ := h
        refine sa_85 gd_Model_findUseful_90 hF q2847 q2848 gh_ib01 (fun hF => ?_)
        obtain ⟨q2849, h⟩ := h
        refine gh_iinc (L2 := [(1, 0, v1 + 1), (0, 2, 63)]) gd_Model_findUseful_91 1 rfl q2849 (by decide) rfl ?_
        refine gh_goto (tgt := 41) gd_Model_findUseful_94 (by decide) ?_
        refine gh_pick (L2 := [(0, 2, 63), (1, 0, v1 + 1)]) [1, 0] rfl ?_
        exact hK41 (v1 + 1) (gh_u (gh_u m 84 v1 (if (v1 = 0) then (1:Int) else 0)) 85 v1 (if ((v1 = 0) ∧ ((m 82 0) < 1000000000)) then (1:Int) else 0)) hF h
      refine gh_zne (tgt := 89) gd_Model_findUseful_70 (by decide) (fun c2850 => ?_) (fun c2850 => ?_)
      · have hz : True := trivial
        refine gh_aload_n gd_Model_findUseful_73 0 rfl (by decide) ?_
        refine gf_63_35 gd_Model_findUseful_74 gh_k1405 hF ?_
        refine gh_iconst gd_Model_findUseful_77 (gh_r0 rfl) ?_
        refine la_82 gd_Model_findUseful_78 hF (by decide) (by decide) (gh_u_a (by decide)) ?_
        refine gh_ldcw (n := 1000000000) gd_Model_findUseful_79 gh_k1744 (by decide) (gh_r0 rfl) ?_
        refine gh_jge (tgt := 89) gd_Model_findUseful_82 (by decide) (fun c2851 => ?_) (fun c2851 => ?_)
        · have hz : True := trivial
          refine gh_iconst gd_Model_findUseful_85 (gh_r0 rfl) ?_
          refine gh_goto (tgt := 90) gd_Model_findUseful_86 (by decide) ?_
          exact k2845 _ (if_pos (c := ((v1 = 0) ∧ ((m 82 0) < 1000000000))) ⟨c2850, c2851⟩).symm
        · have hz : True := trivial
          refine gh_iconst gd_Model_findUseful_89 (gh_r0 rfl) ?_
          exact k2845 _ (if_neg (c := ((v1 = 0) ∧ ((m 82 0) < 1000000000))) (fun z => c2851 z.2)).symm
      · have hz : True := trivial
        refine gh_iconst gd_Model_findUseful_89 (gh_r0 rfl) ?_
        exact k2845 _ (if_neg (c := ((v1 = 0) ∧ ((m 82 0) < 1000000000))) (fun z => c2850 z.1)).symm
    refine gh_zne (tgt := 62) gd_Model_findUseful_55 (by decide) (fun c2852 => ?_) (fun c2852 => ?_)
    · have hz : True := trivial
      refine gh_iconst gd_Model_findUseful_58 (gh_r0 rfl) ?_
      refine gh_goto (tgt := 63) gd_Model_findUseful_59 (by decide) ?_
      exact k2841 _ (if_pos (c := (v1 = 0)) c2852).symm
    · have hz : True := trivial
      refine gh_iconst gd_Model_findUseful_62 (gh_r0 rfl) ?_
      exact k2841 _ (if_neg (c := (v1 = 0)) c2852).symm
  · have h := hB c2840
    refine gh_iconst gd_Model_findUseful_97 (gh_r0 rfl) ?_
    refine gh_istore_n (L2 := [(1, 0, 0), (0, 2, 63)]) gd_Model_findUseful_98 (by decide) rfl ?_
    refine gh_pick (L2 := [(0, 2, 63), (1, 0, 0)]) [1, 0] rfl ?_
    exact gh_M1_sound (T := fun v1 m => gh_T E (gh_yModel_findUseful.cls, prog_14_method_36_code, 5, false, 9) (d + 1) 99 [(0, 2, 63), (1, 0, v1)] [] m (fun r m1 => gh_F m1 ∧ Q r m1)) (fun _ m => gh_F m) (fun K99 v1 m hK hF h => b_Model_findUseful_99 d hK v1 m hF h) 0 m hF h
theorem b_Model_findUseful_2 {E : gh_E} {Q : Int → gh_M → Prop} {K2 : Int → gh_M → Prop} (d : Nat) (hK : ∀ (v1 : Int) (m : gh_M), gh_F m → K2 v1 m → gh_T E (gh_yModel_findUseful.cls, prog_14_method_36_code, 5, false, 9) (d + 1) 2 [(0, 2, 63), (1, 0, v1)] [] m (fun r m1 => gh_F m1 ∧ Q r m1)) (v1 : Int) (m : gh_M) (hF : gh_F m) (h : f_Model_findUseful_2 Q K2 v1 m) : gh_T E (gh_yModel_findUseful.cls, prog_14_method_36_code, 5, false, 9) (d + 1) 2 [(0, 2, 63), (1, 0, v1)] [] m (fun r m1 => gh_F m1 ∧ Q r m1) := by
  have hK2 := hK
  unfold f_Model_findUseful_2 at h
  refine gh_iload_n gd_Model_findUseful_2 1 rfl ?_
  refine gh_aload_n gd_Model_findUseful_3 0 rfl (by decide) ?_
  refine gf_63_27 gd_Model_findUseful_4 gh_k1397 hF rfl ?_
  obtain ⟨hA, hB⟩ := h
  refine gh_jge (tgt := 39) gd_Model_findUseful_7 (by decide) (fun c2831 => ?_) (fun c2831 => ?_)
  · have h := hA c2831
    refine gh_aload_n gd_Model_findUseful_10 0 rfl (by decide) ?_
    refine gf_63_36 gd_Model_findUseful_11 gh_k1406 hF ?_
    refine gh_iload_n gd_Model_findUseful_14 1 rfl ?_
    refine gh_aload_n gd_Model_findUseful_15 0 rfl (by decide) ?_
    refine gh_iload_n gd_Model_findUseful_16 1 rfl ?_
    refine gh_iconst gd_Model_findUseful_17 (gh_r0 rfl) ?_
    refine cv_Model_leastOf (d := d) gd_Model_findUseful_18 gh_k1745 hF (Nat.le_of_ble_eq_true rfl) (gh_C.pw (s_Model_leastOf d v1 0 hF h) (fun r2832 h => ?_))
    refine gh_ldcw (n := 1000000000) gd_Model_findUseful_21 gh_k1744 (by decide) (gh_r0 rfl) ?_
    have k2834 : ∀ x2835 : Int, x2835 = (if (r2832 < 1000000000) then (1:Int) else 0) → gh_T E (gh_yModel_findUseful.cls, prog_14_method_36_code, 5, false, 9) (d + 1) 32 [(0, 2, 63), (1, 0, v1)] [(0, x2835), (0, v1), (2, 83)] m (fun r m1 => gh_F m1 ∧ Q r m1) := by
      rintro _ rfl
      obtain ⟨q2836, h⟩ := h
      obtain ⟨q2837, h⟩ := h
      refine sa_83 gd_Model_findUseful_32 hF q2836 q2837 gh_ib01 (fun hF => ?_)
      obtain ⟨q2838, h⟩ := h
      refine gh_iinc (L2 := [(1, 0, v1 + 1), (0, 2, 63)]) gd_Model_findUseful_33 1 rfl q2838 (by decide) rfl ?_
      refine gh_goto (tgt := 2) gd_Model_findUseful_36 (by decide) ?_
      refine gh_pick (L2 := [(0, 2, 63), (1, 0, v1 + 1)]) [1, 0] rfl ?_
      exact hK2 (v1 + 1) (gh_u m 83 v1 (if (r2832 < 1000000000) then (1:Int) else 0)) hF h
    refine gh_jge (tgt := 31) gd_Model_findUseful_24 (by decide) (fun c2839 => ?_) (fun c2839 => ?_)
    · have hz : True := trivial
      refine gh_iconst gd_Model_findUseful_27 (gh_r0 rfl) ?_
      refine gh_goto (tgt := 32) gd_Model_findUseful_28 (by decide) ?_
      exact k2834 _ (if_pos (c := (r2832 < 1000000000)) c2839).symm
    · have hz : True := trivial
      refine gh_iconst gd_Model_findUseful_31 (gh_r0 rfl) ?_
      exact k2834 _ (if_neg (c := (r2832 < 1000000000)) c2839).symm
  · have h := hB c2831
    refine gh_iconst gd_Model_findUseful_39 (gh_r0 rfl) ?_
    refine gh_istore_n (L2 := [(1, 0, 0), (0, 2, 63)]) gd_Model_findUseful_40 (by decide) rfl ?_
    refine gh_pick (L2 := [(0, 2, 63), (1, 0, 0)]) [1, 0] rfl ?_
    exact gh_M1_sound (T := fun v1 m => gh_T E (gh_yModel_findUseful.cls, prog_14_method_36_code, 5, false, 9) (d + 1) 41 [(0, 2, 63), (1, 0, v1)] [] m (fun r m1 => gh_F m1 ∧ Q r m1)) (fun _ m => gh_F m) (fun K41 v1 m hK hF h => b_Model_findUseful_41 d hK v1 m hF h) 0 m hF h
theorem s_Model_findUseful {E : gh_E} {m : gh_M} {Q : Int → gh_M → Prop} (d : Nat) (hF : gh_F m) (h : w_Model_findUseful m Q) : gh_C E gh_yModel_findUseful prog_14_method_36_code 5 none 9 (d + 1) [(2, 63)] m (fun r m1 => gh_F m1 ∧ Q r m1) := by
  refine gh_enter2 (L := [(0, 2, 63)]) (by decide +kernel) gh_rt9 (Nat.le_of_ble_eq_true rfl) rfl rfl ?_
  unfold w_Model_findUseful at h
  refine gh_iconst gd_Model_findUseful_0 (gh_r0 rfl) ?_
  refine gh_istore_n (L2 := [(1, 0, 0), (0, 2, 63)]) gd_Model_findUseful_1 (by decide) rfl ?_
  refine gh_pick (L2 := [(0, 2, 63), (1, 0, 0)]) [1, 0] rfl ?_
  exact gh_M1_sound (T := fun v1 m => gh_T E (gh_yModel_findUseful.cls, prog_14_method_36_code, 5, false, 9) (d + 1) 2 [(0, 2, 63), (1, 0, v1)] [] m (fun r m1 => gh_F m1 ∧ Q r m1)) (fun _ m => gh_F m) (fun K2 v1 m hK hF h => b_Model_findUseful_2 d hK v1 m hF h) 0 m hF h
