def f_Model_areSigns_4 (v0 : Int) (Q : Int → Prop) (m : gh_M) (K4 : Int → Int → Prop) (v1 : Int) (v2 : Int) : Prop := ((v2 < 4 → gh_i (8 * v2) ∧ ∀ v3 : Int, v3 = gh_iand_f (gh_ishr_f v0 (8 * v2)) 255 → ∀ v1' : Int, v1' = (if (¬ (v1 = 0) ∧ ((v3 = 0) ∨ ((¬ (v3 < 32) ∧ (v3 ≤ 126))))) then (1:Int) else 0) → gh_i (v2 + 1) ∧ K4 v1' (v2 + 1)) ∧ (¬ (v2 < 4) → (v1 = 0 ∨ v1 = 1) ∧ Q v1))
def w_Model_areSigns (v0 : Int) (m : gh_M) (Q : Int → Prop) : Prop := gh_L2 (fun K4 v1 v2 => f_Model_areSigns_4 v0 Q m K4 v1 v2) 1 0
theorem b_Model_areSigns_4 {E : gh_E} {v0 : Int} {Q : Int → Prop} {K4 : Int → Int → Prop} (d : Nat) {m : gh_M} (hK : ∀ (v1 : Int) (v2 : Int), gh_F m → K4 v1 v2 → gh_T E (gh_yModel_areSigns.cls, prog_14_method_3_code, 4, false, 8) (d + 1) 4 [(0, 0, v0), (1, 0, v1), (2, 0, v2)] [] m (fun r m1 => m1 = m ∧ Q r)) (v1 : Int) (v2 : Int) (hF : gh_F m) (h : f_Model_areSigns_4 v0 Q m K4 v1 v2) : gh_T E (gh_yModel_areSigns.cls, prog_14_method_3_code, 4, false, 8) (d + 1) 4 [(0, 0, v0), (1, 0, v1), (2, 0, v2)] [] m (fun r m1 => m1 = m ∧ Q r) := by
  have hK4 := hK
  unfold f_Model_areSigns_4 at h
  refine gh_iload_n gd_Model_areSigns_4 2 rfl ?_
  refine gh_iconst gd_Model_areSigns_5 (gh_r0 rfl) ?_
  obtain ⟨hA, hB⟩ := h
  refine gh_jge (tgt := 51) gd_Model_areSigns_6 (by decide) (fun c2316 => ?_) (fun c2316 => ?_)
  · have h := hA c2316
    refine gh_iload_n gd_Model_areSigns_9 0 rfl ?_
    refine gh_bipush gd_Model_areSigns_10 (by decide) (gh_r0 rfl) ?_
    refine gh_iload_n gd_Model_areSigns_12 2 rfl ?_
    obtain ⟨q2317, h⟩ := h
    refine gh_imul gd_Model_areSigns_13 q2317 ?_
    refine gh_ishr gd_Model_areSigns_14 ?_
    refine gh_sipush gd_Model_areSigns_15 (by decide) (gh_r0 rfl) ?_
    refine gh_iand gd_Model_areSigns_18 ?_
    refine gh_name (fun v3 hn => ?_)
    have h := h v3 hn
    refine gh_istore_n (L2 := [(3, 0, v3), (0, 0, v0), (1, 0, v1), (2, 0, v2)]) gd_Model_areSigns_19 (by decide) rfl ?_
    refine gh_iload_n gd_Model_areSigns_20 2 rfl ?_
    have k2318 : ∀ x2319 : Int, x2319 = (if (¬ (v1 = 0) ∧ ((v3 = 0) ∨ ((¬ (v3 < 32) ∧ (v3 ≤ 126))))) then (1:Int) else 0) → gh_T E (gh_yModel_areSigns.cls, prog_14_method_3_code, 4, false, 8) (d + 1) 44 [(3, 0, v3), (0, 0, v0), (1, 0, v1), (2, 0, v2)] [(0, x2319)] m (fun r m1 => m1 = m ∧ Q r) := by
      rintro _ rfl
      refine gh_name (fun v1' hn => ?_)
      have h := h v1' hn
      refine gh_istore_n (L2 := [(1, 0, v1'), (3, 0, v3), (0, 0, v0), (2, 0, v2)]) gd_Model_areSigns_44 (by decide) rfl ?_
      obtain ⟨q2320, h⟩ := h
      refine gh_iinc (L2 := [(2, 0, v2 + 1), (1, 0, v1'), (3, 0, v3), (0, 0, v0)]) gd_Model_areSigns_45 3 rfl q2320 (by decide) rfl ?_
      refine gh_goto (tgt := 4) gd_Model_areSigns_48 (by decide) ?_
      refine gh_pick (L2 := [(0, 0, v0), (1, 0, v1'), (2, 0, v2 + 1)]) [3, 1, 0] rfl ?_
      exact hK4 v1' (v2 + 1) hF h
    refine gh_zeq (tgt := 43) gd_Model_areSigns_21 (by decide) (fun c2321 => ?_) (fun c2321 => ?_)
    · have hz : True := trivial
      refine gh_iconst gd_Model_areSigns_43 (gh_r0 rfl) ?_
      exact k2318 _ (if_neg (c := (¬ (v1 = 0) ∧ ((v3 = 0) ∨ ((¬ (v3 < 32) ∧ (v3 ≤ 126)))))) (fun z => z.1 c2321)).symm
    · have hz : True := trivial
      refine gh_iload_n gd_Model_areSigns_24 0 rfl ?_
      refine gh_zeq (tgt := 39) gd_Model_areSigns_25 (by decide) (fun c2322 => ?_) (fun c2322 => ?_)
      · have hz : True := trivial
        refine gh_iconst gd_Model_areSigns_39 (gh_r0 rfl) ?_
        refine gh_goto (tgt := 44) gd_Model_areSigns_40 (by decide) ?_
        exact k2318 _ (if_pos (c := (¬ (v1 = 0) ∧ ((v3 = 0) ∨ ((¬ (v3 < 32) ∧ (v3 ≤ 126)))))) ⟨c2321, (Or.inl c2322)⟩).symm
      · have hz : True := trivial
        refine gh_iload_n gd_Model_areSigns_28 0 rfl ?_
        refine gh_bipush gd_Model_areSigns_29 (by decide) (gh_r0 rfl) ?_
        refine gh_bipush gd_Model_areSigns_31 (by decide) (gh_r0 rfl) ?_
        refine cv_Model_in (d := d) gd_Model_areSigns_33 gh_k1628 (Nat.le_of_ble_eq_true rfl) (gh_C.pe (e_Model_in d v3 32 126) ?_)
        refine gh_beq (tgt := 43) gd_Model_areSigns_36 (by decide) (fun c2323 => ?_) (fun c2323 => ?_)
        · have hz : True := trivial
          refine gh_iconst gd_Model_areSigns_39 (gh_r0 rfl) ?_
          refine gh_goto (tgt := 44) gd_Model_areSigns_40 (by decide) ?_
          exact k2318 _ (if_pos (c := (¬ (v1 = 0) ∧ ((v3 = 0) ∨ ((¬ (v3 < 32) ∧ (v3 ≤ 126)))))) ⟨c2321, (Or.inr c2323)⟩).symm
        · have hz : True := trivial
          refine gh_iconst gd_Model_areSigns_43 (gh_r0 rfl) ?_
          exact k2318 _ (if_neg (c := (¬ (v1 = 0) ∧ ((v3 = 0) ∨ ((¬ (v3 < 32) ∧ (v3 ≤ 126)))))) (fun z => (fun z => z.elim c2322 c2323) z.2)).symm
  · have h := hB c2316
    refine gh_iload_n gd_Model_areSigns_51 1 rfl ?_
    obtain ⟨q2324, h⟩ := h
    exact gh_ret8 rfl gd_Model_areSigns_52 q2324 ⟨rfl, h⟩
theorem s_Model_areSigns {E : gh_E} {m : gh_M} {Q : Int → Prop} (d : Nat) (v0 : Int) (hF : gh_F m) (h : w_Model_areSigns v0 m Q) : gh_C E gh_yModel_areSigns prog_14_method_3_code 4 (some .boolean) 8 (d + 1) [(0, v0)] m (fun r m1 => m1 = m ∧ Q r) := by
  refine gh_enter2 (L := [(0, 0, v0)]) (by decide +kernel) gh_rt8 (Nat.le_of_ble_eq_true rfl) rfl rfl ?_
  unfold w_Model_areSigns at h
  refine gh_iconst gd_Model_areSigns_0 (gh_r0 rfl) ?_
  refine gh_istore_n (L2 := [(1, 0, 1), (0, 0, v0)]) gd_Model_areSigns_1 (by decide) rfl ?_
  refine gh_iconst gd_Model_areSigns_2 (gh_r0 rfl) ?_
  refine gh_istore_n (L2 := [(2, 0, 0), (1, 0, 1), (0, 0, v0)]) gd_Model_areSigns_3 (by decide) rfl ?_
  refine gh_pick (L2 := [(0, 0, v0), (1, 0, 1), (2, 0, 0)]) [2, 1, 0] rfl ?_
  exact gh_L2_sound (T := fun v1 v2 => gh_T E (gh_yModel_areSigns.cls, prog_14_method_3_code, 4, false, 8) (d + 1) 4 [(0, 0, v0), (1, 0, v1), (2, 0, v2)] [] m (fun r m1 => m1 = m ∧ Q r)) (fun _ _ => gh_F m) (fun K4 v1 v2 hK hF h => b_Model_areSigns_4 d hK v1 v2 hF h) 1 0 hF h
def f_Model_signsIn_4 (v0 : Int) (Q : Int → Prop) (m : gh_M) (K4 : Int → Int → Prop) (v1 : Int) (v2 : Int) : Prop := ((v2 < 4 → gh_i (8 * v2) ∧ gh_i (v1 + (if (¬ ((gh_iand_f (gh_ishr_f v0 (8 * v2)) 255) = 0)) then (1:Int) else 0)) ∧ ∀ v1' : Int, v1' = v1 + (if (¬ ((gh_iand_f (gh_ishr_f v0 (8 * v2)) 255) = 0)) then (1:Int) else 0) → gh_i (v2 + 1) ∧ K4 v1' (v2 + 1)) ∧ (¬ (v2 < 4) → Q v1))
def w_Model_signsIn (v0 : Int) (m : gh_M) (Q : Int → Prop) : Prop := gh_L2 (fun K4 v1 v2 => f_Model_signsIn_4 v0 Q m K4 v1 v2) 0 0
theorem b_Model_signsIn_4 {E : gh_E} {v0 : Int} {Q : Int → Prop} {K4 : Int → Int → Prop} (d : Nat) {m : gh_M} (hK : ∀ (v1 : Int) (v2 : Int), gh_F m → K4 v1 v2 → gh_T E (gh_yModel_signsIn.cls, prog_14_method_4_code, 3, false, 0) (d + 0) 4 [(0, 0, v0), (1, 0, v1), (2, 0, v2)] [] m (fun r m1 => m1 = m ∧ Q r)) (v1 : Int) (v2 : Int) (hF : gh_F m) (h : f_Model_signsIn_4 v0 Q m K4 v1 v2) : gh_T E (gh_yModel_signsIn.cls, prog_14_method_4_code, 3, false, 0) (d + 0) 4 [(0, 0, v0), (1, 0, v1), (2, 0, v2)] [] m (fun r m1 => m1 = m ∧ Q r) := by
  have hK4 := hK
  unfold f_Model_signsIn_4 at h
  refine gh_iload_n gd_Model_signsIn_4 2 rfl ?_
  refine gh_iconst gd_Model_signsIn_5 (gh_r0 rfl) ?_
  obtain ⟨hA, hB⟩ := h
  refine gh_jge (tgt := 36) gd_Model_signsIn_6 (by decide) (fun c2325 => ?_) (fun c2325 => ?_)
  · have h := hA c2325
    refine gh_iload_n gd_Model_signsIn_9 1 rfl ?_
    refine gh_iload_n gd_Model_signsIn_10 0 rfl ?_
    refine gh_bipush gd_Model_signsIn_11 (by decide) (gh_r0 rfl) ?_
    refine gh_iload_n gd_Model_signsIn_13 2 rfl ?_
    obtain ⟨q2326, h⟩ := h
    refine gh_imul gd_Model_signsIn_14 q2326 ?_
    refine gh_ishr gd_Model_signsIn_15 ?_
    refine gh_sipush gd_Model_signsIn_16 (by decide) (gh_r0 rfl) ?_
    refine gh_iand gd_Model_signsIn_19 ?_
    have k2327 : ∀ x2328 : Int, x2328 = (if (¬ ((gh_iand_f (gh_ishr_f v0 (8 * v2)) 255) = 0)) then (1:Int) else 0) → gh_T E (gh_yModel_signsIn.cls, prog_14_method_4_code, 3, false, 0) (d + 0) 28 [(0, 0, v0), (1, 0, v1), (2, 0, v2)] [(0, x2328), (0, v1)] m (fun r m1 => m1 = m ∧ Q r) := by
      rintro _ rfl
      obtain ⟨q2329, h⟩ := h
      refine gh_iadd gd_Model_signsIn_28 q2329 ?_
      refine gh_name (fun v1' hn => ?_)
      have h := h v1' hn
      refine gh_istore_n (L2 := [(1, 0, v1'), (0, 0, v0), (2, 0, v2)]) gd_Model_signsIn_29 (by decide) rfl ?_
      obtain ⟨q2330, h⟩ := h
      refine gh_iinc (L2 := [(2, 0, v2 + 1), (1, 0, v1'), (0, 0, v0)]) gd_Model_signsIn_30 2 rfl q2330 (by decide) rfl ?_
      refine gh_goto (tgt := 4) gd_Model_signsIn_33 (by decide) ?_
      refine gh_pick (L2 := [(0, 0, v0), (1, 0, v1'), (2, 0, v2 + 1)]) [2, 1, 0] rfl ?_
      exact hK4 v1' (v2 + 1) hF h
    refine gh_zne (tgt := 27) gd_Model_signsIn_20 (by decide) (fun c2331 => ?_) (fun c2331 => ?_)
    · have hz : True := trivial
      refine gh_iconst gd_Model_signsIn_23 (gh_r0 rfl) ?_
      refine gh_goto (tgt := 28) gd_Model_signsIn_24 (by decide) ?_
      exact k2327 _ (if_neg (c := (¬ ((gh_iand_f (gh_ishr_f v0 (8 * v2)) 255) = 0))) (not_not_intro c2331)).symm
    · have hz : True := trivial
      refine gh_iconst gd_Model_signsIn_27 (gh_r0 rfl) ?_
      exact k2327 _ (if_pos (c := (¬ ((gh_iand_f (gh_ishr_f v0 (8 * v2)) 255) = 0))) c2331).symm
  · have h := hB c2325
    refine gh_iload_n gd_Model_signsIn_36 1 rfl ?_
    exact gh_ret0 rfl gd_Model_signsIn_37 ⟨rfl, h⟩
theorem s_Model_signsIn {E : gh_E} {m : gh_M} {Q : Int → Prop} (d : Nat) (v0 : Int) (hF : gh_F m) (h : w_Model_signsIn v0 m Q) : gh_C E gh_yModel_signsIn prog_14_method_4_code 3 (some .int) 0 (d + 0) [(0, v0)] m (fun r m1 => m1 = m ∧ Q r) := by
  refine gh_enter2 (L := [(0, 0, v0)]) (by decide +kernel) gh_rt0 (Nat.le_of_ble_eq_true rfl) rfl rfl ?_
  unfold w_Model_signsIn at h
  refine gh_iconst gd_Model_signsIn_0 (gh_r0 rfl) ?_
  refine gh_istore_n (L2 := [(1, 0, 0), (0, 0, v0)]) gd_Model_signsIn_1 (by decide) rfl ?_
  refine gh_iconst gd_Model_signsIn_2 (gh_r0 rfl) ?_
  refine gh_istore_n (L2 := [(2, 0, 0), (1, 0, 0), (0, 0, v0)]) gd_Model_signsIn_3 (by decide) rfl ?_
  refine gh_pick (L2 := [(0, 0, v0), (1, 0, 0), (2, 0, 0)]) [2, 1, 0] rfl ?_
  exact gh_L2_sound (T := fun v1 v2 => gh_T E (gh_yModel_signsIn.cls, prog_14_method_4_code, 3, false, 0) (d + 0) 4 [(0, 0, v0), (1, 0, v1), (2, 0, v2)] [] m (fun r m1 => m1 = m ∧ Q r)) (fun _ _ => gh_F m) (fun K4 v1 v2 hK hF h => b_Model_signsIn_4 d hK v1 v2 hF h) 0 0 hF h
def f_Model_typeFour_2 (v1 : Int) (Q : Int → gh_M → Prop) (K2 : Int → gh_M → Prop) (v2 : Int) (m : gh_M) : Prop := ((v2 < 4 → gh_i (8 * v2) ∧ ∀ v3 : Int, v3 = gh_iand_f (gh_ishr_f v1 (8 * v2)) 255 → ∃ J42 : gh_M → Prop, (∀ (m : gh_M), J42 m → gh_i (v2 + 1) ∧ K2 (v2 + 1) m) ∧ ((v3 = 0 → J42 m) ∧ (¬ (v3 = 0) → 0 ≤ m 63 1 ∧ (m 63 1) < 240 ∧ gh_i ((m 63 1) + 1) ∧ J42 (gh_u (gh_u m 64 (m 63 1) v3) 63 1 ((m 63 1) + 1))))) ∧ (¬ (v2 < 4) → Q 0 m))
def w_Model_typeFour (v1 : Int) (m : gh_M) (Q : Int → gh_M → Prop) : Prop := gh_M1 (fun K2 v2 m => f_Model_typeFour_2 v1 Q K2 v2 m) 0 m
theorem b_Model_typeFour_2 {E : gh_E} {v1 : Int} {Q : Int → gh_M → Prop} {K2 : Int → gh_M → Prop} (d : Nat) (hK : ∀ (v2 : Int) (m : gh_M), gh_F m → K2 v2 m → gh_T E (gh_yModel_typeFour.cls, prog_14_method_5_code, 4, false, 9) (d + 0) 2 [(0, 2, 63), (1, 0, v1), (2, 0, v2)] [] m (fun r m1 => gh_F m1 ∧ Q r m1)) (v2 : Int) (m : gh_M) (hF : gh_F m) (h : f_Model_typeFour_2 v1 Q K2 v2 m) : gh_T E (gh_yModel_typeFour.cls, prog_14_method_5_code, 4, false, 9) (d + 0) 2 [(0, 2, 63), (1, 0, v1), (2, 0, v2)] [] m (fun r m1 => gh_F m1 ∧ Q r m1) := by
  have hK2 := hK
  unfold f_Model_typeFour_2 at h
  refine gh_iload_n gd_Model_typeFour_2 2 rfl ?_
  refine gh_iconst gd_Model_typeFour_3 (gh_r0 rfl) ?_
  obtain ⟨hA, hB⟩ := h
  refine gh_jge (tgt := 48) gd_Model_typeFour_4 (by decide) (fun c2332 => ?_) (fun c2332 => ?_)
  · have h := hA c2332
    refine gh_iload_n gd_Model_typeFour_7 1 rfl ?_
    refine gh_bipush gd_Model_typeFour_8 (by decide) (gh_r0 rfl) ?_
    refine gh_iload_n gd_Model_typeFour_10 2 rfl ?_
    obtain ⟨q2333, h⟩ := h
    refine gh_imul gd_Model_typeFour_11 q2333 ?_
    refine gh_ishr gd_Model_typeFour_12 ?_
    refine gh_sipush gd_Model_typeFour_13 (by decide) (gh_r0 rfl) ?_
    refine gh_iand gd_Model_typeFour_16 ?_
    refine gh_name (fun v3 hn => ?_)
    have h := h v3 hn
    refine gh_istore_n (L2 := [(3, 0, v3), (0, 2, 63), (1, 0, v1), (2, 0, v2)]) gd_Model_typeFour_17 (by decide) rfl ?_
    refine gh_iload_n gd_Model_typeFour_18 0 rfl ?_
    obtain ⟨J42, hJ42, h⟩ := h
    have hJ42 : ∀ (m : gh_M), gh_F m → J42 m → gh_T E (gh_yModel_typeFour.cls, prog_14_method_5_code, 4, false, 9) (d + 0) 42 [(0, 2, 63), (1, 0, v1), (2, 0, v2)] [] m (fun r m1 => gh_F m1 ∧ Q r m1) := by
      intro m hF hj
      have h := hJ42 m hj
      obtain ⟨q2334, h⟩ := h
      refine gh_iinc (L2 := [(2, 0, v2 + 1), (0, 2, 63), (1, 0, v1)]) gd_Model_typeFour_42 2 rfl q2334 (by decide) rfl ?_
      refine gh_goto (tgt := 2) gd_Model_typeFour_45 (by decide) ?_
      refine gh_pick (L2 := [(0, 2, 63), (1, 0, v1), (2, 0, v2 + 1)]) [1, 2, 0] rfl ?_
      exact hK2 (v2 + 1) m hF h
    obtain ⟨hA, hB⟩ := h
    refine gh_zeq (tgt := 42) gd_Model_typeFour_19 (by decide) (fun c2335 => ?_) (fun c2335 => ?_)
    · have h := hA c2335
      refine gh_pick (L2 := [(0, 2, 63), (1, 0, v1), (2, 0, v2)]) [1, 2, 3] rfl ?_
      exact hJ42 m hF h
    · have h := hB c2335
      refine gh_aload_n gd_Model_typeFour_22 1 rfl (by decide) ?_
      refine gf_63_0 gd_Model_typeFour_23 gh_k1367 hF ?_
      refine gh_aload_n gd_Model_typeFour_26 1 rfl (by decide) ?_
      refine gf_63_1 gd_Model_typeFour_27 gh_k1368 hF rfl ?_
      refine gh_iload_n gd_Model_typeFour_30 0 rfl ?_
      obtain ⟨q2336, h⟩ := h
      obtain ⟨q2337, h⟩ := h
      refine sa_64 gd_Model_typeFour_31 hF q2336 q2337 (fun hF => ?_)
      refine gh_aload_n gd_Model_typeFour_32 1 rfl (by decide) ?_
      refine gh_dup gd_Model_typeFour_33 (by decide) ?_
      refine gf_63_1 gd_Model_typeFour_34 gh_k1368 hF (gh_u_a (by decide)) ?_
      refine gh_iconst gd_Model_typeFour_37 (gh_r0 rfl) ?_
      obtain ⟨q2338, h⟩ := h
      refine gh_iadd gd_Model_typeFour_38 q2338 ?_
      refine pf_63_1 gd_Model_typeFour_39 gh_k1368 hF (fun hF => ?_)
      refine gh_pick (L2 := [(0, 2, 63), (1, 0, v1), (2, 0, v2)]) [1, 2, 3] rfl ?_
      exact hJ42 (gh_u (gh_u m 64 (m 63 1) v3) 63 1 ((m 63 1) + 1)) hF h
  · have h := hB c2332
    exact gh_ret9 rfl gd_Model_typeFour_48 ⟨hF, h⟩
theorem s_Model_typeFour {E : gh_E} {m : gh_M} {Q : Int → gh_M → Prop} (d : Nat) (v1 : Int) (hF : gh_F m) (h : w_Model_typeFour v1 m Q) : gh_C E gh_yModel_typeFour prog_14_method_5_code 4 none 9 (d + 0) [(2, 63), (0, v1)] m (fun r m1 => gh_F m1 ∧ Q r m1) := by
  refine gh_enter2 (L := [(0, 2, 63), (1, 0, v1)]) (by decide +kernel) gh_rt9 (Nat.le_of_ble_eq_true rfl) rfl rfl ?_
  unfold w_Model_typeFour at h
  refine gh_iconst gd_Model_typeFour_0 (gh_r0 rfl) ?_
  refine gh_istore_n (L2 := [(2, 0, 0), (0, 2, 63), (1, 0, v1)]) gd_Model_typeFour_1 (by decide) rfl ?_
  refine gh_pick (L2 := [(0, 2, 63), (1, 0, v1), (2, 0, 0)]) [1, 2, 0] rfl ?_
  exact gh_M1_sound (T := fun v2 m => gh_T E (gh_yModel_typeFour.cls, prog_14_method_5_code, 4, false, 9) (d + 0) 2 [(0, 2, 63), (1, 0, v1), (2, 0, v2)] [] m (fun r m1 => gh_F m1 ∧ Q r m1)) (fun _ m => gh_F m) (fun K2 v2 m hK hF h => b_Model_typeFour_2 d hK v2 m hF h) 0 m hF h
def w_Model_type (v1 : Int) (v2 : Int) (v3 : Int) (v4 : Int) (v5 : Int) (m : gh_M) (Q : Int → gh_M → Prop) : Prop := w_Model_areSigns v1 m (fun r2339 => ((r2339 = 0 → Q (-1002) m) ∧ (¬ (r2339 = 0) → w_Model_areSigns v2 m (fun r2342 => ((r2342 = 0 → Q (-1002) m) ∧ (¬ (r2342 = 0) → w_Model_areSigns v3 m (fun r2345 => ((r2345 = 0 → Q (-1002) m) ∧ (¬ (r2345 = 0) → w_Model_areSigns v4 m (fun r2348 => ((r2348 = 0 → Q (-1002) m) ∧ (¬ (r2348 = 0) → w_Model_areSigns v5 m (fun r2351 => ((r2351 = 0 → Q (-1002) m) ∧ (¬ (r2351 = 0) → w_Model_signsIn v1 m (fun r2354 => gh_i ((m 63 1) + r2354) ∧ w_Model_signsIn v2 m (fun r2357 => gh_i (((m 63 1) + r2354) + r2357) ∧ w_Model_signsIn v3 m (fun r2360 => gh_i ((((m 63 1) + r2354) + r2357) + r2360) ∧ w_Model_signsIn v4 m (fun r2363 => gh_i (((((m 63 1) + r2354) + r2357) + r2360) + r2363) ∧ w_Model_signsIn v5 m (fun r2366 => gh_i ((((((m 63 1) + r2354) + r2357) + r2360) + r2363) + r2366) ∧ ((((((((m 63 1) + r2354) + r2357) + r2360) + r2363) + r2366) ≤ 240 → w_Model_typeFour v1 m (fun _ m2371 => w_Model_typeFour v2 m2371 (fun _ m2373 => w_Model_typeFour v3 m2373 (fun _ m2375 => w_Model_typeFour v4 m2375 (fun _ m2377 => w_Model_typeFour v5 m2377 (fun _ m2379 => Q (m2379 63 1) m2379)))))) ∧ (¬ (((((((m 63 1) + r2354) + r2357) + r2360) + r2363) + r2366) ≤ 240) → Q (-1004) m))))))))))))))))))))))
theorem s_Model_type {E : gh_E} {m : gh_M} {Q : Int → gh_M → Prop} (d : Nat) (v1 : Int) (v2 : Int) (v3 : Int) (v4 : Int) (v5 : Int) (hF : gh_F m) (h : w_Model_type v1 v2 v3 v4 v5 m Q) : gh_C E gh_yModel_type prog_14_method_6_code 6 (some .int) 0 (d + 2) [(2, 63), (0, v1), (0, v2), (0, v3), (0, v4), (0, v5)] m (fun r m1 => gh_F m1 ∧ Q r m1) := by
  refine gh_enter2 (L := [(0, 2, 63), (1, 0, v1), (2, 0, v2), (3, 0, v3), (4, 0, v4), (5, 0, v5)]) (by decide +kernel) gh_rt0 (Nat.le_of_ble_eq_true rfl) rfl rfl ?_
  unfold w_Model_type at h
  refine gh_iload_n gd_Model_type_0 1 rfl ?_
  refine cv_Model_areSigns (d := d + 1) gd_Model_type_1 gh_k1625 (Nat.le_of_ble_eq_true rfl) (gh_C.pw (s_Model_areSigns d v1 hF h) (fun r2339 h => ?_))
  obtain ⟨hA, hB⟩ := h
  refine gh_zeq (tgt := 37) gd_Model_type_4 (by decide) (fun c2341 => ?_) (fun c2341 => ?_)
  · have h := hA c2341
    refine gh_sipush gd_Model_type_37 (by decide) (gh_r0 rfl) ?_
    exact gh_ret0 rfl gd_Model_type_40 ⟨hF, h⟩
  · have h := hB c2341
    refine gh_iload_n gd_Model_type_7 2 rfl ?_
    refine cv_Model_areSigns (d := d + 1) gd_Model_type_8 gh_k1625 (Nat.le_of_ble_eq_true rfl) (gh_C.pw (s_Model_areSigns d v2 hF h) (fun r2342 h => ?_))
    obtain ⟨hA, hB⟩ := h
    refine gh_zeq (tgt := 37) gd_Model_type_11 (by decide) (fun c2344 => ?_) (fun c2344 => ?_)
    · have h := hA c2344
      refine gh_sipush gd_Model_type_37 (by decide) (gh_r0 rfl) ?_
      exact gh_ret0 rfl gd_Model_type_40 ⟨hF, h⟩
    · have h := hB c2344
      refine gh_iload_n gd_Model_type_14 3 rfl ?_
      refine cv_Model_areSigns (d := d + 1) gd_Model_type_15 gh_k1625 (Nat.le_of_ble_eq_true rfl) (gh_C.pw (s_Model_areSigns d v3 hF h) (fun r2345 h => ?_))
      obtain ⟨hA, hB⟩ := h
      refine gh_zeq (tgt := 37) gd_Model_type_18 (by decide) (fun c2347 => ?_) (fun c2347 => ?_)
      · have h := hA c2347
        refine gh_sipush gd_Model_type_37 (by decide) (gh_r0 rfl) ?_
        exact gh_ret0 rfl gd_Model_type_40 ⟨hF, h⟩
      · have h := hB c2347
        refine gh_iload gd_Model_type_21 4 rfl ?_
        refine cv_Model_areSigns (d := d + 1) gd_Model_type_23 gh_k1625 (Nat.le_of_ble_eq_true rfl) (gh_C.pw (s_Model_areSigns d v4 hF h) (fun r2348 h => ?_))
        obtain ⟨hA, hB⟩ := h
        refine gh_zeq (tgt := 37) gd_Model_type_26 (by decide) (fun c2350 => ?_) (fun c2350 => ?_)
        · have h := hA c2350
          refine gh_sipush gd_Model_type_37 (by decide) (gh_r0 rfl) ?_
          exact gh_ret0 rfl gd_Model_type_40 ⟨hF, h⟩
        · have h := hB c2350
          refine gh_iload gd_Model_type_29 5 rfl ?_
          refine cv_Model_areSigns (d := d + 1) gd_Model_type_31 gh_k1625 (Nat.le_of_ble_eq_true rfl) (gh_C.pw (s_Model_areSigns d v5 hF h) (fun r2351 h => ?_))
          obtain ⟨hA, hB⟩ := h
          refine gh_zne (tgt := 41) gd_Model_type_34 (by decide) (fun c2353 => ?_) (fun c2353 => ?_)
          · have h := hA c2353
            refine gh_sipush gd_Model_type_37 (by decide) (gh_r0 rfl) ?_
            exact gh_ret0 rfl gd_Model_type_40 ⟨hF, h⟩
          · have h := hB c2353
            refine gh_aload_n gd_Model_type_41 0 rfl (by decide) ?_
            refine gf_63_1 gd_Model_type_42 gh_k1368 hF rfl ?_
            refine gh_iload_n gd_Model_type_45 1 rfl ?_
            refine cv_Model_signsIn (d := d + 1) gd_Model_type_46 gh_k1631 (Nat.le_of_ble_eq_true rfl) (gh_C.pw (s_Model_signsIn (d + 1) v1 hF h) (fun r2354 h => ?_))
            obtain ⟨q2356, h⟩ := h
            refine gh_iadd gd_Model_type_49 q2356 ?_
            refine gh_iload_n gd_Model_type_50 2 rfl ?_
            refine cv_Model_signsIn (d := d + 1) gd_Model_type_51 gh_k1631 (Nat.le_of_ble_eq_true rfl) (gh_C.pw (s_Model_signsIn (d + 1) v2 hF h) (fun r2357 h => ?_))
            obtain ⟨q2359, h⟩ := h
            refine gh_iadd gd_Model_type_54 q2359 ?_
            refine gh_iload_n gd_Model_type_55 3 rfl ?_
            refine cv_Model_signsIn (d := d + 1) gd_Model_type_56 gh_k1631 (Nat.le_of_ble_eq_true rfl) (gh_C.pw (s_Model_signsIn (d + 1) v3 hF h) (fun r2360 h => ?_))
            obtain ⟨q2362, h⟩ := h
            refine gh_iadd gd_Model_type_59 q2362 ?_
            refine gh_iload gd_Model_type_60 4 rfl ?_
            refine cv_Model_signsIn (d := d + 1) gd_Model_type_62 gh_k1631 (Nat.le_of_ble_eq_true rfl) (gh_C.pw (s_Model_signsIn (d + 1) v4 hF h) (fun r2363 h => ?_))
            obtain ⟨q2365, h⟩ := h
            refine gh_iadd gd_Model_type_65 q2365 ?_
            refine gh_iload gd_Model_type_66 5 rfl ?_
            refine cv_Model_signsIn (d := d + 1) gd_Model_type_68 gh_k1631 (Nat.le_of_ble_eq_true rfl) (gh_C.pw (s_Model_signsIn (d + 1) v5 hF h) (fun r2366 h => ?_))
            obtain ⟨q2368, h⟩ := h
            refine gh_iadd gd_Model_type_71 q2368 ?_
            refine gh_sipush gd_Model_type_72 (by decide) (gh_r0 rfl) ?_
            obtain ⟨hA, hB⟩ := h
            refine gh_jle (tgt := 82) gd_Model_type_75 (by decide) (fun c2369 => ?_) (fun c2369 => ?_)
            · have h := hA c2369
              refine gh_aload_n gd_Model_type_82 0 rfl (by decide) ?_
              refine gh_iload_n gd_Model_type_83 1 rfl ?_
              refine cv_Model_typeFour (d := d + 1) gd_Model_type_84 gh_k1634 hF (Nat.le_of_ble_eq_true rfl) (gh_C.mono (s_Model_typeFour (d + 1) v1 hF h) (fun r2370 m2371 hq => ?_))
              obtain ⟨hF, h⟩ := hq
              refine gh_aload_n gd_Model_type_87 0 rfl (by decide) ?_
              refine gh_iload_n gd_Model_type_88 2 rfl ?_
              refine cv_Model_typeFour (d := d + 1) gd_Model_type_89 gh_k1634 hF (Nat.le_of_ble_eq_true rfl) (gh_C.mono (s_Model_typeFour (d + 1) v2 hF h) (fun r2372 m2373 hq => ?_))
              obtain ⟨hF, h⟩ := hq
              refine gh_aload_n gd_Model_type_92 0 rfl (by decide) ?_
              refine gh_iload_n gd_Model_type_93 3 rfl ?_
              refine cv_Model_typeFour (d := d + 1) gd_Model_type_94 gh_k1634 hF (Nat.le_of_ble_eq_true rfl) (gh_C.mono (s_Model_typeFour (d + 1) v3 hF h) (fun r2374 m2375 hq => ?_))
              obtain ⟨hF, h⟩ := hq
              refine gh_aload_n gd_Model_type_97 0 rfl (by decide) ?_
              refine gh_iload gd_Model_type_98 4 rfl ?_
              refine cv_Model_typeFour (d := d + 1) gd_Model_type_100 gh_k1634 hF (Nat.le_of_ble_eq_true rfl) (gh_C.mono (s_Model_typeFour (d + 1) v4 hF h) (fun r2376 m2377 hq => ?_))
              obtain ⟨hF, h⟩ := hq
              refine gh_aload_n gd_Model_type_103 0 rfl (by decide) ?_
              refine gh_iload gd_Model_type_104 5 rfl ?_
              refine cv_Model_typeFour (d := d + 1) gd_Model_type_106 gh_k1634 hF (Nat.le_of_ble_eq_true rfl) (gh_C.mono (s_Model_typeFour (d + 1) v5 hF h) (fun r2378 m2379 hq => ?_))
              obtain ⟨hF, h⟩ := hq
              refine gh_aload_n gd_Model_type_109 0 rfl (by decide) ?_
              refine gf_63_1 gd_Model_type_110 gh_k1368 hF rfl ?_
              exact gh_ret0 rfl gd_Model_type_113 ⟨hF, h⟩
            · have h := hB c2369
              refine gh_sipush gd_Model_type_78 (by decide) (gh_r0 rfl) ?_
              exact gh_ret0 rfl gd_Model_type_81 ⟨hF, h⟩
def w_Model_wipe (m : gh_M) (Q : Int → gh_M → Prop) : Prop := ∀ v1 : Int, v1 = m 63 1 → Q v1 (gh_u m 63 1 0)
theorem s_Model_wipe {E : gh_E} {m : gh_M} {Q : Int → gh_M → Prop} (d : Nat) (hF : gh_F m) (h : w_Model_wipe m Q) : gh_C E gh_yModel_wipe prog_14_method_7_code 2 (some .int) 0 (d + 0) [(2, 63)] m (fun r m1 => gh_F m1 ∧ Q r m1) := by
  refine gh_enter2 (L := [(0, 2, 63)]) (by decide +kernel) gh_rt0 (Nat.le_of_ble_eq_true rfl) rfl rfl ?_
  unfold w_Model_wipe at h
  refine gh_aload_n gd_Model_wipe_0 0 rfl (by decide) ?_
  refine gf_63_1 gd_Model_wipe_1 gh_k1368 hF rfl ?_
  refine gh_name (fun v1 hn => ?_)
  have h := h v1 hn
  refine gh_istore_n (L2 := [(1, 0, v1), (0, 2, 63)]) gd_Model_wipe_4 (by decide) rfl ?_
  refine gh_aload_n gd_Model_wipe_5 1 rfl (by decide) ?_
  refine gh_iconst gd_Model_wipe_6 (gh_r0 rfl) ?_
  refine pf_63_1 gd_Model_wipe_7 gh_k1368 hF (fun hF => ?_)
  refine gh_iload_n gd_Model_wipe_10 0 rfl ?_
  exact gh_ret0 rfl gd_Model_wipe_11 ⟨hF, h⟩
def f_Model_nameLength_2 (v1 : Int) (Q : Int → Prop) (m : gh_M) (K2 : Int → Prop) (v2 : Int) : Prop := gh_i (v1 + v2) ∧ k_Model_signAt (v1 + v2) m ∧ (((¬ ((x_Model_signAt (v1 + v2) m) < 48) ∧ ((x_Model_signAt (v1 + v2) m) ≤ 57)) → gh_i (v2 + 1) ∧ K2 (v2 + 1)) ∧ (¬ ((¬ ((x_Model_signAt (v1 + v2) m) < 48) ∧ ((x_Model_signAt (v1 + v2) m) ≤ 57))) → Q v2))
def w_Model_nameLength (v1 : Int) (m : gh_M) (Q : Int → Prop) : Prop := gh_L1 (fun K2 v2 => f_Model_nameLength_2 v1 Q m K2 v2) 1
theorem b_Model_nameLength_2 {E : gh_E} {v1 : Int} {Q : Int → Prop} {K2 : Int → Prop} (d : Nat) {m : gh_M} (hK : ∀ (v2 : Int), gh_F m → K2 v2 → gh_T E (gh_yModel_nameLength.cls, prog_14_method_11_code, 3, false, 0) (d + 2) 2 [(0, 2, 63), (1, 0, v1), (2, 0, v2)] [] m (fun r m1 => m1 = m ∧ Q r)) (v2 : Int) (hF : gh_F m) (h : f_Model_nameLength_2 v1 Q m K2 v2) : gh_T E (gh_yModel_nameLength.cls, prog_14_method_11_code, 3, false, 0) (d + 2) 2 [(0, 2, 63), (1, 0, v1), (2, 0, v2)] [] m (fun r m1 => m1 = m ∧ Q r) := by
  have hK2 := hK
  unfold f_Model_nameLength_2 at h
  refine gh_aload_n gd_Model_nameLength_2 0 rfl (by decide) ?_
  refine gh_iload_n gd_Model_nameLength_3 1 rfl ?_
  refine gh_iload_n gd_Model_nameLength_4 2 rfl ?_
  obtain ⟨q2380, h⟩ := h
  refine gh_iadd gd_Model_nameLength_5 q2380 ?_
  obtain ⟨q2381, h⟩ := h
  refine cv_Model_signAt (d := d + 1) gd_Model_nameLength_6 gh_k1658 hF (Nat.le_of_ble_eq_true rfl) (gh_C.pe (e_Model_signAt d (v1 + v2) hF q2381) ?_)
  refine gh_bipush gd_Model_nameLength_9 (by decide) (gh_r0 rfl) ?_
  refine gh_bipush gd_Model_nameLength_11 (by decide) (gh_r0 rfl) ?_
  refine cv_Model_in (d := d + 1) gd_Model_nameLength_13 gh_k1628 (Nat.le_of_ble_eq_true rfl) (gh_C.pe (e_Model_in (d + 1) (x_Model_signAt (v1 + v2) m) 48 57) ?_)
  obtain ⟨hA, hB⟩ := h
  refine gh_beq (tgt := 25) gd_Model_nameLength_16 (by decide) (fun c2382 => ?_) (fun c2382 => ?_)
  · have h := hA c2382
    obtain ⟨q2383, h⟩ := h
    refine gh_iinc (L2 := [(2, 0, v2 + 1), (0, 2, 63), (1, 0, v1)]) gd_Model_nameLength_19 2 rfl q2383 (by decide) rfl ?_
    refine gh_goto (tgt := 2) gd_Model_nameLength_22 (by decide) ?_
    refine gh_pick (L2 := [(0, 2, 63), (1, 0, v1), (2, 0, v2 + 1)]) [1, 2, 0] rfl ?_
    exact hK2 (v2 + 1) hF h
  · have h := hB c2382
    refine gh_iload_n gd_Model_nameLength_25 2 rfl ?_
    exact gh_ret0 rfl gd_Model_nameLength_26 ⟨rfl, h⟩
theorem s_Model_nameLength {E : gh_E} {m : gh_M} {Q : Int → Prop} (d : Nat) (v1 : Int) (hF : gh_F m) (h : w_Model_nameLength v1 m Q) : gh_C E gh_yModel_nameLength prog_14_method_11_code 3 (some .int) 0 (d + 2) [(2, 63), (0, v1)] m (fun r m1 => m1 = m ∧ Q r) := by
  refine gh_enter2 (L := [(0, 2, 63), (1, 0, v1)]) (by decide +kernel) gh_rt0 (Nat.le_of_ble_eq_true rfl) rfl rfl ?_
  unfold w_Model_nameLength at h
  refine gh_iconst gd_Model_nameLength_0 (gh_r0 rfl) ?_
  refine gh_istore_n (L2 := [(2, 0, 1), (0, 2, 63), (1, 0, v1)]) gd_Model_nameLength_1 (by decide) rfl ?_
  refine gh_pick (L2 := [(0, 2, 63), (1, 0, v1), (2, 0, 1)]) [1, 2, 0] rfl ?_
  exact gh_L1_sound (T := fun v2 => gh_T E (gh_yModel_nameLength.cls, prog_14_method_11_code, 3, false, 0) (d + 2) 2 [(0, 2, 63), (1, 0, v1), (2, 0, v2)] [] m (fun r m1 => m1 = m ∧ Q r)) (fun _ => gh_F m) (fun K2 v2 hK hF h => b_Model_nameLength_2 d hK v2 hF h) 1 hF h
def f_Model_smallsFrom_2 (v1 : Int) (Q : Int → Prop) (m : gh_M) (K2 : Int → Prop) (v2 : Int) : Prop := gh_i (v1 + v2) ∧ k_Model_signAt (v1 + v2) m ∧ ((((if (¬ ((x_Model_signAt (v1 + v2) m) < 97) ∧ ((x_Model_signAt (v1 + v2) m) ≤ 122)) then (1:Int) else 0)) = 0 → Q v2) ∧ (¬ (((if (¬ ((x_Model_signAt (v1 + v2) m) < 97) ∧ ((x_Model_signAt (v1 + v2) m) ≤ 122)) then (1:Int) else 0)) = 0) → gh_i (v2 + 1) ∧ K2 (v2 + 1)))
def w_Model_smallsFrom (v1 : Int) (m : gh_M) (Q : Int → Prop) : Prop := gh_L1 (fun K2 v2 => f_Model_smallsFrom_2 v1 Q m K2 v2) 0
theorem b_Model_smallsFrom_2 {E : gh_E} {v1 : Int} {Q : Int → Prop} {K2 : Int → Prop} (d : Nat) {m : gh_M} (hK : ∀ (v2 : Int), gh_F m → K2 v2 → gh_T E (gh_yModel_smallsFrom.cls, prog_14_method_12_code, 3, false, 0) (d + 2) 2 [(0, 2, 63), (1, 0, v1), (2, 0, v2)] [] m (fun r m1 => m1 = m ∧ Q r)) (v2 : Int) (hF : gh_F m) (h : f_Model_smallsFrom_2 v1 Q m K2 v2) : gh_T E (gh_yModel_smallsFrom.cls, prog_14_method_12_code, 3, false, 0) (d + 2) 2 [(0, 2, 63), (1, 0, v1), (2, 0, v2)] [] m (fun r m1 => m1 = m ∧ Q r) := by
  have hK2 := hK
  unfold f_Model_smallsFrom_2 at h
  refine gh_aload_n gd_Model_smallsFrom_2 0 rfl (by decide) ?_
  refine gh_iload_n gd_Model_smallsFrom_3 1 rfl ?_
  refine gh_iload_n gd_Model_smallsFrom_4 2 rfl ?_
  obtain ⟨q2384, h⟩ := h
  refine gh_iadd gd_Model_smallsFrom_5 q2384 ?_
  obtain ⟨q2385, h⟩ := h
  refine cv_Model_signAt (d := d + 1) gd_Model_smallsFrom_6 gh_k1658 hF (Nat.le_of_ble_eq_true rfl) (gh_C.pe (e_Model_signAt d (v1 + v2) hF q2385) ?_)
  refine cv_Model_isSmall (d := d + 1) gd_Model_smallsFrom_9 gh_k1670 (Nat.le_of_ble_eq_true rfl) (gh_C.pe (e_Model_isSmall d (x_Model_signAt (v1 + v2) m)) ?_)
  obtain ⟨hA, hB⟩ := h
  refine gh_zeq (tgt := 21) gd_Model_smallsFrom_12 (by decide) (fun c2386 => ?_) (fun c2386 => ?_)
  · have h := hA c2386
    refine gh_iload_n gd_Model_smallsFrom_21 2 rfl ?_
    exact gh_ret0 rfl gd_Model_smallsFrom_22 ⟨rfl, h⟩
  · have h := hB c2386
    obtain ⟨q2387, h⟩ := h
    refine gh_iinc (L2 := [(2, 0, v2 + 1), (0, 2, 63), (1, 0, v1)]) gd_Model_smallsFrom_15 2 rfl q2387 (by decide) rfl ?_
    refine gh_goto (tgt := 2) gd_Model_smallsFrom_18 (by decide) ?_
    refine gh_pick (L2 := [(0, 2, 63), (1, 0, v1), (2, 0, v2 + 1)]) [1, 2, 0] rfl ?_
    exact hK2 (v2 + 1) hF h
theorem s_Model_smallsFrom {E : gh_E} {m : gh_M} {Q : Int → Prop} (d : Nat) (v1 : Int) (hF : gh_F m) (h : w_Model_smallsFrom v1 m Q) : gh_C E gh_yModel_smallsFrom prog_14_method_12_code 3 (some .int) 0 (d + 2) [(2, 63), (0, v1)] m (fun r m1 => m1 = m ∧ Q r) := by
  refine gh_enter2 (L := [(0, 2, 63), (1, 0, v1)]) (by decide +kernel) gh_rt0 (Nat.le_of_ble_eq_true rfl) rfl rfl ?_
  unfold w_Model_smallsFrom at h
  refine gh_iconst gd_Model_smallsFrom_0 (gh_r0 rfl) ?_
  refine gh_istore_n (L2 := [(2, 0, 0), (0, 2, 63), (1, 0, v1)]) gd_Model_smallsFrom_1 (by decide) rfl ?_
  refine gh_pick (L2 := [(0, 2, 63), (1, 0, v1), (2, 0, 0)]) [1, 2, 0] rfl ?_
  exact gh_L1_sound (T := fun v2 => gh_T E (gh_yModel_smallsFrom.cls, prog_14_method_12_code, 3, false, 0) (d + 2) 2 [(0, 2, 63), (1, 0, v1), (2, 0, v2)] [] m (fun r m1 => m1 = m ∧ Q r)) (fun _ => gh_F m) (fun K2 v2 hK hF h => b_Model_smallsFrom_2 d hK v2 hF h) 0 hF h
def f_Model_next_0 (Q : Int → gh_M → Prop) (K0 : gh_M → Prop) (m : gh_M) : Prop := k_Model_signAt (m 63 4) m ∧ (((x_Model_signAt (m 63 4) m) = 32 → gh_i ((m 63 4) + 1) ∧ K0 (gh_u m 63 4 ((m 63 4) + 1))) ∧ (¬ ((x_Model_signAt (m 63 4) m) = 32) → k_Model_signAt (m 63 4) (gh_u m 63 6 (m 63 4)) ∧ ∀ v1 : Int, v1 = x_Model_signAt (m 63 4) (gh_u m 63 6 (m 63 4)) → (((m 63 4) = (m 63 1) → Q 0 (gh_u (gh_u (gh_u (gh_u m 63 6 (m 63 4)) 63 7 v1) 63 5 0) 63 5 1)) ∧ (¬ ((m 63 4) = (m 63 1)) → (((¬ (v1 < 65) ∧ (v1 ≤ 90)) → w_Model_nameLength (m 63 4) (gh_u (gh_u (gh_u m 63 6 (m 63 4)) 63 7 v1) 63 5 0) (fun r2394 => gh_i ((m 63 4) + r2394) ∧ Q 0 (gh_u (gh_u (gh_u (gh_u (gh_u m 63 6 (m 63 4)) 63 7 v1) 63 5 0) 63 5 (if r2394 ≤ 3 then 2 else 0)) 63 4 ((m 63 4) + r2394)))) ∧ (¬ ((¬ (v1 < 65) ∧ (v1 ≤ 90))) → ((v1 = 39 → gh_i ((m 63 4) + 1) ∧ w_Model_smallsFrom ((m 63 4) + 1) (gh_u (gh_u (gh_u m 63 6 (m 63 4)) 63 7 v1) 63 5 0) (fun r2402 => ((((¬ (r2402 < 1) ∧ (r2402 ≤ 3))) → (gh_i ((m 63 4) + 1) ∧ gh_i (((m 63 4) + 1) + r2402) ∧ k_Model_signAt (((m 63 4) + 1) + r2402) (gh_u (gh_u (gh_u m 63 6 (m 63 4)) 63 7 v1) 63 5 0)))) ∧ gh_i (r2402 + 2) ∧ gh_i ((m 63 4) + (r2402 + 2)) ∧ Q 0 (gh_u (gh_u (gh_u (gh_u (gh_u m 63 6 (m 63 4)) 63 7 v1) 63 5 0) 63 5 (if (¬ (r2402 < 1) ∧ (r2402 ≤ 3)) then (if (x_Model_signAt (((m 63 4) + 1) + r2402) (gh_u (gh_u (gh_u m 63 6 (m 63 4)) 63 7 v1) 63 5 0)) = 39 then 3 else 0) else 0)) 63 4 ((m 63 4) + (r2402 + 2))))) ∧ (¬ (v1 = 39) → ((v1 = 91 → gh_i ((m 63 4) + 1) ∧ k_Model_signAt ((m 63 4) + 1) (gh_u (gh_u (gh_u m 63 6 (m 63 4)) 63 7 v1) 63 5 0) ∧ ((¬ (((if (¬ ((x_Model_signAt ((m 63 4) + 1) (gh_u (gh_u (gh_u m 63 6 (m 63 4)) 63 7 v1) 63 5 0)) < 97) ∧ ((x_Model_signAt ((m 63 4) + 1) (gh_u (gh_u (gh_u m 63 6 (m 63 4)) 63 7 v1) 63 5 0)) ≤ 122)) then (1:Int) else 0)) = 0) → (gh_i ((m 63 4) + 2) ∧ k_Model_signAt ((m 63 4) + 2) (gh_u (gh_u (gh_u m 63 6 (m 63 4)) 63 7 v1) 63 5 0) ∧ (((x_Model_signAt ((m 63 4) + 2) (gh_u (gh_u (gh_u m 63 6 (m 63 4)) 63 7 v1) 63 5 0)) = 45) → (gh_i ((m 63 4) + 3) ∧ k_Model_signAt ((m 63 4) + 3) (gh_u (gh_u (gh_u m 63 6 (m 63 4)) 63 7 v1) 63 5 0) ∧ (¬ (((if (¬ ((x_Model_signAt ((m 63 4) + 3) (gh_u (gh_u (gh_u m 63 6 (m 63 4)) 63 7 v1) 63 5 0)) < 97) ∧ ((x_Model_signAt ((m 63 4) + 3) (gh_u (gh_u (gh_u m 63 6 (m 63 4)) 63 7 v1) 63 5 0)) ≤ 122)) then (1:Int) else 0)) = 0) → (gh_i ((m 63 4) + 3) ∧ k_Model_signAt ((m 63 4) + 3) (gh_u (gh_u (gh_u m 63 6 (m 63 4)) 63 7 v1) 63 5 0) ∧ gh_i ((m 63 4) + 1) ∧ k_Model_signAt ((m 63 4) + 1) (gh_u (gh_u (gh_u m 63 6 (m 63 4)) 63 7 v1) 63 5 0) ∧ (¬ ((x_Model_signAt ((m 63 4) + 3) (gh_u (gh_u (gh_u m 63 6 (m 63 4)) 63 7 v1) 63 5 0)) < (x_Model_signAt ((m 63 4) + 1) (gh_u (gh_u (gh_u m 63 6 (m 63 4)) 63 7 v1) 63 5 0))) → (gh_i ((m 63 4) + 4) ∧ k_Model_signAt ((m 63 4) + 4) (gh_u (gh_u (gh_u m 63 6 (m 63 4)) 63 7 v1) 63 5 0)))))))))) ∧ ∀ v2 : Int, v2 = (if (¬ (((if (¬ ((x_Model_signAt ((m 63 4) + 1) (gh_u (gh_u (gh_u m 63 6 (m 63 4)) 63 7 v1) 63 5 0)) < 97) ∧ ((x_Model_signAt ((m 63 4) + 1) (gh_u (gh_u (gh_u m 63 6 (m 63 4)) 63 7 v1) 63 5 0)) ≤ 122)) then (1:Int) else 0)) = 0) ∧ (((x_Model_signAt ((m 63 4) + 2) (gh_u (gh_u (gh_u m 63 6 (m 63 4)) 63 7 v1) 63 5 0)) = 45) ∧ (¬ (((if (¬ ((x_Model_signAt ((m 63 4) + 3) (gh_u (gh_u (gh_u m 63 6 (m 63 4)) 63 7 v1) 63 5 0)) < 97) ∧ ((x_Model_signAt ((m 63 4) + 3) (gh_u (gh_u (gh_u m 63 6 (m 63 4)) 63 7 v1) 63 5 0)) ≤ 122)) then (1:Int) else 0)) = 0) ∧ (¬ ((x_Model_signAt ((m 63 4) + 3) (gh_u (gh_u (gh_u m 63 6 (m 63 4)) 63 7 v1) 63 5 0)) < (x_Model_signAt ((m 63 4) + 1) (gh_u (gh_u (gh_u m 63 6 (m 63 4)) 63 7 v1) 63 5 0))) ∧ ((x_Model_signAt ((m 63 4) + 4) (gh_u (gh_u (gh_u m 63 6 (m 63 4)) 63 7 v1) 63 5 0)) = 93))))) then (1:Int) else 0) → gh_i ((m 63 4) + 5) ∧ Q 0 (gh_u (gh_u (gh_u (gh_u (gh_u m 63 6 (m 63 4)) 63 7 v1) 63 5 0) 63 5 (if v2 = 0 then 0 else 4)) 63 4 ((m 63 4) + 5))) ∧ (¬ (v1 = 91) → ∀ v2 : Int, v2 = (if ((v1 = 58) ∨ ((v1 = 59) ∨ ((v1 = 124) ∨ ((v1 = 40) ∨ ((v1 = 41) ∨ ((v1 = 63) ∨ ((v1 = 42) ∨ (v1 = 43)))))))) then (1:Int) else 0) → gh_i ((m 63 4) + 1) ∧ Q 0 (gh_u (gh_u (gh_u (gh_u (gh_u m 63 6 (m 63 4)) 63 7 v1) 63 5 0) 63 5 (if v2 = 0 then 0 else 5)) 63 4 ((m 63 4) + 1))))))))))))
def w_Model_next (m : gh_M) (Q : Int → gh_M → Prop) : Prop := gh_M0 (fun K0 m => f_Model_next_0 Q K0 m) m
theorem b_Model_next_0 {E : gh_E} {Q : Int → gh_M → Prop} {K0 : gh_M → Prop} (d : Nat) (hK : ∀ (m : gh_M), gh_F m → K0 m → gh_T E (gh_yModel_next.cls, prog_14_method_13_code, 3, false, 9) (d + 3) 0 [(0, 2, 63)] [] m (fun r m1 => gh_F m1 ∧ Q r m1)) (m : gh_M) (hF : gh_F m) (h : f_Model_next_0 Q K0 m) : gh_T E (gh_yModel_next.cls, prog_14_method_13_code, 3, false, 9) (d + 3) 0 [(0, 2, 63)] [] m (fun r m1 => gh_F m1 ∧ Q r m1) := by
  have hK0 := hK
  unfold f_Model_next_0 at h
  refine gh_aload_n gd_Model_next_0 0 rfl (by decide) ?_
  refine gh_aload_n gd_Model_next_1 0 rfl (by decide) ?_
  refine gf_63_4 gd_Model_next_2 gh_k1371 hF rfl ?_
  obtain ⟨q2388, h⟩ := h
  refine cv_Model_signAt (d := d + 2) gd_Model_next_5 gh_k1658 hF (Nat.le_of_ble_eq_true rfl) (gh_C.pe (e_Model_signAt (d + 1) (m 63 4) hF q2388) ?_)
  refine gh_bipush gd_Model_next_8 (by decide) (gh_r0 rfl) ?_
  obtain ⟨hA, hB⟩ := h
  refine gh_jne (tgt := 26) gd_Model_next_10 (by decide) (fun c2389 => ?_) (fun c2389 => ?_)
  · have h := hA c2389
    refine gh_aload_n gd_Model_next_13 0 rfl (by decide) ?_
    refine gh_dup gd_Model_next_14 (by decide) ?_
    refine gf_63_4 gd_Model_next_15 gh_k1371 hF rfl ?_
    refine gh_iconst gd_Model_next_18 (gh_r0 rfl) ?_
    obtain ⟨q2390, h⟩ := h
    refine gh_iadd gd_Model_next_19 q2390 ?_
    refine pf_63_4 gd_Model_next_20 gh_k1371 hF (fun hF => ?_)
    refine gh_goto (tgt := 0) gd_Model_next_23 (by decide) ?_
    exact hK0 (gh_u m 63 4 ((m 63 4) + 1)) hF h
  · have h := hB c2389
    refine gh_aload_n gd_Model_next_26 0 rfl (by decide) ?_
    refine gh_aload_n gd_Model_next_27 0 rfl (by decide) ?_
    refine gf_63_4 gd_Model_next_28 gh_k1371 hF rfl ?_
    refine pf_63_6 gd_Model_next_31 gh_k1373 hF (fun hF => ?_)
    refine gh_aload_n gd_Model_next_34 0 rfl (by decide) ?_
    refine gh_aload_n gd_Model_next_35 0 rfl (by decide) ?_
    refine gf_63_4 gd_Model_next_36 gh_k1371 hF (gh_u_i (by decide)) ?_
    obtain ⟨q2391, h⟩ := h
    refine cv_Model_signAt (d := d + 2) gd_Model_next_39 gh_k1658 hF (Nat.le_of_ble_eq_true rfl) (gh_C.pe (e_Model_signAt (d + 1) (m 63 4) hF q2391) ?_)
    refine gh_name (fun v1 hn => ?_)
    have h := h v1 hn
    refine gh_istore_n (L2 := [(1, 0, v1), (0, 2, 63)]) gd_Model_next_42 (by decide) rfl ?_
    refine gh_aload_n gd_Model_next_43 1 rfl (by decide) ?_
    refine gh_iload_n gd_Model_next_44 0 rfl ?_
    refine pf_63_7 gd_Model_next_45 gh_k1374 hF (fun hF => ?_)
    refine gh_aload_n gd_Model_next_48 1 rfl (by decide) ?_
    refine gh_iconst gd_Model_next_49 (gh_r0 rfl) ?_
    refine pf_63_5 gd_Model_next_50 gh_k1372 hF (fun hF => ?_)
    refine gh_aload_n gd_Model_next_53 1 rfl (by decide) ?_
    refine gf_63_4 gd_Model_next_54 gh_k1371 hF ((gh_u_i (by decide)).trans ((gh_u_i (by decide)).trans (gh_u_i (by decide)))) ?_
    refine gh_aload_n gd_Model_next_57 1 rfl (by decide) ?_
    refine gf_63_1 gd_Model_next_58 gh_k1368 hF ((gh_u_i (by decide)).trans ((gh_u_i (by decide)).trans (gh_u_i (by decide)))) ?_
    obtain ⟨hA, hB⟩ := h
    refine gh_jne (tgt := 72) gd_Model_next_61 (by decide) (fun c2392 => ?_) (fun c2392 => ?_)
    · have h := hA c2392
      refine gh_aload_n gd_Model_next_64 1 rfl (by decide) ?_
      refine gh_iconst gd_Model_next_65 (gh_r0 rfl) ?_
      refine pf_63_5 gd_Model_next_66 gh_k1372 hF (fun hF => ?_)
      refine gh_goto (tgt := 386) gd_Model_next_69 (by decide) ?_
      exact gh_ret9 rfl gd_Model_next_386 ⟨hF, h⟩
    · have h := hB c2392
      refine gh_iload_n gd_Model_next_72 0 rfl ?_
      refine gh_bipush gd_Model_next_73 (by decide) (gh_r0 rfl) ?_
      refine gh_bipush gd_Model_next_75 (by decide) (gh_r0 rfl) ?_
      refine cv_Model_in (d := d + 2) gd_Model_next_77 gh_k1628 (Nat.le_of_ble_eq_true rfl) (gh_C.pe (e_Model_in (d + 2) v1 65 90) ?_)
      obtain ⟨hA, hB⟩ := h
      refine gh_beq (tgt := 119) gd_Model_next_80 (by decide) (fun c2393 => ?_) (fun c2393 => ?_)
      · have h := hA c2393
        refine gh_aload_n gd_Model_next_83 1 rfl (by decide) ?_
        refine gh_aload_n gd_Model_next_84 1 rfl (by decide) ?_
        refine gf_63_4 gd_Model_next_85 gh_k1371 hF ((gh_u_i (by decide)).trans ((gh_u_i (by decide)).trans (gh_u_i (by decide)))) ?_
        refine cv_Model_nameLength (d := d + 2) gd_Model_next_88 gh_k1662 hF (Nat.le_of_ble_eq_true rfl) (gh_C.pw (s_Model_nameLength d (m 63 4) hF h) (fun r2394 h => ?_))
        refine gh_istore_n (L2 := [(2, 0, r2394), (1, 0, v1), (0, 2, 63)]) gd_Model_next_91 (by decide) rfl ?_
        refine gh_aload_n gd_Model_next_92 2 rfl (by decide) ?_
        refine gh_iload_n gd_Model_next_93 0 rfl ?_
        refine gh_iconst gd_Model_next_94 (gh_r0 rfl) ?_
        have k2396 : ∀ x2397 : Int, x2397 = (if r2394 ≤ 3 then 2 else 0) → gh_T E (gh_yModel_next.cls, prog_14_method_13_code, 3, false, 9) (d + 3) 103 [(2, 0, r2394), (1, 0, v1), (0, 2, 63)] [(0, x2397), (2, 63)] (gh_u (gh_u (gh_u m 63 6 (m 63 4)) 63 7 v1) 63 5 0) (fun r m1 => gh_F m1 ∧ Q r m1) := by
          rintro _ rfl
          refine pf_63_5 gd_Model_next_103 gh_k1372 hF (fun hF => ?_)
          refine gh_aload_n gd_Model_next_106 2 rfl (by decide) ?_
          refine gh_dup gd_Model_next_107 (by decide) ?_
          refine gf_63_4 gd_Model_next_108 gh_k1371 hF ((gh_u_i (by decide)).trans ((gh_u_i (by decide)).trans ((gh_u_i (by decide)).trans (gh_u_i (by decide))))) ?_
          refine gh_iload_n gd_Model_next_111 0 rfl ?_
          obtain ⟨q2398, h⟩ := h
          refine gh_iadd gd_Model_next_112 q2398 ?_
          refine pf_63_4 gd_Model_next_113 gh_k1371 hF (fun hF => ?_)
          refine gh_goto (tgt := 386) gd_Model_next_116 (by decide) ?_
          exact gh_ret9 rfl gd_Model_next_386 ⟨hF, h⟩
        refine gh_jle (tgt := 102) gd_Model_next_95 (by decide) (fun c2399 => ?_) (fun c2399 => ?_)
        · have hz : True := trivial
          refine gh_iconst gd_Model_next_102 (gh_r0 rfl) ?_
          exact k2396 _ (by rw [if_pos c2399])
        · have hz : True := trivial
          refine gh_iconst gd_Model_next_98 (gh_r0 rfl) ?_
          refine gh_goto (tgt := 103) gd_Model_next_99 (by decide) ?_
          exact k2396 _ (by rw [if_neg c2399])
      · have h := hB c2393
        refine gh_iload_n gd_Model_next_119 0 rfl ?_
        refine gh_bipush gd_Model_next_120 (by decide) (gh_r0 rfl) ?_
        obtain ⟨hA, hB⟩ := h
        refine gh_jne (tgt := 186) gd_Model_next_122 (by decide) (fun c2400 => ?_) (fun c2400 => ?_)
        · have h := hA c2400
          refine gh_aload_n gd_Model_next_125 1 rfl (by decide) ?_
          refine gh_aload_n gd_Model_next_126 1 rfl (by decide) ?_
          refine gf_63_4 gd_Model_next_127 gh_k1371 hF ((gh_u_i (by decide)).trans ((gh_u_i (by decide)).trans (gh_u_i (by decide)))) ?_
          refine gh_iconst gd_Model_next_130 (gh_r0 rfl) ?_
          obtain ⟨q2401, h⟩ := h
          refine gh_iadd gd_Model_next_131 q2401 ?_
          refine cv_Model_smallsFrom (d := d + 2) gd_Model_next_132 gh_k1666 hF (Nat.le_of_ble_eq_true rfl) (gh_C.pw (s_Model_smallsFrom d ((m 63 4) + 1) hF h) (fun r2402 h => ?_))
          refine gh_istore_n (L2 := [(2, 0, r2402), (1, 0, v1), (0, 2, 63)]) gd_Model_next_135 (by decide) rfl ?_
          refine gh_aload_n gd_Model_next_136 2 rfl (by decide) ?_
          refine gh_iload_n gd_Model_next_137 0 rfl ?_
          refine gh_iconst gd_Model_next_138 (gh_r0 rfl) ?_
          refine gh_iconst gd_Model_next_139 (gh_r0 rfl) ?_
          refine cv_Model_in (d := d + 2) gd_Model_next_140 gh_k1628 (Nat.le_of_ble_eq_true rfl) (gh_C.pe (e_Model_in (d + 2) r2402 1 3) ?_)
          obtain ⟨hk, h⟩ := h
          have k2407 : ∀ x2408 : Int, x2408 = (if (¬ (r2402 < 1) ∧ (r2402 ≤ 3)) then (if (x_Model_signAt (((m 63 4) + 1) + r2402) (gh_u (gh_u (gh_u m 63 6 (m 63 4)) 63 7 v1) 63 5 0)) = 39 then 3 else 0) else 0) → gh_T E (gh_yModel_next.cls, prog_14_method_13_code, 3, false, 9) (d + 3) 168 [(2, 0, r2402), (1, 0, v1), (0, 2, 63)] [(0, x2408), (2, 63)] (gh_u (gh_u (gh_u m 63 6 (m 63 4)) 63 7 v1) 63 5 0) (fun r m1 => gh_F m1 ∧ Q r m1) := by
            rintro _ rfl
            refine pf_63_5 gd_Model_next_168 gh_k1372 hF (fun hF => ?_)
            refine gh_aload_n gd_Model_next_171 2 rfl (by decide) ?_
            refine gh_dup gd_Model_next_172 (by decide) ?_
            refine gf_63_4 gd_Model_next_173 gh_k1371 hF ((gh_u_i (by decide)).trans ((gh_u_i (by decide)).trans ((gh_u_i (by decide)).trans (gh_u_i (by decide))))) ?_
            refine gh_iload_n gd_Model_next_176 0 rfl ?_
            refine gh_iconst gd_Model_next_177 (gh_r0 rfl) ?_
            obtain ⟨q2409, h⟩ := h
            refine gh_iadd gd_Model_next_178 q2409 ?_
            obtain ⟨q2410, h⟩ := h
            refine gh_iadd gd_Model_next_179 q2410 ?_
            refine pf_63_4 gd_Model_next_180 gh_k1371 hF (fun hF => ?_)
            refine gh_goto (tgt := 386) gd_Model_next_183 (by decide) ?_
            exact gh_ret9 rfl gd_Model_next_386 ⟨hF, h⟩
          refine gh_beq (tgt := 167) gd_Model_next_143 (by decide) (fun c2411 => ?_) (fun c2411 => ?_)
          · have hz : True := trivial
            have hk := hk c2411
            refine gh_aload_n gd_Model_next_146 2 rfl (by decide) ?_
            refine gh_aload_n gd_Model_next_147 2 rfl (by decide) ?_
            refine gf_63_4 gd_Model_next_148 gh_k1371 hF ((gh_u_i (by decide)).trans ((gh_u_i (by decide)).trans (gh_u_i (by decide)))) ?_
            refine gh_iconst gd_Model_next_151 (gh_r0 rfl) ?_
            obtain ⟨q2404, hk⟩ := hk
            refine gh_iadd gd_Model_next_152 q2404 ?_
            refine gh_iload_n gd_Model_next_153 0 rfl ?_
            obtain ⟨q2405, hk⟩ := hk
            refine gh_iadd gd_Model_next_154 q2405 ?_
            have q2406 := hk
            refine cv_Model_signAt (d := d + 2) gd_Model_next_155 gh_k1658 hF (Nat.le_of_ble_eq_true rfl) (gh_C.pe (e_Model_signAt (d + 1) (((m 63 4) + 1) + r2402) hF q2406) ?_)
            refine gh_bipush gd_Model_next_158 (by decide) (gh_r0 rfl) ?_
            refine gh_jne (tgt := 167) gd_Model_next_160 (by decide) (fun c2412 => ?_) (fun c2412 => ?_)
            · have hz : True := trivial
              refine gh_iconst gd_Model_next_163 (gh_r0 rfl) ?_
              refine gh_goto (tgt := 168) gd_Model_next_164 (by decide) ?_
              exact k2407 _ (by rw [if_pos c2411, if_pos c2412])
            · have hz : True := trivial
              refine gh_iconst gd_Model_next_167 (gh_r0 rfl) ?_
              exact k2407 _ (by rw [if_pos c2411, if_neg c2412])
          · have hz : True := trivial
            refine gh_iconst gd_Model_next_167 (gh_r0 rfl) ?_
            exact k2407 _ (by rw [if_neg c2411])
        · have h := hB c2400
          refine gh_iload_n gd_Model_next_186 0 rfl ?_
          refine gh_bipush gd_Model_next_187 (by decide) (gh_r0 rfl) ?_
          obtain ⟨hA, hB⟩ := h
          refine gh_jne (tgt := 309) gd_Model_next_189 (by decide) (fun c2413 => ?_) (fun c2413 => ?_)
          · have h := hA c2413
            refine gh_aload_n gd_Model_next_192 1 rfl (by decide) ?_
            refine gh_aload_n gd_Model_next_193 1 rfl (by decide) ?_
            refine gf_63_4 gd_Model_next_194 gh_k1371 hF ((gh_u_i (by decide)).trans ((gh_u_i (by decide)).trans (gh_u_i (by decide)))) ?_
            refine gh_iconst gd_Model_next_197 (gh_r0 rfl) ?_
            obtain ⟨q2414, h⟩ := h
            refine gh_iadd gd_Model_next_198 q2414 ?_
            obtain ⟨q2415, h⟩ := h
            refine cv_Model_signAt (d := d + 2) gd_Model_next_199 gh_k1658 hF (Nat.le_of_ble_eq_true rfl) (gh_C.pe (e_Model_signAt (d + 1) ((m 63 4) + 1) hF q2415) ?_)
            refine cv_Model_isSmall (d := d + 2) gd_Model_next_202 gh_k1670 (Nat.le_of_ble_eq_true rfl) (gh_C.pe (e_Model_isSmall (d + 1) (x_Model_signAt ((m 63 4) + 1) (gh_u (gh_u (gh_u m 63 6 (m 63 4)) 63 7 v1) 63 5 0))) ?_)
            obtain ⟨hk, h⟩ := h
            have k2426 : ∀ x2427 : Int, x2427 = (if (¬ (((if (¬ ((x_Model_signAt ((m 63 4) + 1) (gh_u (gh_u (gh_u m 63 6 (m 63 4)) 63 7 v1) 63 5 0)) < 97) ∧ ((x_Model_signAt ((m 63 4) + 1) (gh_u (gh_u (gh_u m 63 6 (m 63 4)) 63 7 v1) 63 5 0)) ≤ 122)) then (1:Int) else 0)) = 0) ∧ (((x_Model_signAt ((m 63 4) + 2) (gh_u (gh_u (gh_u m 63 6 (m 63 4)) 63 7 v1) 63 5 0)) = 45) ∧ (¬ (((if (¬ ((x_Model_signAt ((m 63 4) + 3) (gh_u (gh_u (gh_u m 63 6 (m 63 4)) 63 7 v1) 63 5 0)) < 97) ∧ ((x_Model_signAt ((m 63 4) + 3) (gh_u (gh_u (gh_u m 63 6 (m 63 4)) 63 7 v1) 63 5 0)) ≤ 122)) then (1:Int) else 0)) = 0) ∧ (¬ ((x_Model_signAt ((m 63 4) + 3) (gh_u (gh_u (gh_u m 63 6 (m 63 4)) 63 7 v1) 63 5 0)) < (x_Model_signAt ((m 63 4) + 1) (gh_u (gh_u (gh_u m 63 6 (m 63 4)) 63 7 v1) 63 5 0))) ∧ ((x_Model_signAt ((m 63 4) + 4) (gh_u (gh_u (gh_u m 63 6 (m 63 4)) 63 7 v1) 63 5 0)) = 93))))) then (1:Int) else 0) → gh_T E (gh_yModel_next.cls, prog_14_method_13_code, 3, false, 9) (d + 3) 282 [(1, 0, v1), (0, 2, 63)] [(0, x2427)] (gh_u (gh_u (gh_u m 63 6 (m 63 4)) 63 7 v1) 63 5 0) (fun r m1 => gh_F m1 ∧ Q r m1) := by
              rintro _ rfl
              refine gh_name (fun v2 hn => ?_)
              have h := h v2 hn
              refine gh_istore_n (L2 := [(2, 0, v2), (1, 0, v1), (0, 2, 63)]) gd_Model_next_282 (by decide) rfl ?_
              refine gh_aload_n gd_Model_next_283 2 rfl (by decide) ?_
              refine gh_iload_n gd_Model_next_284 0 rfl ?_
              have k2428 : ∀ x2429 : Int, x2429 = (if v2 = 0 then 0 else 4) → gh_T E (gh_yModel_next.cls, prog_14_method_13_code, 3, false, 9) (d + 3) 293 [(2, 0, v2), (1, 0, v1), (0, 2, 63)] [(0, x2429), (2, 63)] (gh_u (gh_u (gh_u m 63 6 (m 63 4)) 63 7 v1) 63 5 0) (fun r m1 => gh_F m1 ∧ Q r m1) := by
                rintro _ rfl
                refine pf_63_5 gd_Model_next_293 gh_k1372 hF (fun hF => ?_)
                refine gh_aload_n gd_Model_next_296 2 rfl (by decide) ?_
                refine gh_dup gd_Model_next_297 (by decide) ?_
                refine gf_63_4 gd_Model_next_298 gh_k1371 hF ((gh_u_i (by decide)).trans ((gh_u_i (by decide)).trans ((gh_u_i (by decide)).trans (gh_u_i (by decide))))) ?_
                refine gh_iconst gd_Model_next_301 (gh_r0 rfl) ?_
                obtain ⟨q2430, h⟩ := h
                refine gh_iadd gd_Model_next_302 q2430 ?_
                refine pf_63_4 gd_Model_next_303 gh_k1371 hF (fun hF => ?_)
                refine gh_goto (tgt := 386) gd_Model_next_306 (by decide) ?_
                exact gh_ret9 rfl gd_Model_next_386 ⟨hF, h⟩
              refine gh_zeq (tgt := 292) gd_Model_next_285 (by decide) (fun c2431 => ?_) (fun c2431 => ?_)
              · have hz : True := trivial
                refine gh_iconst gd_Model_next_292 (gh_r0 rfl) ?_
                exact k2428 _ (by rw [if_pos c2431])
              · have hz : True := trivial
                refine gh_iconst gd_Model_next_288 (gh_r0 rfl) ?_
                refine gh_goto (tgt := 293) gd_Model_next_289 (by decide) ?_
                exact k2428 _ (by rw [if_neg c2431])
            refine gh_zeq (tgt := 281) gd_Model_next_205 (by decide) (fun c2432 => ?_) (fun c2432 => ?_)
            · have hz : True := trivial
              refine gh_iconst gd_Model_next_281 (gh_r0 rfl) ?_
              exact k2426 _ (if_neg (c := (¬ (((if (¬ ((x_Model_signAt ((m 63 4) + 1) (gh_u (gh_u (gh_u m 63 6 (m 63 4)) 63 7 v1) 63 5 0)) < 97) ∧ ((x_Model_signAt ((m 63 4) + 1) (gh_u (gh_u (gh_u m 63 6 (m 63 4)) 63 7 v1) 63 5 0)) ≤ 122)) then (1:Int) else 0)) = 0) ∧ (((x_Model_signAt ((m 63 4) + 2) (gh_u (gh_u (gh_u m 63 6 (m 63 4)) 63 7 v1) 63 5 0)) = 45) ∧ (¬ (((if (¬ ((x_Model_signAt ((m 63 4) + 3) (gh_u (gh_u (gh_u m 63 6 (m 63 4)) 63 7 v1) 63 5 0)) < 97) ∧ ((x_Model_signAt ((m 63 4) + 3) (gh_u (gh_u (gh_u m 63 6 (m 63 4)) 63 7 v1) 63 5 0)) ≤ 122)) then (1:Int) else 0)) = 0) ∧ (¬ ((x_Model_signAt ((m 63 4) + 3) (gh_u (gh_u (gh_u m 63 6 (m 63 4)) 63 7 v1) 63 5 0)) < (x_Model_signAt ((m 63 4) + 1) (gh_u (gh_u (gh_u m 63 6 (m 63 4)) 63 7 v1) 63 5 0))) ∧ ((x_Model_signAt ((m 63 4) + 4) (gh_u (gh_u (gh_u m 63 6 (m 63 4)) 63 7 v1) 63 5 0)) = 93)))))) (fun z => z.1 c2432)).symm
            · have hz : True := trivial
              have hk := hk c2432
              refine gh_aload_n gd_Model_next_208 1 rfl (by decide) ?_
              refine gh_aload_n gd_Model_next_209 1 rfl (by decide) ?_
              refine gf_63_4 gd_Model_next_210 gh_k1371 hF ((gh_u_i (by decide)).trans ((gh_u_i (by decide)).trans (gh_u_i (by decide)))) ?_
              refine gh_iconst gd_Model_next_213 (gh_r0 rfl) ?_
              obtain ⟨q2416, hk⟩ := hk
              refine gh_iadd gd_Model_next_214 q2416 ?_
              obtain ⟨q2417, hk⟩ := hk
              refine cv_Model_signAt (d := d + 2) gd_Model_next_215 gh_k1658 hF (Nat.le_of_ble_eq_true rfl) (gh_C.pe (e_Model_signAt (d + 1) ((m 63 4) + 2) hF q2417) ?_)
              refine gh_bipush gd_Model_next_218 (by decide) (gh_r0 rfl) ?_
              refine gh_jne (tgt := 281) gd_Model_next_220 (by decide) (fun c2433 => ?_) (fun c2433 => ?_)
              · have hz : True := trivial
                have hk := hk c2433
                refine gh_aload_n gd_Model_next_223 1 rfl (by decide) ?_
                refine gh_aload_n gd_Model_next_224 1 rfl (by decide) ?_
                refine gf_63_4 gd_Model_next_225 gh_k1371 hF ((gh_u_i (by decide)).trans ((gh_u_i (by decide)).trans (gh_u_i (by decide)))) ?_
                refine gh_iconst gd_Model_next_228 (gh_r0 rfl) ?_
                obtain ⟨q2418, hk⟩ := hk
                refine gh_iadd gd_Model_next_229 q2418 ?_
                obtain ⟨q2419, hk⟩ := hk
                refine cv_Model_signAt (d := d + 2) gd_Model_next_230 gh_k1658 hF (Nat.le_of_ble_eq_true rfl) (gh_C.pe (e_Model_signAt (d + 1) ((m 63 4) + 3) hF q2419) ?_)
                refine cv_Model_isSmall (d := d + 2) gd_Model_next_233 gh_k1670 (Nat.le_of_ble_eq_true rfl) (gh_C.pe (e_Model_isSmall (d + 1) (x_Model_signAt ((m 63 4) + 3) (gh_u (gh_u (gh_u m 63 6 (m 63 4)) 63 7 v1) 63 5 0))) ?_)
                refine gh_zeq (tgt := 281) gd_Model_next_236 (by decide) (fun c2434 => ?_) (fun c2434 => ?_)
                · have hz : True := trivial
                  refine gh_iconst gd_Model_next_281 (gh_r0 rfl) ?_
                  exact k2426 _ (if_neg (c := (¬ (((if (¬ ((x_Model_signAt ((m 63 4) + 1) (gh_u (gh_u (gh_u m 63 6 (m 63 4)) 63 7 v1) 63 5 0)) < 97) ∧ ((x_Model_signAt ((m 63 4) + 1) (gh_u (gh_u (gh_u m 63 6 (m 63 4)) 63 7 v1) 63 5 0)) ≤ 122)) then (1:Int) else 0)) = 0) ∧ (((x_Model_signAt ((m 63 4) + 2) (gh_u (gh_u (gh_u m 63 6 (m 63 4)) 63 7 v1) 63 5 0)) = 45) ∧ (¬ (((if (¬ ((x_Model_signAt ((m 63 4) + 3) (gh_u (gh_u (gh_u m 63 6 (m 63 4)) 63 7 v1) 63 5 0)) < 97) ∧ ((x_Model_signAt ((m 63 4) + 3) (gh_u (gh_u (gh_u m 63 6 (m 63 4)) 63 7 v1) 63 5 0)) ≤ 122)) then (1:Int) else 0)) = 0) ∧ (¬ ((x_Model_signAt ((m 63 4) + 3) (gh_u (gh_u (gh_u m 63 6 (m 63 4)) 63 7 v1) 63 5 0)) < (x_Model_signAt ((m 63 4) + 1) (gh_u (gh_u (gh_u m 63 6 (m 63 4)) 63 7 v1) 63 5 0))) ∧ ((x_Model_signAt ((m 63 4) + 4) (gh_u (gh_u (gh_u m 63 6 (m 63 4)) 63 7 v1) 63 5 0)) = 93)))))) (fun z => (fun z => (fun z => z.1 c2434) z.2) z.2)).symm
                · have hz : True := trivial
                  have hk := hk c2434
                  refine gh_aload_n gd_Model_next_239 1 rfl (by decide) ?_
                  refine gh_aload_n gd_Model_next_240 1 rfl (by decide) ?_
                  refine gf_63_4 gd_Model_next_241 gh_k1371 hF ((gh_u_i (by decide)).trans ((gh_u_i (by decide)).trans (gh_u_i (by decide)))) ?_
                  refine gh_iconst gd_Model_next_244 (gh_r0 rfl) ?_
                  obtain ⟨q2420, hk⟩ := hk
                  refine gh_iadd gd_Model_next_245 q2420 ?_
                  obtain ⟨q2421, hk⟩ := hk
                  refine cv_Model_signAt (d := d + 2) gd_Model_next_246 gh_k1658 hF (Nat.le_of_ble_eq_true rfl) (gh_C.pe (e_Model_signAt (d + 1) ((m 63 4) + 3) hF q2421) ?_)
                  refine gh_aload_n gd_Model_next_249 1 rfl (by decide) ?_
                  refine gh_aload_n gd_Model_next_250 1 rfl (by decide) ?_
                  refine gf_63_4 gd_Model_next_251 gh_k1371 hF ((gh_u_i (by decide)).trans ((gh_u_i (by decide)).trans (gh_u_i (by decide)))) ?_
                  refine gh_iconst gd_Model_next_254 (gh_r0 rfl) ?_
                  obtain ⟨q2422, hk⟩ := hk
                  refine gh_iadd gd_Model_next_255 q2422 ?_
                  obtain ⟨q2423, hk⟩ := hk
                  refine cv_Model_signAt (d := d + 2) gd_Model_next_256 gh_k1658 hF (Nat.le_of_ble_eq_true rfl) (gh_C.pe (e_Model_signAt (d + 1) ((m 63 4) + 1) hF q2423) ?_)
                  refine gh_jlt (tgt := 281) gd_Model_next_259 (by decide) (fun c2435 => ?_) (fun c2435 => ?_)
                  · have hz : True := trivial
                    refine gh_iconst gd_Model_next_281 (gh_r0 rfl) ?_
                    exact k2426 _ (if_neg (c := (¬ (((if (¬ ((x_Model_signAt ((m 63 4) + 1) (gh_u (gh_u (gh_u m 63 6 (m 63 4)) 63 7 v1) 63 5 0)) < 97) ∧ ((x_Model_signAt ((m 63 4) + 1) (gh_u (gh_u (gh_u m 63 6 (m 63 4)) 63 7 v1) 63 5 0)) ≤ 122)) then (1:Int) else 0)) = 0) ∧ (((x_Model_signAt ((m 63 4) + 2) (gh_u (gh_u (gh_u m 63 6 (m 63 4)) 63 7 v1) 63 5 0)) = 45) ∧ (¬ (((if (¬ ((x_Model_signAt ((m 63 4) + 3) (gh_u (gh_u (gh_u m 63 6 (m 63 4)) 63 7 v1) 63 5 0)) < 97) ∧ ((x_Model_signAt ((m 63 4) + 3) (gh_u (gh_u (gh_u m 63 6 (m 63 4)) 63 7 v1) 63 5 0)) ≤ 122)) then (1:Int) else 0)) = 0) ∧ (¬ ((x_Model_signAt ((m 63 4) + 3) (gh_u (gh_u (gh_u m 63 6 (m 63 4)) 63 7 v1) 63 5 0)) < (x_Model_signAt ((m 63 4) + 1) (gh_u (gh_u (gh_u m 63 6 (m 63 4)) 63 7 v1) 63 5 0))) ∧ ((x_Model_signAt ((m 63 4) + 4) (gh_u (gh_u (gh_u m 63 6 (m 63 4)) 63 7 v1) 63 5 0)) = 93)))))) (fun z => (fun z => (fun z => (fun z => z.1 c2435) z.2) z.2) z.2)).symm
                  · have hz : True := trivial
                    have hk := hk c2435
                    refine gh_aload_n gd_Model_next_262 1 rfl (by decide) ?_
                    refine gh_aload_n gd_Model_next_263 1 rfl (by decide) ?_
                    refine gf_63_4 gd_Model_next_264 gh_k1371 hF ((gh_u_i (by decide)).trans ((gh_u_i (by decide)).trans (gh_u_i (by decide)))) ?_
                    refine gh_iconst gd_Model_next_267 (gh_r0 rfl) ?_
                    obtain ⟨q2424, hk⟩ := hk
                    refine gh_iadd gd_Model_next_268 q2424 ?_
                    have q2425 := hk
                    refine cv_Model_signAt (d := d + 2) gd_Model_next_269 gh_k1658 hF (Nat.le_of_ble_eq_true rfl) (gh_C.pe (e_Model_signAt (d + 1) ((m 63 4) + 4) hF q2425) ?_)
                    refine gh_bipush gd_Model_next_272 (by decide) (gh_r0 rfl) ?_
                    refine gh_jne (tgt := 281) gd_Model_next_274 (by decide) (fun c2436 => ?_) (fun c2436 => ?_)
                    · have hz : True := trivial
                      refine gh_iconst gd_Model_next_277 (gh_r0 rfl) ?_
                      refine gh_goto (tgt := 282) gd_Model_next_278 (by decide) ?_
                      exact k2426 _ (if_pos (c := (¬ (((if (¬ ((x_Model_signAt ((m 63 4) + 1) (gh_u (gh_u (gh_u m 63 6 (m 63 4)) 63 7 v1) 63 5 0)) < 97) ∧ ((x_Model_signAt ((m 63 4) + 1) (gh_u (gh_u (gh_u m 63 6 (m 63 4)) 63 7 v1) 63 5 0)) ≤ 122)) then (1:Int) else 0)) = 0) ∧ (((x_Model_signAt ((m 63 4) + 2) (gh_u (gh_u (gh_u m 63 6 (m 63 4)) 63 7 v1) 63 5 0)) = 45) ∧ (¬ (((if (¬ ((x_Model_signAt ((m 63 4) + 3) (gh_u (gh_u (gh_u m 63 6 (m 63 4)) 63 7 v1) 63 5 0)) < 97) ∧ ((x_Model_signAt ((m 63 4) + 3) (gh_u (gh_u (gh_u m 63 6 (m 63 4)) 63 7 v1) 63 5 0)) ≤ 122)) then (1:Int) else 0)) = 0) ∧ (¬ ((x_Model_signAt ((m 63 4) + 3) (gh_u (gh_u (gh_u m 63 6 (m 63 4)) 63 7 v1) 63 5 0)) < (x_Model_signAt ((m 63 4) + 1) (gh_u (gh_u (gh_u m 63 6 (m 63 4)) 63 7 v1) 63 5 0))) ∧ ((x_Model_signAt ((m 63 4) + 4) (gh_u (gh_u (gh_u m 63 6 (m 63 4)) 63 7 v1) 63 5 0)) = 93)))))) ⟨c2432, ⟨c2433, ⟨c2434, ⟨c2435, c2436⟩⟩⟩⟩).symm
                    · have hz : True := trivial
                      refine gh_iconst gd_Model_next_281 (gh_r0 rfl) ?_
                      exact k2426 _ (if_neg (c := (¬ (((if (¬ ((x_Model_signAt ((m 63 4) + 1) (gh_u (gh_u (gh_u m 63 6 (m 63 4)) 63 7 v1) 63 5 0)) < 97) ∧ ((x_Model_signAt ((m 63 4) + 1) (gh_u (gh_u (gh_u m 63 6 (m 63 4)) 63 7 v1) 63 5 0)) ≤ 122)) then (1:Int) else 0)) = 0) ∧ (((x_Model_signAt ((m 63 4) + 2) (gh_u (gh_u (gh_u m 63 6 (m 63 4)) 63 7 v1) 63 5 0)) = 45) ∧ (¬ (((if (¬ ((x_Model_signAt ((m 63 4) + 3) (gh_u (gh_u (gh_u m 63 6 (m 63 4)) 63 7 v1) 63 5 0)) < 97) ∧ ((x_Model_signAt ((m 63 4) + 3) (gh_u (gh_u (gh_u m 63 6 (m 63 4)) 63 7 v1) 63 5 0)) ≤ 122)) then (1:Int) else 0)) = 0) ∧ (¬ ((x_Model_signAt ((m 63 4) + 3) (gh_u (gh_u (gh_u m 63 6 (m 63 4)) 63 7 v1) 63 5 0)) < (x_Model_signAt ((m 63 4) + 1) (gh_u (gh_u (gh_u m 63 6 (m 63 4)) 63 7 v1) 63 5 0))) ∧ ((x_Model_signAt ((m 63 4) + 4) (gh_u (gh_u (gh_u m 63 6 (m 63 4)) 63 7 v1) 63 5 0)) = 93)))))) (fun z => (fun z => (fun z => (fun z => c2436 z.2) z.2) z.2) z.2)).symm
              · have hz : True := trivial
                refine gh_iconst gd_Model_next_281 (gh_r0 rfl) ?_
                exact k2426 _ (if_neg (c := (¬ (((if (¬ ((x_Model_signAt ((m 63 4) + 1) (gh_u (gh_u (gh_u m 63 6 (m 63 4)) 63 7 v1) 63 5 0)) < 97) ∧ ((x_Model_signAt ((m 63 4) + 1) (gh_u (gh_u (gh_u m 63 6 (m 63 4)) 63 7 v1) 63 5 0)) ≤ 122)) then (1:Int) else 0)) = 0) ∧ (((x_Model_signAt ((m 63 4) + 2) (gh_u (gh_u (gh_u m 63 6 (m 63 4)) 63 7 v1) 63 5 0)) = 45) ∧ (¬ (((if (¬ ((x_Model_signAt ((m 63 4) + 3) (gh_u (gh_u (gh_u m 63 6 (m 63 4)) 63 7 v1) 63 5 0)) < 97) ∧ ((x_Model_signAt ((m 63 4) + 3) (gh_u (gh_u (gh_u m 63 6 (m 63 4)) 63 7 v1) 63 5 0)) ≤ 122)) then (1:Int) else 0)) = 0) ∧ (¬ ((x_Model_signAt ((m 63 4) + 3) (gh_u (gh_u (gh_u m 63 6 (m 63 4)) 63 7 v1) 63 5 0)) < (x_Model_signAt ((m 63 4) + 1) (gh_u (gh_u (gh_u m 63 6 (m 63 4)) 63 7 v1) 63 5 0))) ∧ ((x_Model_signAt ((m 63 4) + 4) (gh_u (gh_u (gh_u m 63 6 (m 63 4)) 63 7 v1) 63 5 0)) = 93)))))) (fun z => (fun z => c2433 z.1) z.2)).symm
          · have h := hB c2413
            refine gh_iload_n gd_Model_next_309 0 rfl ?_
            refine gh_bipush gd_Model_next_310 (by decide) (gh_r0 rfl) ?_
            have k2437 : ∀ x2438 : Int, x2438 = (if ((v1 = 58) ∨ ((v1 = 59) ∨ ((v1 = 124) ∨ ((v1 = 40) ∨ ((v1 = 41) ∨ ((v1 = 63) ∨ ((v1 = 42) ∨ (v1 = 43)))))))) then (1:Int) else 0) → gh_T E (gh_yModel_next.cls, prog_14_method_13_code, 3, false, 9) (d + 3) 362 [(1, 0, v1), (0, 2, 63)] [(0, x2438)] (gh_u (gh_u (gh_u m 63 6 (m 63 4)) 63 7 v1) 63 5 0) (fun r m1 => gh_F m1 ∧ Q r m1) := by
              rintro _ rfl
              refine gh_name (fun v2 hn => ?_)
              have h := h v2 hn
              refine gh_istore_n (L2 := [(2, 0, v2), (1, 0, v1), (0, 2, 63)]) gd_Model_next_362 (by decide) rfl ?_
              refine gh_aload_n gd_Model_next_363 2 rfl (by decide) ?_
              refine gh_iload_n gd_Model_next_364 0 rfl ?_
              have k2439 : ∀ x2440 : Int, x2440 = (if v2 = 0 then 0 else 5) → gh_T E (gh_yModel_next.cls, prog_14_method_13_code, 3, false, 9) (d + 3) 373 [(2, 0, v2), (1, 0, v1), (0, 2, 63)] [(0, x2440), (2, 63)] (gh_u (gh_u (gh_u m 63 6 (m 63 4)) 63 7 v1) 63 5 0) (fun r m1 => gh_F m1 ∧ Q r m1) := by
                rintro _ rfl
                refine pf_63_5 gd_Model_next_373 gh_k1372 hF (fun hF => ?_)
                refine gh_aload_n gd_Model_next_376 2 rfl (by decide) ?_
                refine gh_dup gd_Model_next_377 (by decide) ?_
                refine gf_63_4 gd_Model_next_378 gh_k1371 hF ((gh_u_i (by decide)).trans ((gh_u_i (by decide)).trans ((gh_u_i (by decide)).trans (gh_u_i (by decide))))) ?_
                refine gh_iconst gd_Model_next_381 (gh_r0 rfl) ?_
                obtain ⟨q2441, h⟩ := h
                refine gh_iadd gd_Model_next_382 q2441 ?_
                refine pf_63_4 gd_Model_next_383 gh_k1371 hF (fun hF => ?_)
                exact gh_ret9 rfl gd_Model_next_386 ⟨hF, h⟩
              refine gh_zeq (tgt := 372) gd_Model_next_365 (by decide) (fun c2442 => ?_) (fun c2442 => ?_)
              · have hz : True := trivial
                refine gh_iconst gd_Model_next_372 (gh_r0 rfl) ?_
                exact k2439 _ (by rw [if_pos c2442])
              · have hz : True := trivial
                refine gh_iconst gd_Model_next_368 (gh_r0 rfl) ?_
                refine gh_goto (tgt := 373) gd_Model_next_369 (by decide) ?_
                exact k2439 _ (by rw [if_neg c2442])
            refine gh_jeq (tgt := 357) gd_Model_next_312 (by decide) (fun c2443 => ?_) (fun c2443 => ?_)
            · have hz : True := trivial
              refine gh_iconst gd_Model_next_357 (gh_r0 rfl) ?_
              refine gh_goto (tgt := 362) gd_Model_next_358 (by decide) ?_
              exact k2437 _ (if_pos (c := ((v1 = 58) ∨ ((v1 = 59) ∨ ((v1 = 124) ∨ ((v1 = 40) ∨ ((v1 = 41) ∨ ((v1 = 63) ∨ ((v1 = 42) ∨ (v1 = 43))))))))) (Or.inl c2443)).symm
            · have hz : True := trivial
              refine gh_iload_n gd_Model_next_315 0 rfl ?_
              refine gh_bipush gd_Model_next_316 (by decide) (gh_r0 rfl) ?_
              refine gh_jeq (tgt := 357) gd_Model_next_318 (by decide) (fun c2444 => ?_) (fun c2444 => ?_)
              · have hz : True := trivial
                refine gh_iconst gd_Model_next_357 (gh_r0 rfl) ?_
                refine gh_goto (tgt := 362) gd_Model_next_358 (by decide) ?_
                exact k2437 _ (if_pos (c := ((v1 = 58) ∨ ((v1 = 59) ∨ ((v1 = 124) ∨ ((v1 = 40) ∨ ((v1 = 41) ∨ ((v1 = 63) ∨ ((v1 = 42) ∨ (v1 = 43))))))))) (Or.inr (Or.inl c2444))).symm
              · have hz : True := trivial
                refine gh_iload_n gd_Model_next_321 0 rfl ?_
                refine gh_bipush gd_Model_next_322 (by decide) (gh_r0 rfl) ?_
                refine gh_jeq (tgt := 357) gd_Model_next_324 (by decide) (fun c2445 => ?_) (fun c2445 => ?_)
                · have hz : True := trivial
                  refine gh_iconst gd_Model_next_357 (gh_r0 rfl) ?_
                  refine gh_goto (tgt := 362) gd_Model_next_358 (by decide) ?_
                  exact k2437 _ (if_pos (c := ((v1 = 58) ∨ ((v1 = 59) ∨ ((v1 = 124) ∨ ((v1 = 40) ∨ ((v1 = 41) ∨ ((v1 = 63) ∨ ((v1 = 42) ∨ (v1 = 43))))))))) (Or.inr (Or.inr (Or.inl c2445)))).symm
                · have hz : True := trivial
                  refine gh_iload_n gd_Model_next_327 0 rfl ?_
                  refine gh_bipush gd_Model_next_328 (by decide) (gh_r0 rfl) ?_
                  refine gh_jeq (tgt := 357) gd_Model_next_330 (by decide) (fun c2446 => ?_) (fun c2446 => ?_)
                  · have hz : True := trivial
                    refine gh_iconst gd_Model_next_357 (gh_r0 rfl) ?_
                    refine gh_goto (tgt := 362) gd_Model_next_358 (by decide) ?_
                    exact k2437 _ (if_pos (c := ((v1 = 58) ∨ ((v1 = 59) ∨ ((v1 = 124) ∨ ((v1 = 40) ∨ ((v1 = 41) ∨ ((v1 = 63) ∨ ((v1 = 42) ∨ (v1 = 43))))))))) (Or.inr (Or.inr (Or.inr (Or.inl c2446))))).symm
                  · have hz : True := trivial
                    refine gh_iload_n gd_Model_next_333 0 rfl ?_
                    refine gh_bipush gd_Model_next_334 (by decide) (gh_r0 rfl) ?_
                    refine gh_jeq (tgt := 357) gd_Model_next_336 (by decide) (fun c2447 => ?_) (fun c2447 => ?_)
                    · have hz : True := trivial
                      refine gh_iconst gd_Model_next_357 (gh_r0 rfl) ?_
                      refine gh_goto (tgt := 362) gd_Model_next_358 (by decide) ?_
                      exact k2437 _ (if_pos (c := ((v1 = 58) ∨ ((v1 = 59) ∨ ((v1 = 124) ∨ ((v1 = 40) ∨ ((v1 = 41) ∨ ((v1 = 63) ∨ ((v1 = 42) ∨ (v1 = 43))))))))) (Or.inr (Or.inr (Or.inr (Or.inr (Or.inl c2447)))))).symm
                    · have hz : True := trivial
                      refine gh_iload_n gd_Model_next_339 0 rfl ?_
                      refine gh_bipush gd_Model_next_340 (by decide) (gh_r0 rfl) ?_
                      refine gh_jeq (tgt := 357) gd_Model_next_342 (by decide) (fun c2448 => ?_) (fun c2448 => ?_)
                      · have hz : True := trivial
                        refine gh_iconst gd_Model_next_357 (gh_r0 rfl) ?_
                        refine gh_goto (tgt := 362) gd_Model_next_358 (by decide) ?_
                        exact k2437 _ (if_pos (c := ((v1 = 58) ∨ ((v1 = 59) ∨ ((v1 = 124) ∨ ((v1 = 40) ∨ ((v1 = 41) ∨ ((v1 = 63) ∨ ((v1 = 42) ∨ (v1 = 43))))))))) (Or.inr (Or.inr (Or.inr (Or.inr (Or.inr (Or.inl c2448))))))).symm
                      · have hz : True := trivial
                        refine gh_iload_n gd_Model_next_345 0 rfl ?_
                        refine gh_bipush gd_Model_next_346 (by decide) (gh_r0 rfl) ?_
                        refine gh_jeq (tgt := 357) gd_Model_next_348 (by decide) (fun c2449 => ?_) (fun c2449 => ?_)
                        · have hz : True := trivial
                          refine gh_iconst gd_Model_next_357 (gh_r0 rfl) ?_
                          refine gh_goto (tgt := 362) gd_Model_next_358 (by decide) ?_
                          exact k2437 _ (if_pos (c := ((v1 = 58) ∨ ((v1 = 59) ∨ ((v1 = 124) ∨ ((v1 = 40) ∨ ((v1 = 41) ∨ ((v1 = 63) ∨ ((v1 = 42) ∨ (v1 = 43))))))))) (Or.inr (Or.inr (Or.inr (Or.inr (Or.inr (Or.inr (Or.inl c2449)))))))).symm
                        · have hz : True := trivial
                          refine gh_iload_n gd_Model_next_351 0 rfl ?_
                          refine gh_bipush gd_Model_next_352 (by decide) (gh_r0 rfl) ?_
                          refine gh_jne (tgt := 361) gd_Model_next_354 (by decide) (fun c2450 => ?_) (fun c2450 => ?_)
                          · have hz : True := trivial
                            refine gh_iconst gd_Model_next_357 (gh_r0 rfl) ?_
                            refine gh_goto (tgt := 362) gd_Model_next_358 (by decide) ?_
                            exact k2437 _ (if_pos (c := ((v1 = 58) ∨ ((v1 = 59) ∨ ((v1 = 124) ∨ ((v1 = 40) ∨ ((v1 = 41) ∨ ((v1 = 63) ∨ ((v1 = 42) ∨ (v1 = 43))))))))) (Or.inr (Or.inr (Or.inr (Or.inr (Or.inr (Or.inr (Or.inr c2450)))))))).symm
                          · have hz : True := trivial
                            refine gh_iconst gd_Model_next_361 (gh_r0 rfl) ?_
                            exact k2437 _ (if_neg (c := ((v1 = 58) ∨ ((v1 = 59) ∨ ((v1 = 124) ∨ ((v1 = 40) ∨ ((v1 = 41) ∨ ((v1 = 63) ∨ ((v1 = 42) ∨ (v1 = 43))))))))) (fun z => z.elim c2443 (fun z => z.elim c2444 (fun z => z.elim c2445 (fun z => z.elim c2446 (fun z => z.elim c2447 (fun z => z.elim c2448 (fun z => z.elim c2449 c2450)))))))).symm
theorem s_Model_next {E : gh_E} {m : gh_M} {Q : Int → gh_M → Prop} (d : Nat) (hF : gh_F m) (h : w_Model_next m Q) : gh_C E gh_yModel_next prog_14_method_13_code 3 none 9 (d + 3) [(2, 63)] m (fun r m1 => gh_F m1 ∧ Q r m1) := by
  refine gh_enter2 (L := [(0, 2, 63)]) (by decide +kernel) gh_rt9 (Nat.le_of_ble_eq_true rfl) rfl rfl ?_
  unfold w_Model_next at h
  exact gh_M0_sound (T := fun m => gh_T E (gh_yModel_next.cls, prog_14_method_13_code, 3, false, 9) (d + 3) 0 [(0, 2, 63)] [] m (fun r m1 => gh_F m1 ∧ Q r m1)) (fun m => gh_F m) (fun K0 m hK hF h => b_Model_next_0 d hK m hF h) m hF h
def f_Model_isSameName_25 (v1 : Int) (v2 : Int) (r2451 : Int) (Q : Int → Prop) (m : gh_M) (K25 : Int → Int → Prop) (v4 : Int) (v5 : Int) : Prop := (((¬ (v5 < r2451) ∨ (v4 = 0)) → (v4 = 0 ∨ v4 = 1) ∧ Q v4) ∧ (¬ (¬ (v5 < r2451) ∨ (v4 = 0)) → gh_i (v1 + v5) ∧ 0 ≤ v1 + v5 ∧ (v1 + v5) < 240 ∧ gh_i (v2 + v5) ∧ 0 ≤ v2 + v5 ∧ (v2 + v5) < 240 ∧ ∀ v4' : Int, v4' = (if ((m 64 (v1 + v5)) = (m 64 (v2 + v5))) then (1:Int) else 0) → gh_i (v5 + 1) ∧ K25 v4' (v5 + 1)))
def w_Model_isSameName (v1 : Int) (v2 : Int) (m : gh_M) (Q : Int → Prop) : Prop := w_Model_nameLength v1 m (fun r2451 => w_Model_nameLength v2 m (fun r2453 => ∀ v4 : Int, v4 = (if (r2451 = r2453) then (1:Int) else 0) → gh_L2 (fun K25 v4 v5 => f_Model_isSameName_25 v1 v2 r2451 Q m K25 v4 v5) v4 0))
theorem b_Model_isSameName_25 {E : gh_E} {v1 : Int} {v2 : Int} {r2451 : Int} {Q : Int → Prop} {K25 : Int → Int → Prop} (d : Nat) {m : gh_M} (hK : ∀ (v4 : Int) (v5 : Int), gh_F m → K25 v4 v5 → gh_T E (gh_yModel_isSameName.cls, prog_14_method_14_code, 6, false, 8) (d + 3) 25 [(0, 2, 63), (1, 0, v1), (2, 0, v2), (3, 0, r2451), (4, 0, v4), (5, 0, v5)] [] m (fun r m1 => m1 = m ∧ Q r)) (v4 : Int) (v5 : Int) (hF : gh_F m) (h : f_Model_isSameName_25 v1 v2 r2451 Q m K25 v4 v5) : gh_T E (gh_yModel_isSameName.cls, prog_14_method_14_code, 6, false, 8) (d + 3) 25 [(0, 2, 63), (1, 0, v1), (2, 0, v2), (3, 0, r2451), (4, 0, v4), (5, 0, v5)] [] m (fun r m1 => m1 = m ∧ Q r) := by
  have hK25 := hK
  unfold f_Model_isSameName_25 at h
  refine gh_iload gd_Model_isSameName_25 5 rfl ?_
  refine gh_iload_n gd_Model_isSameName_27 3 rfl ?_
  obtain ⟨hA, hB⟩ := h
  have k2457 : (¬ (v5 < r2451) ∨ (v4 = 0)) → gh_T E (gh_yModel_isSameName.cls, prog_14_method_14_code, 6, false, 8) (d + 3) 70 [(0, 2, 63), (1, 0, v1), (2, 0, v2), (3, 0, r2451), (4, 0, v4), (5, 0, v5)] [] m (fun r m1 => m1 = m ∧ Q r) := by
    intro c
    have h := hA c
    refine gh_iload gd_Model_isSameName_70 4 rfl ?_
    obtain ⟨q2459, h⟩ := h
    exact gh_ret8 rfl gd_Model_isSameName_72 q2459 ⟨rfl, h⟩
  have k2458 : ¬ (¬ (v5 < r2451) ∨ (v4 = 0)) → gh_T E (gh_yModel_isSameName.cls, prog_14_method_14_code, 6, false, 8) (d + 3) 36 [(0, 2, 63), (1, 0, v1), (2, 0, v2), (3, 0, r2451), (4, 0, v4), (5, 0, v5)] [] m (fun r m1 => m1 = m ∧ Q r) := by
    intro c
    have h := hB c
    refine gh_aload_n gd_Model_isSameName_36 0 rfl (by decide) ?_
    refine gf_63_0 gd_Model_isSameName_37 gh_k1367 hF ?_
    refine gh_iload_n gd_Model_isSameName_40 1 rfl ?_
    refine gh_iload gd_Model_isSameName_41 5 rfl ?_
    obtain ⟨q2460, h⟩ := h
    refine gh_iadd gd_Model_isSameName_43 q2460 ?_
    obtain ⟨q2461, h⟩ := h
    obtain ⟨q2462, h⟩ := h
    refine la_64 gd_Model_isSameName_44 hF q2461 q2462 rfl ?_
    refine gh_aload_n gd_Model_isSameName_45 0 rfl (by decide) ?_
    refine gf_63_0 gd_Model_isSameName_46 gh_k1367 hF ?_
    refine gh_iload_n gd_Model_isSameName_49 2 rfl ?_
    refine gh_iload gd_Model_isSameName_50 5 rfl ?_
    obtain ⟨q2463, h⟩ := h
    refine gh_iadd gd_Model_isSameName_52 q2463 ?_
    obtain ⟨q2464, h⟩ := h
    obtain ⟨q2465, h⟩ := h
    refine la_64 gd_Model_isSameName_53 hF q2464 q2465 rfl ?_
    have k2466 : ∀ x2467 : Int, x2467 = (if ((m 64 (v1 + v5)) = (m 64 (v2 + v5))) then (1:Int) else 0) → gh_T E (gh_yModel_isSameName.cls, prog_14_method_14_code, 6, false, 8) (d + 3) 62 [(0, 2, 63), (1, 0, v1), (2, 0, v2), (3, 0, r2451), (4, 0, v4), (5, 0, v5)] [(0, x2467)] m (fun r m1 => m1 = m ∧ Q r) := by
      rintro _ rfl
      refine gh_name (fun v4' hn => ?_)
      have h := h v4' hn
      refine gh_istore (L2 := [(4, 0, v4'), (0, 2, 63), (1, 0, v1), (2, 0, v2), (3, 0, r2451), (5, 0, v5)]) gd_Model_isSameName_62 (by decide) rfl ?_
      obtain ⟨q2468, h⟩ := h
      refine gh_iinc (L2 := [(5, 0, v5 + 1), (4, 0, v4'), (0, 2, 63), (1, 0, v1), (2, 0, v2), (3, 0, r2451)]) gd_Model_isSameName_64 5 rfl q2468 (by decide) rfl ?_
      refine gh_goto (tgt := 25) gd_Model_isSameName_67 (by decide) ?_
      refine gh_pick (L2 := [(0, 2, 63), (1, 0, v1), (2, 0, v2), (3, 0, r2451), (4, 0, v4'), (5, 0, v5 + 1)]) [2, 3, 4, 5, 1, 0] rfl ?_
      exact hK25 v4' (v5 + 1) hF h
    refine gh_jne (tgt := 61) gd_Model_isSameName_54 (by decide) (fun c2469 => ?_) (fun c2469 => ?_)
    · have hz : True := trivial
      refine gh_iconst gd_Model_isSameName_57 (gh_r0 rfl) ?_
      refine gh_goto (tgt := 62) gd_Model_isSameName_58 (by decide) ?_
      exact k2466 _ (if_pos (c := ((m 64 (v1 + v5)) = (m 64 (v2 + v5)))) c2469).symm
    · have hz : True := trivial
      refine gh_iconst gd_Model_isSameName_61 (gh_r0 rfl) ?_
      exact k2466 _ (if_neg (c := ((m 64 (v1 + v5)) = (m 64 (v2 + v5)))) c2469).symm
  refine gh_jge (tgt := 70) gd_Model_isSameName_28 (by decide) (fun c2470 => ?_) (fun c2470 => ?_)
  · have hz : True := trivial
    refine gh_iload gd_Model_isSameName_31 4 rfl ?_
    refine gh_zeq (tgt := 70) gd_Model_isSameName_33 (by decide) (fun c2471 => ?_) (fun c2471 => ?_)
    · have hz : True := trivial
      exact k2457 (Or.inr c2471)
    · have hz : True := trivial
      exact k2458 (fun z => z.elim (fun w => w c2470) c2471)
  · have hz : True := trivial
    exact k2457 (Or.inl c2470)
theorem s_Model_isSameName {E : gh_E} {m : gh_M} {Q : Int → Prop} (d : Nat) (v1 : Int) (v2 : Int) (hF : gh_F m) (h : w_Model_isSameName v1 v2 m Q) : gh_C E gh_yModel_isSameName prog_14_method_14_code 6 (some .boolean) 8 (d + 3) [(2, 63), (0, v1), (0, v2)] m (fun r m1 => m1 = m ∧ Q r) := by
  refine gh_enter2 (L := [(0, 2, 63), (1, 0, v1), (2, 0, v2)]) (by decide +kernel) gh_rt8 (Nat.le_of_ble_eq_true rfl) rfl rfl ?_
  unfold w_Model_isSameName at h
  refine gh_aload_n gd_Model_isSameName_0 0 rfl (by decide) ?_
  refine gh_iload_n gd_Model_isSameName_1 1 rfl ?_
  refine cv_Model_nameLength (d := d + 2) gd_Model_isSameName_2 gh_k1662 hF (Nat.le_of_ble_eq_true rfl) (gh_C.pw (s_Model_nameLength d v1 hF h) (fun r2451 h => ?_))
  refine gh_istore_n (L2 := [(3, 0, r2451), (0, 2, 63), (1, 0, v1), (2, 0, v2)]) gd_Model_isSameName_5 (by decide) rfl ?_
  refine gh_iload_n gd_Model_isSameName_6 0 rfl ?_
  refine gh_aload_n gd_Model_isSameName_7 1 rfl (by decide) ?_
  refine gh_iload_n gd_Model_isSameName_8 3 rfl ?_
  refine cv_Model_nameLength (d := d + 2) gd_Model_isSameName_9 gh_k1662 hF (Nat.le_of_ble_eq_true rfl) (gh_C.pw (s_Model_nameLength d v2 hF h) (fun r2453 h => ?_))
  have k2455 : ∀ x2456 : Int, x2456 = (if (r2451 = r2453) then (1:Int) else 0) → gh_T E (gh_yModel_isSameName.cls, prog_14_method_14_code, 6, false, 8) (d + 3) 20 [(3, 0, r2451), (0, 2, 63), (1, 0, v1), (2, 0, v2)] [(0, x2456)] m (fun r m1 => m1 = m ∧ Q r) := by
    rintro _ rfl
    refine gh_name (fun v4 hn => ?_)
    have h := h v4 hn
    refine gh_istore (L2 := [(4, 0, v4), (3, 0, r2451), (0, 2, 63), (1, 0, v1), (2, 0, v2)]) gd_Model_isSameName_20 (by decide) rfl ?_
    refine gh_iconst gd_Model_isSameName_22 (gh_r0 rfl) ?_
    refine gh_istore (L2 := [(5, 0, 0), (4, 0, v4), (3, 0, r2451), (0, 2, 63), (1, 0, v1), (2, 0, v2)]) gd_Model_isSameName_23 (by decide) rfl ?_
    refine gh_pick (L2 := [(0, 2, 63), (1, 0, v1), (2, 0, v2), (3, 0, r2451), (4, 0, v4), (5, 0, 0)]) [3, 4, 5, 2, 1, 0] rfl ?_
    exact gh_L2_sound (T := fun v4 v5 => gh_T E (gh_yModel_isSameName.cls, prog_14_method_14_code, 6, false, 8) (d + 3) 25 [(0, 2, 63), (1, 0, v1), (2, 0, v2), (3, 0, r2451), (4, 0, v4), (5, 0, v5)] [] m (fun r m1 => m1 = m ∧ Q r)) (fun _ _ => gh_F m) (fun K25 v4 v5 hK hF h => b_Model_isSameName_25 d hK v4 v5 hF h) v4 0 hF h
  refine gh_jne (tgt := 19) gd_Model_isSameName_12 (by decide) (fun c2472 => ?_) (fun c2472 => ?_)
  · have hz : True := trivial
    refine gh_iconst gd_Model_isSameName_15 (gh_r0 rfl) ?_
    refine gh_goto (tgt := 20) gd_Model_isSameName_16 (by decide) ?_
    exact k2455 _ (if_pos (c := (r2451 = r2453)) c2472).symm
  · have hz : True := trivial
    refine gh_iconst gd_Model_isSameName_19 (gh_r0 rfl) ?_
    exact k2455 _ (if_neg (c := (r2451 = r2453)) c2472).symm
def f_Model_toldOf_4 (v1 : Int) (Q : Int → Prop) (m : gh_M) (K4 : Int → Int → Prop) (v2 : Int) (v3 : Int) : Prop := ((v3 < (m 63 8) → 0 ≤ v3 ∧ v3 < 8 ∧ w_Model_isSameName (m 65 v3) v1 m (fun r2476 => ∀ v2' : Int, v2' = (if r2476 = 0 then v2 else v3) → gh_i (v3 + 1) ∧ K4 v2' (v3 + 1))) ∧ (¬ (v3 < (m 63 8)) → Q v2))
def w_Model_toldOf (v1 : Int) (m : gh_M) (Q : Int → Prop) : Prop := gh_L2 (fun K4 v2 v3 => f_Model_toldOf_4 v1 Q m K4 v2 v3) (-1) 0
theorem b_Model_toldOf_4 {E : gh_E} {v1 : Int} {Q : Int → Prop} {K4 : Int → Int → Prop} (d : Nat) {m : gh_M} (hK : ∀ (v2 : Int) (v3 : Int), gh_F m → K4 v2 v3 → gh_T E (gh_yModel_toldOf.cls, prog_14_method_15_code, 4, false, 0) (d + 4) 4 [(0, 2, 63), (1, 0, v1), (2, 0, v2), (3, 0, v3)] [] m (fun r m1 => m1 = m ∧ Q r)) (v2 : Int) (v3 : Int) (hF : gh_F m) (h : f_Model_toldOf_4 v1 Q m K4 v2 v3) : gh_T E (gh_yModel_toldOf.cls, prog_14_method_15_code, 4, false, 0) (d + 4) 4 [(0, 2, 63), (1, 0, v1), (2, 0, v2), (3, 0, v3)] [] m (fun r m1 => m1 = m ∧ Q r) := by
  have hK4 := hK
  unfold f_Model_toldOf_4 at h
  refine gh_iload_n gd_Model_toldOf_4 3 rfl ?_
  refine gh_aload_n gd_Model_toldOf_5 0 rfl (by decide) ?_
  refine gf_63_8 gd_Model_toldOf_6 gh_k1375 hF rfl ?_
  obtain ⟨hA, hB⟩ := h
  refine gh_jge (tgt := 38) gd_Model_toldOf_9 (by decide) (fun c2473 => ?_) (fun c2473 => ?_)
  · have h := hA c2473
    refine gh_aload_n gd_Model_toldOf_12 0 rfl (by decide) ?_
    refine gh_aload_n gd_Model_toldOf_13 0 rfl (by decide) ?_
    refine gf_63_10 gd_Model_toldOf_14 gh_k1377 hF ?_
    refine gh_iload_n gd_Model_toldOf_17 3 rfl ?_
    obtain ⟨q2474, h⟩ := h
    obtain ⟨q2475, h⟩ := h
    refine la_65 gd_Model_toldOf_18 hF q2474 q2475 rfl ?_
    refine gh_iload_n gd_Model_toldOf_19 1 rfl ?_
    refine cv_Model_isSameName (d := d + 3) gd_Model_toldOf_20 gh_k1681 hF (Nat.le_of_ble_eq_true rfl) (gh_C.pw (s_Model_isSameName d (m 65 v3) v1 hF h) (fun r2476 h => ?_))
    have k2478 : ∀ x2479 : Int, x2479 = (if r2476 = 0 then v2 else v3) → gh_T E (gh_yModel_toldOf.cls, prog_14_method_15_code, 4, false, 0) (d + 4) 31 [(0, 2, 63), (1, 0, v1), (2, 0, v2), (3, 0, v3)] [(0, x2479)] m (fun r m1 => m1 = m ∧ Q r) := by
      rintro _ rfl
      refine gh_name (fun v2' hn => ?_)
      have h := h v2' hn
      refine gh_istore_n (L2 := [(2, 0, v2'), (0, 2, 63), (1, 0, v1), (3, 0, v3)]) gd_Model_toldOf_31 (by decide) rfl ?_
      obtain ⟨q2480, h⟩ := h
      refine gh_iinc (L2 := [(3, 0, v3 + 1), (2, 0, v2'), (0, 2, 63), (1, 0, v1)]) gd_Model_toldOf_32 3 rfl q2480 (by decide) rfl ?_
      refine gh_goto (tgt := 4) gd_Model_toldOf_35 (by decide) ?_
      refine gh_pick (L2 := [(0, 2, 63), (1, 0, v1), (2, 0, v2'), (3, 0, v3 + 1)]) [2, 3, 1, 0] rfl ?_
      exact hK4 v2' (v3 + 1) hF h
    refine gh_zeq (tgt := 30) gd_Model_toldOf_23 (by decide) (fun c2481 => ?_) (fun c2481 => ?_)
    · have hz : True := trivial
      refine gh_iload_n gd_Model_toldOf_30 2 rfl ?_
      exact k2478 _ (by rw [if_pos c2481])
    · have hz : True := trivial
      refine gh_iload_n gd_Model_toldOf_26 3 rfl ?_
      refine gh_goto (tgt := 31) gd_Model_toldOf_27 (by decide) ?_
      exact k2478 _ (by rw [if_neg c2481])
  · have h := hB c2473
    refine gh_iload_n gd_Model_toldOf_38 2 rfl ?_
    exact gh_ret0 rfl gd_Model_toldOf_39 ⟨rfl, h⟩
theorem s_Model_toldOf {E : gh_E} {m : gh_M} {Q : Int → Prop} (d : Nat) (v1 : Int) (hF : gh_F m) (h : w_Model_toldOf v1 m Q) : gh_C E gh_yModel_toldOf prog_14_method_15_code 4 (some .int) 0 (d + 4) [(2, 63), (0, v1)] m (fun r m1 => m1 = m ∧ Q r) := by
  refine gh_enter2 (L := [(0, 2, 63), (1, 0, v1)]) (by decide +kernel) gh_rt0 (Nat.le_of_ble_eq_true rfl) rfl rfl ?_
  unfold w_Model_toldOf at h
  refine gh_iconst gd_Model_toldOf_0 (gh_r0 rfl) ?_
  refine gh_istore_n (L2 := [(2, 0, (-1)), (0, 2, 63), (1, 0, v1)]) gd_Model_toldOf_1 (by decide) rfl ?_
  refine gh_iconst gd_Model_toldOf_2 (gh_r0 rfl) ?_
  refine gh_istore_n (L2 := [(3, 0, 0), (2, 0, (-1)), (0, 2, 63), (1, 0, v1)]) gd_Model_toldOf_3 (by decide) rfl ?_
  refine gh_pick (L2 := [(0, 2, 63), (1, 0, v1), (2, 0, (-1)), (3, 0, 0)]) [2, 3, 1, 0] rfl ?_
  exact gh_L2_sound (T := fun v2 v3 => gh_T E (gh_yModel_toldOf.cls, prog_14_method_15_code, 4, false, 0) (d + 4) 4 [(0, 2, 63), (1, 0, v1), (2, 0, v2), (3, 0, v3)] [] m (fun r m1 => m1 = m ∧ Q r)) (fun _ _ => gh_F m) (fun K4 v2 v3 hK hF h => b_Model_toldOf_4 d hK v2 v3 hF h) (-1) 0 hF h
def w_Model_takesHead (m : gh_M) (Q : Int → gh_M → Prop) : Prop := (((m 63 5) = 2 → w_Model_toldOf (m 63 6) m (fun r2483 => ((r2483 = (-1) → gh_i ((m 63 8) + (m 63 9)) ∧ ((((m 63 8) + (m 63 9)) = 8 → Q 3 m) ∧ (¬ (((m 63 8) + (m 63 9)) = 8) → 0 ≤ m 63 8 ∧ (m 63 8) < 8 ∧ gh_i ((m 63 8) + 1) ∧ Q 0 (gh_u (gh_u m 65 (m 63 8) (m 63 6)) 63 8 ((m 63 8) + 1))))) ∧ (¬ (r2483 = (-1)) → Q 4 m)))) ∧ (¬ ((m 63 5) = 2) → Q 2 m))
theorem s_Model_takesHead {E : gh_E} {m : gh_M} {Q : Int → gh_M → Prop} (d : Nat) (hF : gh_F m) (h : w_Model_takesHead m Q) : gh_C E gh_yModel_takesHead prog_14_method_25_code 1 (some .int) 0 (d + 5) [(2, 63)] m (fun r m1 => gh_F m1 ∧ Q r m1) := by
  refine gh_enter2 (L := [(0, 2, 63)]) (by decide +kernel) gh_rt0 (Nat.le_of_ble_eq_true rfl) rfl rfl ?_
  unfold w_Model_takesHead at h
  refine gh_aload_n gd_Model_takesHead_0 0 rfl (by decide) ?_
  refine gf_63_5 gd_Model_takesHead_1 gh_k1372 hF rfl ?_
  refine gh_iconst gd_Model_takesHead_4 (gh_r0 rfl) ?_
  obtain ⟨hA, hB⟩ := h
  refine gh_jeq (tgt := 10) gd_Model_takesHead_5 (by decide) (fun c2482 => ?_) (fun c2482 => ?_)
  · have h := hA c2482
    refine gh_aload_n gd_Model_takesHead_10 0 rfl (by decide) ?_
    refine gh_aload_n gd_Model_takesHead_11 0 rfl (by decide) ?_
    refine gf_63_6 gd_Model_takesHead_12 gh_k1373 hF rfl ?_
    refine cv_Model_toldOf (d := d + 4) gd_Model_takesHead_15 gh_k1677 hF (Nat.le_of_ble_eq_true rfl) (gh_C.pw (s_Model_toldOf d (m 63 6) hF h) (fun r2483 h => ?_))
    refine gh_iconst gd_Model_takesHead_18 (gh_r0 rfl) ?_
    obtain ⟨hA, hB⟩ := h
    refine gh_jeq (tgt := 24) gd_Model_takesHead_19 (by decide) (fun c2485 => ?_) (fun c2485 => ?_)
    · have h := hA c2485
      refine gh_aload_n gd_Model_takesHead_24 0 rfl (by decide) ?_
      refine gf_63_8 gd_Model_takesHead_25 gh_k1375 hF rfl ?_
      refine gh_aload_n gd_Model_takesHead_28 0 rfl (by decide) ?_
      refine gf_63_9 gd_Model_takesHead_29 gh_k1376 hF rfl ?_
      obtain ⟨q2486, h⟩ := h
      refine gh_iadd gd_Model_takesHead_32 q2486 ?_
      refine gh_bipush gd_Model_takesHead_33 (by decide) (gh_r0 rfl) ?_
      obtain ⟨hA, hB⟩ := h
      refine gh_jne (tgt := 40) gd_Model_takesHead_35 (by decide) (fun c2487 => ?_) (fun c2487 => ?_)
      · have h := hA c2487
        refine gh_iconst gd_Model_takesHead_38 (gh_r0 rfl) ?_
        exact gh_ret0 rfl gd_Model_takesHead_39 ⟨hF, h⟩
      · have h := hB c2487
        refine gh_aload_n gd_Model_takesHead_40 0 rfl (by decide) ?_
        refine gf_63_10 gd_Model_takesHead_41 gh_k1377 hF ?_
        refine gh_aload_n gd_Model_takesHead_44 0 rfl (by decide) ?_
        refine gf_63_8 gd_Model_takesHead_45 gh_k1375 hF rfl ?_
        refine gh_aload_n gd_Model_takesHead_48 0 rfl (by decide) ?_
        refine gf_63_6 gd_Model_takesHead_49 gh_k1373 hF rfl ?_
        obtain ⟨q2488, h⟩ := h
        obtain ⟨q2489, h⟩ := h
        refine sa_65 gd_Model_takesHead_52 hF q2488 q2489 (fun hF => ?_)
        refine gh_aload_n gd_Model_takesHead_53 0 rfl (by decide) ?_
        refine gh_dup gd_Model_takesHead_54 (by decide) ?_
        refine gf_63_8 gd_Model_takesHead_55 gh_k1375 hF (gh_u_a (by decide)) ?_
        refine gh_iconst gd_Model_takesHead_58 (gh_r0 rfl) ?_
        obtain ⟨q2490, h⟩ := h
        refine gh_iadd gd_Model_takesHead_59 q2490 ?_
        refine pf_63_8 gd_Model_takesHead_60 gh_k1375 hF (fun hF => ?_)
        refine gh_iconst gd_Model_takesHead_63 (gh_r0 rfl) ?_
        exact gh_ret0 rfl gd_Model_takesHead_64 ⟨hF, h⟩
    · have h := hB c2485
      refine gh_iconst gd_Model_takesHead_22 (gh_r0 rfl) ?_
      exact gh_ret0 rfl gd_Model_takesHead_23 ⟨hF, h⟩
  · have h := hB c2482
    refine gh_iconst gd_Model_takesHead_8 (gh_r0 rfl) ?_
    exact gh_ret0 rfl gd_Model_takesHead_9 ⟨hF, h⟩
def w_Model_addPart (v1 : Int) (m : gh_M) (Q : Int → gh_M → Prop) : Prop := gh_i (4 * (m 63 15)) ∧ 0 ≤ m 63 15 ∧ (m 63 15) < 4 ∧ gh_i ((4 * (m 63 15)) + (m 71 (m 63 15))) ∧ 0 ≤ (4 * (m 63 15)) + (m 71 (m 63 15)) ∧ ((4 * (m 63 15)) + (m 71 (m 63 15))) < 16 ∧ 0 ≤ m 63 15 ∧ (m 63 15) < 4 ∧ gh_i ((m 71 (m 63 15)) + 1) ∧ 0 ≤ m 63 15 ∧ (m 63 15) < 4 ∧ Q 0 (gh_u (gh_u m 72 ((4 * (m 63 15)) + (m 71 (m 63 15))) v1) 71 (m 63 15) ((m 71 (m 63 15)) + 1))
theorem s_Model_addPart {E : gh_E} {m : gh_M} {Q : Int → gh_M → Prop} (d : Nat) (v1 : Int) (hF : gh_F m) (h : w_Model_addPart v1 m Q) : gh_C E gh_yModel_addPart prog_14_method_17_code 2 none 9 (d + 0) [(2, 63), (0, v1)] m (fun r m1 => gh_F m1 ∧ Q r m1) := by
  refine gh_enter2 (L := [(0, 2, 63), (1, 0, v1)]) (by decide +kernel) gh_rt9 (Nat.le_of_ble_eq_true rfl) rfl rfl ?_
  unfold w_Model_addPart at h
  refine gh_aload_n gd_Model_addPart_0 0 rfl (by decide) ?_
  refine gf_63_20 gd_Model_addPart_1 gh_k1387 hF ?_
  refine gh_iconst gd_Model_addPart_4 (gh_r0 rfl) ?_
  refine gh_aload_n gd_Model_addPart_5 0 rfl (by decide) ?_
  refine gf_63_15 gd_Model_addPart_6 gh_k1382 hF rfl ?_
  obtain ⟨q2491, h⟩ := h
  refine gh_imul gd_Model_addPart_9 q2491 ?_
  refine gh_aload_n gd_Model_addPart_10 0 rfl (by decide) ?_
  refine gf_63_19 gd_Model_addPart_11 gh_k1386 hF ?_
  refine gh_aload_n gd_Model_addPart_14 0 rfl (by decide) ?_
  refine gf_63_15 gd_Model_addPart_15 gh_k1382 hF rfl ?_
  obtain ⟨q2492, h⟩ := h
  obtain ⟨q2493, h⟩ := h
  refine la_71 gd_Model_addPart_18 hF q2492 q2493 rfl ?_
  obtain ⟨q2494, h⟩ := h
  refine gh_iadd gd_Model_addPart_19 q2494 ?_
  refine gh_iload_n gd_Model_addPart_20 1 rfl ?_
  obtain ⟨q2495, h⟩ := h
  obtain ⟨q2496, h⟩ := h
  refine sa_72 gd_Model_addPart_21 hF q2495 q2496 (fun hF => ?_)
  refine gh_aload_n gd_Model_addPart_22 0 rfl (by decide) ?_
  refine gf_63_19 gd_Model_addPart_23 gh_k1386 hF ?_
  refine gh_aload_n gd_Model_addPart_26 0 rfl (by decide) ?_
  refine gf_63_15 gd_Model_addPart_27 gh_k1382 hF (gh_u_a (by decide)) ?_
  refine gh_dup2 gd_Model_addPart_30 (by decide) (by decide) ?_
  obtain ⟨q2497, h⟩ := h
  obtain ⟨q2498, h⟩ := h
  refine la_71 gd_Model_addPart_31 hF q2497 q2498 (gh_u_a (by decide)) ?_
  refine gh_iconst gd_Model_addPart_32 (gh_r0 rfl) ?_
  obtain ⟨q2499, h⟩ := h
  refine gh_iadd gd_Model_addPart_33 q2499 ?_
  obtain ⟨q2500, h⟩ := h
  obtain ⟨q2501, h⟩ := h
  refine sa_71 gd_Model_addPart_34 hF q2500 q2501 (fun hF => ?_)
  exact gh_ret9 rfl gd_Model_addPart_35 ⟨hF, h⟩
def f_Model_takesSets_142 (y0 : Int) (J173 : gh_M → Prop) (K142 : Int → gh_M → Prop) (v2 : Int) (m : gh_M) : Prop := ((v2 ≤ y0 → gh_i ((m 63 6) + v2) ∧ 0 ≤ (m 63 6) + v2 ∧ ((m 63 6) + v2) < 240 ∧ gh_i ((m 64 ((m 63 6) + v2)) - 97) ∧ w_Model_addPart (gh_ishl_f 1 ((m 64 ((m 63 6) + v2)) - 97)) m (fun _ m2534 => gh_i (v2 + 1) ∧ K142 (v2 + 1) m2534)) ∧ (¬ (v2 ≤ y0) → J173 m))
def w_Model_takesSets (m : gh_M) (Q : Int → gh_M → Prop) : Prop := ∃ J22 : Int → Prop, (∀ (y0 : Int), J22 y0 → 0 ≤ m 63 15 ∧ (m 63 15) < 4 ∧ gh_i ((m 71 (m 63 15)) + y0) ∧ ((((m 71 (m 63 15)) + y0) ≤ 4 → ∃ J173 : gh_M → Prop, (∀ (m : gh_M), J173 m → 0 ≤ m 63 15 ∧ (m 63 15) < 4 ∧ Q 0 (gh_u m 73 (m 63 15) y0)) ∧ (((m 63 5) = 2 → 0 ≤ m 63 22 ∧ (m 63 22) < 240 ∧ gh_i ((m 63 22) + 1) ∧ gh_i ((-1000) - (m 63 6)) ∧ w_Model_addPart ((-1000) - (m 63 6)) (gh_u (gh_u m 74 (m 63 22) (m 63 6)) 63 22 ((m 63 22) + 1)) (fun _ m2514 => J173 m2514)) ∧ (¬ ((m 63 5) = 2) → (((m 63 5) = 4 → gh_i ((m 63 6) + 1) ∧ 0 ≤ (m 63 6) + 1 ∧ ((m 63 6) + 1) < 240 ∧ gh_i ((m 64 ((m 63 6) + 1)) - 97) ∧ ∀ v2 : Int, v2 = (m 64 ((m 63 6) + 1)) - 97 → gh_i ((m 63 6) + 3) ∧ 0 ≤ (m 63 6) + 3 ∧ ((m 63 6) + 3) < 240 ∧ gh_i ((m 64 ((m 63 6) + 3)) - 97) ∧ ∀ v3 : Int, v3 = (m 64 ((m 63 6) + 3)) - 97 → gh_i (v3 + 1) ∧ gh_i ((gh_ishl_f 1 (v3 + 1)) - (gh_ishl_f 1 v2)) ∧ w_Model_addPart ((gh_ishl_f 1 (v3 + 1)) - (gh_ishl_f 1 v2)) m (fun _ m2527 => J173 m2527)) ∧ (¬ ((m 63 5) = 4) → gh_M1 (fun K142 v2 m => f_Model_takesSets_142 y0 J173 K142 v2 m) 1 m))))) ∧ (¬ (((m 71 (m 63 15)) + y0) ≤ 4) → Q 3 m))) ∧ (((m 63 5) = 3 → gh_i ((m 63 6) + 1) ∧ w_Model_smallsFrom ((m 63 6) + 1) m (fun r2538 => J22 r2538)) ∧ (¬ ((m 63 5) = 3) → J22 1))
theorem b_Model_takesSets_142 {E : gh_E} {y0 : Int} {J173 : gh_M → Prop} {Q : Int → gh_M → Prop} {K142 : Int → gh_M → Prop} (d : Nat) (hJ173 : ∀ (m : gh_M), gh_F m → J173 m → gh_T E (gh_yModel_takesSets.cls, prog_14_method_23_code, 4, false, 0) (d + 3) 173 [(0, 2, 63), (1, 0, y0)] [] m (fun r m1 => gh_F m1 ∧ Q r m1)) (hK : ∀ (v2 : Int) (m : gh_M), gh_F m → K142 v2 m → gh_T E (gh_yModel_takesSets.cls, prog_14_method_23_code, 4, false, 0) (d + 3) 142 [(0, 2, 63), (1, 0, y0), (2, 0, v2)] [] m (fun r m1 => gh_F m1 ∧ Q r m1)) (v2 : Int) (m : gh_M) (hF : gh_F m) (h : f_Model_takesSets_142 y0 J173 K142 v2 m) : gh_T E (gh_yModel_takesSets.cls, prog_14_method_23_code, 4, false, 0) (d + 3) 142 [(0, 2, 63), (1, 0, y0), (2, 0, v2)] [] m (fun r m1 => gh_F m1 ∧ Q r m1) := by
  have hK142 := hK
  unfold f_Model_takesSets_142 at h
  refine gh_iload_n gd_Model_takesSets_142 2 rfl ?_
  refine gh_iload_n gd_Model_takesSets_143 1 rfl ?_
  obtain ⟨hA, hB⟩ := h
  refine gh_jgt (tgt := 173) gd_Model_takesSets_144 (by decide) (fun c2528 => ?_) (fun c2528 => ?_)
  · have h := hA c2528
    refine gh_aload_n gd_Model_takesSets_147 0 rfl (by decide) ?_
    refine gh_iconst gd_Model_takesSets_148 (gh_r0 rfl) ?_
    refine gh_aload_n gd_Model_takesSets_149 0 rfl (by decide) ?_
    refine gf_63_0 gd_Model_takesSets_150 gh_k1367 hF ?_
    refine gh_aload_n gd_Model_takesSets_153 0 rfl (by decide) ?_
    refine gf_63_6 gd_Model_takesSets_154 gh_k1373 hF rfl ?_
    refine gh_iload_n gd_Model_takesSets_157 2 rfl ?_
    obtain ⟨q2529, h⟩ := h
    refine gh_iadd gd_Model_takesSets_158 q2529 ?_
    obtain ⟨q2530, h⟩ := h
    obtain ⟨q2531, h⟩ := h
    refine la_64 gd_Model_takesSets_159 hF q2530 q2531 rfl ?_
    refine gh_bipush gd_Model_takesSets_160 (by decide) (gh_r0 rfl) ?_
    obtain ⟨q2532, h⟩ := h
    refine gh_isub gd_Model_takesSets_162 q2532 ?_
    refine gh_ishl gd_Model_takesSets_163 ?_
    refine cv_Model_addPart (d := d + 2) gd_Model_takesSets_164 gh_k1693 hF (Nat.le_of_ble_eq_true rfl) (gh_C.mono (s_Model_addPart (d + 2) (gh_ishl_f 1 ((m 64 ((m 63 6) + v2)) - 97)) hF h) (fun r2533 m2534 hq => ?_))
    obtain ⟨hF, h⟩ := hq
    obtain ⟨q2535, h⟩ := h
    refine gh_iinc (L2 := [(2, 0, v2 + 1), (0, 2, 63), (1, 0, y0)]) gd_Model_takesSets_167 2 rfl q2535 (by decide) rfl ?_
    refine gh_goto (tgt := 142) gd_Model_takesSets_170 (by decide) ?_
    refine gh_pick (L2 := [(0, 2, 63), (1, 0, y0), (2, 0, v2 + 1)]) [1, 2, 0] rfl ?_
    exact hK142 (v2 + 1) m2534 hF h
  · have h := hB c2528
    refine gh_pick (L2 := [(0, 2, 63), (1, 0, y0)]) [0, 1] rfl ?_
    exact hJ173 m hF h
theorem s_Model_takesSets {E : gh_E} {m : gh_M} {Q : Int → gh_M → Prop} (d : Nat) (hF : gh_F m) (h : w_Model_takesSets m Q) : gh_C E gh_yModel_takesSets prog_14_method_23_code 4 (some .int) 0 (d + 3) [(2, 63)] m (fun r m1 => gh_F m1 ∧ Q r m1) := by
  refine gh_enter2 (L := [(0, 2, 63)]) (by decide +kernel) gh_rt0 (Nat.le_of_ble_eq_true rfl) rfl rfl ?_
  unfold w_Model_takesSets at h
  refine gh_aload_n gd_Model_takesSets_0 0 rfl (by decide) ?_
  refine gf_63_5 gd_Model_takesSets_1 gh_k1372 hF rfl ?_
  refine gh_iconst gd_Model_takesSets_4 (gh_r0 rfl) ?_
  obtain ⟨J22, hJ22, h⟩ := h
  have hJ22 : ∀ (y0 : Int), gh_F m → J22 y0 → gh_T E (gh_yModel_takesSets.cls, prog_14_method_23_code, 4, false, 0) (d + 3) 22 [(0, 2, 63)] [(0, y0)] m (fun r m1 => gh_F m1 ∧ Q r m1) := by
    intro y0 hF hj
    have h := hJ22 y0 hj
    refine gh_istore_n (L2 := [(1, 0, y0), (0, 2, 63)]) gd_Model_takesSets_22 (by decide) rfl ?_
    refine gh_aload_n gd_Model_takesSets_23 1 rfl (by decide) ?_
    refine gf_63_19 gd_Model_takesSets_24 gh_k1386 hF ?_
    refine gh_aload_n gd_Model_takesSets_27 1 rfl (by decide) ?_
    refine gf_63_15 gd_Model_takesSets_28 gh_k1382 hF rfl ?_
    obtain ⟨q2502, h⟩ := h
    obtain ⟨q2503, h⟩ := h
    refine la_71 gd_Model_takesSets_31 hF q2502 q2503 rfl ?_
    refine gh_iload_n gd_Model_takesSets_32 0 rfl ?_
    obtain ⟨q2504, h⟩ := h
    refine gh_iadd gd_Model_takesSets_33 q2504 ?_
    refine gh_iconst gd_Model_takesSets_34 (gh_r0 rfl) ?_
    obtain ⟨hA, hB⟩ := h
    refine gh_jle (tgt := 40) gd_Model_takesSets_35 (by decide) (fun c2505 => ?_) (fun c2505 => ?_)
    · have h := hA c2505
      refine gh_aload_n gd_Model_takesSets_40 1 rfl (by decide) ?_
      refine gf_63_5 gd_Model_takesSets_41 gh_k1372 hF rfl ?_
      refine gh_iconst gd_Model_takesSets_44 (gh_r0 rfl) ?_
      obtain ⟨J173, hJ173, h⟩ := h
      have hJ173 : ∀ (m : gh_M), gh_F m → J173 m → gh_T E (gh_yModel_takesSets.cls, prog_14_method_23_code, 4, false, 0) (d + 3) 173 [(0, 2, 63), (1, 0, y0)] [] m (fun r m1 => gh_F m1 ∧ Q r m1) := by
        intro m hF hj
        have h := hJ173 m hj
        refine gh_aload_n gd_Model_takesSets_173 0 rfl (by decide) ?_
        refine gf_63_21 gd_Model_takesSets_174 gh_k1388 hF ?_
        refine gh_aload_n gd_Model_takesSets_177 0 rfl (by decide) ?_
        refine gf_63_15 gd_Model_takesSets_178 gh_k1382 hF rfl ?_
        refine gh_iload_n gd_Model_takesSets_181 1 rfl ?_
        obtain ⟨q2506, h⟩ := h
        obtain ⟨q2507, h⟩ := h
        refine sa_73 gd_Model_takesSets_182 hF q2506 q2507 (fun hF => ?_)
        refine gh_iconst gd_Model_takesSets_183 (gh_r0 rfl) ?_
        exact gh_ret0 rfl gd_Model_takesSets_184 ⟨hF, h⟩
      obtain ⟨hA, hB⟩ := h
      refine gh_jne (tgt := 86) gd_Model_takesSets_45 (by decide) (fun c2508 => ?_) (fun c2508 => ?_)
      · have h := hA c2508
        refine gh_aload_n gd_Model_takesSets_48 1 rfl (by decide) ?_
        refine gf_63_23 gd_Model_takesSets_49 gh_k1390 hF ?_
        refine gh_aload_n gd_Model_takesSets_52 1 rfl (by decide) ?_
        refine gf_63_22 gd_Model_takesSets_53 gh_k1389 hF rfl ?_
        refine gh_aload_n gd_Model_takesSets_56 1 rfl (by decide) ?_
        refine gf_63_6 gd_Model_takesSets_57 gh_k1373 hF rfl ?_
        obtain ⟨q2509, h⟩ := h
        obtain ⟨q2510, h⟩ := h
        refine sa_74 gd_Model_takesSets_60 hF q2509 q2510 (fun hF => ?_)
        refine gh_aload_n gd_Model_takesSets_61 1 rfl (by decide) ?_
        refine gh_dup gd_Model_takesSets_62 (by decide) ?_
        refine gf_63_22 gd_Model_takesSets_63 gh_k1389 hF (gh_u_a (by decide)) ?_
        refine gh_iconst gd_Model_takesSets_66 (gh_r0 rfl) ?_
        obtain ⟨q2511, h⟩ := h
        refine gh_iadd gd_Model_takesSets_67 q2511 ?_
        refine pf_63_22 gd_Model_takesSets_68 gh_k1389 hF (fun hF => ?_)
        refine gh_aload_n gd_Model_takesSets_71 1 rfl (by decide) ?_
        refine gh_sipush gd_Model_takesSets_72 (by decide) (gh_r0 rfl) ?_
        refine gh_aload_n gd_Model_takesSets_75 1 rfl (by decide) ?_
        refine gf_63_6 gd_Model_takesSets_76 gh_k1373 hF ((gh_u_i (by decide)).trans (gh_u_a (by decide))) ?_
        obtain ⟨q2512, h⟩ := h
        refine gh_isub gd_Model_takesSets_79 q2512 ?_
        refine cv_Model_addPart (d := d + 2) gd_Model_takesSets_80 gh_k1693 hF (Nat.le_of_ble_eq_true rfl) (gh_C.mono (s_Model_addPart (d + 2) ((-1000) - (m 63 6)) hF h) (fun r2513 m2514 hq => ?_))
        obtain ⟨hF, h⟩ := hq
        refine gh_goto (tgt := 173) gd_Model_takesSets_83 (by decide) ?_
        refine gh_pick (L2 := [(0, 2, 63), (1, 0, y0)]) [1, 0] rfl ?_
        exact hJ173 m2514 hF h
      · have h := hB c2508
        refine gh_aload_n gd_Model_takesSets_86 1 rfl (by decide) ?_
        refine gf_63_5 gd_Model_takesSets_87 gh_k1372 hF rfl ?_
        refine gh_iconst gd_Model_takesSets_90 (gh_r0 rfl) ?_
        obtain ⟨hA, hB⟩ := h
        refine gh_jne (tgt := 140) gd_Model_takesSets_91 (by decide) (fun c2515 => ?_) (fun c2515 => ?_)
        · have h := hA c2515
          refine gh_aload_n gd_Model_takesSets_94 1 rfl (by decide) ?_
          refine gf_63_0 gd_Model_takesSets_95 gh_k1367 hF ?_
          refine gh_aload_n gd_Model_takesSets_98 1 rfl (by decide) ?_
          refine gf_63_6 gd_Model_takesSets_99 gh_k1373 hF rfl ?_
          refine gh_iconst gd_Model_takesSets_102 (gh_r0 rfl) ?_
          obtain ⟨q2516, h⟩ := h
          refine gh_iadd gd_Model_takesSets_103 q2516 ?_
          obtain ⟨q2517, h⟩ := h
          obtain ⟨q2518, h⟩ := h
          refine la_64 gd_Model_takesSets_104 hF q2517 q2518 rfl ?_
          refine gh_bipush gd_Model_takesSets_105 (by decide) (gh_r0 rfl) ?_
          obtain ⟨q2519, h⟩ := h
          refine gh_isub gd_Model_takesSets_107 q2519 ?_
          refine gh_name (fun v2 hn => ?_)
          have h := h v2 hn
          refine gh_istore_n (L2 := [(2, 0, v2), (1, 0, y0), (0, 2, 63)]) gd_Model_takesSets_108 (by decide) rfl ?_
          refine gh_aload_n gd_Model_takesSets_109 2 rfl (by decide) ?_
          refine gf_63_0 gd_Model_takesSets_110 gh_k1367 hF ?_
          refine gh_aload_n gd_Model_takesSets_113 2 rfl (by decide) ?_
          refine gf_63_6 gd_Model_takesSets_114 gh_k1373 hF rfl ?_
          refine gh_iconst gd_Model_takesSets_117 (gh_r0 rfl) ?_
          obtain ⟨q2520, h⟩ := h
          refine gh_iadd gd_Model_takesSets_118 q2520 ?_
          obtain ⟨q2521, h⟩ := h
          obtain ⟨q2522, h⟩ := h
          refine la_64 gd_Model_takesSets_119 hF q2521 q2522 rfl ?_
          refine gh_bipush gd_Model_takesSets_120 (by decide) (gh_r0 rfl) ?_
          obtain ⟨q2523, h⟩ := h
          refine gh_isub gd_Model_takesSets_122 q2523 ?_
          refine gh_name (fun v3 hn => ?_)
          have h := h v3 hn
          refine gh_istore_n (L2 := [(3, 0, v3), (2, 0, v2), (1, 0, y0), (0, 2, 63)]) gd_Model_takesSets_123 (by decide) rfl ?_
          refine gh_aload_n gd_Model_takesSets_124 3 rfl (by decide) ?_
          refine gh_iconst gd_Model_takesSets_125 (gh_r0 rfl) ?_
          refine gh_iload_n gd_Model_takesSets_126 0 rfl ?_
          refine gh_iconst gd_Model_takesSets_127 (gh_r0 rfl) ?_
          obtain ⟨q2524, h⟩ := h
          refine gh_iadd gd_Model_takesSets_128 q2524 ?_
          refine gh_ishl gd_Model_takesSets_129 ?_
          refine gh_iconst gd_Model_takesSets_130 (gh_r0 rfl) ?_
          refine gh_iload_n gd_Model_takesSets_131 1 rfl ?_
          refine gh_ishl gd_Model_takesSets_132 ?_
          obtain ⟨q2525, h⟩ := h
          refine gh_isub gd_Model_takesSets_133 q2525 ?_
          refine cv_Model_addPart (d := d + 2) gd_Model_takesSets_134 gh_k1693 hF (Nat.le_of_ble_eq_true rfl) (gh_C.mono (s_Model_addPart (d + 2) ((gh_ishl_f 1 (v3 + 1)) - (gh_ishl_f 1 v2)) hF h) (fun r2526 m2527 hq => ?_))
          obtain ⟨hF, h⟩ := hq
          refine gh_goto (tgt := 173) gd_Model_takesSets_137 (by decide) ?_
          refine gh_pick (L2 := [(0, 2, 63), (1, 0, y0)]) [3, 2] rfl ?_
          exact hJ173 m2527 hF h
        · have h := hB c2515
          refine gh_iconst gd_Model_takesSets_140 (gh_r0 rfl) ?_
          refine gh_istore_n (L2 := [(2, 0, 1), (1, 0, y0), (0, 2, 63)]) gd_Model_takesSets_141 (by decide) rfl ?_
          refine gh_pick (L2 := [(0, 2, 63), (1, 0, y0), (2, 0, 1)]) [2, 1, 0] rfl ?_
          exact gh_M1_sound (T := fun v2 m => gh_T E (gh_yModel_takesSets.cls, prog_14_method_23_code, 4, false, 0) (d + 3) 142 [(0, 2, 63), (1, 0, y0), (2, 0, v2)] [] m (fun r m1 => gh_F m1 ∧ Q r m1)) (fun _ m => gh_F m) (fun K142 v2 m hK hF h => b_Model_takesSets_142 d hJ173 hK v2 m hF h) 1 m hF h
    · have h := hB c2505
      refine gh_iconst gd_Model_takesSets_38 (gh_r0 rfl) ?_
      exact gh_ret0 rfl gd_Model_takesSets_39 ⟨hF, h⟩
  obtain ⟨hA, hB⟩ := h
  refine gh_jne (tgt := 21) gd_Model_takesSets_5 (by decide) (fun c2536 => ?_) (fun c2536 => ?_)
  · have h := hA c2536
    refine gh_aload_n gd_Model_takesSets_8 0 rfl (by decide) ?_
    refine gh_aload_n gd_Model_takesSets_9 0 rfl (by decide) ?_
    refine gf_63_6 gd_Model_takesSets_10 gh_k1373 hF rfl ?_
    refine gh_iconst gd_Model_takesSets_13 (gh_r0 rfl) ?_
    obtain ⟨q2537, h⟩ := h
    refine gh_iadd gd_Model_takesSets_14 q2537 ?_
    refine cv_Model_smallsFrom (d := d + 2) gd_Model_takesSets_15 gh_k1666 hF (Nat.le_of_ble_eq_true rfl) (gh_C.pw (s_Model_smallsFrom d ((m 63 6) + 1) hF h) (fun r2538 h => ?_))
    refine gh_goto (tgt := 22) gd_Model_takesSets_18 (by decide) ?_
    exact hJ22 r2538 hF h
  · have h := hB c2536
    refine gh_iconst gd_Model_takesSets_21 (gh_r0 rfl) ?_
    exact hJ22 1 hF h
def w_Model_opens (m : gh_M) (Q : Int → gh_M → Prop) : Prop := (((m 63 15) = 3 → Q 3 m) ∧ (¬ ((m 63 15) = 3) → gh_i ((m 63 15) + 1) ∧ 0 ≤ ((m 63 15) + 1) ∧ (((m 63 15) + 1)) < 4 ∧ gh_i ((m 63 16) + 1) ∧ 0 ≤ ((m 63 15) + 1) ∧ (((m 63 15) + 1)) < 4 ∧ 0 ≤ ((m 63 15) + 1) ∧ (((m 63 15) + 1)) < 4 ∧ Q 0 (gh_u (gh_u (gh_u (gh_u (gh_u m 63 15 ((m 63 15) + 1)) 69 (((m 63 15) + 1)) (m 63 16)) 63 16 ((m 63 16) + 1)) 71 (((m 63 15) + 1)) 0) 73 (((m 63 15) + 1)) 0)))
theorem s_Model_opens {E : gh_E} {m : gh_M} {Q : Int → gh_M → Prop} (d : Nat) (hF : gh_F m) (h : w_Model_opens m Q) : gh_C E gh_yModel_opens prog_14_method_22_code 1 (some .int) 0 (d + 0) [(2, 63)] m (fun r m1 => gh_F m1 ∧ Q r m1) := by
  refine gh_enter2 (L := [(0, 2, 63)]) (by decide +kernel) gh_rt0 (Nat.le_of_ble_eq_true rfl) rfl rfl ?_
  unfold w_Model_opens at h
  refine gh_aload_n gd_Model_opens_0 0 rfl (by decide) ?_
  refine gf_63_15 gd_Model_opens_1 gh_k1382 hF rfl ?_
  refine gh_iconst gd_Model_opens_4 (gh_r0 rfl) ?_
  obtain ⟨hA, hB⟩ := h
  refine gh_jne (tgt := 10) gd_Model_opens_5 (by decide) (fun c2540 => ?_) (fun c2540 => ?_)
  · have h := hA c2540
    refine gh_iconst gd_Model_opens_8 (gh_r0 rfl) ?_
    exact gh_ret0 rfl gd_Model_opens_9 ⟨hF, h⟩
  · have h := hB c2540
    refine gh_aload_n gd_Model_opens_10 0 rfl (by decide) ?_
    refine gh_dup gd_Model_opens_11 (by decide) ?_
    refine gf_63_15 gd_Model_opens_12 gh_k1382 hF rfl ?_
    refine gh_iconst gd_Model_opens_15 (gh_r0 rfl) ?_
    obtain ⟨q2541, h⟩ := h
    refine gh_iadd gd_Model_opens_16 q2541 ?_
    refine pf_63_15 gd_Model_opens_17 gh_k1382 hF (fun hF => ?_)
    refine gh_aload_n gd_Model_opens_20 0 rfl (by decide) ?_
    refine gf_63_17 gd_Model_opens_21 gh_k1384 hF ?_
    refine gh_aload_n gd_Model_opens_24 0 rfl (by decide) ?_
    refine gf_63_15 gd_Model_opens_25 gh_k1382 hF (gh_u_s _ _ _ _) ?_
    refine gh_aload_n gd_Model_opens_28 0 rfl (by decide) ?_
    refine gf_63_16 gd_Model_opens_29 gh_k1383 hF (gh_u_i (by decide)) ?_
    obtain ⟨q2542, h⟩ := h
    obtain ⟨q2543, h⟩ := h
    refine sa_69 gd_Model_opens_32 hF q2542 q2543 (fun hF => ?_)
    refine gh_aload_n gd_Model_opens_33 0 rfl (by decide) ?_
    refine gh_dup gd_Model_opens_34 (by decide) ?_
    refine gf_63_16 gd_Model_opens_35 gh_k1383 hF ((gh_u_a (by decide)).trans (gh_u_i (by decide))) ?_
    refine gh_iconst gd_Model_opens_38 (gh_r0 rfl) ?_
    obtain ⟨q2544, h⟩ := h
    refine gh_iadd gd_Model_opens_39 q2544 ?_
    refine pf_63_16 gd_Model_opens_40 gh_k1383 hF (fun hF => ?_)
    refine gh_aload_n gd_Model_opens_43 0 rfl (by decide) ?_
    refine gf_63_19 gd_Model_opens_44 gh_k1386 hF ?_
    refine gh_aload_n gd_Model_opens_47 0 rfl (by decide) ?_
    refine gf_63_15 gd_Model_opens_48 gh_k1382 hF ((gh_u_i (by decide)).trans ((gh_u_a (by decide)).trans (gh_u_s _ _ _ _))) ?_
    refine gh_iconst gd_Model_opens_51 (gh_r0 rfl) ?_
    obtain ⟨q2545, h⟩ := h
    obtain ⟨q2546, h⟩ := h
    refine sa_71 gd_Model_opens_52 hF q2545 q2546 (fun hF => ?_)
    refine gh_aload_n gd_Model_opens_53 0 rfl (by decide) ?_
    refine gf_63_21 gd_Model_opens_54 gh_k1388 hF ?_
    refine gh_aload_n gd_Model_opens_57 0 rfl (by decide) ?_
    refine gf_63_15 gd_Model_opens_58 gh_k1382 hF ((gh_u_a (by decide)).trans ((gh_u_i (by decide)).trans ((gh_u_a (by decide)).trans (gh_u_s _ _ _ _)))) ?_
    refine gh_iconst gd_Model_opens_61 (gh_r0 rfl) ?_
    obtain ⟨q2547, h⟩ := h
    obtain ⟨q2548, h⟩ := h
    refine sa_73 gd_Model_opens_62 hF q2547 q2548 (fun hF => ?_)
    refine gh_iconst gd_Model_opens_63 (gh_r0 rfl) ?_
    exact gh_ret0 rfl gd_Model_opens_64 ⟨hF, h⟩
def f_Model_endRow_33 (Q : Int → gh_M → Prop) (K33 : Int → gh_M → Prop) (v1 : Int) (m : gh_M) : Prop := 0 ≤ m 63 15 ∧ (m 63 15) < 4 ∧ ((v1 < (m 71 (m 63 15)) → gh_i (4 * (m 63 11)) ∧ gh_i ((4 * (m 63 11)) + v1) ∧ gh_i (4 * (m 63 15)) ∧ gh_i ((4 * (m 63 15)) + v1) ∧ 0 ≤ (4 * (m 63 15)) + v1 ∧ ((4 * (m 63 15)) + v1) < 16 ∧ 0 ≤ (4 * (m 63 11)) + v1 ∧ ((4 * (m 63 11)) + v1) < 80 ∧ gh_i (v1 + 1) ∧ K33 (v1 + 1) (gh_u m 68 ((4 * (m 63 11)) + v1) (m 72 ((4 * (m 63 15)) + v1)))) ∧ (¬ (v1 < (m 71 (m 63 15))) → gh_i ((m 63 11) + 1) ∧ 0 ≤ m 63 15 ∧ (m 63 15) < 4 ∧ 0 ≤ m 63 15 ∧ (m 63 15) < 4 ∧ Q 0 (gh_u (gh_u (gh_u m 63 11 ((m 63 11) + 1)) 71 (m 63 15) 0) 73 (m 63 15) 0)))
def w_Model_endRow (m : gh_M) (Q : Int → gh_M → Prop) : Prop := k_Model_ownerNow m ∧ 0 ≤ m 63 11 ∧ (m 63 11) < 20 ∧ 0 ≤ m 63 15 ∧ (m 63 15) < 4 ∧ 0 ≤ m 63 11 ∧ (m 63 11) < 20 ∧ gh_M1 (fun K33 v1 m => f_Model_endRow_33 Q K33 v1 m) 0 (gh_u (gh_u m 66 (m 63 11) (x_Model_ownerNow m)) 67 (m 63 11) (m 71 (m 63 15)))
theorem b_Model_endRow_33 {E : gh_E} {Q : Int → gh_M → Prop} {K33 : Int → gh_M → Prop} (d : Nat) (hK : ∀ (v1 : Int) (m : gh_M), gh_F m → K33 v1 m → gh_T E (gh_yModel_endRow.cls, prog_14_method_18_code, 2, false, 9) (d + 1) 33 [(0, 2, 63), (1, 0, v1)] [] m (fun r m1 => gh_F m1 ∧ Q r m1)) (v1 : Int) (m : gh_M) (hF : gh_F m) (h : f_Model_endRow_33 Q K33 v1 m) : gh_T E (gh_yModel_endRow.cls, prog_14_method_18_code, 2, false, 9) (d + 1) 33 [(0, 2, 63), (1, 0, v1)] [] m (fun r m1 => gh_F m1 ∧ Q r m1) := by
  have hK33 := hK
  unfold f_Model_endRow_33 at h
  refine gh_iload_n gd_Model_endRow_33 1 rfl ?_
  refine gh_aload_n gd_Model_endRow_34 0 rfl (by decide) ?_
  refine gf_63_19 gd_Model_endRow_35 gh_k1386 hF ?_
  refine gh_aload_n gd_Model_endRow_38 0 rfl (by decide) ?_
  refine gf_63_15 gd_Model_endRow_39 gh_k1382 hF rfl ?_
  obtain ⟨q2556, h⟩ := h
  obtain ⟨q2557, h⟩ := h
  refine la_71 gd_Model_endRow_42 hF q2556 q2557 rfl ?_
  obtain ⟨hA, hB⟩ := h
  refine gh_jge (tgt := 78) gd_Model_endRow_43 (by decide) (fun c2558 => ?_) (fun c2558 => ?_)
  · have h := hA c2558
    refine gh_aload_n gd_Model_endRow_46 0 rfl (by decide) ?_
    refine gf_63_14 gd_Model_endRow_47 gh_k1381 hF ?_
    refine gh_iconst gd_Model_endRow_50 (gh_r0 rfl) ?_
    refine gh_aload_n gd_Model_endRow_51 0 rfl (by decide) ?_
    refine gf_63_11 gd_Model_endRow_52 gh_k1378 hF rfl ?_
    obtain ⟨q2559, h⟩ := h
    refine gh_imul gd_Model_endRow_55 q2559 ?_
    refine gh_iload_n gd_Model_endRow_56 1 rfl ?_
    obtain ⟨q2560, h⟩ := h
    refine gh_iadd gd_Model_endRow_57 q2560 ?_
    refine gh_aload_n gd_Model_endRow_58 0 rfl (by decide) ?_
    refine gf_63_20 gd_Model_endRow_59 gh_k1387 hF ?_
    refine gh_iconst gd_Model_endRow_62 (gh_r0 rfl) ?_
    refine gh_aload_n gd_Model_endRow_63 0 rfl (by decide) ?_
    refine gf_63_15 gd_Model_endRow_64 gh_k1382 hF rfl ?_
    obtain ⟨q2561, h⟩ := h
    refine gh_imul gd_Model_endRow_67 q2561 ?_
    refine gh_iload_n gd_Model_endRow_68 1 rfl ?_
    obtain ⟨q2562, h⟩ := h
    refine gh_iadd gd_Model_endRow_69 q2562 ?_
    obtain ⟨q2563, h⟩ := h
    obtain ⟨q2564, h⟩ := h
    refine la_72 gd_Model_endRow_70 hF q2563 q2564 rfl ?_
    obtain ⟨q2565, h⟩ := h
    obtain ⟨q2566, h⟩ := h
    refine sa_68 gd_Model_endRow_71 hF q2565 q2566 (fun hF => ?_)
    obtain ⟨q2567, h⟩ := h
    refine gh_iinc (L2 := [(1, 0, v1 + 1), (0, 2, 63)]) gd_Model_endRow_72 1 rfl q2567 (by decide) rfl ?_
    refine gh_goto (tgt := 33) gd_Model_endRow_75 (by decide) ?_
    refine gh_pick (L2 := [(0, 2, 63), (1, 0, v1 + 1)]) [1, 0] rfl ?_
    exact hK33 (v1 + 1) (gh_u m 68 ((4 * (m 63 11)) + v1) (m 72 ((4 * (m 63 15)) + v1))) hF h
  · have h := hB c2558
    refine gh_aload_n gd_Model_endRow_78 0 rfl (by decide) ?_
    refine gh_dup gd_Model_endRow_79 (by decide) ?_
    refine gf_63_11 gd_Model_endRow_80 gh_k1378 hF rfl ?_
    refine gh_iconst gd_Model_endRow_83 (gh_r0 rfl) ?_
    obtain ⟨q2568, h⟩ := h
    refine gh_iadd gd_Model_endRow_84 q2568 ?_
    refine pf_63_11 gd_Model_endRow_85 gh_k1378 hF (fun hF => ?_)
    refine gh_aload_n gd_Model_endRow_88 0 rfl (by decide) ?_
    refine gf_63_19 gd_Model_endRow_89 gh_k1386 hF ?_
    refine gh_aload_n gd_Model_endRow_92 0 rfl (by decide) ?_
    refine gf_63_15 gd_Model_endRow_93 gh_k1382 hF (gh_u_i (by decide)) ?_
    refine gh_iconst gd_Model_endRow_96 (gh_r0 rfl) ?_
    obtain ⟨q2569, h⟩ := h
    obtain ⟨q2570, h⟩ := h
    refine sa_71 gd_Model_endRow_97 hF q2569 q2570 (fun hF => ?_)
    refine gh_aload_n gd_Model_endRow_98 0 rfl (by decide) ?_
    refine gf_63_21 gd_Model_endRow_99 gh_k1388 hF ?_
    refine gh_aload_n gd_Model_endRow_102 0 rfl (by decide) ?_
    refine gf_63_15 gd_Model_endRow_103 gh_k1382 hF ((gh_u_a (by decide)).trans (gh_u_i (by decide))) ?_
    refine gh_iconst gd_Model_endRow_106 (gh_r0 rfl) ?_
    obtain ⟨q2571, h⟩ := h
    obtain ⟨q2572, h⟩ := h
    refine sa_73 gd_Model_endRow_107 hF q2571 q2572 (fun hF => ?_)
    exact gh_ret9 rfl gd_Model_endRow_108 ⟨hF, h⟩
theorem s_Model_endRow {E : gh_E} {m : gh_M} {Q : Int → gh_M → Prop} (d : Nat) (hF : gh_F m) (h : w_Model_endRow m Q) : gh_C E gh_yModel_endRow prog_14_method_18_code 2 none 9 (d + 1) [(2, 63)] m (fun r m1 => gh_F m1 ∧ Q r m1) := by
  refine gh_enter2 (L := [(0, 2, 63)]) (by decide +kernel) gh_rt9 (Nat.le_of_ble_eq_true rfl) rfl rfl ?_
  unfold w_Model_endRow at h
  refine gh_aload_n gd_Model_endRow_0 0 rfl (by decide) ?_
  refine gf_63_12 gd_Model_endRow_1 gh_k1379 hF ?_
  refine gh_aload_n gd_Model_endRow_4 0 rfl (by decide) ?_
  refine gf_63_11 gd_Model_endRow_5 gh_k1378 hF rfl ?_
  refine gh_aload_n gd_Model_endRow_8 0 rfl (by decide) ?_
  obtain ⟨q2549, h⟩ := h
  refine cv_Model_ownerNow (d := d) gd_Model_endRow_9 gh_k1709 hF (Nat.le_of_ble_eq_true rfl) (gh_C.pe (e_Model_ownerNow d  hF q2549) ?_)
  obtain ⟨q2550, h⟩ := h
  obtain ⟨q2551, h⟩ := h
  refine sa_66 gd_Model_endRow_12 hF q2550 q2551 (fun hF => ?_)
  refine gh_aload_n gd_Model_endRow_13 0 rfl (by decide) ?_
  refine gf_63_13 gd_Model_endRow_14 gh_k1380 hF ?_
  refine gh_aload_n gd_Model_endRow_17 0 rfl (by decide) ?_
  refine gf_63_11 gd_Model_endRow_18 gh_k1378 hF (gh_u_a (by decide)) ?_
  refine gh_aload_n gd_Model_endRow_21 0 rfl (by decide) ?_
  refine gf_63_19 gd_Model_endRow_22 gh_k1386 hF ?_
  refine gh_aload_n gd_Model_endRow_25 0 rfl (by decide) ?_
  refine gf_63_15 gd_Model_endRow_26 gh_k1382 hF (gh_u_a (by decide)) ?_
  obtain ⟨q2552, h⟩ := h
  obtain ⟨q2553, h⟩ := h
  refine la_71 gd_Model_endRow_29 hF q2552 q2553 (gh_u_a (by decide)) ?_
  obtain ⟨q2554, h⟩ := h
  obtain ⟨q2555, h⟩ := h
  refine sa_67 gd_Model_endRow_30 hF q2554 q2555 (fun hF => ?_)
  refine gh_iconst gd_Model_endRow_31 (gh_r0 rfl) ?_
  refine gh_istore_n (L2 := [(1, 0, 0), (0, 2, 63)]) gd_Model_endRow_32 (by decide) rfl ?_
  refine gh_pick (L2 := [(0, 2, 63), (1, 0, 0)]) [1, 0] rfl ?_
  exact gh_M1_sound (T := fun v1 m => gh_T E (gh_yModel_endRow.cls, prog_14_method_18_code, 2, false, 9) (d + 1) 33 [(0, 2, 63), (1, 0, v1)] [] m (fun r m1 => gh_F m1 ∧ Q r m1)) (fun _ m => gh_F m) (fun K33 v1 m hK hF h => b_Model_endRow_33 d hK v1 m hF h) 0 (gh_u (gh_u m 66 (m 63 11) (x_Model_ownerNow m)) 67 (m 63 11) (m 71 (m 63 15))) hF h
def w_Model_closes (m : gh_M) (Q : Int → gh_M → Prop) : Prop := (((m 63 15) = 0 → Q 2 m) ∧ (¬ ((m 63 15) = 0) → ((¬ ((m 63 11) = 20) → (gh_i ((m 63 8) + (m 63 9)) ∧ (¬ (((m 63 8) + (m 63 9)) = 8) → (gh_i ((m 63 15) - 1) ∧ 0 ≤ (m 63 15) - 1 ∧ ((m 63 15) - 1) < 4))))) ∧ (((((m 63 11) = 20) ∨ ((((m 63 8) + (m 63 9)) = 8) ∨ ((m 71 ((m 63 15) - 1)) = 4))) → Q 3 m) ∧ (¬ (((m 63 11) = 20) ∨ ((((m 63 8) + (m 63 9)) = 8) ∨ ((m 71 ((m 63 15) - 1)) = 4))) → 0 ≤ m 63 15 ∧ (m 63 15) < 4 ∧ 0 ≤ m 69 (m 63 15) ∧ (m 69 (m 63 15)) < 300 ∧ w_Model_endRow (gh_u m 70 (m 69 (m 63 15)) (m 63 9)) (fun _ m2585 => gh_i ((m2585 63 15) - 1) ∧ gh_i ((-2000) - (m2585 63 9)) ∧ w_Model_addPart ((-2000) - (m2585 63 9)) (gh_u m2585 63 15 ((m2585 63 15) - 1)) (fun _ m2589 => gh_i ((m2589 63 9) + 1) ∧ 0 ≤ m2589 63 15 ∧ (m2589 63 15) < 4 ∧ Q 0 (gh_u (gh_u m2589 63 9 ((m2589 63 9) + 1)) 73 (m2589 63 15) 1)))))))
theorem s_Model_closes {E : gh_E} {m : gh_M} {Q : Int → gh_M → Prop} (d : Nat) (hF : gh_F m) (h : w_Model_closes m Q) : gh_C E gh_yModel_closes prog_14_method_21_code 1 (some .int) 0 (d + 2) [(2, 63)] m (fun r m1 => gh_F m1 ∧ Q r m1) := by
  refine gh_enter2 (L := [(0, 2, 63)]) (by decide +kernel) gh_rt0 (Nat.le_of_ble_eq_true rfl) rfl rfl ?_
  unfold w_Model_closes at h
  refine gh_aload_n gd_Model_closes_0 0 rfl (by decide) ?_
  refine gf_63_15 gd_Model_closes_1 gh_k1382 hF rfl ?_
  obtain ⟨hA, hB⟩ := h
  refine gh_zne (tgt := 9) gd_Model_closes_4 (by decide) (fun c2573 => ?_) (fun c2573 => ?_)
  · have h := hA c2573
    refine gh_iconst gd_Model_closes_7 (gh_r0 rfl) ?_
    exact gh_ret0 rfl gd_Model_closes_8 ⟨hF, h⟩
  · have h := hB c2573
    refine gh_aload_n gd_Model_closes_9 0 rfl (by decide) ?_
    refine gf_63_11 gd_Model_closes_10 gh_k1378 hF rfl ?_
    refine gh_bipush gd_Model_closes_13 (by decide) (gh_r0 rfl) ?_
    obtain ⟨hk, hA, hB⟩ := h
    have k2578 : (((m 63 11) = 20) ∨ ((((m 63 8) + (m 63 9)) = 8) ∨ ((m 71 ((m 63 15) - 1)) = 4))) → gh_T E (gh_yModel_closes.cls, prog_14_method_21_code, 1, false, 0) (d + 2) 47 [(0, 2, 63)] [] m (fun r m1 => gh_F m1 ∧ Q r m1) := by
      intro c
      have h := hA c
      refine gh_iconst gd_Model_closes_47 (gh_r0 rfl) ?_
      exact gh_ret0 rfl gd_Model_closes_48 ⟨hF, h⟩
    have k2579 : ¬ (((m 63 11) = 20) ∨ ((((m 63 8) + (m 63 9)) = 8) ∨ ((m 71 ((m 63 15) - 1)) = 4))) → gh_T E (gh_yModel_closes.cls, prog_14_method_21_code, 1, false, 0) (d + 2) 49 [(0, 2, 63)] [] m (fun r m1 => gh_F m1 ∧ Q r m1) := by
      intro c
      have h := hB c
      refine gh_aload_n gd_Model_closes_49 0 rfl (by decide) ?_
      refine gf_63_18 gd_Model_closes_50 gh_k1385 hF ?_
      refine gh_aload_n gd_Model_closes_53 0 rfl (by decide) ?_
      refine gf_63_17 gd_Model_closes_54 gh_k1384 hF ?_
      refine gh_aload_n gd_Model_closes_57 0 rfl (by decide) ?_
      refine gf_63_15 gd_Model_closes_58 gh_k1382 hF rfl ?_
      obtain ⟨q2580, h⟩ := h
      obtain ⟨q2581, h⟩ := h
      refine la_69 gd_Model_closes_61 hF q2580 q2581 rfl ?_
      refine gh_aload_n gd_Model_closes_62 0 rfl (by decide) ?_
      refine gf_63_9 gd_Model_closes_63 gh_k1376 hF rfl ?_
      obtain ⟨q2582, h⟩ := h
      obtain ⟨q2583, h⟩ := h
      refine sa_70 gd_Model_closes_66 hF q2582 q2583 (fun hF => ?_)
      refine gh_aload_n gd_Model_closes_67 0 rfl (by decide) ?_
      refine cv_Model_endRow (d := d + 1) gd_Model_closes_68 gh_k1705 hF (Nat.le_of_ble_eq_true rfl) (gh_C.mono (s_Model_endRow d hF h) (fun r2584 m2585 hq => ?_))
      obtain ⟨hF, h⟩ := hq
      refine gh_aload_n gd_Model_closes_71 0 rfl (by decide) ?_
      refine gh_dup gd_Model_closes_72 (by decide) ?_
      refine gf_63_15 gd_Model_closes_73 gh_k1382 hF rfl ?_
      refine gh_iconst gd_Model_closes_76 (gh_r0 rfl) ?_
      obtain ⟨q2586, h⟩ := h
      refine gh_isub gd_Model_closes_77 q2586 ?_
      refine pf_63_15 gd_Model_closes_78 gh_k1382 hF (fun hF => ?_)
      refine gh_aload_n gd_Model_closes_81 0 rfl (by decide) ?_
      refine gh_sipush gd_Model_closes_82 (by decide) (gh_r0 rfl) ?_
      refine gh_aload_n gd_Model_closes_85 0 rfl (by decide) ?_
      refine gf_63_9 gd_Model_closes_86 gh_k1376 hF (gh_u_i (by decide)) ?_
      obtain ⟨q2587, h⟩ := h
      refine gh_isub gd_Model_closes_89 q2587 ?_
      refine cv_Model_addPart (d := d + 1) gd_Model_closes_90 gh_k1693 hF (Nat.le_of_ble_eq_true rfl) (gh_C.mono (s_Model_addPart (d + 1) ((-2000) - (m2585 63 9)) hF h) (fun r2588 m2589 hq => ?_))
      obtain ⟨hF, h⟩ := hq
      refine gh_aload_n gd_Model_closes_93 0 rfl (by decide) ?_
      refine gh_dup gd_Model_closes_94 (by decide) ?_
      refine gf_63_9 gd_Model_closes_95 gh_k1376 hF rfl ?_
      refine gh_iconst gd_Model_closes_98 (gh_r0 rfl) ?_
      obtain ⟨q2590, h⟩ := h
      refine gh_iadd gd_Model_closes_99 q2590 ?_
      refine pf_63_9 gd_Model_closes_100 gh_k1376 hF (fun hF => ?_)
      refine gh_aload_n gd_Model_closes_103 0 rfl (by decide) ?_
      refine gf_63_21 gd_Model_closes_104 gh_k1388 hF ?_
      refine gh_aload_n gd_Model_closes_107 0 rfl (by decide) ?_
      refine gf_63_15 gd_Model_closes_108 gh_k1382 hF (gh_u_i (by decide)) ?_
      refine gh_iconst gd_Model_closes_111 (gh_r0 rfl) ?_
      obtain ⟨q2591, h⟩ := h
      obtain ⟨q2592, h⟩ := h
      refine sa_73 gd_Model_closes_112 hF q2591 q2592 (fun hF => ?_)
      refine gh_iconst gd_Model_closes_113 (gh_r0 rfl) ?_
      exact gh_ret0 rfl gd_Model_closes_114 ⟨hF, h⟩
    refine gh_jeq (tgt := 47) gd_Model_closes_15 (by decide) (fun c2593 => ?_) (fun c2593 => ?_)
    · have hz : True := trivial
      exact k2578 (Or.inl c2593)
    · have hz : True := trivial
      have hk := hk c2593
      refine gh_aload_n gd_Model_closes_18 0 rfl (by decide) ?_
      refine gf_63_8 gd_Model_closes_19 gh_k1375 hF rfl ?_
      refine gh_aload_n gd_Model_closes_22 0 rfl (by decide) ?_
      refine gf_63_9 gd_Model_closes_23 gh_k1376 hF rfl ?_
      obtain ⟨q2574, hk⟩ := hk
      refine gh_iadd gd_Model_closes_26 q2574 ?_
      refine gh_bipush gd_Model_closes_27 (by decide) (gh_r0 rfl) ?_
      refine gh_jeq (tgt := 47) gd_Model_closes_29 (by decide) (fun c2594 => ?_) (fun c2594 => ?_)
      · have hz : True := trivial
        exact k2578 (Or.inr (Or.inl c2594))
      · have hz : True := trivial
        have hk := hk c2594
        refine gh_aload_n gd_Model_closes_32 0 rfl (by decide) ?_
        refine gf_63_19 gd_Model_closes_33 gh_k1386 hF ?_
        refine gh_aload_n gd_Model_closes_36 0 rfl (by decide) ?_
        refine gf_63_15 gd_Model_closes_37 gh_k1382 hF rfl ?_
        refine gh_iconst gd_Model_closes_40 (gh_r0 rfl) ?_
        obtain ⟨q2575, hk⟩ := hk
        refine gh_isub gd_Model_closes_41 q2575 ?_
        obtain ⟨q2576, hk⟩ := hk
        have q2577 := hk
        refine la_71 gd_Model_closes_42 hF q2576 q2577 rfl ?_
        refine gh_iconst gd_Model_closes_43 (gh_r0 rfl) ?_
        refine gh_jne (tgt := 49) gd_Model_closes_44 (by decide) (fun c2595 => ?_) (fun c2595 => ?_)
        · have hz : True := trivial
          exact k2578 (Or.inr (Or.inr c2595))
        · have hz : True := trivial
          exact k2579 (fun z => z.elim c2593 (fun z => z.elim c2594 c2595))
def f_Model_makeRow_67 (v3 : Int) (v5 : Int) (Q : Int → gh_M → Prop) (K67 : Int → Int → gh_M → Prop) (v4 : Int) (v6 : Int) (m : gh_M) : Prop := 0 ≤ m 63 15 ∧ (m 63 15) < 4 ∧ ∃ J118 : Int → gh_M → Prop, (∀ (v4' : Int) (m : gh_M), J118 v4' m → 0 ≤ m 63 11 ∧ (m 63 11) < 20 ∧ gh_i ((m 63 11) + 1) ∧ Q 0 (gh_u (gh_u m 67 (m 63 11) v4') 63 11 ((m 63 11) + 1))) ∧ (((¬ (v6 < (m 73 (m 63 15))) ∨ (v3 = 0)) → J118 v4 m) ∧ (¬ (¬ (v6 < (m 73 (m 63 15))) ∨ (v3 = 0)) → gh_i (4 * (m 63 11)) ∧ gh_i ((4 * (m 63 11)) + v4) ∧ gh_i (v5 + v6) ∧ 0 ≤ v5 + v6 ∧ (v5 + v6) < 16 ∧ 0 ≤ (4 * (m 63 11)) + v4 ∧ ((4 * (m 63 11)) + v4) < 80 ∧ gh_i (v4 + 1) ∧ gh_i (v6 + 1) ∧ K67 (v4 + 1) (v6 + 1) (gh_u m 68 ((4 * (m 63 11)) + v4) (m 72 (v5 + v6)))))
def w_Model_makeRow (v1 : Int) (v2 : Int) (v3 : Int) (m : gh_M) (Q : Int → gh_M → Prop) : Prop := gh_i (200 + v1) ∧ 0 ≤ m 63 11 ∧ (m 63 11) < 20 ∧ ∃ J36 : Int → gh_M → Prop, (∀ (v4 : Int) (m : gh_M), J36 v4 m → gh_i (4 * (m 63 15)) ∧ 0 ≤ m 63 15 ∧ (m 63 15) < 4 ∧ gh_i ((4 * (m 63 15)) + (m 71 (m 63 15))) ∧ 0 ≤ m 63 15 ∧ (m 63 15) < 4 ∧ gh_i (((4 * (m 63 15)) + (m 71 (m 63 15))) - (m 73 (m 63 15))) ∧ ∀ v5 : Int, v5 = ((4 * (m 63 15)) + (m 71 (m 63 15))) - (m 73 (m 63 15)) → gh_M2 (fun K67 v4 v6 m => f_Model_makeRow_67 v3 v5 Q K67 v4 v6 m) v4 0 m) ∧ ((v2 = 0 → J36 0 (gh_u m 66 (m 63 11) (200 + v1))) ∧ (¬ (v2 = 0) → gh_i (4 * (m 63 11)) ∧ 0 ≤ 4 * (m 63 11) ∧ (4 * (m 63 11)) < 80 ∧ J36 1 (gh_u (gh_u m 66 (m 63 11) (200 + v1)) 68 (4 * (m 63 11)) v2)))
theorem b_Model_makeRow_67 {E : gh_E} {v3 : Int} {v5 : Int} {Q : Int → gh_M → Prop} {K67 : Int → Int → gh_M → Prop} (d : Nat) (hK : ∀ (v4 : Int) (v6 : Int) (m : gh_M), gh_F m → K67 v4 v6 m → gh_T E (gh_yModel_makeRow.cls, prog_14_method_19_code, 7, false, 9) (d + 0) 67 [(0, 2, 63), (3, 0, v3), (4, 0, v4), (5, 0, v5), (6, 0, v6)] [] m (fun r m1 => gh_F m1 ∧ Q r m1)) (v4 : Int) (v6 : Int) (m : gh_M) (hF : gh_F m) (h : f_Model_makeRow_67 v3 v5 Q K67 v4 v6 m) : gh_T E (gh_yModel_makeRow.cls, prog_14_method_19_code, 7, false, 9) (d + 0) 67 [(0, 2, 63), (3, 0, v3), (4, 0, v4), (5, 0, v5), (6, 0, v6)] [] m (fun r m1 => gh_F m1 ∧ Q r m1) := by
  have hK67 := hK
  unfold f_Model_makeRow_67 at h
  refine gh_iload gd_Model_makeRow_67 4 rfl ?_
  refine gh_aload_n gd_Model_makeRow_69 0 rfl (by decide) ?_
  refine gf_63_21 gd_Model_makeRow_70 gh_k1388 hF ?_
  refine gh_aload_n gd_Model_makeRow_73 0 rfl (by decide) ?_
  refine gf_63_15 gd_Model_makeRow_74 gh_k1382 hF rfl ?_
  obtain ⟨q2606, h⟩ := h
  obtain ⟨q2607, h⟩ := h
  refine la_73 gd_Model_makeRow_77 hF q2606 q2607 rfl ?_
  obtain ⟨J118, hJ118, h⟩ := h
  have hJ118 : ∀ (v4' : Int) (m : gh_M), gh_F m → J118 v4' m → gh_T E (gh_yModel_makeRow.cls, prog_14_method_19_code, 7, false, 9) (d + 0) 118 [(0, 2, 63), (4, 0, v4')] [] m (fun r m1 => gh_F m1 ∧ Q r m1) := by
    intro v4' m hF hj
    have h := hJ118 v4' m hj
    refine gh_aload_n gd_Model_makeRow_118 0 rfl (by decide) ?_
    refine gf_63_13 gd_Model_makeRow_119 gh_k1380 hF ?_
    refine gh_aload_n gd_Model_makeRow_122 0 rfl (by decide) ?_
    refine gf_63_11 gd_Model_makeRow_123 gh_k1378 hF rfl ?_
    refine gh_iload gd_Model_makeRow_126 1 rfl ?_
    obtain ⟨q2608, h⟩ := h
    obtain ⟨q2609, h⟩ := h
    refine sa_67 gd_Model_makeRow_128 hF q2608 q2609 (fun hF => ?_)
    refine gh_aload_n gd_Model_makeRow_129 0 rfl (by decide) ?_
    refine gh_dup gd_Model_makeRow_130 (by decide) ?_
    refine gf_63_11 gd_Model_makeRow_131 gh_k1378 hF (gh_u_a (by decide)) ?_
    refine gh_iconst gd_Model_makeRow_134 (gh_r0 rfl) ?_
    obtain ⟨q2610, h⟩ := h
    refine gh_iadd gd_Model_makeRow_135 q2610 ?_
    refine pf_63_11 gd_Model_makeRow_136 gh_k1378 hF (fun hF => ?_)
    exact gh_ret9 rfl gd_Model_makeRow_139 ⟨hF, h⟩
  obtain ⟨hA, hB⟩ := h
  have k2611 : (¬ (v6 < (m 73 (m 63 15))) ∨ (v3 = 0)) → gh_T E (gh_yModel_makeRow.cls, prog_14_method_19_code, 7, false, 9) (d + 0) 118 [(0, 2, 63), (3, 0, v3), (4, 0, v4), (5, 0, v5), (6, 0, v6)] [] m (fun r m1 => gh_F m1 ∧ Q r m1) := by
    intro c
    have h := hA c
    refine gh_pick (L2 := [(0, 2, 63), (4, 0, v4)]) [0, 2] rfl ?_
    exact hJ118 v4 m hF h
  have k2612 : ¬ (¬ (v6 < (m 73 (m 63 15))) ∨ (v3 = 0)) → gh_T E (gh_yModel_makeRow.cls, prog_14_method_19_code, 7, false, 9) (d + 0) 85 [(0, 2, 63), (3, 0, v3), (4, 0, v4), (5, 0, v5), (6, 0, v6)] [] m (fun r m1 => gh_F m1 ∧ Q r m1) := by
    intro c
    have h := hB c
    refine gh_aload_n gd_Model_makeRow_85 0 rfl (by decide) ?_
    refine gf_63_14 gd_Model_makeRow_86 gh_k1381 hF ?_
    refine gh_iconst gd_Model_makeRow_89 (gh_r0 rfl) ?_
    refine gh_aload_n gd_Model_makeRow_90 0 rfl (by decide) ?_
    refine gf_63_11 gd_Model_makeRow_91 gh_k1378 hF rfl ?_
    obtain ⟨q2613, h⟩ := h
    refine gh_imul gd_Model_makeRow_94 q2613 ?_
    refine gh_iload gd_Model_makeRow_95 2 rfl ?_
    obtain ⟨q2614, h⟩ := h
    refine gh_iadd gd_Model_makeRow_97 q2614 ?_
    refine gh_aload_n gd_Model_makeRow_98 0 rfl (by decide) ?_
    refine gf_63_20 gd_Model_makeRow_99 gh_k1387 hF ?_
    refine gh_iload gd_Model_makeRow_102 3 rfl ?_
    refine gh_iload gd_Model_makeRow_104 4 rfl ?_
    obtain ⟨q2615, h⟩ := h
    refine gh_iadd gd_Model_makeRow_106 q2615 ?_
    obtain ⟨q2616, h⟩ := h
    obtain ⟨q2617, h⟩ := h
    refine la_72 gd_Model_makeRow_107 hF q2616 q2617 rfl ?_
    obtain ⟨q2618, h⟩ := h
    obtain ⟨q2619, h⟩ := h
    refine sa_68 gd_Model_makeRow_108 hF q2618 q2619 (fun hF => ?_)
    obtain ⟨q2620, h⟩ := h
    refine gh_iinc (L2 := [(4, 0, v4 + 1), (0, 2, 63), (3, 0, v3), (5, 0, v5), (6, 0, v6)]) gd_Model_makeRow_109 2 rfl q2620 (by decide) rfl ?_
    obtain ⟨q2621, h⟩ := h
    refine gh_iinc (L2 := [(6, 0, v6 + 1), (4, 0, v4 + 1), (0, 2, 63), (3, 0, v3), (5, 0, v5)]) gd_Model_makeRow_112 4 rfl q2621 (by decide) rfl ?_
    refine gh_goto (tgt := 67) gd_Model_makeRow_115 (by decide) ?_
    refine gh_pick (L2 := [(0, 2, 63), (3, 0, v3), (4, 0, v4 + 1), (5, 0, v5), (6, 0, v6 + 1)]) [2, 3, 1, 4, 0] rfl ?_
    exact hK67 (v4 + 1) (v6 + 1) (gh_u m 68 ((4 * (m 63 11)) + v4) (m 72 (v5 + v6))) hF h
  refine gh_jge (tgt := 118) gd_Model_makeRow_78 (by decide) (fun c2622 => ?_) (fun c2622 => ?_)
  · have hz : True := trivial
    refine gh_iload_n gd_Model_makeRow_81 1 rfl ?_
    refine gh_zeq (tgt := 118) gd_Model_makeRow_82 (by decide) (fun c2623 => ?_) (fun c2623 => ?_)
    · have hz : True := trivial
      exact k2611 (Or.inr c2623)
    · have hz : True := trivial
      exact k2612 (fun z => z.elim (fun w => w c2622) c2623)
  · have hz : True := trivial
    exact k2611 (Or.inl c2622)
theorem s_Model_makeRow {E : gh_E} {m : gh_M} {Q : Int → gh_M → Prop} (d : Nat) (v1 : Int) (v2 : Int) (v3 : Int) (hF : gh_F m) (h : w_Model_makeRow v1 v2 v3 m Q) : gh_C E gh_yModel_makeRow prog_14_method_19_code 7 none 9 (d + 0) [(2, 63), (0, v1), (0, v2), (0, v3)] m (fun r m1 => gh_F m1 ∧ Q r m1) := by
  refine gh_enter2 (L := [(0, 2, 63), (1, 0, v1), (2, 0, v2), (3, 0, v3)]) (by decide +kernel) gh_rt9 (Nat.le_of_ble_eq_true rfl) rfl rfl ?_
  unfold w_Model_makeRow at h
  refine gh_iconst gd_Model_makeRow_0 (gh_r0 rfl) ?_
  refine gh_istore (L2 := [(4, 0, 0), (0, 2, 63), (1, 0, v1), (2, 0, v2), (3, 0, v3)]) gd_Model_makeRow_1 (by decide) rfl ?_
  refine gh_aload_n gd_Model_makeRow_3 1 rfl (by decide) ?_
  refine gf_63_12 gd_Model_makeRow_4 gh_k1379 hF ?_
  refine gh_aload_n gd_Model_makeRow_7 1 rfl (by decide) ?_
  refine gf_63_11 gd_Model_makeRow_8 gh_k1378 hF rfl ?_
  refine gh_sipush gd_Model_makeRow_11 (by decide) (gh_r0 rfl) ?_
  refine gh_iload_n gd_Model_makeRow_14 2 rfl ?_
  obtain ⟨q2596, h⟩ := h
  refine gh_iadd gd_Model_makeRow_15 q2596 ?_
  obtain ⟨q2597, h⟩ := h
  obtain ⟨q2598, h⟩ := h
  refine sa_66 gd_Model_makeRow_16 hF q2597 q2598 (fun hF => ?_)
  refine gh_iload_n gd_Model_makeRow_17 3 rfl ?_
  obtain ⟨J36, hJ36, h⟩ := h
  have hJ36 : ∀ (v4 : Int) (m : gh_M), gh_F m → J36 v4 m → gh_T E (gh_yModel_makeRow.cls, prog_14_method_19_code, 7, false, 9) (d + 0) 36 [(0, 2, 63), (3, 0, v3), (4, 0, v4)] [] m (fun r m1 => gh_F m1 ∧ Q r m1) := by
    intro v4 m hF hj
    have h := hJ36 v4 m hj
    refine gh_iconst gd_Model_makeRow_36 (gh_r0 rfl) ?_
    refine gh_aload_n gd_Model_makeRow_37 0 rfl (by decide) ?_
    refine gf_63_15 gd_Model_makeRow_38 gh_k1382 hF rfl ?_
    obtain ⟨q2599, h⟩ := h
    refine gh_imul gd_Model_makeRow_41 q2599 ?_
    refine gh_aload_n gd_Model_makeRow_42 0 rfl (by decide) ?_
    refine gf_63_19 gd_Model_makeRow_43 gh_k1386 hF ?_
    refine gh_aload_n gd_Model_makeRow_46 0 rfl (by decide) ?_
    refine gf_63_15 gd_Model_makeRow_47 gh_k1382 hF rfl ?_
    obtain ⟨q2600, h⟩ := h
    obtain ⟨q2601, h⟩ := h
    refine la_71 gd_Model_makeRow_50 hF q2600 q2601 rfl ?_
    obtain ⟨q2602, h⟩ := h
    refine gh_iadd gd_Model_makeRow_51 q2602 ?_
    refine gh_aload_n gd_Model_makeRow_52 0 rfl (by decide) ?_
    refine gf_63_21 gd_Model_makeRow_53 gh_k1388 hF ?_
    refine gh_aload_n gd_Model_makeRow_56 0 rfl (by decide) ?_
    refine gf_63_15 gd_Model_makeRow_57 gh_k1382 hF rfl ?_
    obtain ⟨q2603, h⟩ := h
    obtain ⟨q2604, h⟩ := h
    refine la_73 gd_Model_makeRow_60 hF q2603 q2604 rfl ?_
    obtain ⟨q2605, h⟩ := h
    refine gh_isub gd_Model_makeRow_61 q2605 ?_
    refine gh_name (fun v5 hn => ?_)
    have h := h v5 hn
    refine gh_istore (L2 := [(5, 0, v5), (0, 2, 63), (3, 0, v3), (4, 0, v4)]) gd_Model_makeRow_62 (by decide) rfl ?_
    refine gh_iconst gd_Model_makeRow_64 (gh_r0 rfl) ?_
    refine gh_istore (L2 := [(6, 0, 0), (5, 0, v5), (0, 2, 63), (3, 0, v3), (4, 0, v4)]) gd_Model_makeRow_65 (by decide) rfl ?_
    refine gh_pick (L2 := [(0, 2, 63), (3, 0, v3), (4, 0, v4), (5, 0, v5), (6, 0, 0)]) [2, 3, 4, 1, 0] rfl ?_
    exact gh_M2_sound (T := fun v4 v6 m => gh_T E (gh_yModel_makeRow.cls, prog_14_method_19_code, 7, false, 9) (d + 0) 67 [(0, 2, 63), (3, 0, v3), (4, 0, v4), (5, 0, v5), (6, 0, v6)] [] m (fun r m1 => gh_F m1 ∧ Q r m1)) (fun _ _ m => gh_F m) (fun K67 v4 v6 m hK hF h => b_Model_makeRow_67 d hK v4 v6 m hF h) v4 0 m hF h
  obtain ⟨hA, hB⟩ := h
  refine gh_zeq (tgt := 36) gd_Model_makeRow_18 (by decide) (fun c2624 => ?_) (fun c2624 => ?_)
  · have h := hA c2624
    refine gh_pick (L2 := [(0, 2, 63), (3, 0, v3), (4, 0, 0)]) [1, 4, 0] rfl ?_
    exact hJ36 0 (gh_u m 66 (m 63 11) (200 + v1)) hF h
  · have h := hB c2624
    refine gh_aload_n gd_Model_makeRow_21 1 rfl (by decide) ?_
    refine gf_63_14 gd_Model_makeRow_22 gh_k1381 hF ?_
    refine gh_iconst gd_Model_makeRow_25 (gh_r0 rfl) ?_
    refine gh_aload_n gd_Model_makeRow_26 1 rfl (by decide) ?_
    refine gf_63_11 gd_Model_makeRow_27 gh_k1378 hF (gh_u_a (by decide)) ?_
    obtain ⟨q2625, h⟩ := h
    refine gh_imul gd_Model_makeRow_30 q2625 ?_
    refine gh_iload_n gd_Model_makeRow_31 3 rfl ?_
    obtain ⟨q2626, h⟩ := h
    obtain ⟨q2627, h⟩ := h
    refine sa_68 gd_Model_makeRow_32 hF q2626 q2627 (fun hF => ?_)
    refine gh_iconst gd_Model_makeRow_33 (gh_r0 rfl) ?_
    refine gh_istore (L2 := [(4, 0, 1), (0, 2, 63), (1, 0, v1), (2, 0, v2), (3, 0, v3)]) gd_Model_makeRow_34 (by decide) rfl ?_
    refine gh_pick (L2 := [(0, 2, 63), (3, 0, v3), (4, 0, 1)]) [1, 4, 0] rfl ?_
    exact hJ36 1 (gh_u (gh_u m 66 (m 63 11) (200 + v1)) 68 (4 * (m 63 11)) v2) hF h
def w_Model_repeats (m : gh_M) (Q : Int → gh_M → Prop) : Prop := 0 ≤ m 63 15 ∧ (m 63 15) < 4 ∧ (((m 73 (m 63 15)) = 0 → Q 2 m) ∧ (¬ ((m 73 (m 63 15)) = 0) → gh_i ((m 63 8) + (m 63 9)) ∧ ((¬ (((m 63 8) + (m 63 9)) = 8) → (gh_i ((m 63 11) + 2)))) ∧ (((¬ (((m 63 8) + (m 63 9)) = 8) ∧ (((m 63 11) + 2) ≤ 20)) → gh_i ((-2000) - (m 63 9)) ∧ ∀ v1 : Int, v1 = (-2000) - (m 63 9) → ∃ J115 : gh_M → Prop, (∀ (m : gh_M), J115 m → gh_i ((m 63 9) + 1) ∧ 0 ≤ m 63 15 ∧ (m 63 15) < 4 ∧ 0 ≤ m 63 15 ∧ (m 63 15) < 4 ∧ gh_i ((m 71 (m 63 15)) - (m 73 (m 63 15))) ∧ 0 ≤ m 63 15 ∧ (m 63 15) < 4 ∧ w_Model_addPart v1 (gh_u (gh_u m 63 9 ((m 63 9) + 1)) 71 (m 63 15) ((m 71 (m 63 15)) - (m 73 (m 63 15)))) (fun _ m2645 => 0 ≤ m2645 63 15 ∧ (m2645 63 15) < 4 ∧ Q 0 (gh_u m2645 73 (m2645 63 15) 0))) ∧ (((m 63 7) = 63 → w_Model_makeRow (m 63 9) 0 1 m (fun _ m2650 => w_Model_makeRow (m2650 63 9) 0 0 m2650 (fun _ m2652 => J115 m2652))) ∧ (¬ ((m 63 7) = 63) → w_Model_makeRow (m 63 9) 0 (if ((m 63 7) = 43) then (1:Int) else 0) m (fun _ m2656 => w_Model_makeRow (m2656 63 9) v1 1 m2656 (fun _ m2658 => J115 m2658))))) ∧ (¬ (¬ (((m 63 8) + (m 63 9)) = 8) ∧ (((m 63 11) + 2) ≤ 20)) → Q 3 m))))
theorem s_Model_repeats {E : gh_E} {m : gh_M} {Q : Int → gh_M → Prop} (d : Nat) (hF : gh_F m) (h : w_Model_repeats m Q) : gh_C E gh_yModel_repeats prog_14_method_20_code 2 (some .int) 0 (d + 1) [(2, 63)] m (fun r m1 => gh_F m1 ∧ Q r m1) := by
  refine gh_enter2 (L := [(0, 2, 63)]) (by decide +kernel) gh_rt0 (Nat.le_of_ble_eq_true rfl) rfl rfl ?_
  unfold w_Model_repeats at h
  refine gh_aload_n gd_Model_repeats_0 0 rfl (by decide) ?_
  refine gf_63_21 gd_Model_repeats_1 gh_k1388 hF ?_
  refine gh_aload_n gd_Model_repeats_4 0 rfl (by decide) ?_
  refine gf_63_15 gd_Model_repeats_5 gh_k1382 hF rfl ?_
  obtain ⟨q2628, h⟩ := h
  obtain ⟨q2629, h⟩ := h
  refine la_73 gd_Model_repeats_8 hF q2628 q2629 rfl ?_
  obtain ⟨hA, hB⟩ := h
  refine gh_zne (tgt := 14) gd_Model_repeats_9 (by decide) (fun c2630 => ?_) (fun c2630 => ?_)
  · have h := hA c2630
    refine gh_iconst gd_Model_repeats_12 (gh_r0 rfl) ?_
    exact gh_ret0 rfl gd_Model_repeats_13 ⟨hF, h⟩
  · have h := hB c2630
    refine gh_aload_n gd_Model_repeats_14 0 rfl (by decide) ?_
    refine gf_63_8 gd_Model_repeats_15 gh_k1375 hF rfl ?_
    refine gh_aload_n gd_Model_repeats_18 0 rfl (by decide) ?_
    refine gf_63_9 gd_Model_repeats_19 gh_k1376 hF rfl ?_
    obtain ⟨q2631, h⟩ := h
    refine gh_iadd gd_Model_repeats_22 q2631 ?_
    refine gh_bipush gd_Model_repeats_23 (by decide) (gh_r0 rfl) ?_
    obtain ⟨hk, hA, hB⟩ := h
    have k2633 : (¬ (((m 63 8) + (m 63 9)) = 8) ∧ (((m 63 11) + 2) ≤ 20)) → gh_T E (gh_yModel_repeats.cls, prog_14_method_20_code, 2, false, 0) (d + 1) 41 [(0, 2, 63)] [] m (fun r m1 => gh_F m1 ∧ Q r m1) := by
      intro c
      have h := hA c
      refine gh_sipush gd_Model_repeats_41 (by decide) (gh_r0 rfl) ?_
      refine gh_aload_n gd_Model_repeats_44 0 rfl (by decide) ?_
      refine gf_63_9 gd_Model_repeats_45 gh_k1376 hF rfl ?_
      obtain ⟨q2635, h⟩ := h
      refine gh_isub gd_Model_repeats_48 q2635 ?_
      refine gh_name (fun v1 hn => ?_)
      have h := h v1 hn
      refine gh_istore_n (L2 := [(1, 0, v1), (0, 2, 63)]) gd_Model_repeats_49 (by decide) rfl ?_
      refine gh_aload_n gd_Model_repeats_50 1 rfl (by decide) ?_
      refine gf_63_7 gd_Model_repeats_51 gh_k1374 hF rfl ?_
      refine gh_bipush gd_Model_repeats_54 (by decide) (gh_r0 rfl) ?_
      obtain ⟨J115, hJ115, h⟩ := h
      have hJ115 : ∀ (m : gh_M), gh_F m → J115 m → gh_T E (gh_yModel_repeats.cls, prog_14_method_20_code, 2, false, 0) (d + 1) 115 [(0, 2, 63), (1, 0, v1)] [] m (fun r m1 => gh_F m1 ∧ Q r m1) := by
        intro m hF hj
        have h := hJ115 m hj
        refine gh_aload_n gd_Model_repeats_115 0 rfl (by decide) ?_
        refine gh_dup gd_Model_repeats_116 (by decide) ?_
        refine gf_63_9 gd_Model_repeats_117 gh_k1376 hF rfl ?_
        refine gh_iconst gd_Model_repeats_120 (gh_r0 rfl) ?_
        obtain ⟨q2636, h⟩ := h
        refine gh_iadd gd_Model_repeats_121 q2636 ?_
        refine pf_63_9 gd_Model_repeats_122 gh_k1376 hF (fun hF => ?_)
        refine gh_aload_n gd_Model_repeats_125 0 rfl (by decide) ?_
        refine gf_63_19 gd_Model_repeats_126 gh_k1386 hF ?_
        refine gh_aload_n gd_Model_repeats_129 0 rfl (by decide) ?_
        refine gf_63_15 gd_Model_repeats_130 gh_k1382 hF (gh_u_i (by decide)) ?_
        refine gh_dup2 gd_Model_repeats_133 (by decide) (by decide) ?_
        obtain ⟨q2637, h⟩ := h
        obtain ⟨q2638, h⟩ := h
        refine la_71 gd_Model_repeats_134 hF q2637 q2638 (gh_u_a (by decide)) ?_
        refine gh_aload_n gd_Model_repeats_135 0 rfl (by decide) ?_
        refine gf_63_21 gd_Model_repeats_136 gh_k1388 hF ?_
        refine gh_aload_n gd_Model_repeats_139 0 rfl (by decide) ?_
        refine gf_63_15 gd_Model_repeats_140 gh_k1382 hF (gh_u_i (by decide)) ?_
        obtain ⟨q2639, h⟩ := h
        obtain ⟨q2640, h⟩ := h
        refine la_73 gd_Model_repeats_143 hF q2639 q2640 (gh_u_a (by decide)) ?_
        obtain ⟨q2641, h⟩ := h
        refine gh_isub gd_Model_repeats_144 q2641 ?_
        obtain ⟨q2642, h⟩ := h
        obtain ⟨q2643, h⟩ := h
        refine sa_71 gd_Model_repeats_145 hF q2642 q2643 (fun hF => ?_)
        refine gh_aload_n gd_Model_repeats_146 0 rfl (by decide) ?_
        refine gh_iload_n gd_Model_repeats_147 1 rfl ?_
        refine cv_Model_addPart (d := d) gd_Model_repeats_148 gh_k1693 hF (Nat.le_of_ble_eq_true rfl) (gh_C.mono (s_Model_addPart d v1 hF h) (fun r2644 m2645 hq => ?_))
        obtain ⟨hF, h⟩ := hq
        refine gh_aload_n gd_Model_repeats_151 0 rfl (by decide) ?_
        refine gf_63_21 gd_Model_repeats_152 gh_k1388 hF ?_
        refine gh_aload_n gd_Model_repeats_155 0 rfl (by decide) ?_
        refine gf_63_15 gd_Model_repeats_156 gh_k1382 hF rfl ?_
        refine gh_iconst gd_Model_repeats_159 (gh_r0 rfl) ?_
        obtain ⟨q2646, h⟩ := h
        obtain ⟨q2647, h⟩ := h
        refine sa_73 gd_Model_repeats_160 hF q2646 q2647 (fun hF => ?_)
        refine gh_iconst gd_Model_repeats_161 (gh_r0 rfl) ?_
        exact gh_ret0 rfl gd_Model_repeats_162 ⟨hF, h⟩
      obtain ⟨hA, hB⟩ := h
      refine gh_jne (tgt := 82) gd_Model_repeats_56 (by decide) (fun c2648 => ?_) (fun c2648 => ?_)
      · have h := hA c2648
        refine gh_aload_n gd_Model_repeats_59 1 rfl (by decide) ?_
        refine gh_aload_n gd_Model_repeats_60 1 rfl (by decide) ?_
        refine gf_63_9 gd_Model_repeats_61 gh_k1376 hF rfl ?_
        refine gh_iconst gd_Model_repeats_64 (gh_r0 rfl) ?_
        refine gh_iconst gd_Model_repeats_65 (gh_r0 rfl) ?_
        refine cv_Model_makeRow (d := d) gd_Model_repeats_66 gh_k1717 hF (Nat.le_of_ble_eq_true rfl) (gh_C.mono (s_Model_makeRow d (m 63 9) 0 1 hF h) (fun r2649 m2650 hq => ?_))
        obtain ⟨hF, h⟩ := hq
        refine gh_aload_n gd_Model_repeats_69 1 rfl (by decide) ?_
        refine gh_aload_n gd_Model_repeats_70 1 rfl (by decide) ?_
        refine gf_63_9 gd_Model_repeats_71 gh_k1376 hF rfl ?_
        refine gh_iconst gd_Model_repeats_74 (gh_r0 rfl) ?_
        refine gh_iconst gd_Model_repeats_75 (gh_r0 rfl) ?_
        refine cv_Model_makeRow (d := d) gd_Model_repeats_76 gh_k1717 hF (Nat.le_of_ble_eq_true rfl) (gh_C.mono (s_Model_makeRow d (m2650 63 9) 0 0 hF h) (fun r2651 m2652 hq => ?_))
        obtain ⟨hF, h⟩ := hq
        refine gh_goto (tgt := 115) gd_Model_repeats_79 (by decide) ?_
        refine gh_pick (L2 := [(0, 2, 63), (1, 0, v1)]) [1, 0] rfl ?_
        exact hJ115 m2652 hF h
      · have h := hB c2648
        refine gh_aload_n gd_Model_repeats_82 1 rfl (by decide) ?_
        refine gh_aload_n gd_Model_repeats_83 1 rfl (by decide) ?_
        refine gf_63_9 gd_Model_repeats_84 gh_k1376 hF rfl ?_
        refine gh_iconst gd_Model_repeats_87 (gh_r0 rfl) ?_
        refine gh_aload_n gd_Model_repeats_88 1 rfl (by decide) ?_
        refine gf_63_7 gd_Model_repeats_89 gh_k1374 hF rfl ?_
        refine gh_bipush gd_Model_repeats_92 (by decide) (gh_r0 rfl) ?_
        have k2653 : ∀ x2654 : Int, x2654 = (if ((m 63 7) = 43) then (1:Int) else 0) → gh_T E (gh_yModel_repeats.cls, prog_14_method_20_code, 2, false, 0) (d + 1) 102 [(1, 0, v1), (0, 2, 63)] [(0, x2654), (0, 0), (0, m 63 9), (2, 63)] m (fun r m1 => gh_F m1 ∧ Q r m1) := by
          rintro _ rfl
          refine cv_Model_makeRow (d := d) gd_Model_repeats_102 gh_k1717 hF (Nat.le_of_ble_eq_true rfl) (gh_C.mono (s_Model_makeRow d (m 63 9) 0 (if ((m 63 7) = 43) then (1:Int) else 0) hF h) (fun r2655 m2656 hq => ?_))
          obtain ⟨hF, h⟩ := hq
          refine gh_aload_n gd_Model_repeats_105 1 rfl (by decide) ?_
          refine gh_aload_n gd_Model_repeats_106 1 rfl (by decide) ?_
          refine gf_63_9 gd_Model_repeats_107 gh_k1376 hF rfl ?_
          refine gh_iload_n gd_Model_repeats_110 0 rfl ?_
          refine gh_iconst gd_Model_repeats_111 (gh_r0 rfl) ?_
          refine cv_Model_makeRow (d := d) gd_Model_repeats_112 gh_k1717 hF (Nat.le_of_ble_eq_true rfl) (gh_C.mono (s_Model_makeRow d (m2656 63 9) v1 1 hF h) (fun r2657 m2658 hq => ?_))
          obtain ⟨hF, h⟩ := hq
          refine gh_pick (L2 := [(0, 2, 63), (1, 0, v1)]) [1, 0] rfl ?_
          exact hJ115 m2658 hF h
        refine gh_jne (tgt := 101) gd_Model_repeats_94 (by decide) (fun c2659 => ?_) (fun c2659 => ?_)
        · have hz : True := trivial
          refine gh_iconst gd_Model_repeats_97 (gh_r0 rfl) ?_
          refine gh_goto (tgt := 102) gd_Model_repeats_98 (by decide) ?_
          exact k2653 _ (if_pos (c := ((m 63 7) = 43)) c2659).symm
        · have hz : True := trivial
          refine gh_iconst gd_Model_repeats_101 (gh_r0 rfl) ?_
          exact k2653 _ (if_neg (c := ((m 63 7) = 43)) c2659).symm
    have k2634 : ¬ (¬ (((m 63 8) + (m 63 9)) = 8) ∧ (((m 63 11) + 2) ≤ 20)) → gh_T E (gh_yModel_repeats.cls, prog_14_method_20_code, 2, false, 0) (d + 1) 39 [(0, 2, 63)] [] m (fun r m1 => gh_F m1 ∧ Q r m1) := by
      intro c
      have h := hB c
      refine gh_iconst gd_Model_repeats_39 (gh_r0 rfl) ?_
      exact gh_ret0 rfl gd_Model_repeats_40 ⟨hF, h⟩
    refine gh_jeq (tgt := 39) gd_Model_repeats_25 (by decide) (fun c2660 => ?_) (fun c2660 => ?_)
    · have hz : True := trivial
      exact k2634 (fun z => z.1 c2660)
    · have hz : True := trivial
      have hk := hk c2660
      refine gh_aload_n gd_Model_repeats_28 0 rfl (by decide) ?_
      refine gf_63_11 gd_Model_repeats_29 gh_k1378 hF rfl ?_
      refine gh_iconst gd_Model_repeats_32 (gh_r0 rfl) ?_
      have q2632 := hk
      refine gh_iadd gd_Model_repeats_33 q2632 ?_
      refine gh_bipush gd_Model_repeats_34 (by decide) (gh_r0 rfl) ?_
      refine gh_jle (tgt := 41) gd_Model_repeats_36 (by decide) (fun c2661 => ?_) (fun c2661 => ?_)
      · have hz : True := trivial
        exact k2633 ⟨c2660, c2661⟩
      · have hz : True := trivial
        exact k2634 (fun z => c2661 z.2)
def w_Model_takes (m : gh_M) (Q : Int → gh_M → Prop) : Prop := ∃ J24 : Prop, (J24 → w_Model_takesSets m (fun r2662 m2663 => Q r2662 m2663)) ∧ (((((m 63 5) = 2) ∨ (((m 63 5) = 3) ∨ ((m 63 5) = 4))) → J24) ∧ (¬ (((m 63 5) = 2) ∨ (((m 63 5) = 3) ∨ ((m 63 5) = 4))) → (((¬ ((m 63 5) = 5) ∨ ((m 63 7) = 58)) → Q 2 m) ∧ (¬ (¬ ((m 63 5) = 5) ∨ ((m 63 7) = 58)) → (((m 63 7) = 40 → w_Model_opens m (fun r2669 m2670 => Q r2669 m2670)) ∧ (¬ ((m 63 7) = 40) → (((m 63 7) = 41 → w_Model_closes m (fun r2672 m2673 => Q r2672 m2673)) ∧ (¬ ((m 63 7) = 41) → ∃ J99 : Prop, (J99 → ∃ J117 : Prop, (J117 → (((m 63 11) = 20 → Q 3 m) ∧ (¬ ((m 63 11) = 20) → w_Model_endRow m (fun _ m2676 => Q 0 m2676)))) ∧ (((¬ ((m 63 7) = 59) ∨ ((m 63 15) ≤ 0)) → J117) ∧ (¬ (¬ ((m 63 7) = 59) ∨ ((m 63 15) ≤ 0)) → Q 2 m))) ∧ (((((m 63 7) = 124) ∨ ((m 63 7) = 59)) → J99) ∧ (¬ (((m 63 7) = 124) ∨ ((m 63 7) = 59)) → w_Model_repeats m (fun r2683 m2684 => Q r2683 m2684)))))))))))
theorem s_Model_takes {E : gh_E} {m : gh_M} {Q : Int → gh_M → Prop} (d : Nat) (hF : gh_F m) (h : w_Model_takes m Q) : gh_C E gh_yModel_takes prog_14_method_24_code 1 (some .int) 0 (d + 4) [(2, 63)] m (fun r m1 => gh_F m1 ∧ Q r m1) := by
  refine gh_enter2 (L := [(0, 2, 63)]) (by decide +kernel) gh_rt0 (Nat.le_of_ble_eq_true rfl) rfl rfl ?_
  unfold w_Model_takes at h
  refine gh_aload_n gd_Model_takes_0 0 rfl (by decide) ?_
  refine gf_63_5 gd_Model_takes_1 gh_k1372 hF rfl ?_
  refine gh_iconst gd_Model_takes_4 (gh_r0 rfl) ?_
  obtain ⟨J24, hJ24, h⟩ := h
  have hJ24 : gh_F m → J24 → gh_T E (gh_yModel_takes.cls, prog_14_method_24_code, 1, false, 0) (d + 4) 24 [(0, 2, 63)] [] m (fun r m1 => gh_F m1 ∧ Q r m1) := by
    intro hF hj
    have h := hJ24 hj
    refine gh_aload_n gd_Model_takes_24 0 rfl (by decide) ?_
    refine cv_Model_takesSets (d := d + 3) gd_Model_takes_25 gh_k1689 hF (Nat.le_of_ble_eq_true rfl) (gh_C.mono (s_Model_takesSets d hF h) (fun r2662 m2663 hq => ?_))
    obtain ⟨hF, h⟩ := hq
    exact gh_ret0 rfl gd_Model_takes_28 ⟨hF, h⟩
  obtain ⟨hA, hB⟩ := h
  have k2664 : (((m 63 5) = 2) ∨ (((m 63 5) = 3) ∨ ((m 63 5) = 4))) → gh_T E (gh_yModel_takes.cls, prog_14_method_24_code, 1, false, 0) (d + 4) 24 [(0, 2, 63)] [] m (fun r m1 => gh_F m1 ∧ Q r m1) := by
    intro c
    have h := hA c
    exact hJ24 hF h
  have k2665 : ¬ (((m 63 5) = 2) ∨ (((m 63 5) = 3) ∨ ((m 63 5) = 4))) → gh_T E (gh_yModel_takes.cls, prog_14_method_24_code, 1, false, 0) (d + 4) 29 [(0, 2, 63)] [] m (fun r m1 => gh_F m1 ∧ Q r m1) := by
    intro c
    have h := hB c
    refine gh_aload_n gd_Model_takes_29 0 rfl (by decide) ?_
    refine gf_63_5 gd_Model_takes_30 gh_k1372 hF rfl ?_
    refine gh_iconst gd_Model_takes_33 (gh_r0 rfl) ?_
    obtain ⟨hA, hB⟩ := h
    have k2666 : (¬ ((m 63 5) = 5) ∨ ((m 63 7) = 58)) → gh_T E (gh_yModel_takes.cls, prog_14_method_24_code, 1, false, 0) (d + 4) 46 [(0, 2, 63)] [] m (fun r m1 => gh_F m1 ∧ Q r m1) := by
      intro c
      have h := hA c
      refine gh_iconst gd_Model_takes_46 (gh_r0 rfl) ?_
      exact gh_ret0 rfl gd_Model_takes_47 ⟨hF, h⟩
    have k2667 : ¬ (¬ ((m 63 5) = 5) ∨ ((m 63 7) = 58)) → gh_T E (gh_yModel_takes.cls, prog_14_method_24_code, 1, false, 0) (d + 4) 48 [(0, 2, 63)] [] m (fun r m1 => gh_F m1 ∧ Q r m1) := by
      intro c
      have h := hB c
      refine gh_aload_n gd_Model_takes_48 0 rfl (by decide) ?_
      refine gf_63_7 gd_Model_takes_49 gh_k1374 hF rfl ?_
      refine gh_bipush gd_Model_takes_52 (by decide) (gh_r0 rfl) ?_
      obtain ⟨hA, hB⟩ := h
      refine gh_jne (tgt := 62) gd_Model_takes_54 (by decide) (fun c2668 => ?_) (fun c2668 => ?_)
      · have h := hA c2668
        refine gh_aload_n gd_Model_takes_57 0 rfl (by decide) ?_
        refine cv_Model_opens (d := d + 3) gd_Model_takes_58 gh_k1697 hF (Nat.le_of_ble_eq_true rfl) (gh_C.mono (s_Model_opens (d + 3) hF h) (fun r2669 m2670 hq => ?_))
        obtain ⟨hF, h⟩ := hq
        exact gh_ret0 rfl gd_Model_takes_61 ⟨hF, h⟩
      · have h := hB c2668
        refine gh_aload_n gd_Model_takes_62 0 rfl (by decide) ?_
        refine gf_63_7 gd_Model_takes_63 gh_k1374 hF rfl ?_
        refine gh_bipush gd_Model_takes_66 (by decide) (gh_r0 rfl) ?_
        obtain ⟨hA, hB⟩ := h
        refine gh_jne (tgt := 76) gd_Model_takes_68 (by decide) (fun c2671 => ?_) (fun c2671 => ?_)
        · have h := hA c2671
          refine gh_aload_n gd_Model_takes_71 0 rfl (by decide) ?_
          refine cv_Model_closes (d := d + 3) gd_Model_takes_72 gh_k1701 hF (Nat.le_of_ble_eq_true rfl) (gh_C.mono (s_Model_closes (d + 1) hF h) (fun r2672 m2673 hq => ?_))
          obtain ⟨hF, h⟩ := hq
          exact gh_ret0 rfl gd_Model_takes_75 ⟨hF, h⟩
        · have h := hB c2671
          refine gh_aload_n gd_Model_takes_76 0 rfl (by decide) ?_
          refine gf_63_7 gd_Model_takes_77 gh_k1374 hF rfl ?_
          refine gh_bipush gd_Model_takes_80 (by decide) (gh_r0 rfl) ?_
          obtain ⟨J99, hJ99, h⟩ := h
          have hJ99 : gh_F m → J99 → gh_T E (gh_yModel_takes.cls, prog_14_method_24_code, 1, false, 0) (d + 4) 99 [(0, 2, 63)] [] m (fun r m1 => gh_F m1 ∧ Q r m1) := by
            intro hF hj
            have h := hJ99 hj
            refine gh_aload_n gd_Model_takes_99 0 rfl (by decide) ?_
            refine gf_63_7 gd_Model_takes_100 gh_k1374 hF rfl ?_
            refine gh_bipush gd_Model_takes_103 (by decide) (gh_r0 rfl) ?_
            obtain ⟨J117, hJ117, h⟩ := h
            have hJ117 : gh_F m → J117 → gh_T E (gh_yModel_takes.cls, prog_14_method_24_code, 1, false, 0) (d + 4) 117 [(0, 2, 63)] [] m (fun r m1 => gh_F m1 ∧ Q r m1) := by
              intro hF hj
              have h := hJ117 hj
              refine gh_aload_n gd_Model_takes_117 0 rfl (by decide) ?_
              refine gf_63_11 gd_Model_takes_118 gh_k1378 hF rfl ?_
              refine gh_bipush gd_Model_takes_121 (by decide) (gh_r0 rfl) ?_
              obtain ⟨hA, hB⟩ := h
              refine gh_jne (tgt := 128) gd_Model_takes_123 (by decide) (fun c2674 => ?_) (fun c2674 => ?_)
              · have h := hA c2674
                refine gh_iconst gd_Model_takes_126 (gh_r0 rfl) ?_
                exact gh_ret0 rfl gd_Model_takes_127 ⟨hF, h⟩
              · have h := hB c2674
                refine gh_aload_n gd_Model_takes_128 0 rfl (by decide) ?_
                refine cv_Model_endRow (d := d + 3) gd_Model_takes_129 gh_k1705 hF (Nat.le_of_ble_eq_true rfl) (gh_C.mono (s_Model_endRow (d + 2) hF h) (fun r2675 m2676 hq => ?_))
                obtain ⟨hF, h⟩ := hq
                refine gh_iconst gd_Model_takes_132 (gh_r0 rfl) ?_
                exact gh_ret0 rfl gd_Model_takes_133 ⟨hF, h⟩
            obtain ⟨hA, hB⟩ := h
            have k2677 : (¬ ((m 63 7) = 59) ∨ ((m 63 15) ≤ 0)) → gh_T E (gh_yModel_takes.cls, prog_14_method_24_code, 1, false, 0) (d + 4) 117 [(0, 2, 63)] [] m (fun r m1 => gh_F m1 ∧ Q r m1) := by
              intro c
              have h := hA c
              exact hJ117 hF h
            have k2678 : ¬ (¬ ((m 63 7) = 59) ∨ ((m 63 15) ≤ 0)) → gh_T E (gh_yModel_takes.cls, prog_14_method_24_code, 1, false, 0) (d + 4) 115 [(0, 2, 63)] [] m (fun r m1 => gh_F m1 ∧ Q r m1) := by
              intro c
              have h := hB c
              refine gh_iconst gd_Model_takes_115 (gh_r0 rfl) ?_
              exact gh_ret0 rfl gd_Model_takes_116 ⟨hF, h⟩
            refine gh_jne (tgt := 117) gd_Model_takes_105 (by decide) (fun c2679 => ?_) (fun c2679 => ?_)
            · have hz : True := trivial
              refine gh_aload_n gd_Model_takes_108 0 rfl (by decide) ?_
              refine gf_63_15 gd_Model_takes_109 gh_k1382 hF rfl ?_
              refine gh_zle (tgt := 117) gd_Model_takes_112 (by decide) (fun c2680 => ?_) (fun c2680 => ?_)
              · have hz : True := trivial
                exact k2677 (Or.inr c2680)
              · have hz : True := trivial
                exact k2678 (fun z => z.elim (fun w => w c2679) c2680)
            · have hz : True := trivial
              exact k2677 (Or.inl c2679)
          obtain ⟨hA, hB⟩ := h
          have k2681 : (((m 63 7) = 124) ∨ ((m 63 7) = 59)) → gh_T E (gh_yModel_takes.cls, prog_14_method_24_code, 1, false, 0) (d + 4) 99 [(0, 2, 63)] [] m (fun r m1 => gh_F m1 ∧ Q r m1) := by
            intro c
            have h := hA c
            exact hJ99 hF h
          have k2682 : ¬ (((m 63 7) = 124) ∨ ((m 63 7) = 59)) → gh_T E (gh_yModel_takes.cls, prog_14_method_24_code, 1, false, 0) (d + 4) 94 [(0, 2, 63)] [] m (fun r m1 => gh_F m1 ∧ Q r m1) := by
            intro c
            have h := hB c
            refine gh_aload_n gd_Model_takes_94 0 rfl (by decide) ?_
            refine cv_Model_repeats (d := d + 3) gd_Model_takes_95 gh_k1713 hF (Nat.le_of_ble_eq_true rfl) (gh_C.mono (s_Model_repeats (d + 2) hF h) (fun r2683 m2684 hq => ?_))
            obtain ⟨hF, h⟩ := hq
            exact gh_ret0 rfl gd_Model_takes_98 ⟨hF, h⟩
          refine gh_jeq (tgt := 99) gd_Model_takes_82 (by decide) (fun c2685 => ?_) (fun c2685 => ?_)
          · have hz : True := trivial
            exact k2681 (Or.inl c2685)
          · have hz : True := trivial
            refine gh_aload_n gd_Model_takes_85 0 rfl (by decide) ?_
            refine gf_63_7 gd_Model_takes_86 gh_k1374 hF rfl ?_
            refine gh_bipush gd_Model_takes_89 (by decide) (gh_r0 rfl) ?_
            refine gh_jeq (tgt := 99) gd_Model_takes_91 (by decide) (fun c2686 => ?_) (fun c2686 => ?_)
            · have hz : True := trivial
              exact k2681 (Or.inr c2686)
            · have hz : True := trivial
              exact k2682 (fun z => z.elim c2685 c2686)
    refine gh_jne (tgt := 46) gd_Model_takes_34 (by decide) (fun c2687 => ?_) (fun c2687 => ?_)
    · have hz : True := trivial
      refine gh_aload_n gd_Model_takes_37 0 rfl (by decide) ?_
      refine gf_63_7 gd_Model_takes_38 gh_k1374 hF rfl ?_
      refine gh_bipush gd_Model_takes_41 (by decide) (gh_r0 rfl) ?_
      refine gh_jne (tgt := 48) gd_Model_takes_43 (by decide) (fun c2688 => ?_) (fun c2688 => ?_)
      · have hz : True := trivial
        exact k2666 (Or.inr c2688)
      · have hz : True := trivial
        exact k2667 (fun z => z.elim (fun w => w c2687) c2688)
    · have hz : True := trivial
      exact k2666 (Or.inl c2687)
  refine gh_jeq (tgt := 24) gd_Model_takes_5 (by decide) (fun c2689 => ?_) (fun c2689 => ?_)
  · have hz : True := trivial
    exact k2664 (Or.inl c2689)
  · have hz : True := trivial
    refine gh_aload_n gd_Model_takes_8 0 rfl (by decide) ?_
    refine gf_63_5 gd_Model_takes_9 gh_k1372 hF rfl ?_
    refine gh_iconst gd_Model_takes_12 (gh_r0 rfl) ?_
    refine gh_jeq (tgt := 24) gd_Model_takes_13 (by decide) (fun c2690 => ?_) (fun c2690 => ?_)
    · have hz : True := trivial
      exact k2664 (Or.inr (Or.inl c2690))
    · have hz : True := trivial
      refine gh_aload_n gd_Model_takes_16 0 rfl (by decide) ?_
      refine gf_63_5 gd_Model_takes_17 gh_k1372 hF rfl ?_
      refine gh_iconst gd_Model_takes_20 (gh_r0 rfl) ?_
      refine gh_jne (tgt := 29) gd_Model_takes_21 (by decide) (fun c2691 => ?_) (fun c2691 => ?_)
      · have hz : True := trivial
        exact k2664 (Or.inr (Or.inr c2691))
      · have hz : True := trivial
        exact k2665 (fun z => z.elim c2689 (fun z => z.elim c2690 c2691))
def f_Model_readRows_190 (Q : Int → gh_M → Prop) (K190 : Int → Int → gh_M → Prop) (v2 : Int) (v3 : Int) (m : gh_M) : Prop := ((((v3 < (m 63 22)) ∧ (v2 = 0)) → 0 ≤ v3 ∧ v3 < 240 ∧ w_Model_toldOf (m 74 v3) m (fun r2698 => ∃ J228 : Int → gh_M → Prop, (∀ (v2'' : Int) (m : gh_M), J228 v2'' m → gh_i (v3 + 1) ∧ K190 v2'' (v3 + 1) m) ∧ ((r2698 = (-1) → 0 ≤ v3 ∧ v3 < 240 ∧ J228 5 (gh_u m 63 6 (m 74 v3))) ∧ (¬ (r2698 = (-1)) → J228 v2 m)))) ∧ (¬ ((v3 < (m 63 22)) ∧ (v2 = 0)) → Q v2 m))
def f_Model_readRows_38 (Q : Int → gh_M → Prop) (K38 : Int → Int → gh_M → Prop) (v1 : Int) (v2 : Int) (m : gh_M) : Prop := ∃ J188 : Int → gh_M → Prop, (∀ (v2' : Int) (m : gh_M), J188 v2' m → gh_M2 (fun K190 v2 v3 m => f_Model_readRows_190 Q K190 v2 v3 m) v2' 0 m) ∧ ((((v2 = 0) ∧ (¬ (v1 ≤ 0) ∨ (¬ ((m 63 5) = 1) ∨ ((m 63 8) = 0)))) → ∃ J177 : Int → Int → gh_M → Prop, (∀ (v1' : Int) (v2' : Int) (m : gh_M), J177 v1' v2' m → ((v2' = 0 → w_Model_next m (fun _ m2710 => K38 v1' v2' m2710)) ∧ (¬ (v2' = 0) → K38 v1' v2' m))) ∧ (((m 63 5) = 0 → J177 v1 1 m) ∧ (¬ ((m 63 5) = 0) → ((v1 = 0 → w_Model_takesHead m (fun r2713 m2714 => J177 1 r2713 m2714)) ∧ (¬ (v1 = 0) → ((v1 = 1 → ∀ v2' : Int, v2' = (if (m 63 5) = 5 then (if (m 63 7) = 58 then 0 else 2) else 2) → J177 2 v2' (gh_u (gh_u (gh_u m 63 15 0) 71 0 0) 73 0 0)) ∧ (¬ (v1 = 1) → ∀ v3 : Int, v3 = (if (((m 63 5) = 5) ∧ ((m 63 7) = 59)) then (1:Int) else 0) → w_Model_takes m (fun r2722 m2723 => ∀ v1' : Int, v1' = (if v3 = 0 then 2 else 0) → J177 v1' r2722 m2723)))))))) ∧ (¬ ((v2 = 0) ∧ (¬ (v1 ≤ 0) ∨ (¬ ((m 63 5) = 1) ∨ ((m 63 8) = 0)))) → J188 v2 m))
def w_Model_readRows (m : gh_M) (Q : Int → gh_M → Prop) : Prop := w_Model_next (gh_u (gh_u (gh_u (gh_u (gh_u (gh_u m 63 4 0) 63 8 0) 63 9 0) 63 11 0) 63 16 0) 63 22 0) (fun _ m2693 => gh_M2 (fun K38 v1 v2 m => f_Model_readRows_38 Q K38 v1 v2 m) 0 0 m2693)
theorem b_Model_readRows_190 {E : gh_E} {Q : Int → gh_M → Prop} {K190 : Int → Int → gh_M → Prop} (d : Nat) (hK : ∀ (v2 : Int) (v3 : Int) (m : gh_M), gh_F m → K190 v2 v3 m → gh_T E (gh_yModel_readRows.cls, prog_14_method_26_code, 4, false, 0) (d + 6) 190 [(0, 2, 63), (2, 0, v2), (3, 0, v3)] [] m (fun r m1 => gh_F m1 ∧ Q r m1)) (v2 : Int) (v3 : Int) (m : gh_M) (hF : gh_F m) (h : f_Model_readRows_190 Q K190 v2 v3 m) : gh_T E (gh_yModel_readRows.cls, prog_14_method_26_code, 4, false, 0) (d + 6) 190 [(0, 2, 63), (2, 0, v2), (3, 0, v3)] [] m (fun r m1 => gh_F m1 ∧ Q r m1) := by
  have hK190 := hK
  unfold f_Model_readRows_190 at h
  refine gh_iload_n gd_Model_readRows_190 2 rfl ?_
  refine gh_aload_n gd_Model_readRows_191 0 rfl (by decide) ?_
  refine gf_63_22 gd_Model_readRows_192 gh_k1389 hF rfl ?_
  obtain ⟨hA, hB⟩ := h
  have k2694 : ((v3 < (m 63 22)) ∧ (v2 = 0)) → gh_T E (gh_yModel_readRows.cls, prog_14_method_26_code, 4, false, 0) (d + 6) 202 [(0, 2, 63), (2, 0, v2), (3, 0, v3)] [] m (fun r m1 => gh_F m1 ∧ Q r m1) := by
    intro c
    have h := hA c
    refine gh_aload_n gd_Model_readRows_202 0 rfl (by decide) ?_
    refine gh_aload_n gd_Model_readRows_203 0 rfl (by decide) ?_
    refine gf_63_23 gd_Model_readRows_204 gh_k1390 hF ?_
    refine gh_iload_n gd_Model_readRows_207 2 rfl ?_
    obtain ⟨q2696, h⟩ := h
    obtain ⟨q2697, h⟩ := h
    refine la_74 gd_Model_readRows_208 hF q2696 q2697 rfl ?_
    refine cv_Model_toldOf (d := d + 5) gd_Model_readRows_209 gh_k1677 hF (Nat.le_of_ble_eq_true rfl) (gh_C.pw (s_Model_toldOf (d + 1) (m 74 v3) hF h) (fun r2698 h => ?_))
    refine gh_iconst gd_Model_readRows_212 (gh_r0 rfl) ?_
    obtain ⟨J228, hJ228, h⟩ := h
    have hJ228 : ∀ (v2'' : Int) (m : gh_M), gh_F m → J228 v2'' m → gh_T E (gh_yModel_readRows.cls, prog_14_method_26_code, 4, false, 0) (d + 6) 228 [(0, 2, 63), (2, 0, v2''), (3, 0, v3)] [] m (fun r m1 => gh_F m1 ∧ Q r m1) := by
      intro v2'' m hF hj
      have h := hJ228 v2'' m hj
      obtain ⟨q2700, h⟩ := h
      refine gh_iinc (L2 := [(3, 0, v3 + 1), (0, 2, 63), (2, 0, v2'')]) gd_Model_readRows_228 2 rfl q2700 (by decide) rfl ?_
      refine gh_goto (tgt := 190) gd_Model_readRows_231 (by decide) ?_
      refine gh_pick (L2 := [(0, 2, 63), (2, 0, v2''), (3, 0, v3 + 1)]) [1, 2, 0] rfl ?_
      exact hK190 v2'' (v3 + 1) m hF h
    obtain ⟨hA, hB⟩ := h
    refine gh_jne (tgt := 228) gd_Model_readRows_213 (by decide) (fun c2701 => ?_) (fun c2701 => ?_)
    · have h := hA c2701
      refine gh_iconst gd_Model_readRows_216 (gh_r0 rfl) ?_
      refine gh_istore_n (L2 := [(2, 0, 5), (0, 2, 63), (3, 0, v3)]) gd_Model_readRows_217 (by decide) rfl ?_
      refine gh_aload_n gd_Model_readRows_218 1 rfl (by decide) ?_
      refine gh_aload_n gd_Model_readRows_219 1 rfl (by decide) ?_
      refine gf_63_23 gd_Model_readRows_220 gh_k1390 hF ?_
      refine gh_iload_n gd_Model_readRows_223 2 rfl ?_
      obtain ⟨q2702, h⟩ := h
      obtain ⟨q2703, h⟩ := h
      refine la_74 gd_Model_readRows_224 hF q2702 q2703 rfl ?_
      refine pf_63_6 gd_Model_readRows_225 gh_k1373 hF (fun hF => ?_)
      refine gh_pick (L2 := [(0, 2, 63), (2, 0, 5), (3, 0, v3)]) [1, 0, 2] rfl ?_
      exact hJ228 5 (gh_u m 63 6 (m 74 v3)) hF h
    · have h := hB c2701
      exact hJ228 v2 m hF h
  have k2695 : ¬ ((v3 < (m 63 22)) ∧ (v2 = 0)) → gh_T E (gh_yModel_readRows.cls, prog_14_method_26_code, 4, false, 0) (d + 6) 234 [(0, 2, 63), (2, 0, v2), (3, 0, v3)] [] m (fun r m1 => gh_F m1 ∧ Q r m1) := by
    intro c
    have h := hB c
    refine gh_iload_n gd_Model_readRows_234 1 rfl ?_
    exact gh_ret0 rfl gd_Model_readRows_235 ⟨hF, h⟩
  refine gh_jge (tgt := 234) gd_Model_readRows_195 (by decide) (fun c2704 => ?_) (fun c2704 => ?_)
  · have hz : True := trivial
    refine gh_iload_n gd_Model_readRows_198 1 rfl ?_
    refine gh_zne (tgt := 234) gd_Model_readRows_199 (by decide) (fun c2705 => ?_) (fun c2705 => ?_)
    · have hz : True := trivial
      exact k2694 ⟨c2704, c2705⟩
    · have hz : True := trivial
      exact k2695 (fun z => c2705 z.2)
  · have hz : True := trivial
    exact k2695 (fun z => c2704 z.1)
theorem b_Model_readRows_38 {E : gh_E} {Q : Int → gh_M → Prop} {K38 : Int → Int → gh_M → Prop} (d : Nat) (hK : ∀ (v1 : Int) (v2 : Int) (m : gh_M), gh_F m → K38 v1 v2 m → gh_T E (gh_yModel_readRows.cls, prog_14_method_26_code, 4, false, 0) (d + 6) 38 [(0, 2, 63), (1, 0, v1), (2, 0, v2)] [] m (fun r m1 => gh_F m1 ∧ Q r m1)) (v1 : Int) (v2 : Int) (m : gh_M) (hF : gh_F m) (h : f_Model_readRows_38 Q K38 v1 v2 m) : gh_T E (gh_yModel_readRows.cls, prog_14_method_26_code, 4, false, 0) (d + 6) 38 [(0, 2, 63), (1, 0, v1), (2, 0, v2)] [] m (fun r m1 => gh_F m1 ∧ Q r m1) := by
  have hK38 := hK
  unfold f_Model_readRows_38 at h
  refine gh_iload_n gd_Model_readRows_38 2 rfl ?_
  obtain ⟨J188, hJ188, h⟩ := h
  have hJ188 : ∀ (v2' : Int) (m : gh_M), gh_F m → J188 v2' m → gh_T E (gh_yModel_readRows.cls, prog_14_method_26_code, 4, false, 0) (d + 6) 188 [(0, 2, 63), (2, 0, v2')] [] m (fun r m1 => gh_F m1 ∧ Q r m1) := by
    intro v2' m hF hj
    have h := hJ188 v2' m hj
    refine gh_iconst gd_Model_readRows_188 (gh_r0 rfl) ?_
    refine gh_istore_n (L2 := [(3, 0, 0), (0, 2, 63), (2, 0, v2')]) gd_Model_readRows_189 (by decide) rfl ?_
    refine gh_pick (L2 := [(0, 2, 63), (2, 0, v2'), (3, 0, 0)]) [1, 2, 0] rfl ?_
    exact gh_M2_sound (T := fun v2 v3 m => gh_T E (gh_yModel_readRows.cls, prog_14_method_26_code, 4, false, 0) (d + 6) 190 [(0, 2, 63), (2, 0, v2), (3, 0, v3)] [] m (fun r m1 => gh_F m1 ∧ Q r m1)) (fun _ _ m => gh_F m) (fun K190 v2 v3 m hK hF h => b_Model_readRows_190 d hK v2 v3 m hF h) v2' 0 m hF h
  obtain ⟨hA, hB⟩ := h
  have k2706 : ((v2 = 0) ∧ (¬ (v1 ≤ 0) ∨ (¬ ((m 63 5) = 1) ∨ ((m 63 8) = 0)))) → gh_T E (gh_yModel_readRows.cls, prog_14_method_26_code, 4, false, 0) (d + 6) 61 [(0, 2, 63), (1, 0, v1), (2, 0, v2)] [] m (fun r m1 => gh_F m1 ∧ Q r m1) := by
    intro c
    have h := hA c
    refine gh_aload_n gd_Model_readRows_61 0 rfl (by decide) ?_
    refine gf_63_5 gd_Model_readRows_62 gh_k1372 hF rfl ?_
    obtain ⟨J177, hJ177, h⟩ := h
    have hJ177 : ∀ (v1' : Int) (v2' : Int) (m : gh_M), gh_F m → J177 v1' v2' m → gh_T E (gh_yModel_readRows.cls, prog_14_method_26_code, 4, false, 0) (d + 6) 177 [(0, 2, 63), (1, 0, v1'), (2, 0, v2')] [] m (fun r m1 => gh_F m1 ∧ Q r m1) := by
      intro v1' v2' m hF hj
      have h := hJ177 v1' v2' m hj
      refine gh_iload_n gd_Model_readRows_177 2 rfl ?_
      obtain ⟨hA, hB⟩ := h
      refine gh_zne (tgt := 38) gd_Model_readRows_178 (by decide) (fun c2708 => ?_) (fun c2708 => ?_)
      · have h := hA c2708
        refine gh_aload_n gd_Model_readRows_181 0 rfl (by decide) ?_
        refine cv_Model_next (d := d + 5) gd_Model_readRows_182 gh_k1654 hF (Nat.le_of_ble_eq_true rfl) (gh_C.mono (s_Model_next (d + 2) hF h) (fun r2709 m2710 hq => ?_))
        obtain ⟨hF, h⟩ := hq
        refine gh_goto (tgt := 38) gd_Model_readRows_185 (by decide) ?_
        exact hK38 v1' v2' m2710 hF h
      · have h := hB c2708
        exact hK38 v1' v2' m hF h
    obtain ⟨hA, hB⟩ := h
    refine gh_zne (tgt := 73) gd_Model_readRows_65 (by decide) (fun c2711 => ?_) (fun c2711 => ?_)
    · have h := hA c2711
      refine gh_iconst gd_Model_readRows_68 (gh_r0 rfl) ?_
      refine gh_istore_n (L2 := [(2, 0, 1), (0, 2, 63), (1, 0, v1)]) gd_Model_readRows_69 (by decide) rfl ?_
      refine gh_goto (tgt := 177) gd_Model_readRows_70 (by decide) ?_
      refine gh_pick (L2 := [(0, 2, 63), (1, 0, v1), (2, 0, 1)]) [1, 2, 0] rfl ?_
      exact hJ177 v1 1 m hF h
    · have h := hB c2711
      refine gh_iload_n gd_Model_readRows_73 1 rfl ?_
      obtain ⟨hA, hB⟩ := h
      refine gh_zne (tgt := 87) gd_Model_readRows_74 (by decide) (fun c2712 => ?_) (fun c2712 => ?_)
      · have h := hA c2712
        refine gh_aload_n gd_Model_readRows_77 0 rfl (by decide) ?_
        refine cv_Model_takesHead (d := d + 5) gd_Model_readRows_78 gh_k1673 hF (Nat.le_of_ble_eq_true rfl) (gh_C.mono (s_Model_takesHead d hF h) (fun r2713 m2714 hq => ?_))
        obtain ⟨hF, h⟩ := hq
        refine gh_istore_n (L2 := [(2, 0, r2713), (0, 2, 63), (1, 0, v1)]) gd_Model_readRows_81 (by decide) rfl ?_
        refine gh_iconst gd_Model_readRows_82 (gh_r0 rfl) ?_
        refine gh_istore_n (L2 := [(1, 0, 1), (2, 0, r2713), (0, 2, 63)]) gd_Model_readRows_83 (by decide) rfl ?_
        refine gh_goto (tgt := 177) gd_Model_readRows_84 (by decide) ?_
        refine gh_pick (L2 := [(0, 2, 63), (1, 0, 1), (2, 0, r2713)]) [2, 0, 1] rfl ?_
        exact hJ177 1 r2713 m2714 hF h
      · have h := hB c2712
        refine gh_iload_n gd_Model_readRows_87 1 rfl ?_
        refine gh_iconst gd_Model_readRows_88 (gh_r0 rfl) ?_
        obtain ⟨hA, hB⟩ := h
        refine gh_jne (tgt := 139) gd_Model_readRows_89 (by decide) (fun c2715 => ?_) (fun c2715 => ?_)
        · have h := hA c2715
          refine gh_aload_n gd_Model_readRows_92 0 rfl (by decide) ?_
          refine gf_63_5 gd_Model_readRows_93 gh_k1372 hF rfl ?_
          refine gh_iconst gd_Model_readRows_96 (gh_r0 rfl) ?_
          have k2716 : ∀ x2717 : Int, x2717 = (if (m 63 5) = 5 then (if (m 63 7) = 58 then 0 else 2) else 2) → gh_T E (gh_yModel_readRows.cls, prog_14_method_26_code, 4, false, 0) (d + 6) 114 [(0, 2, 63), (1, 0, v1), (2, 0, v2)] [(0, x2717)] m (fun r m1 => gh_F m1 ∧ Q r m1) := by
            rintro _ rfl
            refine gh_name (fun v2' hn => ?_)
            have h := h v2' hn
            refine gh_istore_n (L2 := [(2, 0, v2'), (0, 2, 63), (1, 0, v1)]) gd_Model_readRows_114 (by decide) rfl ?_
            refine gh_iconst gd_Model_readRows_115 (gh_r0 rfl) ?_
            refine gh_istore_n (L2 := [(1, 0, 2), (2, 0, v2'), (0, 2, 63)]) gd_Model_readRows_116 (by decide) rfl ?_
            refine gh_aload_n gd_Model_readRows_117 2 rfl (by decide) ?_
            refine gh_iconst gd_Model_readRows_118 (gh_r0 rfl) ?_
            refine pf_63_15 gd_Model_readRows_119 gh_k1382 hF (fun hF => ?_)
            refine gh_aload_n gd_Model_readRows_122 2 rfl (by decide) ?_
            refine gf_63_19 gd_Model_readRows_123 gh_k1386 hF ?_
            refine gh_iconst gd_Model_readRows_126 (gh_r0 rfl) ?_
            refine gh_iconst gd_Model_readRows_127 (gh_r0 rfl) ?_
            refine sa_71 gd_Model_readRows_128 hF (by decide) (by decide) (fun hF => ?_)
            refine gh_aload_n gd_Model_readRows_129 2 rfl (by decide) ?_
            refine gf_63_21 gd_Model_readRows_130 gh_k1388 hF ?_
            refine gh_iconst gd_Model_readRows_133 (gh_r0 rfl) ?_
            refine gh_iconst gd_Model_readRows_134 (gh_r0 rfl) ?_
            refine sa_73 gd_Model_readRows_135 hF (by decide) (by decide) (fun hF => ?_)
            refine gh_goto (tgt := 177) gd_Model_readRows_136 (by decide) ?_
            refine gh_pick (L2 := [(0, 2, 63), (1, 0, 2), (2, 0, v2')]) [2, 0, 1] rfl ?_
            exact hJ177 2 v2' (gh_u (gh_u (gh_u m 63 15 0) 71 0 0) 73 0 0) hF h
          refine gh_jne (tgt := 113) gd_Model_readRows_97 (by decide) (fun c2718 => ?_) (fun c2718 => ?_)
          · have hz : True := trivial
            refine gh_aload_n gd_Model_readRows_100 0 rfl (by decide) ?_
            refine gf_63_7 gd_Model_readRows_101 gh_k1374 hF rfl ?_
            refine gh_bipush gd_Model_readRows_104 (by decide) (gh_r0 rfl) ?_
            refine gh_jne (tgt := 113) gd_Model_readRows_106 (by decide) (fun c2719 => ?_) (fun c2719 => ?_)
            · have hz : True := trivial
              refine gh_iconst gd_Model_readRows_109 (gh_r0 rfl) ?_
              refine gh_goto (tgt := 114) gd_Model_readRows_110 (by decide) ?_
              exact k2716 _ (by rw [if_pos c2718, if_pos c2719])
            · have hz : True := trivial
              refine gh_iconst gd_Model_readRows_113 (gh_r0 rfl) ?_
              exact k2716 _ (by rw [if_pos c2718, if_neg c2719])
          · have hz : True := trivial
            refine gh_iconst gd_Model_readRows_113 (gh_r0 rfl) ?_
            exact k2716 _ (by rw [if_neg c2718])
        · have h := hB c2715
          refine gh_aload_n gd_Model_readRows_139 0 rfl (by decide) ?_
          refine gf_63_5 gd_Model_readRows_140 gh_k1372 hF rfl ?_
          refine gh_iconst gd_Model_readRows_143 (gh_r0 rfl) ?_
          have k2720 : ∀ x2721 : Int, x2721 = (if (((m 63 5) = 5) ∧ ((m 63 7) = 59)) then (1:Int) else 0) → gh_T E (gh_yModel_readRows.cls, prog_14_method_26_code, 4, false, 0) (d + 6) 161 [(0, 2, 63), (1, 0, v1), (2, 0, v2)] [(0, x2721)] m (fun r m1 => gh_F m1 ∧ Q r m1) := by
            rintro _ rfl
            refine gh_name (fun v3 hn => ?_)
            have h := h v3 hn
            refine gh_istore_n (L2 := [(3, 0, v3), (0, 2, 63), (1, 0, v1), (2, 0, v2)]) gd_Model_readRows_161 (by decide) rfl ?_
            refine gh_aload_n gd_Model_readRows_162 1 rfl (by decide) ?_
            refine cv_Model_takes (d := d + 5) gd_Model_readRows_163 gh_k1685 hF (Nat.le_of_ble_eq_true rfl) (gh_C.mono (s_Model_takes (d + 1) hF h) (fun r2722 m2723 hq => ?_))
            obtain ⟨hF, h⟩ := hq
            refine gh_istore_n (L2 := [(2, 0, r2722), (3, 0, v3), (0, 2, 63), (1, 0, v1)]) gd_Model_readRows_166 (by decide) rfl ?_
            refine gh_iload_n gd_Model_readRows_167 1 rfl ?_
            have k2724 : ∀ x2725 : Int, x2725 = (if v3 = 0 then 2 else 0) → gh_T E (gh_yModel_readRows.cls, prog_14_method_26_code, 4, false, 0) (d + 6) 176 [(2, 0, r2722), (3, 0, v3), (0, 2, 63), (1, 0, v1)] [(0, x2725)] m2723 (fun r m1 => gh_F m1 ∧ Q r m1) := by
              rintro _ rfl
              refine gh_name (fun v1' hn => ?_)
              have h := h v1' hn
              refine gh_istore_n (L2 := [(1, 0, v1'), (2, 0, r2722), (3, 0, v3), (0, 2, 63)]) gd_Model_readRows_176 (by decide) rfl ?_
              refine gh_pick (L2 := [(0, 2, 63), (1, 0, v1'), (2, 0, r2722)]) [3, 0, 1] rfl ?_
              exact hJ177 v1' r2722 m2723 hF h
            refine gh_zeq (tgt := 175) gd_Model_readRows_168 (by decide) (fun c2726 => ?_) (fun c2726 => ?_)
            · have hz : True := trivial
              refine gh_iconst gd_Model_readRows_175 (gh_r0 rfl) ?_
              exact k2724 _ (by rw [if_pos c2726])
            · have hz : True := trivial
              refine gh_iconst gd_Model_readRows_171 (gh_r0 rfl) ?_
              refine gh_goto (tgt := 176) gd_Model_readRows_172 (by decide) ?_
              exact k2724 _ (by rw [if_neg c2726])
          refine gh_jne (tgt := 160) gd_Model_readRows_144 (by decide) (fun c2727 => ?_) (fun c2727 => ?_)
          · have hz : True := trivial
            refine gh_aload_n gd_Model_readRows_147 0 rfl (by decide) ?_
            refine gf_63_7 gd_Model_readRows_148 gh_k1374 hF rfl ?_
            refine gh_bipush gd_Model_readRows_151 (by decide) (gh_r0 rfl) ?_
            refine gh_jne (tgt := 160) gd_Model_readRows_153 (by decide) (fun c2728 => ?_) (fun c2728 => ?_)
            · have hz : True := trivial
              refine gh_iconst gd_Model_readRows_156 (gh_r0 rfl) ?_
              refine gh_goto (tgt := 161) gd_Model_readRows_157 (by decide) ?_
              exact k2720 _ (if_pos (c := (((m 63 5) = 5) ∧ ((m 63 7) = 59))) ⟨c2727, c2728⟩).symm
            · have hz : True := trivial
              refine gh_iconst gd_Model_readRows_160 (gh_r0 rfl) ?_
              exact k2720 _ (if_neg (c := (((m 63 5) = 5) ∧ ((m 63 7) = 59))) (fun z => c2728 z.2)).symm
          · have hz : True := trivial
            refine gh_iconst gd_Model_readRows_160 (gh_r0 rfl) ?_
            exact k2720 _ (if_neg (c := (((m 63 5) = 5) ∧ ((m 63 7) = 59))) (fun z => c2727 z.1)).symm
  have k2707 : ¬ ((v2 = 0) ∧ (¬ (v1 ≤ 0) ∨ (¬ ((m 63 5) = 1) ∨ ((m 63 8) = 0)))) → gh_T E (gh_yModel_readRows.cls, prog_14_method_26_code, 4, false, 0) (d + 6) 188 [(0, 2, 63), (1, 0, v1), (2, 0, v2)] [] m (fun r m1 => gh_F m1 ∧ Q r m1) := by
    intro c
    have h := hB c
    refine gh_pick (L2 := [(0, 2, 63), (2, 0, v2)]) [0, 2] rfl ?_
    exact hJ188 v2 m hF h
  refine gh_zne (tgt := 188) gd_Model_readRows_39 (by decide) (fun c2729 => ?_) (fun c2729 => ?_)
  · have hz : True := trivial
    refine gh_iload_n gd_Model_readRows_42 1 rfl ?_
    refine gh_zgt (tgt := 61) gd_Model_readRows_43 (by decide) (fun c2730 => ?_) (fun c2730 => ?_)
    · have hz : True := trivial
      refine gh_aload_n gd_Model_readRows_46 0 rfl (by decide) ?_
      refine gf_63_5 gd_Model_readRows_47 gh_k1372 hF rfl ?_
      refine gh_iconst gd_Model_readRows_50 (gh_r0 rfl) ?_
      refine gh_jne (tgt := 61) gd_Model_readRows_51 (by decide) (fun c2731 => ?_) (fun c2731 => ?_)
      · have hz : True := trivial
        refine gh_aload_n gd_Model_readRows_54 0 rfl (by decide) ?_
        refine gf_63_8 gd_Model_readRows_55 gh_k1375 hF rfl ?_
        refine gh_zne (tgt := 188) gd_Model_readRows_58 (by decide) (fun c2732 => ?_) (fun c2732 => ?_)
        · have hz : True := trivial
          exact k2706 ⟨c2729, (Or.inr (Or.inr c2732))⟩
        · have hz : True := trivial
          exact k2707 (fun z => (fun z => z.elim (fun w => w c2730) (fun z => z.elim (fun w => w c2731) c2732)) z.2)
      · have hz : True := trivial
        exact k2706 ⟨c2729, (Or.inr (Or.inl c2731))⟩
    · have hz : True := trivial
      exact k2706 ⟨c2729, (Or.inl c2730)⟩
  · have hz : True := trivial
    exact k2707 (fun z => c2729 z.1)
theorem s_Model_readRows {E : gh_E} {m : gh_M} {Q : Int → gh_M → Prop} (d : Nat) (hF : gh_F m) (h : w_Model_readRows m Q) : gh_C E gh_yModel_readRows prog_14_method_26_code 4 (some .int) 0 (d + 6) [(2, 63)] m (fun r m1 => gh_F m1 ∧ Q r m1) := by
  refine gh_enter2 (L := [(0, 2, 63)]) (by decide +kernel) gh_rt0 (Nat.le_of_ble_eq_true rfl) rfl rfl ?_
  unfold w_Model_readRows at h
  refine gh_aload_n gd_Model_readRows_0 0 rfl (by decide) ?_
  refine gh_iconst gd_Model_readRows_1 (gh_r0 rfl) ?_
  refine pf_63_4 gd_Model_readRows_2 gh_k1371 hF (fun hF => ?_)
  refine gh_aload_n gd_Model_readRows_5 0 rfl (by decide) ?_
  refine gh_iconst gd_Model_readRows_6 (gh_r0 rfl) ?_
  refine pf_63_8 gd_Model_readRows_7 gh_k1375 hF (fun hF => ?_)
  refine gh_aload_n gd_Model_readRows_10 0 rfl (by decide) ?_
  refine gh_iconst gd_Model_readRows_11 (gh_r0 rfl) ?_
  refine pf_63_9 gd_Model_readRows_12 gh_k1376 hF (fun hF => ?_)
  refine gh_aload_n gd_Model_readRows_15 0 rfl (by decide) ?_
  refine gh_iconst gd_Model_readRows_16 (gh_r0 rfl) ?_
  refine pf_63_11 gd_Model_readRows_17 gh_k1378 hF (fun hF => ?_)
  refine gh_aload_n gd_Model_readRows_20 0 rfl (by decide) ?_
  refine gh_iconst gd_Model_readRows_21 (gh_r0 rfl) ?_
  refine pf_63_16 gd_Model_readRows_22 gh_k1383 hF (fun hF => ?_)
  refine gh_aload_n gd_Model_readRows_25 0 rfl (by decide) ?_
  refine gh_iconst gd_Model_readRows_26 (gh_r0 rfl) ?_
  refine pf_63_22 gd_Model_readRows_27 gh_k1389 hF (fun hF => ?_)
  refine gh_iconst gd_Model_readRows_30 (gh_r0 rfl) ?_
  refine gh_istore_n (L2 := [(1, 0, 0), (0, 2, 63)]) gd_Model_readRows_31 (by decide) rfl ?_
  refine gh_iconst gd_Model_readRows_32 (gh_r0 rfl) ?_
  refine gh_istore_n (L2 := [(2, 0, 0), (1, 0, 0), (0, 2, 63)]) gd_Model_readRows_33 (by decide) rfl ?_
  refine gh_aload_n gd_Model_readRows_34 2 rfl (by decide) ?_
  refine cv_Model_next (d := d + 5) gd_Model_readRows_35 gh_k1654 hF (Nat.le_of_ble_eq_true rfl) (gh_C.mono (s_Model_next (d + 2) hF h) (fun r2692 m2693 hq => ?_))
  obtain ⟨hF, h⟩ := hq
  refine gh_pick (L2 := [(0, 2, 63), (1, 0, 0), (2, 0, 0)]) [2, 1, 0] rfl ?_
  exact gh_M2_sound (T := fun v1 v2 m => gh_T E (gh_yModel_readRows.cls, prog_14_method_26_code, 4, false, 0) (d + 6) 38 [(0, 2, 63), (1, 0, v1), (2, 0, v2)] [] m (fun r m1 => gh_F m1 ∧ Q r m1)) (fun _ _ m => gh_F m) (fun K38 v1 v2 m hK hF h => b_Model_readRows_38 d hK v1 v2 m hF h) 0 0 m2693 hF h
def f_Model_takeNames_40 (v1 : Int) (K2 : Int → gh_M → Prop) (K40 : Int → gh_M → Prop) (v2 : Int) (m : gh_M) : Prop := 0 ≤ v1 ∧ v1 < 8 ∧ ((v2 < (m 75 v1) → gh_i (3 * v1) ∧ gh_i ((3 * v1) + v2) ∧ 0 ≤ v1 ∧ v1 < 8 ∧ gh_i ((m 65 v1) + v2) ∧ 0 ≤ (m 65 v1) + v2 ∧ ((m 65 v1) + v2) < 240 ∧ 0 ≤ (3 * v1) + v2 ∧ ((3 * v1) + v2) < 24 ∧ gh_i (v2 + 1) ∧ K40 (v2 + 1) (gh_u m 76 ((3 * v1) + v2) (m 64 ((m 65 v1) + v2)))) ∧ (¬ (v2 < (m 75 v1)) → gh_i (v1 + 1) ∧ K2 (v1 + 1) m))
def f_Model_takeNames_2 (Q : Int → gh_M → Prop) (K2 : Int → gh_M → Prop) (v1 : Int) (m : gh_M) : Prop := ((v1 < (m 63 26) → ∃ J37 : Int → Int → Int → Prop, (∀ (y2 : Int) (y1 : Int) (z2 : Int), J37 y2 y1 z2 → 0 ≤ y1 ∧ y1 < 8 ∧ gh_M1 (fun K40 v2 m => f_Model_takeNames_40 v1 K2 K40 v2 m) 0 (gh_u m 75 y1 y2)) ∧ ((v1 < (m 63 25) → 0 ≤ v1 ∧ v1 < 8 ∧ w_Model_nameLength (m 65 v1) m (fun r2753 => J37 r2753 v1 75)) ∧ (¬ (v1 < (m 63 25)) → J37 0 v1 75))) ∧ (¬ (v1 < (m 63 26)) → Q 0 m))
def w_Model_takeNames (m : gh_M) (Q : Int → gh_M → Prop) : Prop := gh_M1 (fun K2 v1 m => f_Model_takeNames_2 Q K2 v1 m) 0 m
theorem b_Model_takeNames_40 {E : gh_E} {v1 : Int} {K2 : Int → gh_M → Prop} {Q : Int → gh_M → Prop} {K40 : Int → gh_M → Prop} (d : Nat) (hK2 : ∀ (v1 : Int) (m : gh_M), gh_F m → K2 v1 m → gh_T E (gh_yModel_takeNames.cls, prog_14_method_29_code, 3, false, 9) (d + 3) 2 [(0, 2, 63), (1, 0, v1)] [] m (fun r m1 => gh_F m1 ∧ Q r m1)) (hK : ∀ (v2 : Int) (m : gh_M), gh_F m → K40 v2 m → gh_T E (gh_yModel_takeNames.cls, prog_14_method_29_code, 3, false, 9) (d + 3) 40 [(0, 2, 63), (1, 0, v1), (2, 0, v2)] [] m (fun r m1 => gh_F m1 ∧ Q r m1)) (v2 : Int) (m : gh_M) (hF : gh_F m) (h : f_Model_takeNames_40 v1 K2 K40 v2 m) : gh_T E (gh_yModel_takeNames.cls, prog_14_method_29_code, 3, false, 9) (d + 3) 40 [(0, 2, 63), (1, 0, v1), (2, 0, v2)] [] m (fun r m1 => gh_F m1 ∧ Q r m1) := by
  have hK40 := hK
  unfold f_Model_takeNames_40 at h
  refine gh_iload_n gd_Model_takeNames_40 2 rfl ?_
  refine gh_aload_n gd_Model_takeNames_41 0 rfl (by decide) ?_
  refine gf_63_28 gd_Model_takeNames_42 gh_k1395 hF ?_
  refine gh_iload_n gd_Model_takeNames_45 1 rfl ?_
  obtain ⟨q2736, h⟩ := h
  obtain ⟨q2737, h⟩ := h
  refine la_75 gd_Model_takeNames_46 hF q2736 q2737 rfl ?_
  obtain ⟨hA, hB⟩ := h
  refine gh_jge (tgt := 79) gd_Model_takeNames_47 (by decide) (fun c2738 => ?_) (fun c2738 => ?_)
  · have h := hA c2738
    refine gh_aload_n gd_Model_takeNames_50 0 rfl (by decide) ?_
    refine gf_63_29 gd_Model_takeNames_51 gh_k1396 hF ?_
    refine gh_iconst gd_Model_takeNames_54 (gh_r0 rfl) ?_
    refine gh_iload_n gd_Model_takeNames_55 1 rfl ?_
    obtain ⟨q2739, h⟩ := h
    refine gh_imul gd_Model_takeNames_56 q2739 ?_
    refine gh_iload_n gd_Model_takeNames_57 2 rfl ?_
    obtain ⟨q2740, h⟩ := h
    refine gh_iadd gd_Model_takeNames_58 q2740 ?_
    refine gh_aload_n gd_Model_takeNames_59 0 rfl (by decide) ?_
    refine gf_63_0 gd_Model_takeNames_60 gh_k1367 hF ?_
    refine gh_aload_n gd_Model_takeNames_63 0 rfl (by decide) ?_
    refine gf_63_10 gd_Model_takeNames_64 gh_k1377 hF ?_
    refine gh_iload_n gd_Model_takeNames_67 1 rfl ?_
    obtain ⟨q2741, h⟩ := h
    obtain ⟨q2742, h⟩ := h
    refine la_65 gd_Model_takeNames_68 hF q2741 q2742 rfl ?_
    refine gh_iload_n gd_Model_takeNames_69 2 rfl ?_
    obtain ⟨q2743, h⟩ := h
    refine gh_iadd gd_Model_takeNames_70 q2743 ?_
    obtain ⟨q2744, h⟩ := h
    obtain ⟨q2745, h⟩ := h
    refine la_64 gd_Model_takeNames_71 hF q2744 q2745 rfl ?_
    obtain ⟨q2746, h⟩ := h
    obtain ⟨q2747, h⟩ := h
    refine sa_76 gd_Model_takeNames_72 hF q2746 q2747 (fun hF => ?_)
    obtain ⟨q2748, h⟩ := h
    refine gh_iinc (L2 := [(2, 0, v2 + 1), (0, 2, 63), (1, 0, v1)]) gd_Model_takeNames_73 2 rfl q2748 (by decide) rfl ?_
    refine gh_goto (tgt := 40) gd_Model_takeNames_76 (by decide) ?_
    refine gh_pick (L2 := [(0, 2, 63), (1, 0, v1), (2, 0, v2 + 1)]) [1, 2, 0] rfl ?_
    exact hK40 (v2 + 1) (gh_u m 76 ((3 * v1) + v2) (m 64 ((m 65 v1) + v2))) hF h
  · have h := hB c2738
    obtain ⟨q2749, h⟩ := h
    refine gh_iinc (L2 := [(1, 0, v1 + 1), (0, 2, 63), (2, 0, v2)]) gd_Model_takeNames_79 1 rfl q2749 (by decide) rfl ?_
    refine gh_goto (tgt := 2) gd_Model_takeNames_82 (by decide) ?_
    refine gh_pick (L2 := [(0, 2, 63), (1, 0, v1 + 1)]) [1, 0] rfl ?_
    exact hK2 (v1 + 1) m hF h
theorem b_Model_takeNames_2 {E : gh_E} {Q : Int → gh_M → Prop} {K2 : Int → gh_M → Prop} (d : Nat) (hK : ∀ (v1 : Int) (m : gh_M), gh_F m → K2 v1 m → gh_T E (gh_yModel_takeNames.cls, prog_14_method_29_code, 3, false, 9) (d + 3) 2 [(0, 2, 63), (1, 0, v1)] [] m (fun r m1 => gh_F m1 ∧ Q r m1)) (v1 : Int) (m : gh_M) (hF : gh_F m) (h : f_Model_takeNames_2 Q K2 v1 m) : gh_T E (gh_yModel_takeNames.cls, prog_14_method_29_code, 3, false, 9) (d + 3) 2 [(0, 2, 63), (1, 0, v1)] [] m (fun r m1 => gh_F m1 ∧ Q r m1) := by
  have hK2 := hK
  unfold f_Model_takeNames_2 at h
  refine gh_iload_n gd_Model_takeNames_2 1 rfl ?_
  refine gh_aload_n gd_Model_takeNames_3 0 rfl (by decide) ?_
  refine gf_63_26 gd_Model_takeNames_4 gh_k1393 hF rfl ?_
  obtain ⟨hA, hB⟩ := h
  refine gh_jge (tgt := 85) gd_Model_takeNames_7 (by decide) (fun c2733 => ?_) (fun c2733 => ?_)
  · have h := hA c2733
    refine gh_aload_n gd_Model_takeNames_10 0 rfl (by decide) ?_
    refine gf_63_28 gd_Model_takeNames_11 gh_k1395 hF ?_
    refine gh_iload_n gd_Model_takeNames_14 1 rfl ?_
    refine gh_iload_n gd_Model_takeNames_15 1 rfl ?_
    refine gh_aload_n gd_Model_takeNames_16 0 rfl (by decide) ?_
    refine gf_63_25 gd_Model_takeNames_17 gh_k1392 hF rfl ?_
    obtain ⟨J37, hJ37, h⟩ := h
    have hJ37 : ∀ (y2 : Int) (y1 : Int) (z2 : Int), gh_F m → J37 y2 y1 z2 → gh_T E (gh_yModel_takeNames.cls, prog_14_method_29_code, 3, false, 9) (d + 3) 37 [(0, 2, 63), (1, 0, v1)] [(0, y2), (0, y1), (2, 75)] m (fun r m1 => gh_F m1 ∧ Q r m1) := by
      intro y2 y1 z2 hF hj
      have h := hJ37 y2 y1 z2 hj
      obtain ⟨q2734, h⟩ := h
      obtain ⟨q2735, h⟩ := h
      refine sa_75 gd_Model_takeNames_37 hF q2734 q2735 (fun hF => ?_)
      refine gh_iconst gd_Model_takeNames_38 (gh_r0 rfl) ?_
      refine gh_istore_n (L2 := [(2, 0, 0), (0, 2, 63), (1, 0, v1)]) gd_Model_takeNames_39 (by decide) rfl ?_
      refine gh_pick (L2 := [(0, 2, 63), (1, 0, v1), (2, 0, 0)]) [1, 2, 0] rfl ?_
      exact gh_M1_sound (T := fun v2 m => gh_T E (gh_yModel_takeNames.cls, prog_14_method_29_code, 3, false, 9) (d + 3) 40 [(0, 2, 63), (1, 0, v1), (2, 0, v2)] [] m (fun r m1 => gh_F m1 ∧ Q r m1)) (fun _ m => gh_F m) (fun K40 v2 m hK hF h => b_Model_takeNames_40 d hK2 hK v2 m hF h) 0 (gh_u m 75 y1 y2) hF h
    obtain ⟨hA, hB⟩ := h
    refine gh_jge (tgt := 36) gd_Model_takeNames_20 (by decide) (fun c2750 => ?_) (fun c2750 => ?_)
    · have h := hA c2750
      refine gh_aload_n gd_Model_takeNames_23 0 rfl (by decide) ?_
      refine gh_aload_n gd_Model_takeNames_24 0 rfl (by decide) ?_
      refine gf_63_10 gd_Model_takeNames_25 gh_k1377 hF ?_
      refine gh_iload_n gd_Model_takeNames_28 1 rfl ?_
      obtain ⟨q2751, h⟩ := h
      obtain ⟨q2752, h⟩ := h
      refine la_65 gd_Model_takeNames_29 hF q2751 q2752 rfl ?_
      refine cv_Model_nameLength (d := d + 2) gd_Model_takeNames_30 gh_k1662 hF (Nat.le_of_ble_eq_true rfl) (gh_C.pw (s_Model_nameLength d (m 65 v1) hF h) (fun r2753 h => ?_))
      refine gh_goto (tgt := 37) gd_Model_takeNames_33 (by decide) ?_
      exact hJ37 r2753 v1 75 hF h
    · have h := hB c2750
      refine gh_iconst gd_Model_takeNames_36 (gh_r0 rfl) ?_
      exact hJ37 0 v1 75 hF h
  · have h := hB c2733
    exact gh_ret9 rfl gd_Model_takeNames_85 ⟨hF, h⟩
theorem s_Model_takeNames {E : gh_E} {m : gh_M} {Q : Int → gh_M → Prop} (d : Nat) (hF : gh_F m) (h : w_Model_takeNames m Q) : gh_C E gh_yModel_takeNames prog_14_method_29_code 3 none 9 (d + 3) [(2, 63)] m (fun r m1 => gh_F m1 ∧ Q r m1) := by
  refine gh_enter2 (L := [(0, 2, 63)]) (by decide +kernel) gh_rt9 (Nat.le_of_ble_eq_true rfl) rfl rfl ?_
  unfold w_Model_takeNames at h
  refine gh_iconst gd_Model_takeNames_0 (gh_r0 rfl) ?_
  refine gh_istore_n (L2 := [(1, 0, 0), (0, 2, 63)]) gd_Model_takeNames_1 (by decide) rfl ?_
  refine gh_pick (L2 := [(0, 2, 63), (1, 0, 0)]) [1, 0] rfl ?_
  exact gh_M1_sound (T := fun v1 m => gh_T E (gh_yModel_takeNames.cls, prog_14_method_29_code, 3, false, 9) (d + 3) 2 [(0, 2, 63), (1, 0, v1)] [] m (fun r m1 => gh_F m1 ∧ Q r m1)) (fun _ m => gh_F m) (fun K2 v1 m hK hF h => b_Model_takeNames_2 d hK v1 m hF h) 0 m hF h
def w_Model_partOf (v1 : Int) (m : gh_M) (Q : Int → Prop) : Prop := ((v1 ≤ 0 → ((v1 ≤ (-2000) → gh_i ((-1) - (m 63 8)) ∧ gh_i ((-2000) - v1) ∧ gh_i (((-1) - (m 63 8)) - ((-2000) - v1)) ∧ Q (((-1) - (m 63 8)) - ((-2000) - v1))) ∧ (¬ (v1 ≤ (-2000)) → gh_i ((-1000) - v1) ∧ w_Model_toldOf ((-1000) - v1) m (fun r2761 => gh_i ((-1) - r2761) ∧ Q ((-1) - r2761))))) ∧ (¬ (v1 ≤ 0) → Q v1))
theorem s_Model_partOf {E : gh_E} {m : gh_M} {Q : Int → Prop} (d : Nat) (v1 : Int) (hF : gh_F m) (h : w_Model_partOf v1 m Q) : gh_C E gh_yModel_partOf prog_14_method_28_code 2 (some .int) 0 (d + 5) [(2, 63), (0, v1)] m (fun r m1 => m1 = m ∧ Q r) := by
  refine gh_enter2 (L := [(0, 2, 63), (1, 0, v1)]) (by decide +kernel) gh_rt0 (Nat.le_of_ble_eq_true rfl) rfl rfl ?_
  unfold w_Model_partOf at h
  refine gh_iload_n gd_Model_partOf_0 1 rfl ?_
  obtain ⟨hA, hB⟩ := h
  refine gh_zle (tgt := 8) gd_Model_partOf_1 (by decide) (fun c2755 => ?_) (fun c2755 => ?_)
  · have h := hA c2755
    refine gh_iload_n gd_Model_partOf_8 1 rfl ?_
    refine gh_sipush gd_Model_partOf_9 (by decide) (gh_r0 rfl) ?_
    obtain ⟨hA, hB⟩ := h
    refine gh_jgt (tgt := 30) gd_Model_partOf_12 (by decide) (fun c2756 => ?_) (fun c2756 => ?_)
    · have h := hA c2756
      refine gh_iconst gd_Model_partOf_15 (gh_r0 rfl) ?_
      refine gh_aload_n gd_Model_partOf_16 0 rfl (by decide) ?_
      refine gf_63_8 gd_Model_partOf_17 gh_k1375 hF rfl ?_
      obtain ⟨q2757, h⟩ := h
      refine gh_isub gd_Model_partOf_20 q2757 ?_
      refine gh_sipush gd_Model_partOf_21 (by decide) (gh_r0 rfl) ?_
      refine gh_iload_n gd_Model_partOf_24 1 rfl ?_
      obtain ⟨q2758, h⟩ := h
      refine gh_isub gd_Model_partOf_25 q2758 ?_
      obtain ⟨q2759, h⟩ := h
      refine gh_isub gd_Model_partOf_26 q2759 ?_
      refine gh_goto (tgt := 41) gd_Model_partOf_27 (by decide) ?_
      exact gh_ret0 rfl gd_Model_partOf_41 ⟨rfl, h⟩
    · have h := hB c2756
      refine gh_iconst gd_Model_partOf_30 (gh_r0 rfl) ?_
      refine gh_aload_n gd_Model_partOf_31 0 rfl (by decide) ?_
      refine gh_sipush gd_Model_partOf_32 (by decide) (gh_r0 rfl) ?_
      refine gh_iload_n gd_Model_partOf_35 1 rfl ?_
      obtain ⟨q2760, h⟩ := h
      refine gh_isub gd_Model_partOf_36 q2760 ?_
      refine cv_Model_toldOf (d := d + 4) gd_Model_partOf_37 gh_k1677 hF (Nat.le_of_ble_eq_true rfl) (gh_C.pw (s_Model_toldOf d ((-1000) - v1) hF h) (fun r2761 h => ?_))
      obtain ⟨q2763, h⟩ := h
      refine gh_isub gd_Model_partOf_40 q2763 ?_
      exact gh_ret0 rfl gd_Model_partOf_41 ⟨rfl, h⟩
  · have h := hB c2755
    refine gh_iload_n gd_Model_partOf_4 1 rfl ?_
    refine gh_goto (tgt := 41) gd_Model_partOf_5 (by decide) ?_
    exact gh_ret0 rfl gd_Model_partOf_41 ⟨rfl, h⟩
def f_Model_takeRules_76 (v1 : Int) (v2 : Int) (J129 : gh_M → Prop) (K76 : Int → gh_M → Prop) (v3 : Int) (m : gh_M) : Prop := 0 ≤ v2 ∧ v2 < 20 ∧ ((v3 < (m 67 v2) → gh_i (4 * (m 63 27)) ∧ gh_i ((4 * (m 63 27)) + v3) ∧ gh_i (4 * v2) ∧ gh_i ((4 * v2) + v3) ∧ 0 ≤ (4 * v2) + v3 ∧ ((4 * v2) + v3) < 80 ∧ w_Model_partOf (m 68 ((4 * v2) + v3)) m (fun r2788 => 0 ≤ (4 * (m 63 27)) + v3 ∧ ((4 * (m 63 27)) + v3) < 80 ∧ gh_i (v3 + 1) ∧ K76 (v3 + 1) (gh_u m 81 ((4 * (m 63 27)) + v3) r2788))) ∧ (¬ (v3 < (m 67 v2)) → gh_i ((m 63 27) + 1) ∧ J129 (gh_u m 63 27 ((m 63 27) + 1))))
def f_Model_takeRules_27 (v1 : Int) (K7 : Int → gh_M → Prop) (K27 : Int → gh_M → Prop) (v2 : Int) (m : gh_M) : Prop := ((v2 < (m 63 11) → 0 ≤ v2 ∧ v2 < 20 ∧ k_Model_numberOf (m 66 v2) m ∧ ∃ J129 : gh_M → Prop, (∀ (m : gh_M), J129 m → gh_i (v2 + 1) ∧ K27 (v2 + 1) m) ∧ (((x_Model_numberOf (m 66 v2) m) = v1 → 0 ≤ m 63 27 ∧ (m 63 27) < 20 ∧ 0 ≤ v2 ∧ v2 < 20 ∧ 0 ≤ m 63 27 ∧ (m 63 27) < 20 ∧ gh_M1 (fun K76 v3 m => f_Model_takeRules_76 v1 v2 J129 K76 v3 m) 0 (gh_u (gh_u m 79 (m 63 27) v1) 80 (m 63 27) (m 67 v2))) ∧ (¬ ((x_Model_numberOf (m 66 v2) m) = v1) → J129 m))) ∧ (¬ (v2 < (m 63 11)) → 0 ≤ v1 ∧ v1 < 8 ∧ gh_i ((m 63 27) - (m 77 v1)) ∧ 0 ≤ v1 ∧ v1 < 8 ∧ gh_i (v1 + 1) ∧ K7 (v1 + 1) (gh_u m 78 v1 ((m 63 27) - (m 77 v1)))))
def f_Model_takeRules_7 (Q : Int → gh_M → Prop) (K7 : Int → gh_M → Prop) (v1 : Int) (m : gh_M) : Prop := ((v1 < (m 63 26) → 0 ≤ v1 ∧ v1 < 8 ∧ gh_M1 (fun K27 v2 m => f_Model_takeRules_27 v1 K7 K27 v2 m) 0 (gh_u m 77 v1 (m 63 27))) ∧ (¬ (v1 < (m 63 26)) → Q 0 m))
def w_Model_takeRules (m : gh_M) (Q : Int → gh_M → Prop) : Prop := gh_M1 (fun K7 v1 m => f_Model_takeRules_7 Q K7 v1 m) 0 (gh_u m 63 27 0)
theorem b_Model_takeRules_76 {E : gh_E} {v1 : Int} {v2 : Int} {J129 : gh_M → Prop} {Q : Int → gh_M → Prop} {K76 : Int → gh_M → Prop} (d : Nat) (hJ129 : ∀ (m : gh_M), gh_F m → J129 m → gh_T E (gh_yModel_takeRules.cls, prog_14_method_30_code, 4, false, 9) (d + 6) 129 [(0, 2, 63), (1, 0, v1), (2, 0, v2)] [] m (fun r m1 => gh_F m1 ∧ Q r m1)) (hK : ∀ (v3 : Int) (m : gh_M), gh_F m → K76 v3 m → gh_T E (gh_yModel_takeRules.cls, prog_14_method_30_code, 4, false, 9) (d + 6) 76 [(0, 2, 63), (1, 0, v1), (2, 0, v2), (3, 0, v3)] [] m (fun r m1 => gh_F m1 ∧ Q r m1)) (v3 : Int) (m : gh_M) (hF : gh_F m) (h : f_Model_takeRules_76 v1 v2 J129 K76 v3 m) : gh_T E (gh_yModel_takeRules.cls, prog_14_method_30_code, 4, false, 9) (d + 6) 76 [(0, 2, 63), (1, 0, v1), (2, 0, v2), (3, 0, v3)] [] m (fun r m1 => gh_F m1 ∧ Q r m1) := by
  have hK76 := hK
  unfold f_Model_takeRules_76 at h
  refine gh_iload_n gd_Model_takeRules_76 3 rfl ?_
  refine gh_aload_n gd_Model_takeRules_77 0 rfl (by decide) ?_
  refine gf_63_13 gd_Model_takeRules_78 gh_k1380 hF ?_
  refine gh_iload_n gd_Model_takeRules_81 2 rfl ?_
  obtain ⟨q2779, h⟩ := h
  obtain ⟨q2780, h⟩ := h
  refine la_67 gd_Model_takeRules_82 hF q2779 q2780 rfl ?_
  obtain ⟨hA, hB⟩ := h
  refine gh_jge (tgt := 119) gd_Model_takeRules_83 (by decide) (fun c2781 => ?_) (fun c2781 => ?_)
  · have h := hA c2781
    refine gh_aload_n gd_Model_takeRules_86 0 rfl (by decide) ?_
    refine gf_63_34 gd_Model_takeRules_87 gh_k1401 hF ?_
    refine gh_iconst gd_Model_takeRules_90 (gh_r0 rfl) ?_
    refine gh_aload_n gd_Model_takeRules_91 0 rfl (by decide) ?_
    refine gf_63_27 gd_Model_takeRules_92 gh_k1394 hF rfl ?_
    obtain ⟨q2782, h⟩ := h
    refine gh_imul gd_Model_takeRules_95 q2782 ?_
    refine gh_iload_n gd_Model_takeRules_96 3 rfl ?_
    obtain ⟨q2783, h⟩ := h
    refine gh_iadd gd_Model_takeRules_97 q2783 ?_
    refine gh_aload_n gd_Model_takeRules_98 0 rfl (by decide) ?_
    refine gh_aload_n gd_Model_takeRules_99 0 rfl (by decide) ?_
    refine gf_63_14 gd_Model_takeRules_100 gh_k1381 hF ?_
    refine gh_iconst gd_Model_takeRules_103 (gh_r0 rfl) ?_
    refine gh_iload_n gd_Model_takeRules_104 2 rfl ?_
    obtain ⟨q2784, h⟩ := h
    refine gh_imul gd_Model_takeRules_105 q2784 ?_
    refine gh_iload_n gd_Model_takeRules_106 3 rfl ?_
    obtain ⟨q2785, h⟩ := h
    refine gh_iadd gd_Model_takeRules_107 q2785 ?_
    obtain ⟨q2786, h⟩ := h
    obtain ⟨q2787, h⟩ := h
    refine la_68 gd_Model_takeRules_108 hF q2786 q2787 rfl ?_
    refine cv_Model_partOf (d := d + 5) gd_Model_takeRules_109 gh_k1733 hF (Nat.le_of_ble_eq_true rfl) (gh_C.pw (s_Model_partOf d (m 68 ((4 * v2) + v3)) hF h) (fun r2788 h => ?_))
    obtain ⟨q2790, h⟩ := h
    obtain ⟨q2791, h⟩ := h
    refine sa_81 gd_Model_takeRules_112 hF q2790 q2791 (fun hF => ?_)
    obtain ⟨q2792, h⟩ := h
    refine gh_iinc (L2 := [(3, 0, v3 + 1), (0, 2, 63), (1, 0, v1), (2, 0, v2)]) gd_Model_takeRules_113 3 rfl q2792 (by decide) rfl ?_
    refine gh_goto (tgt := 76) gd_Model_takeRules_116 (by decide) ?_
    refine gh_pick (L2 := [(0, 2, 63), (1, 0, v1), (2, 0, v2), (3, 0, v3 + 1)]) [1, 2, 3, 0] rfl ?_
    exact hK76 (v3 + 1) (gh_u m 81 ((4 * (m 63 27)) + v3) r2788) hF h
  · have h := hB c2781
    refine gh_aload_n gd_Model_takeRules_119 0 rfl (by decide) ?_
    refine gh_dup gd_Model_takeRules_120 (by decide) ?_
    refine gf_63_27 gd_Model_takeRules_121 gh_k1394 hF rfl ?_
    refine gh_iconst gd_Model_takeRules_124 (gh_r0 rfl) ?_
    obtain ⟨q2793, h⟩ := h
    refine gh_iadd gd_Model_takeRules_125 q2793 ?_
    refine pf_63_27 gd_Model_takeRules_126 gh_k1394 hF (fun hF => ?_)
    refine gh_pick (L2 := [(0, 2, 63), (1, 0, v1), (2, 0, v2)]) [0, 1, 2] rfl ?_
    exact hJ129 (gh_u m 63 27 ((m 63 27) + 1)) hF h
theorem b_Model_takeRules_27 {E : gh_E} {v1 : Int} {K7 : Int → gh_M → Prop} {Q : Int → gh_M → Prop} {K27 : Int → gh_M → Prop} (d : Nat) (hK7 : ∀ (v1 : Int) (m : gh_M), gh_F m → K7 v1 m → gh_T E (gh_yModel_takeRules.cls, prog_14_method_30_code, 4, false, 9) (d + 6) 7 [(0, 2, 63), (1, 0, v1)] [] m (fun r m1 => gh_F m1 ∧ Q r m1)) (hK : ∀ (v2 : Int) (m : gh_M), gh_F m → K27 v2 m → gh_T E (gh_yModel_takeRules.cls, prog_14_method_30_code, 4, false, 9) (d + 6) 27 [(0, 2, 63), (1, 0, v1), (2, 0, v2)] [] m (fun r m1 => gh_F m1 ∧ Q r m1)) (v2 : Int) (m : gh_M) (hF : gh_F m) (h : f_Model_takeRules_27 v1 K7 K27 v2 m) : gh_T E (gh_yModel_takeRules.cls, prog_14_method_30_code, 4, false, 9) (d + 6) 27 [(0, 2, 63), (1, 0, v1), (2, 0, v2)] [] m (fun r m1 => gh_F m1 ∧ Q r m1) := by
  have hK27 := hK
  unfold f_Model_takeRules_27 at h
  refine gh_iload_n gd_Model_takeRules_27 2 rfl ?_
  refine gh_aload_n gd_Model_takeRules_28 0 rfl (by decide) ?_
  refine gf_63_11 gd_Model_takeRules_29 gh_k1378 hF rfl ?_
  obtain ⟨hA, hB⟩ := h
  refine gh_jge (tgt := 135) gd_Model_takeRules_32 (by decide) (fun c2767 => ?_) (fun c2767 => ?_)
  · have h := hA c2767
    refine gh_aload_n gd_Model_takeRules_35 0 rfl (by decide) ?_
    refine gh_aload_n gd_Model_takeRules_36 0 rfl (by decide) ?_
    refine gf_63_12 gd_Model_takeRules_37 gh_k1379 hF ?_
    refine gh_iload_n gd_Model_takeRules_40 2 rfl ?_
    obtain ⟨q2768, h⟩ := h
    obtain ⟨q2769, h⟩ := h
    refine la_66 gd_Model_takeRules_41 hF q2768 q2769 rfl ?_
    obtain ⟨q2770, h⟩ := h
    refine cv_Model_numberOf (d := d + 5) gd_Model_takeRules_42 gh_k1729 hF (Nat.le_of_ble_eq_true rfl) (gh_C.pe (e_Model_numberOf (d + 5) (m 66 v2) hF q2770) ?_)
    refine gh_iload_n gd_Model_takeRules_45 1 rfl ?_
    obtain ⟨J129, hJ129, h⟩ := h
    have hJ129 : ∀ (m : gh_M), gh_F m → J129 m → gh_T E (gh_yModel_takeRules.cls, prog_14_method_30_code, 4, false, 9) (d + 6) 129 [(0, 2, 63), (1, 0, v1), (2, 0, v2)] [] m (fun r m1 => gh_F m1 ∧ Q r m1) := by
      intro m hF hj
      have h := hJ129 m hj
      obtain ⟨q2771, h⟩ := h
      refine gh_iinc (L2 := [(2, 0, v2 + 1), (0, 2, 63), (1, 0, v1)]) gd_Model_takeRules_129 2 rfl q2771 (by decide) rfl ?_
      refine gh_goto (tgt := 27) gd_Model_takeRules_132 (by decide) ?_
      refine gh_pick (L2 := [(0, 2, 63), (1, 0, v1), (2, 0, v2 + 1)]) [1, 2, 0] rfl ?_
      exact hK27 (v2 + 1) m hF h
    obtain ⟨hA, hB⟩ := h
    refine gh_jne (tgt := 129) gd_Model_takeRules_46 (by decide) (fun c2772 => ?_) (fun c2772 => ?_)
    · have h := hA c2772
      refine gh_aload_n gd_Model_takeRules_49 0 rfl (by decide) ?_
      refine gf_63_32 gd_Model_takeRules_50 gh_k1399 hF ?_
      refine gh_aload_n gd_Model_takeRules_53 0 rfl (by decide) ?_
      refine gf_63_27 gd_Model_takeRules_54 gh_k1394 hF rfl ?_
      refine gh_iload_n gd_Model_takeRules_57 1 rfl ?_
      obtain ⟨q2773, h⟩ := h
      obtain ⟨q2774, h⟩ := h
      refine sa_79 gd_Model_takeRules_58 hF q2773 q2774 (fun hF => ?_)
      refine gh_aload_n gd_Model_takeRules_59 0 rfl (by decide) ?_
      refine gf_63_33 gd_Model_takeRules_60 gh_k1400 hF ?_
      refine gh_aload_n gd_Model_takeRules_63 0 rfl (by decide) ?_
      refine gf_63_27 gd_Model_takeRules_64 gh_k1394 hF (gh_u_a (by decide)) ?_
      refine gh_aload_n gd_Model_takeRules_67 0 rfl (by decide) ?_
      refine gf_63_13 gd_Model_takeRules_68 gh_k1380 hF ?_
      refine gh_iload_n gd_Model_takeRules_71 2 rfl ?_
      obtain ⟨q2775, h⟩ := h
      obtain ⟨q2776, h⟩ := h
      refine la_67 gd_Model_takeRules_72 hF q2775 q2776 (gh_u_a (by decide)) ?_
      obtain ⟨q2777, h⟩ := h
      obtain ⟨q2778, h⟩ := h
      refine sa_80 gd_Model_takeRules_73 hF q2777 q2778 (fun hF => ?_)
      refine gh_iconst gd_Model_takeRules_74 (gh_r0 rfl) ?_
      refine gh_istore_n (L2 := [(3, 0, 0), (0, 2, 63), (1, 0, v1), (2, 0, v2)]) gd_Model_takeRules_75 (by decide) rfl ?_
      refine gh_pick (L2 := [(0, 2, 63), (1, 0, v1), (2, 0, v2), (3, 0, 0)]) [1, 2, 3, 0] rfl ?_
      exact gh_M1_sound (T := fun v3 m => gh_T E (gh_yModel_takeRules.cls, prog_14_method_30_code, 4, false, 9) (d + 6) 76 [(0, 2, 63), (1, 0, v1), (2, 0, v2), (3, 0, v3)] [] m (fun r m1 => gh_F m1 ∧ Q r m1)) (fun _ m => gh_F m) (fun K76 v3 m hK hF h => b_Model_takeRules_76 d hJ129 hK v3 m hF h) 0 (gh_u (gh_u m 79 (m 63 27) v1) 80 (m 63 27) (m 67 v2)) hF h
    · have h := hB c2772
      exact hJ129 m hF h
  · have h := hB c2767
    refine gh_aload_n gd_Model_takeRules_135 0 rfl (by decide) ?_
    refine gf_63_31 gd_Model_takeRules_136 gh_k1398 hF ?_
    refine gh_iload_n gd_Model_takeRules_139 1 rfl ?_
    refine gh_aload_n gd_Model_takeRules_140 0 rfl (by decide) ?_
    refine gf_63_27 gd_Model_takeRules_141 gh_k1394 hF rfl ?_
    refine gh_aload_n gd_Model_takeRules_144 0 rfl (by decide) ?_
    refine gf_63_30 gd_Model_takeRules_145 gh_k1397 hF ?_
    refine gh_iload_n gd_Model_takeRules_148 1 rfl ?_
    obtain ⟨q2794, h⟩ := h
    obtain ⟨q2795, h⟩ := h
    refine la_77 gd_Model_takeRules_149 hF q2794 q2795 rfl ?_
    obtain ⟨q2796, h⟩ := h
    refine gh_isub gd_Model_takeRules_150 q2796 ?_
    obtain ⟨q2797, h⟩ := h
    obtain ⟨q2798, h⟩ := h
    refine sa_78 gd_Model_takeRules_151 hF q2797 q2798 (fun hF => ?_)
    obtain ⟨q2799, h⟩ := h
    refine gh_iinc (L2 := [(1, 0, v1 + 1), (0, 2, 63), (2, 0, v2)]) gd_Model_takeRules_152 1 rfl q2799 (by decide) rfl ?_
    refine gh_goto (tgt := 7) gd_Model_takeRules_155 (by decide) ?_
    refine gh_pick (L2 := [(0, 2, 63), (1, 0, v1 + 1)]) [1, 0] rfl ?_
    exact hK7 (v1 + 1) (gh_u m 78 v1 ((m 63 27) - (m 77 v1))) hF h
theorem b_Model_takeRules_7 {E : gh_E} {Q : Int → gh_M → Prop} {K7 : Int → gh_M → Prop} (d : Nat) (hK : ∀ (v1 : Int) (m : gh_M), gh_F m → K7 v1 m → gh_T E (gh_yModel_takeRules.cls, prog_14_method_30_code, 4, false, 9) (d + 6) 7 [(0, 2, 63), (1, 0, v1)] [] m (fun r m1 => gh_F m1 ∧ Q r m1)) (v1 : Int) (m : gh_M) (hF : gh_F m) (h : f_Model_takeRules_7 Q K7 v1 m) : gh_T E (gh_yModel_takeRules.cls, prog_14_method_30_code, 4, false, 9) (d + 6) 7 [(0, 2, 63), (1, 0, v1)] [] m (fun r m1 => gh_F m1 ∧ Q r m1) := by
  have hK7 := hK
  unfold f_Model_takeRules_7 at h
  refine gh_iload_n gd_Model_takeRules_7 1 rfl ?_
  refine gh_aload_n gd_Model_takeRules_8 0 rfl (by decide) ?_
  refine gf_63_26 gd_Model_takeRules_9 gh_k1393 hF rfl ?_
  obtain ⟨hA, hB⟩ := h
  refine gh_jge (tgt := 158) gd_Model_takeRules_12 (by decide) (fun c2764 => ?_) (fun c2764 => ?_)
  · have h := hA c2764
    refine gh_aload_n gd_Model_takeRules_15 0 rfl (by decide) ?_
    refine gf_63_30 gd_Model_takeRules_16 gh_k1397 hF ?_
    refine gh_iload_n gd_Model_takeRules_19 1 rfl ?_
    refine gh_aload_n gd_Model_takeRules_20 0 rfl (by decide) ?_
    refine gf_63_27 gd_Model_takeRules_21 gh_k1394 hF rfl ?_
    obtain ⟨q2765, h⟩ := h
    obtain ⟨q2766, h⟩ := h
    refine sa_77 gd_Model_takeRules_24 hF q2765 q2766 (fun hF => ?_)
    refine gh_iconst gd_Model_takeRules_25 (gh_r0 rfl) ?_
    refine gh_istore_n (L2 := [(2, 0, 0), (0, 2, 63), (1, 0, v1)]) gd_Model_takeRules_26 (by decide) rfl ?_
    refine gh_pick (L2 := [(0, 2, 63), (1, 0, v1), (2, 0, 0)]) [1, 2, 0] rfl ?_
    exact gh_M1_sound (T := fun v2 m => gh_T E (gh_yModel_takeRules.cls, prog_14_method_30_code, 4, false, 9) (d + 6) 27 [(0, 2, 63), (1, 0, v1), (2, 0, v2)] [] m (fun r m1 => gh_F m1 ∧ Q r m1)) (fun _ m => gh_F m) (fun K27 v2 m hK hF h => b_Model_takeRules_27 d hK7 hK v2 m hF h) 0 (gh_u m 77 v1 (m 63 27)) hF h
  · have h := hB c2764
    exact gh_ret9 rfl gd_Model_takeRules_158 ⟨hF, h⟩
theorem s_Model_takeRules {E : gh_E} {m : gh_M} {Q : Int → gh_M → Prop} (d : Nat) (hF : gh_F m) (h : w_Model_takeRules m Q) : gh_C E gh_yModel_takeRules prog_14_method_30_code 4 none 9 (d + 6) [(2, 63)] m (fun r m1 => gh_F m1 ∧ Q r m1) := by
  refine gh_enter2 (L := [(0, 2, 63)]) (by decide +kernel) gh_rt9 (Nat.le_of_ble_eq_true rfl) rfl rfl ?_
  unfold w_Model_takeRules at h
  refine gh_aload_n gd_Model_takeRules_0 0 rfl (by decide) ?_
  refine gh_iconst gd_Model_takeRules_1 (gh_r0 rfl) ?_
  refine pf_63_27 gd_Model_takeRules_2 gh_k1394 hF (fun hF => ?_)
  refine gh_iconst gd_Model_takeRules_5 (gh_r0 rfl) ?_
  refine gh_istore_n (L2 := [(1, 0, 0), (0, 2, 63)]) gd_Model_takeRules_6 (by decide) rfl ?_
  refine gh_pick (L2 := [(0, 2, 63), (1, 0, 0)]) [1, 0] rfl ?_
  exact gh_M1_sound (T := fun v1 m => gh_T E (gh_yModel_takeRules.cls, prog_14_method_30_code, 4, false, 9) (d + 6) 7 [(0, 2, 63), (1, 0, v1)] [] m (fun r m1 => gh_F m1 ∧ Q r m1)) (fun _ m => gh_F m) (fun K7 v1 m hK hF h => b_Model_takeRules_7 d hK v1 m hF h) 0 (gh_u m 63 27 0) hF h
def f_Model_leastOf_5 (v1 : Int) (Q : Int → Prop) (m : gh_M) (K5 : Int → Int → Prop) (v3 : Int) (v4 : Int) : Prop := 0 ≤ v1 ∧ v1 < 20 ∧ ((v4 < (m 80 v1) → gh_i (4 * v1) ∧ gh_i ((4 * v1) + v4) ∧ 0 ≤ (4 * v1) + v4 ∧ ((4 * v1) + v4) < 80 ∧ ∀ v5 : Int, v5 = m 81 ((4 * v1) + v4) → (((v5 ≤ 0) → (gh_i ((-1) - v5) ∧ 0 ≤ (-1) - v5 ∧ ((-1) - v5) < 8))) ∧ gh_i (v3 + (if v5 ≤ 0 then (m 82 ((-1) - v5)) else 1)) ∧ ∀ v3' : Int, v3' = v3 + (if v5 ≤ 0 then (m 82 ((-1) - v5)) else 1) → ∀ v3'' : Int, v3'' = (if v3' ≤ 1000000000 then v3' else 1000000000) → gh_i (v4 + 1) ∧ K5 v3'' (v4 + 1)) ∧ (¬ (v4 < (m 80 v1)) → Q v3))
def w_Model_leastOf (v1 : Int) (v2 : Int) (m : gh_M) (Q : Int → Prop) : Prop := gh_L2 (fun K5 v3 v4 => f_Model_leastOf_5 v1 Q m K5 v3 v4) 0 v2
theorem b_Model_leastOf_5 {E : gh_E} {v1 : Int} {Q : Int → Prop} {K5 : Int → Int → Prop} (d : Nat) {m : gh_M} (hK : ∀ (v3 : Int) (v4 : Int), gh_F m → K5 v3 v4 → gh_T E (gh_yModel_leastOf.cls, prog_14_method_34_code, 6, false, 0) (d + 0) 5 [(0, 2, 63), (1, 0, v1), (3, 0, v3), (4, 0, v4)] [] m (fun r m1 => m1 = m ∧ Q r)) (v3 : Int) (v4 : Int) (hF : gh_F m) (h : f_Model_leastOf_5 v1 Q m K5 v3 v4) : gh_T E (gh_yModel_leastOf.cls, prog_14_method_34_code, 6, false, 0) (d + 0) 5 [(0, 2, 63), (1, 0, v1), (3, 0, v3), (4, 0, v4)] [] m (fun r m1 => m1 = m ∧ Q r) := by
  have hK5 := hK
  unfold f_Model_leastOf_5 at h
  refine gh_iload gd_Model_leastOf_5 3 rfl ?_
  refine gh_aload_n gd_Model_leastOf_7 0 rfl (by decide) ?_
  refine gf_63_33 gd_Model_leastOf_8 gh_k1400 hF ?_
  refine gh_iload_n gd_Model_leastOf_11 1 rfl ?_
  obtain ⟨q2800, h⟩ := h
  obtain ⟨q2801, h⟩ := h
  refine la_80 gd_Model_leastOf_12 hF q2800 q2801 rfl ?_
  obtain ⟨hA, hB⟩ := h
  refine gh_jge (tgt := 71) gd_Model_leastOf_13 (by decide) (fun c2802 => ?_) (fun c2802 => ?_)
  · have h := hA c2802
    refine gh_aload_n gd_Model_leastOf_16 0 rfl (by decide) ?_
    refine gf_63_34 gd_Model_leastOf_17 gh_k1401 hF ?_
    refine gh_iconst gd_Model_leastOf_20 (gh_r0 rfl) ?_
    refine gh_iload_n gd_Model_leastOf_21 1 rfl ?_
    obtain ⟨q2803, h⟩ := h
    refine gh_imul gd_Model_leastOf_22 q2803 ?_
    refine gh_iload gd_Model_leastOf_23 3 rfl ?_
    obtain ⟨q2804, h⟩ := h
    refine gh_iadd gd_Model_leastOf_25 q2804 ?_
    obtain ⟨q2805, h⟩ := h
    obtain ⟨q2806, h⟩ := h
    refine la_81 gd_Model_leastOf_26 hF q2805 q2806 rfl ?_
    refine gh_name (fun v5 hn => ?_)
    have h := h v5 hn
    refine gh_istore (L2 := [(5, 0, v5), (0, 2, 63), (1, 0, v1), (3, 0, v3), (4, 0, v4)]) gd_Model_leastOf_27 (by decide) rfl ?_
    refine gh_iload_n gd_Model_leastOf_29 3 rfl ?_
    refine gh_iload gd_Model_leastOf_30 0 rfl ?_
    obtain ⟨hk, h⟩ := h
    have k2810 : ∀ x2811 : Int, x2811 = (if v5 ≤ 0 then (m 82 ((-1) - v5)) else 1) → gh_T E (gh_yModel_leastOf.cls, prog_14_method_34_code, 6, false, 0) (d + 0) 48 [(5, 0, v5), (0, 2, 63), (1, 0, v1), (3, 0, v3), (4, 0, v4)] [(0, x2811), (0, v3)] m (fun r m1 => m1 = m ∧ Q r) := by
      rintro _ rfl
      obtain ⟨q2812, h⟩ := h
      refine gh_iadd gd_Model_leastOf_48 q2812 ?_
      refine gh_name (fun v3' hn => ?_)
      have h := h v3' hn
      refine gh_istore_n (L2 := [(3, 0, v3'), (5, 0, v5), (0, 2, 63), (1, 0, v1), (4, 0, v4)]) gd_Model_leastOf_49 (by decide) rfl ?_
      refine gh_iload_n gd_Model_leastOf_50 0 rfl ?_
      refine gh_ldcw (n := 1000000000) gd_Model_leastOf_51 gh_k1741 (by decide) (gh_r0 rfl) ?_
      have k2813 : ∀ x2814 : Int, x2814 = (if v3' ≤ 1000000000 then v3' else 1000000000) → gh_T E (gh_yModel_leastOf.cls, prog_14_method_34_code, 6, false, 0) (d + 0) 64 [(3, 0, v3'), (5, 0, v5), (0, 2, 63), (1, 0, v1), (4, 0, v4)] [(0, x2814)] m (fun r m1 => m1 = m ∧ Q r) := by
        rintro _ rfl
        refine gh_name (fun v3'' hn => ?_)
        have h := h v3'' hn
        refine gh_istore_n (L2 := [(3, 0, v3''), (5, 0, v5), (0, 2, 63), (1, 0, v1), (4, 0, v4)]) gd_Model_leastOf_64 (by decide) rfl ?_
        obtain ⟨q2815, h⟩ := h
        refine gh_iinc (L2 := [(4, 0, v4 + 1), (3, 0, v3''), (5, 0, v5), (0, 2, 63), (1, 0, v1)]) gd_Model_leastOf_65 4 rfl q2815 (by decide) rfl ?_
        refine gh_goto (tgt := 5) gd_Model_leastOf_68 (by decide) ?_
        refine gh_pick (L2 := [(0, 2, 63), (1, 0, v1), (3, 0, v3''), (4, 0, v4 + 1)]) [3, 4, 1, 0] rfl ?_
        exact hK5 v3'' (v4 + 1) hF h
      refine gh_jle (tgt := 63) gd_Model_leastOf_54 (by decide) (fun c2816 => ?_) (fun c2816 => ?_)
      · have hz : True := trivial
        refine gh_iload_n gd_Model_leastOf_63 0 rfl ?_
        exact k2813 _ (by rw [if_pos c2816])
      · have hz : True := trivial
        refine gh_ldcw (n := 1000000000) gd_Model_leastOf_57 gh_k1741 (by decide) (gh_r0 rfl) ?_
        refine gh_goto (tgt := 64) gd_Model_leastOf_60 (by decide) ?_
        exact k2813 _ (by rw [if_neg c2816])
    refine gh_zle (tgt := 39) gd_Model_leastOf_32 (by decide) (fun c2817 => ?_) (fun c2817 => ?_)
    · have hz : True := trivial
      have hk := hk c2817
      refine gh_aload_n gd_Model_leastOf_39 1 rfl (by decide) ?_
      refine gf_63_35 gd_Model_leastOf_40 gh_k1402 hF ?_
      refine gh_iconst gd_Model_leastOf_43 (gh_r0 rfl) ?_
      refine gh_iload gd_Model_leastOf_44 0 rfl ?_
      obtain ⟨q2807, hk⟩ := hk
      refine gh_isub gd_Model_leastOf_46 q2807 ?_
      obtain ⟨q2808, hk⟩ := hk
      have q2809 := hk
      refine la_82 gd_Model_leastOf_47 hF q2808 q2809 rfl ?_
      exact k2810 _ (by rw [if_pos c2817])
    · have hz : True := trivial
      refine gh_iconst gd_Model_leastOf_35 (gh_r0 rfl) ?_
      refine gh_goto (tgt := 48) gd_Model_leastOf_36 (by decide) ?_
      exact k2810 _ (by rw [if_neg c2817])
  · have h := hB c2802
    refine gh_iload_n gd_Model_leastOf_71 2 rfl ?_
    exact gh_ret0 rfl gd_Model_leastOf_72 ⟨rfl, h⟩
theorem s_Model_leastOf {E : gh_E} {m : gh_M} {Q : Int → Prop} (d : Nat) (v1 : Int) (v2 : Int) (hF : gh_F m) (h : w_Model_leastOf v1 v2 m Q) : gh_C E gh_yModel_leastOf prog_14_method_34_code 6 (some .int) 0 (d + 0) [(2, 63), (0, v1), (0, v2)] m (fun r m1 => m1 = m ∧ Q r) := by
  refine gh_enter2 (L := [(0, 2, 63), (1, 0, v1), (2, 0, v2)]) (by decide +kernel) gh_rt0 (Nat.le_of_ble_eq_true rfl) rfl rfl ?_
  unfold w_Model_leastOf at h
  refine gh_iconst gd_Model_leastOf_0 (gh_r0 rfl) ?_
  refine gh_istore_n (L2 := [(3, 0, 0), (0, 2, 63), (1, 0, v1), (2, 0, v2)]) gd_Model_leastOf_1 (by decide) rfl ?_
  refine gh_iload_n gd_Model_leastOf_2 3 rfl ?_
  refine gh_istore (L2 := [(4, 0, v2), (3, 0, 0), (0, 2, 63), (1, 0, v1), (2, 0, v2)]) gd_Model_leastOf_3 (by decide) rfl ?_
  refine gh_pick (L2 := [(0, 2, 63), (1, 0, v1), (3, 0, 0), (4, 0, v2)]) [2, 3, 1, 0] rfl ?_
  exact gh_L2_sound (T := fun v3 v4 => gh_T E (gh_yModel_leastOf.cls, prog_14_method_34_code, 6, false, 0) (d + 0) 5 [(0, 2, 63), (1, 0, v1), (3, 0, v3), (4, 0, v4)] [] m (fun r m1 => m1 = m ∧ Q r)) (fun _ _ => gh_F m) (fun K5 v3 v4 hK hF h => b_Model_leastOf_5 d hK v3 v4 hF h) 0 v2 hF h
def f_Model_findLeast_35 (K27 : Int → gh_M → Prop) (K35 : Int → Int → gh_M → Prop) (v1 : Int) (v2 : Int) (m : gh_M) : Prop := ((v2 < (m 63 27) → w_Model_leastOf v2 0 m (fun r2824 => 0 ≤ v2 ∧ v2 < 20 ∧ 0 ≤ m 79 v2 ∧ (m 79 v2) < 8 ∧ ∃ J79 : Int → gh_M → Prop, (∀ (v1' : Int) (m : gh_M), J79 v1' m → gh_i (v2 + 1) ∧ K35 v1' (v2 + 1) m) ∧ ((r2824 < (m 82 (m 79 v2)) → 0 ≤ v2 ∧ v2 < 20 ∧ 0 ≤ m 79 v2 ∧ (m 79 v2) < 8 ∧ J79 1 (gh_u m 82 (m 79 v2) r2824)) ∧ (¬ (r2824 < (m 82 (m 79 v2))) → J79 v1 m)))) ∧ (¬ (v2 < (m 63 27)) → K27 v1 m))
def f_Model_findLeast_27 (Q : Int → gh_M → Prop) (K27 : Int → gh_M → Prop) (v1 : Int) (m : gh_M) : Prop := ((v1 = 0 → Q 0 m) ∧ (¬ (v1 = 0) → gh_M2 (fun K35 v1 v2 m => f_Model_findLeast_35 K27 K35 v1 v2 m) 0 0 m))
def f_Model_findLeast_2 (Q : Int → gh_M → Prop) (K2 : Int → gh_M → Prop) (v1 : Int) (m : gh_M) : Prop := ((v1 < (m 63 26) → 0 ≤ v1 ∧ v1 < 8 ∧ gh_i (v1 + 1) ∧ K2 (v1 + 1) (gh_u m 82 v1 1000000000)) ∧ (¬ (v1 < (m 63 26)) → gh_M1 (fun K27 v1 m => f_Model_findLeast_27 Q K27 v1 m) 1 m))
def w_Model_findLeast (m : gh_M) (Q : Int → gh_M → Prop) : Prop := gh_M1 (fun K2 v1 m => f_Model_findLeast_2 Q K2 v1 m) 0 m
theorem b_Model_findLeast_35 {E : gh_E} {K27 : Int → gh_M → Prop} {Q : Int → gh_M → Prop} {K35 : Int → Int → gh_M → Prop} (d : Nat) (hK27 : ∀ (v1 : Int) (m : gh_M), gh_F m → K27 v1 m → gh_T E (gh_yModel_findLeast.cls, prog_14_method_35_code, 4, false, 9) (d + 1) 27 [(0, 2, 63), (1, 0, v1)] [] m (fun r m1 => gh_F m1 ∧ Q r m1)) (hK : ∀ (v1 : Int) (v2 : Int) (m : gh_M), gh_F m → K35 v1 v2 m → gh_T E (gh_yModel_findLeast.cls, prog_14_method_35_code, 4, false, 9) (d + 1) 35 [(0, 2, 63), (1, 0, v1), (2, 0, v2)] [] m (fun r m1 => gh_F m1 ∧ Q r m1)) (v1 : Int) (v2 : Int) (m : gh_M) (hF : gh_F m) (h : f_Model_findLeast_35 K27 K35 v1 v2 m) : gh_T E (gh_yModel_findLeast.cls, prog_14_method_35_code, 4, false, 9) (d + 1) 35 [(0, 2, 63), (1, 0, v1), (2, 0, v2)] [] m (fun r m1 => gh_F m1 ∧ Q r m1) := by
  have hK35 := hK
  unfold f_Model_findLeast_35 at h
  refine gh_iload_n gd_Model_findLeast_35 2 rfl ?_
  refine gh_aload_n gd_Model_findLeast_36 0 rfl (by decide) ?_
  refine gf_63_27 gd_Model_findLeast_37 gh_k1394 hF rfl ?_
  obtain ⟨hA, hB⟩ := h
  refine gh_jge (tgt := 85) gd_Model_findLeast_40 (by decide) (fun c2823 => ?_) (fun c2823 => ?_)
  · have h := hA c2823
    refine gh_aload_n gd_Model_findLeast_43 0 rfl (by decide) ?_
    refine gh_iload_n gd_Model_findLeast_44 2 rfl ?_
    refine gh_iconst gd_Model_findLeast_45 (gh_r0 rfl) ?_
    refine cv_Model_leastOf (d := d) gd_Model_findLeast_46 gh_k1742 hF (Nat.le_of_ble_eq_true rfl) (gh_C.pw (s_Model_leastOf d v2 0 hF h) (fun r2824 h => ?_))
    refine gh_istore_n (L2 := [(3, 0, r2824), (0, 2, 63), (1, 0, v1), (2, 0, v2)]) gd_Model_findLeast_49 (by decide) rfl ?_
    refine gh_iload_n gd_Model_findLeast_50 0 rfl ?_
    refine gh_aload_n gd_Model_findLeast_51 1 rfl (by decide) ?_
    refine gf_63_35 gd_Model_findLeast_52 gh_k1402 hF ?_
    refine gh_aload_n gd_Model_findLeast_55 1 rfl (by decide) ?_
    refine gf_63_32 gd_Model_findLeast_56 gh_k1399 hF ?_
    refine gh_iload_n gd_Model_findLeast_59 3 rfl ?_
    obtain ⟨q2826, h⟩ := h
    obtain ⟨q2827, h⟩ := h
    refine la_79 gd_Model_findLeast_60 hF q2826 q2827 rfl ?_
    obtain ⟨q2828, h⟩ := h
    obtain ⟨q2829, h⟩ := h
    refine la_82 gd_Model_findLeast_61 hF q2828 q2829 rfl ?_
    obtain ⟨J79, hJ79, h⟩ := h
    have hJ79 : ∀ (v1' : Int) (m : gh_M), gh_F m → J79 v1' m → gh_T E (gh_yModel_findLeast.cls, prog_14_method_35_code, 4, false, 9) (d + 1) 79 [(0, 2, 63), (1, 0, v1'), (2, 0, v2)] [] m (fun r m1 => gh_F m1 ∧ Q r m1) := by
      intro v1' m hF hj
      have h := hJ79 v1' m hj
      obtain ⟨q2830, h⟩ := h
      refine gh_iinc (L2 := [(2, 0, v2 + 1), (0, 2, 63), (1, 0, v1')]) gd_Model_findLeast_79 2 rfl q2830 (by decide) rfl ?_
      refine gh_goto (tgt := 35) gd_Model_findLeast_82 (by decide) ?_
      refine gh_pick (L2 := [(0, 2, 63), (1, 0, v1'), (2, 0, v2 + 1)]) [1, 2, 0] rfl ?_
      exact hK35 v1' (v2 + 1) m hF h
    obtain ⟨hA, hB⟩ := h
    refine gh_jge (tgt := 79) gd_Model_findLeast_62 (by decide) (fun c2831 => ?_) (fun c2831 => ?_)
    · have h := hA c2831
      refine gh_aload_n gd_Model_findLeast_65 1 rfl (by decide) ?_
      refine gf_63_35 gd_Model_findLeast_66 gh_k1402 hF ?_
      refine gh_aload_n gd_Model_findLeast_69 1 rfl (by decide) ?_
      refine gf_63_32 gd_Model_findLeast_70 gh_k1399 hF ?_
      refine gh_iload_n gd_Model_findLeast_73 3 rfl ?_
      obtain ⟨q2832, h⟩ := h
      obtain ⟨q2833, h⟩ := h
      refine la_79 gd_Model_findLeast_74 hF q2832 q2833 rfl ?_
      refine gh_iload_n gd_Model_findLeast_75 0 rfl ?_
      obtain ⟨q2834, h⟩ := h
      obtain ⟨q2835, h⟩ := h
      refine sa_82 gd_Model_findLeast_76 hF q2834 q2835 (fun hF => ?_)
      refine gh_iconst gd_Model_findLeast_77 (gh_r0 rfl) ?_
      refine gh_istore_n (L2 := [(1, 0, 1), (3, 0, r2824), (0, 2, 63), (2, 0, v2)]) gd_Model_findLeast_78 (by decide) rfl ?_
      refine gh_pick (L2 := [(0, 2, 63), (1, 0, 1), (2, 0, v2)]) [2, 0, 3] rfl ?_
      exact hJ79 1 (gh_u m 82 (m 79 v2) r2824) hF h
    · have h := hB c2831
      refine gh_pick (L2 := [(0, 2, 63), (1, 0, v1), (2, 0, v2)]) [1, 2, 3] rfl ?_
      exact hJ79 v1 m hF h
  · have h := hB c2823
    refine gh_goto (tgt := 27) gd_Model_findLeast_85 (by decide) ?_
    refine gh_pick (L2 := [(0, 2, 63), (1, 0, v1)]) [0, 1] rfl ?_
    exact hK27 v1 m hF h
theorem b_Model_findLeast_27 {E : gh_E} {Q : Int → gh_M → Prop} {K27 : Int → gh_M → Prop} (d : Nat) (hK : ∀ (v1 : Int) (m : gh_M), gh_F m → K27 v1 m → gh_T E (gh_yModel_findLeast.cls, prog_14_method_35_code, 4, false, 9) (d + 1) 27 [(0, 2, 63), (1, 0, v1)] [] m (fun r m1 => gh_F m1 ∧ Q r m1)) (v1 : Int) (m : gh_M) (hF : gh_F m) (h : f_Model_findLeast_27 Q K27 v1 m) : gh_T E (gh_yModel_findLeast.cls, prog_14_method_35_code, 4, false, 9) (d + 1) 27 [(0, 2, 63), (1, 0, v1)] [] m (fun r m1 => gh_F m1 ∧ Q r m1) := by
  have hK27 := hK
  unfold f_Model_findLeast_27 at h
  refine gh_iload_n gd_Model_findLeast_27 1 rfl ?_
  obtain ⟨hA, hB⟩ := h
  refine gh_zeq (tgt := 88) gd_Model_findLeast_28 (by decide) (fun c2822 => ?_) (fun c2822 => ?_)
  · have h := hA c2822
    exact gh_ret9 rfl gd_Model_findLeast_88 ⟨hF, h⟩
  · have h := hB c2822
    refine gh_iconst gd_Model_findLeast_31 (gh_r0 rfl) ?_
    refine gh_istore_n (L2 := [(1, 0, 0), (0, 2, 63)]) gd_Model_findLeast_32 (by decide) rfl ?_
    refine gh_iconst gd_Model_findLeast_33 (gh_r0 rfl) ?_
    refine gh_istore_n (L2 := [(2, 0, 0), (1, 0, 0), (0, 2, 63)]) gd_Model_findLeast_34 (by decide) rfl ?_
    refine gh_pick (L2 := [(0, 2, 63), (1, 0, 0), (2, 0, 0)]) [2, 1, 0] rfl ?_
    exact gh_M2_sound (T := fun v1 v2 m => gh_T E (gh_yModel_findLeast.cls, prog_14_method_35_code, 4, false, 9) (d + 1) 35 [(0, 2, 63), (1, 0, v1), (2, 0, v2)] [] m (fun r m1 => gh_F m1 ∧ Q r m1)) (fun _ _ m => gh_F m) (fun K35 v1 v2 m hK hF h => b_Model_findLeast_35 d hK27 hK v1 v2 m hF h) 0 0 m hF h
theorem b_Model_findLeast_2 {E : gh_E} {Q : Int → gh_M → Prop} {K2 : Int → gh_M → Prop} (d : Nat) (hK : ∀ (v1 : Int) (m : gh_M), gh_F m → K2 v1 m → gh_T E (gh_yModel_findLeast.cls, prog_14_method_35_code, 4, false, 9) (d + 1) 2 [(0, 2, 63), (1, 0, v1)] [] m (fun r m1 => gh_F m1 ∧ Q r m1)) (v1 : Int) (m : gh_M) (hF : gh_F m) (h : f_Model_findLeast_2 Q K2 v1 m) : gh_T E (gh_yModel_findLeast.cls, prog_14_method_35_code, 4, false, 9) (d + 1) 2 [(0, 2, 63), (1, 0, v1)] [] m (fun r m1 => gh_F m1 ∧ Q r m1) := by
  have hK2 := hK
  unfold f_Model_findLeast_2 at h
  refine gh_iload_n gd_Model_findLeast_2 1 rfl ?_
  refine gh_aload_n gd_Model_findLeast_3 0 rfl (by decide) ?_
  refine gf_63_26 gd_Model_findLeast_4 gh_k1393 hF rfl ?_
  obtain ⟨hA, hB⟩ := h
  refine gh_jge (tgt := 25) gd_Model_findLeast_7 (by decide) (fun c2818 => ?_) (fun c2818 => ?_)
  · have h := hA c2818
    refine gh_aload_n gd_Model_findLeast_10 0 rfl (by decide) ?_
    refine gf_63_35 gd_Model_findLeast_11 gh_k1402 hF ?_
    refine gh_iload_n gd_Model_findLeast_14 1 rfl ?_
    refine gh_ldcw (n := 1000000000) gd_Model_findLeast_15 gh_k1741 (by decide) (gh_r0 rfl) ?_
    obtain ⟨q2819, h⟩ := h
    obtain ⟨q2820, h⟩ := h
    refine sa_82 gd_Model_findLeast_18 hF q2819 q2820 (fun hF => ?_)
    obtain ⟨q2821, h⟩ := h
    refine gh_iinc (L2 := [(1, 0, v1 + 1), (0, 2, 63)]) gd_Model_findLeast_19 1 rfl q2821 (by decide) rfl ?_
    refine gh_goto (tgt := 2) gd_Model_findLeast_22 (by decide) ?_
    refine gh_pick (L2 := [(0, 2, 63), (1, 0, v1 + 1)]) [1, 0] rfl ?_
    exact hK2 (v1 + 1) (gh_u m 82 v1 1000000000) hF h
  · have h := hB c2818
    refine gh_iconst gd_Model_findLeast_25 (gh_r0 rfl) ?_
    refine gh_istore_n (L2 := [(1, 0, 1), (0, 2, 63)]) gd_Model_findLeast_26 (by decide) rfl ?_
    refine gh_pick (L2 := [(0, 2, 63), (1, 0, 1)]) [1, 0] rfl ?_
    exact gh_M1_sound (T := fun v1 m => gh_T E (gh_yModel_findLeast.cls, prog_14_method_35_code, 4, false, 9) (d + 1) 27 [(0, 2, 63), (1, 0, v1)] [] m (fun r m1 => gh_F m1 ∧ Q r m1)) (fun _ m => gh_F m) (fun K27 v1 m hK hF h => b_Model_findLeast_27 d hK v1 m hF h) 1 m hF h
theorem s_Model_findLeast {E : gh_E} {m : gh_M} {Q : Int → gh_M → Prop} (d : Nat) (hF : gh_F m) (h : w_Model_findLeast m Q) : gh_C E gh_yModel_findLeast prog_14_method_35_code 4 none 9 (d + 1) [(2, 63)] m (fun r m1 => gh_F m1 ∧ Q r m1) := by
  refine gh_enter2 (L := [(0, 2, 63)]) (by decide +kernel) gh_rt9 (Nat.le_of_ble_eq_true rfl) rfl rfl ?_
  unfold w_Model_findLeast at h
  refine gh_iconst gd_Model_findLeast_0 (gh_r0 rfl) ?_
  refine gh_istore_n (L2 := [(1, 0, 0), (0, 2, 63)]) gd_Model_findLeast_1 (by decide) rfl ?_
  refine gh_pick (L2 := [(0, 2, 63), (1, 0, 0)]) [1, 0] rfl ?_
  exact gh_M1_sound (T := fun v1 m => gh_T E (gh_yModel_findLeast.cls, prog_14_method_35_code, 4, false, 9) (d + 1) 2 [(0, 2, 63), (1, 0, v1)] [] m (fun r m1 => gh_F m1 ∧ Q r m1)) (fun _ m => gh_F m) (fun K2 v1 m hK hF h => b_Model_findLeast_2 d hK v1 m hF h) 0 m hF h
def f_Model_findUseful_109 (v1 : Int) (K99 : Int → gh_M → Prop) (K109 : Int → gh_M → Prop) (v2 : Int) (m : gh_M) : Prop := gh_i (4 * (m 63 27)) ∧ ((v2 < (4 * (m 63 27)) → 0 ≤ v2 ∧ ∀ v3 : Int, v3 = v2 / 4 → 0 ≤ v2 ∧ 0 ≤ v3 ∧ v3 < 20 ∧ ∃ J235 : gh_M → Prop, (∀ (m : gh_M), J235 m → gh_i (v2 + 1) ∧ K109 (v2 + 1) m) ∧ ((((v2 % 4) < (m 80 v3)) → (0 ≤ v2 ∧ v2 < 80))) ∧ (((((v2 % 4) < (m 80 v3)) ∧ ((m 81 v2) < 0)) → 0 ≤ v2 ∧ v2 < 80 ∧ gh_i ((-1) - (m 81 v2)) ∧ ∀ v4 : Int, v4 = (-1) - (m 81 v2) → 0 ≤ v4 ∧ v4 < 8 ∧ ((((m 84 v4) = 0) → (0 ≤ v3 ∧ v3 < 20 ∧ 0 ≤ m 79 v3 ∧ (m 79 v3) < 8))) ∧ 0 ≤ v4 ∧ v4 < 8 ∧ 0 ≤ v4 ∧ v4 < 8 ∧ ((((m 85 v4) = 0) → (0 ≤ v3 ∧ v3 < 20 ∧ 0 ≤ m 79 v3 ∧ (m 79 v3) < 8 ∧ (¬ ((m 85 (m 79 v3)) = 0) → (0 ≤ v3 ∧ v3 < 20))))) ∧ 0 ≤ v4 ∧ v4 < 8 ∧ J235 (gh_u (gh_u m 84 v4 (if (¬ ((m 84 v4) = 0) ∨ (¬ ((m 84 (m 79 v3)) = 0))) then (1:Int) else 0)) 85 v4 (if (¬ ((m 85 v4) = 0) ∨ (¬ ((m 85 (m 79 v3)) = 0) ∧ (¬ ((m 83 v3) = 0)))) then (1:Int) else 0))) ∧ (¬ (((v2 % 4) < (m 80 v3)) ∧ ((m 81 v2) < 0)) → J235 m))) ∧ (¬ (v2 < (4 * (m 63 27))) → gh_i (v1 + 1) ∧ K99 (v1 + 1) m))
def f_Model_findUseful_99 (Q : Int → gh_M → Prop) (K99 : Int → gh_M → Prop) (v1 : Int) (m : gh_M) : Prop := ((v1 < (m 63 26) → gh_M1 (fun K109 v2 m => f_Model_findUseful_109 v1 K99 K109 v2 m) 0 m) ∧ (¬ (v1 < (m 63 26)) → Q 0 m))
def f_Model_findUseful_41 (Q : Int → gh_M → Prop) (K41 : Int → gh_M → Prop) (v1 : Int) (m : gh_M) : Prop := ((v1 < (m 63 26) → 0 ≤ v1 ∧ v1 < 8 ∧ 0 ≤ v1 ∧ v1 < 8 ∧ gh_i (v1 + 1) ∧ K41 (v1 + 1) (gh_u (gh_u m 84 v1 (if (v1 = 0) then (1:Int) else 0)) 85 v1 (if ((v1 = 0) ∧ ((m 82 0) < 1000000000)) then (1:Int) else 0))) ∧ (¬ (v1 < (m 63 26)) → gh_M1 (fun K99 v1 m => f_Model_findUseful_99 Q K99 v1 m) 0 m))
def f_Model_findUseful_2 (Q : Int → gh_M → Prop) (K2 : Int → gh_M → Prop) (v1 : Int) (m : gh_M) : Prop := ((v1 < (m 63 27) → w_Model_leastOf v1 0 m (fun r2837 => 0 ≤ v1 ∧ v1 < 20 ∧ gh_i (v1 + 1) ∧ K2 (v1 + 1) (gh_u m 83 v1 (if (r2837 < 1000000000) then (1:Int) else 0)))) ∧ (¬ (v1 < (m 63 27)) → gh_M1 (fun K41 v1 m => f_Model_findUseful_41 Q K41 v1 m) 0 m))
def w_Model_findUseful (m : gh_M) (Q : Int → gh_M → Prop) : Prop := gh_M1 (fun K2 v1 m => f_Model_findUseful_2 Q K2 v1 m) 0 m
theorem b_Model_findUseful_109 {E : gh_E} {v1 : Int} {K99 : Int → gh_M → Prop} {Q : Int → gh_M → Prop} {K109 : Int → gh_M → Prop} (d : Nat) (hK99 : ∀ (v1 : Int) (m : gh_M), gh_F m → K99 v1 m → gh_T E (gh_yModel_findUseful.cls, prog_14_method_36_code, 5, false, 9) (d + 1) 99 [(0, 2, 63), (1, 0, v1)] [] m (fun r m1 => gh_F m1 ∧ Q r m1)) (hK : ∀ (v2 : Int) (m : gh_M), gh_F m → K109 v2 m → gh_T E (gh_yModel_findUseful.cls, prog_14_method_36_code, 5, false, 9) (d + 1) 109 [(0, 2, 63), (1, 0, v1), (2, 0, v2)] [] m (fun r m1 => gh_F m1 ∧ Q r m1)) (v2 : Int) (m : gh_M) (hF : gh_F m) (h : f_Model_findUseful_109 v1 K99 K109 v2 m) : gh_T E (gh_yModel_findUseful.cls, prog_14_method_36_code, 5, false, 9) (d + 1) 109 [(0, 2, 63), (1, 0, v1), (2, 0, v2)] [] m (fun r m1 => gh_F m1 ∧ Q r m1) := by
  have hK109 := hK
  unfold f_Model_findUseful_109 at h
  refine gh_iload_n gd_Model_findUseful_109 2 rfl ?_
  refine gh_iconst gd_Model_findUseful_110 (gh_r0 rfl) ?_
  refine gh_aload_n gd_Model_findUseful_111 0 rfl (by decide) ?_
  refine gf_63_27 gd_Model_findUseful_112 gh_k1394 hF rfl ?_
  obtain ⟨q2859, h⟩ := h
  refine gh_imul gd_Model_findUseful_115 q2859 ?_
  obtain ⟨hA, hB⟩ := h
  refine gh_jge (tgt := 241) gd_Model_findUseful_116 (by decide) (fun c2860 => ?_) (fun c2860 => ?_)
  · have h := hA c2860
    refine gh_iload_n gd_Model_findUseful_119 2 rfl ?_
    refine gh_iconst gd_Model_findUseful_120 (gh_r0 rfl) ?_
    obtain ⟨q2861, h⟩ := h
    refine gh_idiv gd_Model_findUseful_121 q2861 (by decide) ?_
    refine gh_name (fun v3 hn => ?_)
    have h := h v3 hn
    refine gh_istore_n (L2 := [(3, 0, v3), (0, 2, 63), (1, 0, v1), (2, 0, v2)]) gd_Model_findUseful_122 (by decide) rfl ?_
    refine gh_iload_n gd_Model_findUseful_123 3 rfl ?_
    refine gh_iconst gd_Model_findUseful_124 (gh_r0 rfl) ?_
    obtain ⟨q2862, h⟩ := h
    refine gh_irem gd_Model_findUseful_125 q2862 (by decide) ?_
    refine gh_aload_n gd_Model_findUseful_126 1 rfl (by decide) ?_
    refine gf_63_33 gd_Model_findUseful_127 gh_k1400 hF ?_
    refine gh_iload_n gd_Model_findUseful_130 0 rfl ?_
    obtain ⟨q2863, h⟩ := h
    obtain ⟨q2864, h⟩ := h
    refine la_80 gd_Model_findUseful_131 hF q2863 q2864 rfl ?_
    obtain ⟨J235, hJ235, h⟩ := h
    have hJ235 : ∀ (m : gh_M), gh_F m → J235 m → gh_T E (gh_yModel_findUseful.cls, prog_14_method_36_code, 5, false, 9) (d + 1) 235 [(0, 2, 63), (1, 0, v1), (2, 0, v2)] [] m (fun r m1 => gh_F m1 ∧ Q r m1) := by
      intro m hF hj
      have h := hJ235 m hj
      obtain ⟨q2865, h⟩ := h
      refine gh_iinc (L2 := [(2, 0, v2 + 1), (0, 2, 63), (1, 0, v1)]) gd_Model_findUseful_235 2 rfl q2865 (by decide) rfl ?_
      refine gh_goto (tgt := 109) gd_Model_findUseful_238 (by decide) ?_
      refine gh_pick (L2 := [(0, 2, 63), (1, 0, v1), (2, 0, v2 + 1)]) [1, 2, 0] rfl ?_
      exact hK109 (v2 + 1) m hF h
    obtain ⟨hk, hA, hB⟩ := h
    have k2868 : (((v2 % 4) < (m 80 v3)) ∧ ((m 81 v2) < 0)) → gh_T E (gh_yModel_findUseful.cls, prog_14_method_36_code, 5, false, 9) (d + 1) 144 [(3, 0, v3), (0, 2, 63), (1, 0, v1), (2, 0, v2)] [] m (fun r m1 => gh_F m1 ∧ Q r m1) := by
      intro c
      have h := hA c
      refine gh_iconst gd_Model_findUseful_144 (gh_r0 rfl) ?_
      refine gh_aload_n gd_Model_findUseful_145 1 rfl (by decide) ?_
      refine gf_63_34 gd_Model_findUseful_146 gh_k1401 hF ?_
      refine gh_iload_n gd_Model_findUseful_149 3 rfl ?_
      obtain ⟨q2870, h⟩ := h
      obtain ⟨q2871, h⟩ := h
      refine la_81 gd_Model_findUseful_150 hF q2870 q2871 rfl ?_
      obtain ⟨q2872, h⟩ := h
      refine gh_isub gd_Model_findUseful_151 q2872 ?_
      refine gh_name (fun v4 hn => ?_)
      have h := h v4 hn
      refine gh_istore (L2 := [(4, 0, v4), (3, 0, v3), (0, 2, 63), (1, 0, v1), (2, 0, v2)]) gd_Model_findUseful_152 (by decide) rfl ?_
      refine gh_aload_n gd_Model_findUseful_154 2 rfl (by decide) ?_
      refine gf_63_37 gd_Model_findUseful_155 gh_k1404 hF ?_
      refine gh_iload gd_Model_findUseful_158 0 rfl ?_
      refine gh_aload_n gd_Model_findUseful_160 2 rfl (by decide) ?_
      refine gf_63_37 gd_Model_findUseful_161 gh_k1404 hF ?_
      refine gh_iload gd_Model_findUseful_164 0 rfl ?_
      obtain ⟨q2873, h⟩ := h
      obtain ⟨q2874, h⟩ := h
      refine la_84 gd_Model_findUseful_166 hF q2873 q2874 rfl ?_
      obtain ⟨hk, h⟩ := h
      have k2879 : ∀ x2880 : Int, x2880 = (if (¬ ((m 84 v4) = 0) ∨ (¬ ((m 84 (m 79 v3)) = 0))) then (1:Int) else 0) → gh_T E (gh_yModel_findUseful.cls, prog_14_method_36_code, 5, false, 9) (d + 1) 189 [(4, 0, v4), (3, 0, v3), (0, 2, 63), (1, 0, v1), (2, 0, v2)] [(0, x2880), (0, v4), (2, 84)] m (fun r m1 => gh_F m1 ∧ Q r m1) := by
        rintro _ rfl
        obtain ⟨q2881, h⟩ := h
        obtain ⟨q2882, h⟩ := h
        refine sa_84 gd_Model_findUseful_189 hF q2881 q2882 gh_ib01 (fun hF => ?_)
        refine gh_aload_n gd_Model_findUseful_190 2 rfl (by decide) ?_
        refine gf_63_38 gd_Model_findUseful_191 gh_k1405 hF ?_
        refine gh_iload gd_Model_findUseful_194 0 rfl ?_
        refine gh_aload_n gd_Model_findUseful_196 2 rfl (by decide) ?_
        refine gf_63_38 gd_Model_findUseful_197 gh_k1405 hF ?_
        refine gh_iload gd_Model_findUseful_200 0 rfl ?_
        obtain ⟨q2883, h⟩ := h
        obtain ⟨q2884, h⟩ := h
        refine la_85 gd_Model_findUseful_202 hF q2883 q2884 (gh_u_a (by decide)) ?_
        obtain ⟨hk, h⟩ := h
        have k2891 : ∀ x2892 : Int, x2892 = (if (¬ ((m 85 v4) = 0) ∨ (¬ ((m 85 (m 79 v3)) = 0) ∧ (¬ ((m 83 v3) = 0)))) then (1:Int) else 0) → gh_T E (gh_yModel_findUseful.cls, prog_14_method_36_code, 5, false, 9) (d + 1) 234 [(4, 0, v4), (3, 0, v3), (0, 2, 63), (1, 0, v1), (2, 0, v2)] [(0, x2892), (0, v4), (2, 85)] (gh_u m 84 v4 (if (¬ ((m 84 v4) = 0) ∨ (¬ ((m 84 (m 79 v3)) = 0))) then (1:Int) else 0)) (fun r m1 => gh_F m1 ∧ Q r m1) := by
          rintro _ rfl
          obtain ⟨q2893, h⟩ := h
          obtain ⟨q2894, h⟩ := h
          refine sa_85 gd_Model_findUseful_234 hF q2893 q2894 gh_ib01 (fun hF => ?_)
          refine gh_pick (L2 := [(0, 2, 63), (1, 0, v1), (2, 0, v2)]) [2, 3, 4] rfl ?_
          exact hJ235 (gh_u (gh_u m 84 v4 (if (¬ ((m 84 v4) = 0) ∨ (¬ ((m 84 (m 79 v3)) = 0))) then (1:Int) else 0)) 85 v4 (if (¬ ((m 85 v4) = 0) ∨ (¬ ((m 85 (m 79 v3)) = 0) ∧ (¬ ((m 83 v3) = 0)))) then (1:Int) else 0)) hF h
        refine gh_zne (tgt := 229) gd_Model_findUseful_203 (by decide) (fun c2895 => ?_) (fun c2895 => ?_)
        · have hz : True := trivial
          have hk := hk c2895
          refine gh_aload_n gd_Model_findUseful_206 2 rfl (by decide) ?_
          refine gf_63_38 gd_Model_findUseful_207 gh_k1405 hF ?_
          refine gh_aload_n gd_Model_findUseful_210 2 rfl (by decide) ?_
          refine gf_63_32 gd_Model_findUseful_211 gh_k1399 hF ?_
          refine gh_iload_n gd_Model_findUseful_214 1 rfl ?_
          obtain ⟨q2885, hk⟩ := hk
          obtain ⟨q2886, hk⟩ := hk
          refine la_79 gd_Model_findUseful_215 hF q2885 q2886 (gh_u_a (by decide)) ?_
          obtain ⟨q2887, hk⟩ := hk
          obtain ⟨q2888, hk⟩ := hk
          refine la_85 gd_Model_findUseful_216 hF q2887 q2888 (gh_u_a (by decide)) ?_
          refine gh_zeq (tgt := 233) gd_Model_findUseful_217 (by decide) (fun c2896 => ?_) (fun c2896 => ?_)
          · have hz : True := trivial
            refine gh_iconst gd_Model_findUseful_233 (gh_r0 rfl) ?_
            exact k2891 _ (if_neg (c := (¬ ((m 85 v4) = 0) ∨ (¬ ((m 85 (m 79 v3)) = 0) ∧ (¬ ((m 83 v3) = 0))))) (fun z => z.elim (fun w => w c2895) (fun z => z.1 c2896))).symm
          · have hz : True := trivial
            have hk := hk c2896
            refine gh_aload_n gd_Model_findUseful_220 2 rfl (by decide) ?_
            refine gf_63_36 gd_Model_findUseful_221 gh_k1403 hF ?_
            refine gh_iload_n gd_Model_findUseful_224 1 rfl ?_
            obtain ⟨q2889, hk⟩ := hk
            have q2890 := hk
            refine la_83 gd_Model_findUseful_225 hF q2889 q2890 (gh_u_a (by decide)) ?_
            refine gh_zeq (tgt := 233) gd_Model_findUseful_226 (by decide) (fun c2897 => ?_) (fun c2897 => ?_)
            · have hz : True := trivial
              refine gh_iconst gd_Model_findUseful_233 (gh_r0 rfl) ?_
              exact k2891 _ (if_neg (c := (¬ ((m 85 v4) = 0) ∨ (¬ ((m 85 (m 79 v3)) = 0) ∧ (¬ ((m 83 v3) = 0))))) (fun z => z.elim (fun w => w c2895) (fun z => (not_not_intro c2897) z.2))).symm
            · have hz : True := trivial
              refine gh_iconst gd_Model_findUseful_229 (gh_r0 rfl) ?_
              refine gh_goto (tgt := 234) gd_Model_findUseful_230 (by decide) ?_
              exact k2891 _ (if_pos (c := (¬ ((m 85 v4) = 0) ∨ (¬ ((m 85 (m 79 v3)) = 0) ∧ (¬ ((m 83 v3) = 0))))) (Or.inr ⟨c2896, c2897⟩)).symm
        · have hz : True := trivial
          refine gh_iconst gd_Model_findUseful_229 (gh_r0 rfl) ?_
          refine gh_goto (tgt := 234) gd_Model_findUseful_230 (by decide) ?_
          exact k2891 _ (if_pos (c := (¬ ((m 85 v4) = 0) ∨ (¬ ((m 85 (m 79 v3)) = 0) ∧ (¬ ((m 83 v3) = 0))))) (Or.inl c2895)).symm
      refine gh_zne (tgt := 184) gd_Model_findUseful_167 (by decide) (fun c2898 => ?_) (fun c2898 => ?_)
      · have hz : True := trivial
        have hk := hk c2898
        refine gh_aload_n gd_Model_findUseful_170 2 rfl (by decide) ?_
        refine gf_63_37 gd_Model_findUseful_171 gh_k1404 hF ?_
        refine gh_aload_n gd_Model_findUseful_174 2 rfl (by decide) ?_
        refine gf_63_32 gd_Model_findUseful_175 gh_k1399 hF ?_
        refine gh_iload_n gd_Model_findUseful_178 1 rfl ?_
        obtain ⟨q2875, hk⟩ := hk
        obtain ⟨q2876, hk⟩ := hk
        refine la_79 gd_Model_findUseful_179 hF q2875 q2876 rfl ?_
        obtain ⟨q2877, hk⟩ := hk
        have q2878 := hk
        refine la_84 gd_Model_findUseful_180 hF q2877 q2878 rfl ?_
        refine gh_zeq (tgt := 188) gd_Model_findUseful_181 (by decide) (fun c2899 => ?_) (fun c2899 => ?_)
        · have hz : True := trivial
          refine gh_iconst gd_Model_findUseful_188 (gh_r0 rfl) ?_
          exact k2879 _ (if_neg (c := (¬ ((m 84 v4) = 0) ∨ (¬ ((m 84 (m 79 v3)) = 0)))) (fun z => z.elim (fun w => w c2898) (not_not_intro c2899))).symm
        · have hz : True := trivial
          refine gh_iconst gd_Model_findUseful_184 (gh_r0 rfl) ?_
          refine gh_goto (tgt := 189) gd_Model_findUseful_185 (by decide) ?_
          exact k2879 _ (if_pos (c := (¬ ((m 84 v4) = 0) ∨ (¬ ((m 84 (m 79 v3)) = 0)))) (Or.inr c2899)).symm
      · have hz : True := trivial
        refine gh_iconst gd_Model_findUseful_184 (gh_r0 rfl) ?_
        refine gh_goto (tgt := 189) gd_Model_findUseful_185 (by decide) ?_
        exact k2879 _ (if_pos (c := (¬ ((m 84 v4) = 0) ∨ (¬ ((m 84 (m 79 v3)) = 0)))) (Or.inl c2898)).symm
    have k2869 : ¬ (((v2 % 4) < (m 80 v3)) ∧ ((m 81 v2) < 0)) → gh_T E (gh_yModel_findUseful.cls, prog_14_method_36_code, 5, false, 9) (d + 1) 235 [(3, 0, v3), (0, 2, 63), (1, 0, v1), (2, 0, v2)] [] m (fun r m1 => gh_F m1 ∧ Q r m1) := by
      intro c
      have h := hB c
      refine gh_pick (L2 := [(0, 2, 63), (1, 0, v1), (2, 0, v2)]) [1, 2, 3] rfl ?_
      exact hJ235 m hF h
    refine gh_jge (tgt := 235) gd_Model_findUseful_132 (by decide) (fun c2900 => ?_) (fun c2900 => ?_)
    · have hz : True := trivial
      have hk := hk c2900
      refine gh_aload_n gd_Model_findUseful_135 1 rfl (by decide) ?_
      refine gf_63_34 gd_Model_findUseful_136 gh_k1401 hF ?_
      refine gh_iload_n gd_Model_findUseful_139 3 rfl ?_
      obtain ⟨q2866, hk⟩ := hk
      have q2867 := hk
      refine la_81 gd_Model_findUseful_140 hF q2866 q2867 rfl ?_
      refine gh_zge (tgt := 235) gd_Model_findUseful_141 (by decide) (fun c2901 => ?_) (fun c2901 => ?_)
      · have hz : True := trivial
        exact k2868 ⟨c2900, c2901⟩
      · have hz : True := trivial
        exact k2869 (fun z => c2901 z.2)
    · have hz : True := trivial
      exact k2869 (fun z => c2900 z.1)
  · have h := hB c2860
    obtain ⟨q2902, h⟩ := h
    refine gh_iinc (L2 := [(1, 0, v1 + 1), (0, 2, 63), (2, 0, v2)]) gd_Model_findUseful_241 1 rfl q2902 (by decide) rfl ?_
    refine gh_goto (tgt := 99) gd_Model_findUseful_244 (by decide) ?_
    refine gh_pick (L2 := [(0, 2, 63), (1, 0, v1 + 1)]) [1, 0] rfl ?_
    exact hK99 (v1 + 1) m hF h
theorem b_Model_findUseful_99 {E : gh_E} {Q : Int → gh_M → Prop} {K99 : Int → gh_M → Prop} (d : Nat) (hK : ∀ (v1 : Int) (m : gh_M), gh_F m → K99 v1 m → gh_T E (gh_yModel_findUseful.cls, prog_14_method_36_code, 5, false, 9) (d + 1) 99 [(0, 2, 63), (1, 0, v1)] [] m (fun r m1 => gh_F m1 ∧ Q r m1)) (v1 : Int) (m : gh_M) (hF : gh_F m) (h : f_Model_findUseful_99 Q K99 v1 m) : gh_T E (gh_yModel_findUseful.cls, prog_14_method_36_code, 5, false, 9) (d + 1) 99 [(0, 2, 63), (1, 0, v1)] [] m (fun r m1 => gh_F m1 ∧ Q r m1) := by
  have hK99 := hK
  unfold f_Model_findUseful_99 at h
  refine gh_iload_n gd_Model_findUseful_99 1 rfl ?_
  refine gh_aload_n gd_Model_findUseful_100 0 rfl (by decide) ?_
  refine gf_63_26 gd_Model_findUseful_101 gh_k1393 hF rfl ?_
  obtain ⟨hA, hB⟩ := h
  refine gh_jge (tgt := 247) gd_Model_findUseful_104 (by decide) (fun c2858 => ?_) (fun c2858 => ?_)
  · have h := hA c2858
    refine gh_iconst gd_Model_findUseful_107 (gh_r0 rfl) ?_
    refine gh_istore_n (L2 := [(2, 0, 0), (0, 2, 63), (1, 0, v1)]) gd_Model_findUseful_108 (by decide) rfl ?_
    refine gh_pick (L2 := [(0, 2, 63), (1, 0, v1), (2, 0, 0)]) [1, 2, 0] rfl ?_
    exact gh_M1_sound (T := fun v2 m => gh_T E (gh_yModel_findUseful.cls, prog_14_method_36_code, 5, false, 9) (d + 1) 109 [(0, 2, 63), (1, 0, v1), (2, 0, v2)] [] m (fun r m1 => gh_F m1 ∧ Q r m1)) (fun _ m => gh_F m) (fun K109 v2 m hK hF h => b_Model_findUseful_109 d hK99 hK v2 m hF h) 0 m hF h
  · have h := hB c2858
    exact gh_ret9 rfl gd_Model_findUseful_247 ⟨hF, h⟩
theorem b_Model_findUseful_41 {E : gh_E} {Q : Int → gh_M → Prop} {K41 : Int → gh_M → Prop} (d : Nat) (hK : ∀ (v1 : Int) (m : gh_M), gh_F m → K41 v1 m → gh_T E (gh_yModel_findUseful.cls, prog_14_method_36_code, 5, false, 9) (d + 1) 41 [(0, 2, 63), (1, 0, v1)] [] m (fun r m1 => gh_F m1 ∧ Q r m1)) (v1 : Int) (m : gh_M) (hF : gh_F m) (h : f_Model_findUseful_41 Q K41 v1 m) : gh_T E (gh_yModel_findUseful.cls, prog_14_method_36_code, 5, false, 9) (d + 1) 41 [(0, 2, 63), (1, 0, v1)] [] m (fun r m1 => gh_F m1 ∧ Q r m1) := by
  have hK41 := hK
  unfold f_Model_findUseful_41 at h
  refine gh_iload_n gd_Model_findUseful_41 1 rfl ?_
  refine gh_aload_n gd_Model_findUseful_42 0 rfl (by decide) ?_
  refine gf_63_26 gd_Model_findUseful_43 gh_k1393 hF rfl ?_
  obtain ⟨hA, hB⟩ := h
  refine gh_jge (tgt := 97) gd_Model_findUseful_46 (by decide) (fun c2845 => ?_) (fun c2845 => ?_)
  · have h := hA c2845
    refine gh_aload_n gd_Model_findUseful_49 0 rfl (by decide) ?_
    refine gf_63_37 gd_Model_findUseful_50 gh_k1404 hF ?_
    refine gh_iload_n gd_Model_findUseful_53 1 rfl ?_
    refine gh_iload_n gd_Model_findUseful_54 1 rfl ?_
    have k2846 : ∀ x2847 : Int, x2847 = (if (v1 = 0) then (1:Int) else 0) → gh_T E (gh_yModel_findUseful.cls, prog_14_method_36_code, 5, false, 9) (d + 1) 63 [(0, 2, 63), (1, 0, v1)] [(0, x2847), (0, v1), (2, 84)] m (fun r m1 => gh_F m1 ∧ Q r m1) := by
      rintro _ rfl
      obtain ⟨q2848, h⟩ := h
      obtain ⟨q2849, h⟩ := h
      refine sa_84 gd_Model_findUseful_63 hF q2848 q2849 gh_ib01 (fun hF => ?_)
      refine gh_aload_n gd_Model_findUseful_64 0 rfl (by decide) ?_
      refine gf_63_38 gd_Model_findUseful_65 gh_k1405 hF ?_
      refine gh_iload_n gd_Model_findUseful_68 1 rfl ?_
      refine gh_iload_n gd_Model_findUseful_69 1 rfl ?_
      have k2850 : ∀ x2851 : Int, x2851 = (if ((v1 = 0) ∧ ((m 82 0) < 1000000000)) then (1:Int) else 0) → gh_T E (gh_yModel_findUseful.cls, prog_14_method_36_code, 5, false, 9) (d + 1) 90 [(0, 2, 63), (1, 0, v1)] [(0, x2851), (0, v1), (2, 85)] (gh_u m 84 v1 (if (v1 = 0) then (1:Int) else 0)) (fun r m1 => gh_F m1 ∧ Q r m1) := by
        rintro _ rfl
        obtain ⟨q2852, h⟩ := h
        obtain ⟨q2853, h⟩ := h
        refine sa_85 gd_Model_findUseful_90 hF q2852 q2853 gh_ib01 (fun hF => ?_)
        obtain ⟨q2854, h⟩ := h
        refine gh_iinc (L2 := [(1, 0, v1 + 1), (0, 2, 63)]) gd_Model_findUseful_91 1 rfl q2854 (by decide) rfl ?_
        refine gh_goto (tgt := 41) gd_Model_findUseful_94 (by decide) ?_
        refine gh_pick (L2 := [(0, 2, 63), (1, 0, v1 + 1)]) [1, 0] rfl ?_
        exact hK41 (v1 + 1) (gh_u (gh_u m 84 v1 (if (v1 = 0) then (1:Int) else 0)) 85 v1 (if ((v1 = 0) ∧ ((m 82 0) < 1000000000)) then (1:Int) else 0)) hF h
      refine gh_zne (tgt := 89) gd_Model_findUseful_70 (by decide) (fun c2855 => ?_) (fun c2855 => ?_)
      · have hz : True := trivial
        refine gh_aload_n gd_Model_findUseful_73 0 rfl (by decide) ?_
        refine gf_63_35 gd_Model_findUseful_74 gh_k1402 hF ?_
        refine gh_iconst gd_Model_findUseful_77 (gh_r0 rfl) ?_
        refine la_82 gd_Model_findUseful_78 hF (by decide) (by decide) (gh_u_a (by decide)) ?_
        refine gh_ldcw (n := 1000000000) gd_Model_findUseful_79 gh_k1741 (by decide) (gh_r0 rfl) ?_
        refine gh_jge (tgt := 89) gd_Model_findUseful_82 (by decide) (fun c2856 => ?_) (fun c2856 => ?_)
        · have hz : True := trivial
          refine gh_iconst gd_Model_findUseful_85 (gh_r0 rfl) ?_
          refine gh_goto (tgt := 90) gd_Model_findUseful_86 (by decide) ?_
          exact k2850 _ (if_pos (c := ((v1 = 0) ∧ ((m 82 0) < 1000000000))) ⟨c2855, c2856⟩).symm
        · have hz : True := trivial
          refine gh_iconst gd_Model_findUseful_89 (gh_r0 rfl) ?_
          exact k2850 _ (if_neg (c := ((v1 = 0) ∧ ((m 82 0) < 1000000000))) (fun z => c2856 z.2)).symm
      · have hz : True := trivial
        refine gh_iconst gd_Model_findUseful_89 (gh_r0 rfl) ?_
        exact k2850 _ (if_neg (c := ((v1 = 0) ∧ ((m 82 0) < 1000000000))) (fun z => c2855 z.1)).symm
    refine gh_zne (tgt := 62) gd_Model_findUseful_55 (by decide) (fun c2857 => ?_) (fun c2857 => ?_)
    · have hz : True := trivial
      refine gh_iconst gd_Model_findUseful_58 (gh_r0 rfl) ?_
      refine gh_goto (tgt := 63) gd_Model_findUseful_59 (by decide) ?_
      exact k2846 _ (if_pos (c := (v1 = 0)) c2857).symm
    · have hz : True := trivial
      refine gh_iconst gd_Model_findUseful_62 (gh_r0 rfl) ?_
      exact k2846 _ (if_neg (c := (v1 = 0)) c2857).symm
  · have h := hB c2845
    refine gh_iconst gd_Model_findUseful_97 (gh_r0 rfl) ?_
    refine gh_istore_n (L2 := [(1, 0, 0), (0, 2, 63)]) gd_Model_findUseful_98 (by decide) rfl ?_
    refine gh_pick (L2 := [(0, 2, 63), (1, 0, 0)]) [1, 0] rfl ?_
    exact gh_M1_sound (T := fun v1 m => gh_T E (gh_yModel_findUseful.cls, prog_14_method_36_code, 5, false, 9) (d + 1) 99 [(0, 2, 63), (1, 0, v1)] [] m (fun r m1 => gh_F m1 ∧ Q r m1)) (fun _ m => gh_F m) (fun K99 v1 m hK hF h => b_Model_findUseful_99 d hK v1 m hF h) 0 m hF h
theorem b_Model_findUseful_2 {E : gh_E} {Q : Int → gh_M → Prop} {K2 : Int → gh_M → Prop} (d : Nat) (hK : ∀ (v1 : Int) (m : gh_M), gh_F m → K2 v1 m → gh_T E (gh_yModel_findUseful.cls, prog_14_method_36_code, 5, false, 9) (d + 1) 2 [(0, 2, 63), (1, 0, v1)] [] m (fun r m1 => gh_F m1 ∧ Q r m1)) (v1 : Int) (m : gh_M) (hF : gh_F m) (h : f_Model_findUseful_2 Q K2 v1 m) : gh_T E (gh_yModel_findUseful.cls, prog_14_method_36_code, 5, false, 9) (d + 1) 2 [(0, 2, 63), (1, 0, v1)] [] m (fun r m1 => gh_F m1 ∧ Q r m1) := by
  have hK2 := hK
  unfold f_Model_findUseful_2 at h
  refine gh_iload_n gd_Model_findUseful_2 1 rfl ?_
  refine gh_aload_n gd_Model_findUseful_3 0 rfl (by decide) ?_
  refine gf_63_27 gd_Model_findUseful_4 gh_k1394 hF rfl ?_
  obtain ⟨hA, hB⟩ := h
  refine gh_jge (tgt := 39) gd_Model_findUseful_7 (by decide) (fun c2836 => ?_) (fun c2836 => ?_)
  · have h := hA c2836
    refine gh_aload_n gd_Model_findUseful_10 0 rfl (by decide) ?_
    refine gf_63_36 gd_Model_findUseful_11 gh_k1403 hF ?_
    refine gh_iload_n gd_Model_findUseful_14 1 rfl ?_
    refine gh_aload_n gd_Model_findUseful_15 0 rfl (by decide) ?_
    refine gh_iload_n gd_Model_findUseful_16 1 rfl ?_
    refine gh_iconst gd_Model_findUseful_17 (gh_r0 rfl) ?_
    refine cv_Model_leastOf (d := d) gd_Model_findUseful_18 gh_k1742 hF (Nat.le_of_ble_eq_true rfl) (gh_C.pw (s_Model_leastOf d v1 0 hF h) (fun r2837 h => ?_))
    refine gh_ldcw (n := 1000000000) gd_Model_findUseful_21 gh_k1741 (by decide) (gh_r0 rfl) ?_
    have k2839 : ∀ x2840 : Int, x2840 = (if (r2837 < 1000000000) then (1:Int) else 0) → gh_T E (gh_yModel_findUseful.cls, prog_14_method_36_code, 5, false, 9) (d + 1) 32 [(0, 2, 63), (1, 0, v1)] [(0, x2840), (0, v1), (2, 83)] m (fun r m1 => gh_F m1 ∧ Q r m1) := by
      rintro _ rfl
      obtain ⟨q2841, h⟩ := h
      obtain ⟨q2842, h⟩ := h
      refine sa_83 gd_Model_findUseful_32 hF q2841 q2842 gh_ib01 (fun hF => ?_)
      obtain ⟨q2843, h⟩ := h
      refine gh_iinc (L2 := [(1, 0, v1 + 1), (0, 2, 63)]) gd_Model_findUseful_33 1 rfl q2843 (by decide) rfl ?_
      refine gh_goto (tgt := 2) gd_Model_findUseful_36 (by decide) ?_
      refine gh_pick (L2 := [(0, 2, 63), (1, 0, v1 + 1)]) [1, 0] rfl ?_
      exact hK2 (v1 + 1) (gh_u m 83 v1 (if (r2837 < 1000000000) then (1:Int) else 0)) hF h
    refine gh_jge (tgt := 31) gd_Model_findUseful_24 (by decide) (fun c2844 => ?_) (fun c2844 => ?_)
    · have hz : True := trivial
      refine gh_iconst gd_Model_findUseful_27 (gh_r0 rfl) ?_
      refine gh_goto (tgt := 32) gd_Model_findUseful_28 (by decide) ?_
      exact k2839 _ (if_pos (c := (r2837 < 1000000000)) c2844).symm
    · have hz : True := trivial
      refine gh_iconst gd_Model_findUseful_31 (gh_r0 rfl) ?_
      exact k2839 _ (if_neg (c := (r2837 < 1000000000)) c2844).symm
  · have h := hB c2836
    refine gh_iconst gd_Model_findUseful_39 (gh_r0 rfl) ?_
    refine gh_istore_n (L2 := [(1, 0, 0), (0, 2, 63)]) gd_Model_findUseful_40 (by decide) rfl ?_
    refine gh_pick (L2 := [(0, 2, 63), (1, 0, 0)]) [1, 0] rfl ?_
    exact gh_M1_sound (T := fun v1 m => gh_T E (gh_yModel_findUseful.cls, prog_14_method_36_code, 5, false, 9) (d + 1) 41 [(0, 2, 63), (1, 0, v1)] [] m (fun r m1 => gh_F m1 ∧ Q r m1)) (fun _ m => gh_F m) (fun K41 v1 m hK hF h => b_Model_findUseful_41 d hK v1 m hF h) 0 m hF h
theorem s_Model_findUseful {E : gh_E} {m : gh_M} {Q : Int → gh_M → Prop} (d : Nat) (hF : gh_F m) (h : w_Model_findUseful m Q) : gh_C E gh_yModel_findUseful prog_14_method_36_code 5 none 9 (d + 1) [(2, 63)] m (fun r m1 => gh_F m1 ∧ Q r m1) := by
  refine gh_enter2 (L := [(0, 2, 63)]) (by decide +kernel) gh_rt9 (Nat.le_of_ble_eq_true rfl) rfl rfl ?_
  unfold w_Model_findUseful at h
  refine gh_iconst gd_Model_findUseful_0 (gh_r0 rfl) ?_
  refine gh_istore_n (L2 := [(1, 0, 0), (0, 2, 63)]) gd_Model_findUseful_1 (by decide) rfl ?_
  refine gh_pick (L2 := [(0, 2, 63), (1, 0, 0)]) [1, 0] rfl ?_
  exact gh_M1_sound (T := fun v1 m => gh_T E (gh_yModel_findUseful.cls, prog_14_method_36_code, 5, false, 9) (d + 1) 2 [(0, 2, 63), (1, 0, v1)] [] m (fun r m1 => gh_F m1 ∧ Q r m1)) (fun _ m => gh_F m) (fun K2 v1 m hK hF h => b_Model_findUseful_2 d hK v1 m hF h) 0 m hF h
