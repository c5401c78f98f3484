def f_Law_law_261 (v7 : Int) (r1994 : Int) (v8 : Int) (J287 : Int → gh_M → Prop) (K261 : Int → gh_M → Prop) (v9 : Int) (m : gh_M) : Prop := ((v9 < v8 → w_Law_low_1_63 3 m (fun r2246 m2247 => w_House_put r2246 m2247 (fun r2248 m2249 => gh_i (v9 + 1) ∧ K261 (v9 + 1) m2249))) ∧ (¬ (v9 < v8) → J287 r1994 m))
def f_Law_law_158 (Q : Int → gh_M → Prop) (K158 : Int → Int → gh_M → Prop) (v6 : Int) (v7 : Int) (m : gh_M) : Prop := (((¬ (v7 < 3) ∨ (v6 = 0)) → (v6 = 0 ∨ v6 = 1) ∧ Q v6 m) ∧ (¬ (¬ (v7 < 3) ∨ (v6 = 0)) → w_Law_isTextWell_2_64_65 m (fun r1994 m1995 => w_Law_low_1_63 3 m1995 (fun r2222 m2223 => ∃ J287 : Int → gh_M → Prop, (∀ (v6' : Int) (m : gh_M), J287 v6' m → ∃ J307 : Int → gh_M → Prop, (∀ (y0_307 : Int) (m : gh_M), J307 y0_307 m → gh_i (v7 + 1) ∧ K158 y0_307 (v7 + 1) m) ∧ ∃ J306 : gh_M → Prop, (∀ (m : gh_M), J306 m → J307 0 m) ∧ ((v6' = 0 → J306 m) ∧ (¬ (v6' = 0) → w_Law_isTextWell_2_64_65 m (fun r2226 m2227 => ((r2226 = 0 → J306 m2227) ∧ (¬ (r2226 = 0) → J307 1 m2227)))))) ∧ ((r2222 = 0 → w_Law_low_1_63 65536 m2223 (fun r2230 m2231 => w_House_made r2230 m2231 (fun r2232 m2233 => ∃ J243 : Int → gh_M → Prop, (∀ (y0_243 : Int) (m : gh_M), J243 y0_243 m → J287 y0_243 m) ∧ ∃ J242 : gh_M → Prop, (∀ (m : gh_M), J242 m → J243 0 m) ∧ ((r1994 = 0 → J242 m2233) ∧ (¬ (r1994 = 0) → ∃ J238 : gh_M → Prop, (∀ (m : gh_M), J238 m → J243 1 m) ∧ ((r2232 = (-1) → J238 m2233) ∧ (¬ (r2232 = (-1)) → w_House_sum 4 m2233 (fun r2236 => ((r2232 = r2236 → w_House_accepts r2232 m2233 (fun r2239 m2240 => ((r2239 = 1 → J238 m2240) ∧ (¬ (r2239 = 1) → J242 m2240)))) ∧ (¬ (r2232 = r2236) → J242 m2233)))))))))) ∧ (¬ (r2222 = 0) → w_Law_low_1_63 3 m2223 (fun r2242 m2243 => gh_i (1 + r2242) ∧ ∀ v8 : Int, v8 = 1 + r2242 → gh_M1 (fun K261 v9 m => f_Law_law_261 v7 r1994 v8 J287 K261 v9 m) 0 m2243)))))))
def w_Law (m : gh_M) (Q : Int → gh_M → Prop) : Prop := w_Law_typeGrammar_2_1_63 m (fun _ m1836 => w_House_read m1836 (fun r1969 m1970 => ((r1969 < 0 → ∃ J107 : gh_M → Prop, (∀ (m : gh_M), J107 m → Q 0 m) ∧ (((¬ (r1969 < (-15)) ∧ (r1969 ≤ (-11))) → w_House_fault 0 m1970 (fun r1974 => gh_i ((-10) - r1969) ∧ ((r1974 = ((-10) - r1969) → w_House_fault 1 m1970 (fun r1978 => ((r1978 < 0 → J107 m1970) ∧ (¬ (r1978 < 0) → w_House_sum 0 m1970 (fun r1981 => ((r1981 = (-1003) → w_House_put 0 m1970 (fun r1984 m1985 => ((r1984 = (-1003) → Q 1 m1985) ∧ (¬ (r1984 = (-1003)) → J107 m1985)))) ∧ (¬ (r1981 = (-1003)) → J107 m1970))))))) ∧ (¬ (r1974 = ((-10) - r1969)) → J107 m1970)))) ∧ (¬ (¬ (r1969 < (-15)) ∧ (r1969 ≤ (-11))) → J107 m1970))) ∧ (¬ (r1969 < 0) → w_House_sum 2 m1970 (fun r1989 => ∃ J153 : Int → Prop, (∀ (y0 : Int), J153 y0 → gh_M2 (fun K158 v6 v7 m => f_Law_law_158 Q K158 v6 v7 m) y0 0 m1970) ∧ ∃ J152 : Prop, (J152 → J153 0) ∧ ((r1969 = r1989 → w_House_fault 0 m1970 (fun r2254 => ((r2254 = 0 → w_House_fault 1 m1970 (fun r2257 => ((r2257 = (-1) → w_House_sum 4 m1970 (fun r2260 => ((r2260 = 0 → J153 1) ∧ (¬ (r2260 = 0) → J152)))) ∧ (¬ (r2257 = (-1)) → J152)))) ∧ (¬ (r2254 = 0) → J152)))) ∧ (¬ (r1969 = r1989) → J152)))))))
theorem b_Law_law_261 {E : gh_E} {v7 : Int} {r1994 : Int} {v8 : Int} {J287 : Int → gh_M → Prop} {Q : Int → gh_M → Prop} {K261 : Int → gh_M → Prop} (d : Nat) (hJ287 : ∀ (v6' : Int) (m : gh_M), gh_F m → J287 v6' m → gh_T E gh_MLaw (d + 39) 287 [(0, 2, 1), (1, 2, 63), (2, 2, 64), (3, 2, 65), (4, 2, 2), (6, 0, v6'), (7, 0, v7)] [] m (fun r m1 => gh_F m1 ∧ Q r m1)) (hK : ∀ (v9 : Int) (m : gh_M), gh_F m → K261 v9 m → gh_T E gh_MLaw (d + 39) 261 [(0, 2, 1), (1, 2, 63), (2, 2, 64), (3, 2, 65), (4, 2, 2), (6, 0, r1994), (7, 0, v7), (8, 0, v8), (9, 0, v9)] [] m (fun r m1 => gh_F m1 ∧ Q r m1)) (v9 : Int) (m : gh_M) (hF : gh_F m) (h : f_Law_law_261 v7 r1994 v8 J287 K261 v9 m) : gh_T E gh_MLaw (d + 39) 261 [(0, 2, 1), (1, 2, 63), (2, 2, 64), (3, 2, 65), (4, 2, 2), (6, 0, r1994), (7, 0, v7), (8, 0, v8), (9, 0, v9)] [] m (fun r m1 => gh_F m1 ∧ Q r m1) := by
  have hK261 := hK
  unfold f_Law_law_261 at h
  refine gh_iload gd_Law_law_261 8 rfl ?_
  refine gh_iload gd_Law_law_263 7 rfl ?_
  obtain ⟨hA, hB⟩ := h
  refine gh_jge (tgt := 287) gd_Law_law_265 (by decide) (fun c2245 => ?_) (fun c2245 => ?_)
  · have h := hA c2245
    refine gh_aload gd_Law_law_268 4 rfl (by decide) ?_
    refine gh_aload_n gd_Law_law_270 0 rfl (by decide) ?_
    refine gh_aload_n gd_Law_law_271 1 rfl (by decide) ?_
    refine gh_iconst gd_Law_law_272 (gh_r0 rfl) ?_
    refine cv_Law_low (d := d + 38) gd_Law_law_273 gh_k951 (Nat.le_of_ble_eq_true rfl) (gh_C.mono (s_Law_low_1_63 (d + 38) 3 hF h) (fun r2246 m2247 hq => ?_))
    obtain ⟨hF, h⟩ := hq
    refine cv_House_put (d := d + 38) gd_Law_law_276 gh_k863 hF (Nat.le_of_ble_eq_true rfl) (gh_C.mono (s_House_put (d + 35) r2246 hF h) (fun r2248 m2249 hq => ?_))
    obtain ⟨hF, h⟩ := hq
    refine gh_istore (L2 := [(10, 0, r2248), (0, 2, 1), (1, 2, 63), (2, 2, 64), (3, 2, 65), (4, 2, 2), (6, 0, r1994), (7, 0, v7), (8, 0, v8), (9, 0, v9)]) gd_Law_law_279 (by decide) rfl ?_
    obtain ⟨q2250, h⟩ := h
    refine gh_iinc (L2 := [(9, 0, v9 + 1), (10, 0, r2248), (0, 2, 1), (1, 2, 63), (2, 2, 64), (3, 2, 65), (4, 2, 2), (6, 0, r1994), (7, 0, v7), (8, 0, v8)]) gd_Law_law_281 9 rfl q2250 (by decide) rfl ?_
    refine gh_goto (tgt := 261) gd_Law_law_284 (by decide) ?_
    refine gh_pick (L2 := [(0, 2, 1), (1, 2, 63), (2, 2, 64), (3, 2, 65), (4, 2, 2), (6, 0, r1994), (7, 0, v7), (8, 0, v8), (9, 0, v9 + 1)]) [2, 3, 4, 5, 6, 7, 8, 9, 0] rfl ?_
    exact hK261 (v9 + 1) m2249 hF h
  · have h := hB c2245
    refine gh_pick (L2 := [(0, 2, 1), (1, 2, 63), (2, 2, 64), (3, 2, 65), (4, 2, 2), (6, 0, r1994), (7, 0, v7)]) [0, 1, 2, 3, 4, 5, 6] rfl ?_
    exact hJ287 r1994 m hF h
theorem b_Law_law_158 {E : gh_E} {Q : Int → gh_M → Prop} {K158 : Int → Int → gh_M → Prop} (d : Nat) (hK : ∀ (v6 : Int) (v7 : Int) (m : gh_M), gh_F m → K158 v6 v7 m → gh_T E gh_MLaw (d + 39) 158 [(0, 2, 1), (1, 2, 63), (2, 2, 64), (3, 2, 65), (4, 2, 2), (6, 0, v6), (7, 0, v7)] [] m (fun r m1 => gh_F m1 ∧ Q r m1)) (v6 : Int) (v7 : Int) (m : gh_M) (hF : gh_F m) (h : f_Law_law_158 Q K158 v6 v7 m) : gh_T E gh_MLaw (d + 39) 158 [(0, 2, 1), (1, 2, 63), (2, 2, 64), (3, 2, 65), (4, 2, 2), (6, 0, v6), (7, 0, v7)] [] m (fun r m1 => gh_F m1 ∧ Q r m1) := by
  have hK158 := hK
  unfold f_Law_law_158 at h
  refine gh_iload gd_Law_law_158 6 rfl ?_
  refine gh_iconst gd_Law_law_160 (gh_r0 rfl) ?_
  obtain ⟨hA, hB⟩ := h
  have k1991 : (¬ (v7 < 3) ∨ (v6 = 0)) → gh_T E gh_MLaw (d + 39) 315 [(0, 2, 1), (1, 2, 63), (2, 2, 64), (3, 2, 65), (4, 2, 2), (6, 0, v6), (7, 0, v7)] [] m (fun r m1 => gh_F m1 ∧ Q r m1) := by
    intro c
    have h := hA c
    refine gh_iload gd_Law_law_315 5 rfl ?_
    obtain ⟨q1993, h⟩ := h
    exact gh_ret8 rfl gd_Law_law_317 q1993 ⟨hF, h⟩
  have k1992 : ¬ (¬ (v7 < 3) ∨ (v6 = 0)) → gh_T E gh_MLaw (d + 39) 169 [(0, 2, 1), (1, 2, 63), (2, 2, 64), (3, 2, 65), (4, 2, 2), (6, 0, v6), (7, 0, v7)] [] m (fun r m1 => gh_F m1 ∧ Q r m1) := by
    intro c
    have h := hB c
    refine gh_aload gd_Law_law_169 4 rfl (by decide) ?_
    refine gh_aload_n gd_Law_law_171 2 rfl (by decide) ?_
    refine gh_aload_n gd_Law_law_172 3 rfl (by decide) ?_
    refine cv_Law_isTextWell (d := d + 38) gd_Law_law_173 gh_k977 (Nat.le_of_ble_eq_true rfl) (gh_C.mono (s_Law_isTextWell_2_64_65 d hF h) (fun r1994 m1995 hq => ?_))
    obtain ⟨hF, h⟩ := hq
    refine gh_istore (L2 := [(6, 0, r1994), (0, 2, 1), (1, 2, 63), (2, 2, 64), (3, 2, 65), (4, 2, 2), (7, 0, v7)]) gd_Law_law_176 (by decide) rfl ?_
    refine gh_aload_n gd_Law_law_178 1 rfl (by decide) ?_
    refine gh_aload_n gd_Law_law_179 2 rfl (by decide) ?_
    refine gh_iconst gd_Law_law_180 (gh_r0 rfl) ?_
    refine cv_Law_low (d := d + 38) gd_Law_law_181 gh_k951 (Nat.le_of_ble_eq_true rfl) (gh_C.mono (s_Law_low_1_63 (d + 38) 3 hF h) (fun r2222 m2223 hq => ?_))
    obtain ⟨hF, h⟩ := hq
    obtain ⟨J287, hJ287, h⟩ := h
    have hJ287 : ∀ (v6' : Int) (m : gh_M), gh_F m → J287 v6' m → gh_T E gh_MLaw (d + 39) 287 [(0, 2, 1), (1, 2, 63), (2, 2, 64), (3, 2, 65), (4, 2, 2), (6, 0, v6'), (7, 0, v7)] [] m (fun r m1 => gh_F m1 ∧ Q r m1) := by
      intro v6' m hF hj
      have h := hJ287 v6' m hj
      refine gh_iload gd_Law_law_287 5 rfl ?_
      obtain ⟨J307, hJ307, h⟩ := h
      have hJ307 : ∀ (y0_307 : Int) (m : gh_M), gh_F m → J307 y0_307 m → gh_T E gh_MLaw (d + 39) 307 [(0, 2, 1), (1, 2, 63), (2, 2, 64), (3, 2, 65), (4, 2, 2), (7, 0, v7)] [(0, y0_307)] m (fun r m1 => gh_F m1 ∧ Q r m1) := by
        intro y0_307 m hF hj
        have h := hJ307 y0_307 m hj
        refine gh_istore (L2 := [(6, 0, y0_307), (0, 2, 1), (1, 2, 63), (2, 2, 64), (3, 2, 65), (4, 2, 2), (7, 0, v7)]) gd_Law_law_307 (by decide) rfl ?_
        obtain ⟨q2224, h⟩ := h
        refine gh_iinc (L2 := [(7, 0, v7 + 1), (6, 0, y0_307), (0, 2, 1), (1, 2, 63), (2, 2, 64), (3, 2, 65), (4, 2, 2)]) gd_Law_law_309 6 rfl q2224 (by decide) rfl ?_
        refine gh_goto (tgt := 158) gd_Law_law_312 (by decide) ?_
        refine gh_pick (L2 := [(0, 2, 1), (1, 2, 63), (2, 2, 64), (3, 2, 65), (4, 2, 2), (6, 0, y0_307), (7, 0, v7 + 1)]) [2, 3, 4, 5, 6, 1, 0] rfl ?_
        exact hK158 y0_307 (v7 + 1) m hF h
      obtain ⟨J306, hJ306, h⟩ := h
      have hJ306 : ∀ (m : gh_M), gh_F m → J306 m → gh_T E gh_MLaw (d + 39) 306 [(0, 2, 1), (1, 2, 63), (2, 2, 64), (3, 2, 65), (4, 2, 2), (7, 0, v7)] [] m (fun r m1 => gh_F m1 ∧ Q r m1) := by
        intro m hF hj
        have h := hJ306 m hj
        refine gh_iconst gd_Law_law_306 (gh_r0 rfl) ?_
        exact hJ307 0 m hF h
      obtain ⟨hA, hB⟩ := h
      refine gh_zeq (tgt := 306) gd_Law_law_289 (by decide) (fun c2225 => ?_) (fun c2225 => ?_)
      · have h := hA c2225
        refine gh_pick (L2 := [(0, 2, 1), (1, 2, 63), (2, 2, 64), (3, 2, 65), (4, 2, 2), (7, 0, v7)]) [0, 1, 2, 3, 4, 6] rfl ?_
        exact hJ306 m hF h
      · have h := hB c2225
        refine gh_aload gd_Law_law_292 4 rfl (by decide) ?_
        refine gh_aload_n gd_Law_law_294 2 rfl (by decide) ?_
        refine gh_aload_n gd_Law_law_295 3 rfl (by decide) ?_
        refine cv_Law_isTextWell (d := d + 38) gd_Law_law_296 gh_k977 (Nat.le_of_ble_eq_true rfl) (gh_C.mono (s_Law_isTextWell_2_64_65 d hF h) (fun r2226 m2227 hq => ?_))
        obtain ⟨hF, h⟩ := hq
        obtain ⟨hA, hB⟩ := h
        refine gh_zeq (tgt := 306) gd_Law_law_299 (by decide) (fun c2228 => ?_) (fun c2228 => ?_)
        · have h := hA c2228
          refine gh_pick (L2 := [(0, 2, 1), (1, 2, 63), (2, 2, 64), (3, 2, 65), (4, 2, 2), (7, 0, v7)]) [0, 1, 2, 3, 4, 6] rfl ?_
          exact hJ306 m2227 hF h
        · have h := hB c2228
          refine gh_iconst gd_Law_law_302 (gh_r0 rfl) ?_
          refine gh_goto (tgt := 307) gd_Law_law_303 (by decide) ?_
          refine gh_pick (L2 := [(0, 2, 1), (1, 2, 63), (2, 2, 64), (3, 2, 65), (4, 2, 2), (7, 0, v7)]) [0, 1, 2, 3, 4, 6] rfl ?_
          exact hJ307 1 m2227 hF h
    obtain ⟨hA, hB⟩ := h
    refine gh_zne (tgt := 248) gd_Law_law_184 (by decide) (fun c2229 => ?_) (fun c2229 => ?_)
    · have h := hA c2229
      refine gh_aload_n gd_Law_law_187 1 rfl (by decide) ?_
      refine gh_aload_n gd_Law_law_188 2 rfl (by decide) ?_
      refine gh_ldc (n := 65536) gd_Law_law_189 gh_k1187 (by decide) (gh_r0 rfl) ?_
      refine cv_Law_low (d := d + 38) gd_Law_law_191 gh_k951 (Nat.le_of_ble_eq_true rfl) (gh_C.mono (s_Law_low_1_63 (d + 38) 65536 hF h) (fun r2230 m2231 hq => ?_))
      obtain ⟨hF, h⟩ := hq
      refine gh_istore (L2 := [(8, 0, r2230), (6, 0, r1994), (0, 2, 1), (1, 2, 63), (2, 2, 64), (3, 2, 65), (4, 2, 2), (7, 0, v7)]) gd_Law_law_194 (by decide) rfl ?_
      refine gh_aload gd_Law_law_196 6 rfl (by decide) ?_
      refine gh_iload gd_Law_law_198 0 rfl ?_
      refine cv_House_made (d := d + 38) gd_Law_law_200 gh_k867 hF (Nat.le_of_ble_eq_true rfl) (gh_C.mono (s_House_made (d + 35) r2230 hF h) (fun r2232 m2233 hq => ?_))
      obtain ⟨hF, h⟩ := hq
      refine gh_istore (L2 := [(9, 0, r2232), (8, 0, r2230), (6, 0, r1994), (0, 2, 1), (1, 2, 63), (2, 2, 64), (3, 2, 65), (4, 2, 2), (7, 0, v7)]) gd_Law_law_203 (by decide) rfl ?_
      refine gh_iload gd_Law_law_205 2 rfl ?_
      obtain ⟨J243, hJ243, h⟩ := h
      have hJ243 : ∀ (y0_243 : Int) (m : gh_M), gh_F m → J243 y0_243 m → gh_T E gh_MLaw (d + 39) 243 [(0, 2, 1), (1, 2, 63), (2, 2, 64), (3, 2, 65), (4, 2, 2), (7, 0, v7)] [(0, y0_243)] m (fun r m1 => gh_F m1 ∧ Q r m1) := by
        intro y0_243 m hF hj
        have h := hJ243 y0_243 m hj
        refine gh_istore (L2 := [(6, 0, y0_243), (0, 2, 1), (1, 2, 63), (2, 2, 64), (3, 2, 65), (4, 2, 2), (7, 0, v7)]) gd_Law_law_243 (by decide) rfl ?_
        refine gh_goto (tgt := 287) gd_Law_law_245 (by decide) ?_
        refine gh_pick (L2 := [(0, 2, 1), (1, 2, 63), (2, 2, 64), (3, 2, 65), (4, 2, 2), (6, 0, y0_243), (7, 0, v7)]) [1, 2, 3, 4, 5, 0, 6] rfl ?_
        exact hJ287 y0_243 m hF h
      obtain ⟨J242, hJ242, h⟩ := h
      have hJ242 : ∀ (m : gh_M), gh_F m → J242 m → gh_T E gh_MLaw (d + 39) 242 [(0, 2, 1), (1, 2, 63), (2, 2, 64), (3, 2, 65), (4, 2, 2), (7, 0, v7)] [] m (fun r m1 => gh_F m1 ∧ Q r m1) := by
        intro m hF hj
        have h := hJ242 m hj
        refine gh_iconst gd_Law_law_242 (gh_r0 rfl) ?_
        exact hJ243 0 m hF h
      obtain ⟨hA, hB⟩ := h
      refine gh_zeq (tgt := 242) gd_Law_law_207 (by decide) (fun c2234 => ?_) (fun c2234 => ?_)
      · have h := hA c2234
        refine gh_pick (L2 := [(0, 2, 1), (1, 2, 63), (2, 2, 64), (3, 2, 65), (4, 2, 2), (7, 0, v7)]) [3, 4, 5, 6, 7, 8] rfl ?_
        exact hJ242 m2233 hF h
      · have h := hB c2234
        refine gh_iload gd_Law_law_210 0 rfl ?_
        refine gh_iconst gd_Law_law_212 (gh_r0 rfl) ?_
        obtain ⟨J238, hJ238, h⟩ := h
        have hJ238 : ∀ (m : gh_M), gh_F m → J238 m → gh_T E gh_MLaw (d + 39) 238 [(0, 2, 1), (1, 2, 63), (2, 2, 64), (3, 2, 65), (4, 2, 2), (7, 0, v7)] [] m (fun r m1 => gh_F m1 ∧ Q r m1) := by
          intro m hF hj
          have h := hJ238 m hj
          refine gh_iconst gd_Law_law_238 (gh_r0 rfl) ?_
          refine gh_goto (tgt := 243) gd_Law_law_239 (by decide) ?_
          exact hJ243 1 m hF h
        obtain ⟨hA, hB⟩ := h
        refine gh_jeq (tgt := 238) gd_Law_law_213 (by decide) (fun c2235 => ?_) (fun c2235 => ?_)
        · have h := hA c2235
          refine gh_pick (L2 := [(0, 2, 1), (1, 2, 63), (2, 2, 64), (3, 2, 65), (4, 2, 2), (7, 0, v7)]) [3, 4, 5, 6, 7, 8] rfl ?_
          exact hJ238 m2233 hF h
        · have h := hB c2235
          refine gh_iload gd_Law_law_216 0 rfl ?_
          refine gh_aload gd_Law_law_218 7 rfl (by decide) ?_
          refine gh_iconst gd_Law_law_220 (gh_r0 rfl) ?_
          refine cv_House_sum (d := d + 38) gd_Law_law_221 gh_k841 hF (Nat.le_of_ble_eq_true rfl) (gh_C.pw (s_House_sum (d + 36) 4 hF h) (fun r2236 h => ?_))
          obtain ⟨hA, hB⟩ := h
          refine gh_jne (tgt := 242) gd_Law_law_224 (by decide) (fun c2238 => ?_) (fun c2238 => ?_)
          · have h := hA c2238
            refine gh_aload gd_Law_law_227 7 rfl (by decide) ?_
            refine gh_iload gd_Law_law_229 0 rfl ?_
            refine cv_House_accepts (d := d + 38) gd_Law_law_231 gh_k899 hF (Nat.le_of_ble_eq_true rfl) (gh_C.mono (s_House_accepts (d + 32) r2232 hF h) (fun r2239 m2240 hq => ?_))
            obtain ⟨hF, h⟩ := hq
            refine gh_iconst gd_Law_law_234 (gh_r0 rfl) ?_
            obtain ⟨hA, hB⟩ := h
            refine gh_jne (tgt := 242) gd_Law_law_235 (by decide) (fun c2241 => ?_) (fun c2241 => ?_)
            · have h := hA c2241
              refine gh_pick (L2 := [(0, 2, 1), (1, 2, 63), (2, 2, 64), (3, 2, 65), (4, 2, 2), (7, 0, v7)]) [3, 4, 5, 6, 7, 8] rfl ?_
              exact hJ238 m2240 hF h
            · have h := hB c2241
              refine gh_pick (L2 := [(0, 2, 1), (1, 2, 63), (2, 2, 64), (3, 2, 65), (4, 2, 2), (7, 0, v7)]) [3, 4, 5, 6, 7, 8] rfl ?_
              exact hJ242 m2240 hF h
          · have h := hB c2238
            refine gh_pick (L2 := [(0, 2, 1), (1, 2, 63), (2, 2, 64), (3, 2, 65), (4, 2, 2), (7, 0, v7)]) [3, 4, 5, 6, 7, 8] rfl ?_
            exact hJ242 m2233 hF h
    · have h := hB c2229
      refine gh_iconst gd_Law_law_248 (gh_r0 rfl) ?_
      refine gh_aload_n gd_Law_law_249 1 rfl (by decide) ?_
      refine gh_aload_n gd_Law_law_250 2 rfl (by decide) ?_
      refine gh_iconst gd_Law_law_251 (gh_r0 rfl) ?_
      refine cv_Law_low (d := d + 38) gd_Law_law_252 gh_k951 (Nat.le_of_ble_eq_true rfl) (gh_C.mono (s_Law_low_1_63 (d + 38) 3 hF h) (fun r2242 m2243 hq => ?_))
      obtain ⟨hF, h⟩ := hq
      obtain ⟨q2244, h⟩ := h
      refine gh_iadd gd_Law_law_255 q2244 ?_
      refine gh_name (fun v8 hn => ?_)
      have h := h v8 hn
      refine gh_istore (L2 := [(8, 0, v8), (6, 0, r1994), (0, 2, 1), (1, 2, 63), (2, 2, 64), (3, 2, 65), (4, 2, 2), (7, 0, v7)]) gd_Law_law_256 (by decide) rfl ?_
      refine gh_iconst gd_Law_law_258 (gh_r0 rfl) ?_
      refine gh_istore (L2 := [(9, 0, 0), (8, 0, v8), (6, 0, r1994), (0, 2, 1), (1, 2, 63), (2, 2, 64), (3, 2, 65), (4, 2, 2), (7, 0, v7)]) gd_Law_law_259 (by decide) rfl ?_
      refine gh_pick (L2 := [(0, 2, 1), (1, 2, 63), (2, 2, 64), (3, 2, 65), (4, 2, 2), (6, 0, r1994), (7, 0, v7), (8, 0, v8), (9, 0, 0)]) [3, 4, 5, 6, 7, 2, 8, 1, 0] rfl ?_
      exact gh_M1_sound (T := fun v9 m => gh_T E gh_MLaw (d + 39) 261 [(0, 2, 1), (1, 2, 63), (2, 2, 64), (3, 2, 65), (4, 2, 2), (6, 0, r1994), (7, 0, v7), (8, 0, v8), (9, 0, v9)] [] m (fun r m1 => gh_F m1 ∧ Q r m1)) (fun _ m => gh_F m) (fun K261 v9 m hK hF h => b_Law_law_261 d hJ287 hK v9 m hF h) 0 m2243 hF h
  refine gh_jge (tgt := 315) gd_Law_law_161 (by decide) (fun c2251 => ?_) (fun c2251 => ?_)
  · have hz : True := trivial
    refine gh_iload gd_Law_law_164 5 rfl ?_
    refine gh_zeq (tgt := 315) gd_Law_law_166 (by decide) (fun c2252 => ?_) (fun c2252 => ?_)
    · have hz : True := trivial
      exact k1991 (Or.inr c2252)
    · have hz : True := trivial
      exact k1992 (fun z => z.elim (fun w => w c2251) c2252)
  · have hz : True := trivial
    exact k1991 (Or.inl c2251)
theorem s_Law {E : gh_E} {m : gh_M} {Q : Int → gh_M → Prop} (d : Nat) (hF : gh_F m) (h : w_Law m Q) : gh_T E gh_MLaw (d + 39) 23 [(4, 2, 2), (3, 2, 65), (2, 2, 64), (1, 2, 63), (0, 2, 1)] [] m (fun r m1 => gh_F m1 ∧ Q r m1) := by
  unfold w_Law at h
  refine gh_aload gd_Law_law_23 0 rfl (by decide) ?_
  refine gh_aload_n gd_Law_law_25 4 rfl (by decide) ?_
  refine gh_aload_n gd_Law_law_26 3 rfl (by decide) ?_
  refine cv_Law_typeGrammar (d := d + 38) gd_Law_law_27 gh_k954 (Nat.le_of_ble_eq_true rfl) (gh_C.mono (s_Law_typeGrammar_2_1_63 (d + 34) hF h) (fun r1835 m1836 hq => ?_))
  obtain ⟨hF, h⟩ := hq
  refine gh_aload gd_Law_law_30 0 rfl (by decide) ?_
  refine cv_House_read (d := d + 38) gd_Law_law_32 gh_k574 hF (Nat.le_of_ble_eq_true rfl) (gh_C.mono (s_House_read (d + 32) hF h) (fun r1969 m1970 hq => ?_))
  obtain ⟨hF, h⟩ := hq
  refine gh_istore (L2 := [(5, 0, r1969), (4, 2, 2), (3, 2, 65), (2, 2, 64), (1, 2, 63), (0, 2, 1)]) gd_Law_law_35 (by decide) rfl ?_
  refine gh_iload gd_Law_law_37 0 rfl ?_
  obtain ⟨hA, hB⟩ := h
  refine gh_zge (tgt := 109) gd_Law_law_39 (by decide) (fun c1971 => ?_) (fun c1971 => ?_)
  · have h := hA c1971
    refine gh_iload gd_Law_law_42 0 rfl ?_
    refine gh_bipush gd_Law_law_44 (by decide) (gh_r0 rfl) ?_
    obtain ⟨J107, hJ107, h⟩ := h
    have hJ107 : ∀ (m : gh_M), gh_F m → J107 m → gh_T E gh_MLaw (d + 39) 107 [] [] m (fun r m1 => gh_F m1 ∧ Q r m1) := by
      intro m hF hj
      have h := hJ107 m hj
      refine gh_iconst gd_Law_law_107 (gh_r0 rfl) ?_
      exact gh_ret8 rfl gd_Law_law_108 (by decide) ⟨hF, h⟩
    obtain ⟨hA, hB⟩ := h
    have k1972 : (¬ (r1969 < (-15)) ∧ (r1969 ≤ (-11))) → gh_T E gh_MLaw (d + 39) 56 [(5, 0, r1969), (4, 2, 2), (3, 2, 65), (2, 2, 64), (1, 2, 63), (0, 2, 1)] [] m1970 (fun r m1 => gh_F m1 ∧ Q r m1) := by
      intro c
      have h := hA c
      refine gh_aload gd_Law_law_56 1 rfl (by decide) ?_
      refine gh_iconst gd_Law_law_58 (gh_r0 rfl) ?_
      refine cv_House_fault (d := d + 38) gd_Law_law_59 gh_k837 hF (Nat.le_of_ble_eq_true rfl) (gh_C.pw (s_House_fault (d + 38) 0 hF h) (fun r1974 h => ?_))
      refine gh_bipush gd_Law_law_62 (by decide) (gh_r0 rfl) ?_
      refine gh_iload gd_Law_law_64 0 rfl ?_
      obtain ⟨q1976, h⟩ := h
      refine gh_isub gd_Law_law_66 q1976 ?_
      obtain ⟨hA, hB⟩ := h
      refine gh_jne (tgt := 107) gd_Law_law_67 (by decide) (fun c1977 => ?_) (fun c1977 => ?_)
      · have h := hA c1977
        refine gh_aload gd_Law_law_70 1 rfl (by decide) ?_
        refine gh_iconst gd_Law_law_72 (gh_r0 rfl) ?_
        refine cv_House_fault (d := d + 38) gd_Law_law_73 gh_k837 hF (Nat.le_of_ble_eq_true rfl) (gh_C.pw (s_House_fault (d + 38) 1 hF h) (fun r1978 h => ?_))
        obtain ⟨hA, hB⟩ := h
        refine gh_zlt (tgt := 107) gd_Law_law_76 (by decide) (fun c1980 => ?_) (fun c1980 => ?_)
        · have h := hA c1980
          refine gh_pick (L2 := []) [] rfl ?_
          exact hJ107 m1970 hF h
        · have h := hB c1980
          refine gh_aload gd_Law_law_79 1 rfl (by decide) ?_
          refine gh_iconst gd_Law_law_81 (gh_r0 rfl) ?_
          refine cv_House_sum (d := d + 38) gd_Law_law_82 gh_k841 hF (Nat.le_of_ble_eq_true rfl) (gh_C.pw (s_House_sum (d + 36) 0 hF h) (fun r1981 h => ?_))
          refine gh_sipush gd_Law_law_85 (by decide) (gh_r0 rfl) ?_
          obtain ⟨hA, hB⟩ := h
          refine gh_jne (tgt := 107) gd_Law_law_88 (by decide) (fun c1983 => ?_) (fun c1983 => ?_)
          · have h := hA c1983
            refine gh_aload gd_Law_law_91 1 rfl (by decide) ?_
            refine gh_iconst gd_Law_law_93 (gh_r0 rfl) ?_
            refine cv_House_put (d := d + 38) gd_Law_law_94 gh_k863 hF (Nat.le_of_ble_eq_true rfl) (gh_C.mono (s_House_put (d + 35) 0 hF h) (fun r1984 m1985 hq => ?_))
            obtain ⟨hF, h⟩ := hq
            refine gh_sipush gd_Law_law_97 (by decide) (gh_r0 rfl) ?_
            obtain ⟨hA, hB⟩ := h
            refine gh_jne (tgt := 107) gd_Law_law_100 (by decide) (fun c1986 => ?_) (fun c1986 => ?_)
            · have h := hA c1986
              refine gh_iconst gd_Law_law_103 (gh_r0 rfl) ?_
              refine gh_goto (tgt := 108) gd_Law_law_104 (by decide) ?_
              exact gh_ret8 rfl gd_Law_law_108 (by decide) ⟨hF, h⟩
            · have h := hB c1986
              refine gh_pick (L2 := []) [] rfl ?_
              exact hJ107 m1985 hF h
          · have h := hB c1983
            refine gh_pick (L2 := []) [] rfl ?_
            exact hJ107 m1970 hF h
      · have h := hB c1977
        refine gh_pick (L2 := []) [] rfl ?_
        exact hJ107 m1970 hF h
    have k1973 : ¬ (¬ (r1969 < (-15)) ∧ (r1969 ≤ (-11))) → gh_T E gh_MLaw (d + 39) 107 [(5, 0, r1969), (4, 2, 2), (3, 2, 65), (2, 2, 64), (1, 2, 63), (0, 2, 1)] [] m1970 (fun r m1 => gh_F m1 ∧ Q r m1) := by
      intro c
      have h := hB c
      refine gh_pick (L2 := []) [] rfl ?_
      exact hJ107 m1970 hF h
    refine gh_jlt (tgt := 107) gd_Law_law_46 (by decide) (fun c1987 => ?_) (fun c1987 => ?_)
    · have hz : True := trivial
      exact k1973 (fun z => z.1 c1987)
    · have hz : True := trivial
      refine gh_iload gd_Law_law_49 0 rfl ?_
      refine gh_bipush gd_Law_law_51 (by decide) (gh_r0 rfl) ?_
      refine gh_jgt (tgt := 107) gd_Law_law_53 (by decide) (fun c1988 => ?_) (fun c1988 => ?_)
      · have hz : True := trivial
        exact k1972 ⟨c1987, c1988⟩
      · have hz : True := trivial
        exact k1973 (fun z => c1988 z.2)
  · have h := hB c1971
    refine gh_iload gd_Law_law_109 0 rfl ?_
    refine gh_aload gd_Law_law_111 1 rfl (by decide) ?_
    refine gh_iconst gd_Law_law_113 (gh_r0 rfl) ?_
    refine cv_House_sum (d := d + 38) gd_Law_law_114 gh_k841 hF (Nat.le_of_ble_eq_true rfl) (gh_C.pw (s_House_sum (d + 36) 2 hF h) (fun r1989 h => ?_))
    obtain ⟨J153, hJ153, h⟩ := h
    have hJ153 : ∀ (y0 : Int), gh_F m1970 → J153 y0 → gh_T E gh_MLaw (d + 39) 153 [(0, 2, 1), (1, 2, 63), (2, 2, 64), (3, 2, 65), (4, 2, 2)] [(0, y0)] m1970 (fun r m1 => gh_F m1 ∧ Q r m1) := by
      intro y0 hF hj
      have h := hJ153 y0 hj
      refine gh_istore (L2 := [(6, 0, y0), (0, 2, 1), (1, 2, 63), (2, 2, 64), (3, 2, 65), (4, 2, 2)]) gd_Law_law_153 (by decide) rfl ?_
      refine gh_iconst gd_Law_law_155 (gh_r0 rfl) ?_
      refine gh_istore (L2 := [(7, 0, 0), (6, 0, y0), (0, 2, 1), (1, 2, 63), (2, 2, 64), (3, 2, 65), (4, 2, 2)]) gd_Law_law_156 (by decide) rfl ?_
      refine gh_pick (L2 := [(0, 2, 1), (1, 2, 63), (2, 2, 64), (3, 2, 65), (4, 2, 2), (6, 0, y0), (7, 0, 0)]) [2, 3, 4, 5, 6, 1, 0] rfl ?_
      exact gh_M2_sound (T := fun v6 v7 m => gh_T E gh_MLaw (d + 39) 158 [(0, 2, 1), (1, 2, 63), (2, 2, 64), (3, 2, 65), (4, 2, 2), (6, 0, v6), (7, 0, v7)] [] m (fun r m1 => gh_F m1 ∧ Q r m1)) (fun _ _ m => gh_F m) (fun K158 v6 v7 m hK hF h => b_Law_law_158 d hK v6 v7 m hF h) y0 0 m1970 hF h
    obtain ⟨J152, hJ152, h⟩ := h
    have hJ152 : gh_F m1970 → J152 → gh_T E gh_MLaw (d + 39) 152 [(0, 2, 1), (1, 2, 63), (2, 2, 64), (3, 2, 65), (4, 2, 2)] [] m1970 (fun r m1 => gh_F m1 ∧ Q r m1) := by
      intro hF hj
      have h := hJ152 hj
      refine gh_iconst gd_Law_law_152 (gh_r0 rfl) ?_
      exact hJ153 0 hF h
    obtain ⟨hA, hB⟩ := h
    refine gh_jne (tgt := 152) gd_Law_law_117 (by decide) (fun c2253 => ?_) (fun c2253 => ?_)
    · have h := hA c2253
      refine gh_aload gd_Law_law_120 1 rfl (by decide) ?_
      refine gh_iconst gd_Law_law_122 (gh_r0 rfl) ?_
      refine cv_House_fault (d := d + 38) gd_Law_law_123 gh_k837 hF (Nat.le_of_ble_eq_true rfl) (gh_C.pw (s_House_fault (d + 38) 0 hF h) (fun r2254 h => ?_))
      obtain ⟨hA, hB⟩ := h
      refine gh_zne (tgt := 152) gd_Law_law_126 (by decide) (fun c2256 => ?_) (fun c2256 => ?_)
      · have h := hA c2256
        refine gh_aload gd_Law_law_129 1 rfl (by decide) ?_
        refine gh_iconst gd_Law_law_131 (gh_r0 rfl) ?_
        refine cv_House_fault (d := d + 38) gd_Law_law_132 gh_k837 hF (Nat.le_of_ble_eq_true rfl) (gh_C.pw (s_House_fault (d + 38) 1 hF h) (fun r2257 h => ?_))
        refine gh_iconst gd_Law_law_135 (gh_r0 rfl) ?_
        obtain ⟨hA, hB⟩ := h
        refine gh_jne (tgt := 152) gd_Law_law_136 (by decide) (fun c2259 => ?_) (fun c2259 => ?_)
        · have h := hA c2259
          refine gh_aload gd_Law_law_139 1 rfl (by decide) ?_
          refine gh_iconst gd_Law_law_141 (gh_r0 rfl) ?_
          refine cv_House_sum (d := d + 38) gd_Law_law_142 gh_k841 hF (Nat.le_of_ble_eq_true rfl) (gh_C.pw (s_House_sum (d + 36) 4 hF h) (fun r2260 h => ?_))
          obtain ⟨hA, hB⟩ := h
          refine gh_zne (tgt := 152) gd_Law_law_145 (by decide) (fun c2262 => ?_) (fun c2262 => ?_)
          · have h := hA c2262
            refine gh_iconst gd_Law_law_148 (gh_r0 rfl) ?_
            refine gh_goto (tgt := 153) gd_Law_law_149 (by decide) ?_
            refine gh_pick (L2 := [(0, 2, 1), (1, 2, 63), (2, 2, 64), (3, 2, 65), (4, 2, 2)]) [5, 4, 3, 2, 1] rfl ?_
            exact hJ153 1 hF h
          · have h := hB c2262
            refine gh_pick (L2 := [(0, 2, 1), (1, 2, 63), (2, 2, 64), (3, 2, 65), (4, 2, 2)]) [5, 4, 3, 2, 1] rfl ?_
            exact hJ152 hF h
        · have h := hB c2259
          refine gh_pick (L2 := [(0, 2, 1), (1, 2, 63), (2, 2, 64), (3, 2, 65), (4, 2, 2)]) [5, 4, 3, 2, 1] rfl ?_
          exact hJ152 hF h
      · have h := hB c2256
        refine gh_pick (L2 := [(0, 2, 1), (1, 2, 63), (2, 2, 64), (3, 2, 65), (4, 2, 2)]) [5, 4, 3, 2, 1] rfl ?_
        exact hJ152 hF h
    · have h := hB c2253
      refine gh_pick (L2 := [(0, 2, 1), (1, 2, 63), (2, 2, 64), (3, 2, 65), (4, 2, 2)]) [5, 4, 3, 2, 1] rfl ?_
      exact hJ152 hF h
