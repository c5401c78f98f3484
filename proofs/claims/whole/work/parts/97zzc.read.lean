/-! READING IS THE SAME -/
theorem gl_read {K b : Int} {m : gh_M} {Q1 : Int → gh_M → Prop} (inv : gl_I K b m) (H : ∀ r m1, m1 1 = m 1 → m1 0 3 = K → (∀ Q2 : Int → gh_M → Prop, (∀ m2, m2 1 = m 1 → gl_I K (b + 1) m2 → Q2 r m2) → w_Model_read m1 Q2) → Q1 r m1) : w_House_read m Q1 := by
  have hK := gl_I_K inv
  obtain ⟨⟨tR1, tR2, tR3⟩, t240⟩ := inv.1
  have tR1 : m 63 1 = m 3 1 := tR1
  have tR2 : 0 ≤ m 3 1 := tR2
  have tR3 : ∀ k, 0 ≤ k → k < m 3 1 → m 64 k = m 4 k ∧ 32 ≤ m 4 k ∧ m 4 k ≤ 126 := tR3
  have ct : gr_ct (m 4) (m 3 1) m := ⟨rfl, tR2, t240, fun k k0 k1 => ⟨rfl, (tR3 k k0 k1).2⟩⟩
  have mt : ∀ m', m' 63 1 = m 63 1 → m' 64 = m 64 → gr_mt (m 4) (m 3 1) m' := fun m' e1 e2 => by
    refine ⟨by rw [e1]; exact tR1, tR2, t240, fun k k0 k1 => ?_⟩
    rw [e2]
    exact tR3 k k0 k1
  unfold w_House_read
  refine go_run ct (fun m1 r f pl S x1 o1 res e51 e52 cs => ?_)
  have f9 := go_res_1 res
  rcases cs with ⟨r0, fn⟩ | ⟨r1, f0, rc, iv, st, nt0⟩
  · rw [r0, e51]
    refine ⟨fun _ => ⟨by omega, ?_⟩, fun z => absurd rfl z⟩
    refine H _ m1 (x1 1 (by decide)) (by rw [x1 0 (by decide)]; exact hK) (fun Q2 h2 => ?_)
    unfold w_Model_read
    refine go_mread (mt m1 (by rw [x1 63 (by decide)]) (x1 64 (by decide))) (fun m2 f' pl' S' fq res' s6 _ => ?_)
    obtain ⟨q1, q2, q3⟩ := go_res_u res res'
    rw [← q1] at s6 ⊢
    refine ⟨fun z => by omega, fun _ => ⟨by omega, ?_⟩⟩
    rw [if_neg fn, s6 fn, ← q2]
    have x12 : gx [3, 5, 6, 7, 8, 9, 10, 11, 12, 63, 65, 66, 67, 68, 69, 70, 71, 72, 73, 74] m (gh_u (gh_u m2 63 2 f) 63 3 pl) := gx_u (gx_u (gx_t (gx_sub x1 (by decide)) (gx_sub fq.1 (by decide))) (by decide)) (by decide)
    have o12 : ∀ y, (y < 2 ∨ 22 < y) → gh_u (gh_u m2 63 2 f) 63 3 pl 63 y = m 63 y := fun y hy => by
      rw [gh_u_i (by omega), gh_u_i (by omega), fq.2 y (by omega), x1 63 (by decide)]
    have o3 : gh_u (gh_u m2 63 2 f) 63 3 pl 3 1 = m 3 1 := by
      rw [gh_u_a (by decide), gh_u_a (by decide), fq.1 3 (by decide)]
      exact o1 1 (by decide) (by decide) (by decide)
    have e5 : gh_u (gh_u m2 63 2 f) 63 3 pl 5 = m1 5 := by
      rw [show gh_u (gh_u m2 63 2 f) 63 3 pl 5 = m2 5 from funext fun x => by rw [gh_u_a (by decide), gh_u_a (by decide)]]
      exact fq.1 5 (by decide)
    refine h2 _ (x12 1 (by decide)) (gl_I_f (fun a p q => x12 a (fun z => by
      simp only [List.mem_cons, List.not_mem_nil, or_false] at z
      omega)) (fun y hy => o12 y (by omega)) ⟨⟨?_, ?_, ?_⟩, by rw [o3]; exact t240⟩ ?_ (gl_I_up inv))
    · show gh_u (gh_u m2 63 2 f) 63 3 pl 63 1 = gh_u (gh_u m2 63 2 f) 63 3 pl 3 1
      rw [o3, o12 1 (by decide)]
      exact tR1
    · show 0 ≤ gh_u (gh_u m2 63 2 f) 63 3 pl 3 1
      rw [o3]
      exact tR2
    · intro k k0 k1
      have k1' : k < gh_u (gh_u m2 63 2 f) 63 3 pl 3 1 := k1
      rw [o3] at k1'
      show gh_u (gh_u m2 63 2 f) 63 3 pl 64 k = gh_u (gh_u m2 63 2 f) 63 3 pl 4 k ∧ 32 ≤ gh_u (gh_u m2 63 2 f) 63 3 pl 4 k ∧ gh_u (gh_u m2 63 2 f) 63 3 pl 4 k ≤ 126
      rw [x12 64 (by decide), x12 4 (by decide)]
      exact tR3 k k0 k1'
    · rw [e5, e51, e52]
      exact ⟨by rw [gh_u_i (by decide), gh_u_s], by rw [gh_u_s]⟩
  -- a reading without a fault
  rw [r1]
  refine ⟨fun z => absurd z (by decide), fun _ => ?_⟩
  rw [f0] at res e51 f9
  have pl1 := f9.2.2 rfl
  have fin := go_fin_of tR2 t240 res iv st nt0
  have hG := go_fin_ok fin
  have i2a := fin.2.1.choose_spec.2.1.1
  have i3 := fin.2.1.choose_spec.2.2.1
  obtain ⟨G, hGG⟩ : ∃ G, G = go_G (m 4) (m 3 1) S := ⟨_, rfl⟩
  have hNG : gm_N G = S.1.2.1 + S.1.2.2.1 := by
    rw [hGG]
    rfl
  rw [← hGG] at hG
  refine go_fill fin rc (fun m2 x2 e130 hC rg rr keys => ?_)
  rw [← hGG] at hC rg
  refine gm_find hG hC (fun m3 x3 fct fct2 => ?_)
  obtain ⟨m4, hm4⟩ : ∃ m4, m4 = gh_u (gh_u (gh_u m3 2 10 1) 26 3 0) 58 2 0 := ⟨_, rfl⟩
  rw [← hm4]
  have x4 : gx [2, 26, 58] m3 m4 := by
    rw [hm4]
    exact gx_u (gx_u (gx_u gx_rf (by decide)) (by decide)) (by decide)
  have s2 : m4 2 10 = 1 := by
    rw [hm4, gh_u_a (by decide), gh_u_a (by decide), gh_u_s]
  have s26 : m4 26 3 = 0 := by
    rw [hm4, gh_u_a (by decide), gh_u_s]
  have s58 : m4 58 2 = 0 := by
    rw [hm4, gh_u_s]
  clear hm4
  have x04 : gx [2, 3, 5, 6, 7, 8, 9, 10, 11, 12, 13, 14, 15, 16, 17, 18, 19, 20, 21, 22, 23, 24, 25, 26, 58] m m4 := gx_t (gx_sub x1 (by decide)) (gx_t (gx_sub x2 (by decide)) (gx_t (gx_sub x3 (by decide)) (gx_sub x4 (by decide))))
  obtain ⟨i1, _, _, i4, i5, i6, G0, ⟨z0, t0, fo⟩, _⟩ := inv
  refine gl_changed (K := K) (G := G) (by decide) (by decide) (by rw [x04 36 (by decide)]; exact i6.1) (fun m5 x5 k30 g9 bits r7 e41 e11 p47 => ?_)
  rw [x04 36 (by decide)] at bits r7
  rw [x04 41 (by decide)] at e41 e11
  have x25 : gx [2, 20, 21, 22, 23, 24, 25, 26, 30, 36, 41, 47, 58] m2 m5 := gx_t (gx_sub x3 (by decide)) (gx_t (gx_sub x4 (by decide)) (gx_sub x5 (by decide)))
  have x35 : gx [2, 26, 30, 36, 41, 47, 58] m3 m5 := gx_t (gx_sub x4 (by decide)) (gx_sub x5 (by decide))
  have x05 : gx [2, 3, 5, 6, 7, 8, 9, 10, 11, 12, 13, 14, 15, 16, 17, 18, 19, 20, 21, 22, 23, 24, 25, 26, 30, 36, 41, 47, 58] m m5 := gx_t (gx_sub x04 (by decide)) (gx_sub x5 (by decide))
  have eR : m5 13 2 = gm_R G := by
    rw [x25 13 (by decide)]
    exact hC.2.1
  rw [eR]
  refine H _ m5 (x05 1 (by decide)) (by rw [x05 0 (by decide)]; exact hK) (fun Q2 h2 => ?_)
  unfold w_Model_read
  refine go_mread (mt m5 (by rw [x05 63 (by decide)]) (x05 64 (by decide))) (fun m6 f' pl' S' fq res' _ rmi => ?_)
  obtain ⟨q1, _, q3⟩ := go_res_u res res'
  have rm := (rmi q1.symm).1
  rw [← q3] at rm
  rw [← q1]
  refine ⟨fun _ => ?_, fun z => absurd (Int.le_refl 0) z⟩
  obtain ⟨⟨rm1, rm2, rm3, rm4, rm5⟩, rm6, rm7, rm8, rm9, rm10⟩ := rm
  rw [rm1, rm2, if_pos rfl]
  refine ⟨by omega, ?_⟩
  obtain ⟨m7, hm7⟩ : ∃ m7, m7 = gh_u (gh_u (gh_u (gh_u m6 63 2 0) 63 3 (-1)) 63 25 S.1.2.1) 63 26 (S.1.2.1 + S.1.2.2.1) := ⟨_, rfl⟩
  rw [← hm7]
  have x7 : gx [63] m6 m7 := by
    rw [hm7]
    exact gx_u (gx_u (gx_u (gx_u gx_rf (by decide)) (by decide)) (by decide)) (by decide)
  have o7 : ∀ y, y ≠ 2 → y ≠ 3 → y ≠ 25 → y ≠ 26 → m7 63 y = m6 63 y := fun y y1 y2 y3 y4 => by
    rw [hm7, gh_u_i y4, gh_u_i y3, gh_u_i y2, gh_u_i y1]
  have s72 : m7 63 2 = 0 := by
    rw [hm7, gh_u_i (by decide), gh_u_i (by decide), gh_u_i (by decide), gh_u_s]
  have s73 : m7 63 3 = -1 := by
    rw [hm7, gh_u_i (by decide), gh_u_i (by decide), gh_u_s]
  have s725 : m7 63 25 = S.1.2.1 := by
    rw [hm7, gh_u_i (by decide), gh_u_s]
  have s726 : m7 63 26 = S.1.2.1 + S.1.2.2.1 := by
    rw [hm7, gh_u_s]
  clear hm7
  have mt7 : gr_mt (m 4) (m 3 1) m7 := mt m7 (by rw [o7 1 (by decide) (by decide) (by decide) (by decide), fq.2 1 (by decide), x05 63 (by decide)]) (by rw [x7 64 (by decide), fq.1 64 (by decide), x05 64 (by decide)])
  refine go_takeNames mt7 fin (by rw [x7 65 (by decide)]; exact rm6) s725 s726 (fun m8 x8 nm => ?_)
  have e863 := x8 63 (by decide)
  have rmS : go_rm S m8 := by
    refine ⟨⟨by rw [e863, o7 8 (by decide) (by decide) (by decide) (by decide)]; exact rm1, by rw [e863, o7 9 (by decide) (by decide) (by decide) (by decide)]; exact rm2, by rw [e863, o7 11 (by decide) (by decide) (by decide) (by decide)]; exact rm3, by rw [e863, o7 16 (by decide) (by decide) (by decide) (by decide)]; exact rm4, by rw [e863, o7 22 (by decide) (by decide) (by decide) (by decide)]; exact rm5⟩, by rw [x8 65 (by decide), x7 65 (by decide)]; exact rm6, by rw [x8 66 (by decide), x7 66 (by decide), x8 67 (by decide), x7 67 (by decide), x8 68 (by decide), x7 68 (by decide)]; exact rm7, by rw [x8 70 (by decide), x7 70 (by decide)]; exact rm8, by rw [x8 74 (by decide), x7 74 (by decide)]; exact rm9, fun z => by omega⟩
  refine go_takeRules (gr_mt_x (by rw [e863]) (x8 64 (by decide)) mt7) fin rmS (by rw [e863]; exact s726) (fun m9 x9 o9 hD rg9 rr9 => ?_)
  rw [← hGG] at hD rg9
  obtain ⟨m10, hm10⟩ : ∃ m10, m10 = gh_u m9 63 24 1 := ⟨_, rfl⟩
  rw [← hm10]
  have x10 : gx [63] m9 m10 := by
    rw [hm10]
    exact gx_one _ _ _ _
  have o10 : ∀ y, y ≠ 24 → m10 63 y = m9 63 y := fun y yn => by
    rw [hm10, gh_u_i yn]
  have s10 : m10 63 24 = 1 := by
    rw [hm10, gh_u_s]
  clear hm10
  have hD10 : gm_D m10 G := by
    unfold gm_D at hD ⊢
    rw [o10 26 (by decide), o10 27 (by decide), x10 79 (by decide), x10 80 (by decide), x10 81 (by decide)]
    exact hD
  have x510 : gx [63, 65, 66, 67, 68, 69, 70, 71, 72, 73, 74, 75, 76, 77, 78, 79, 80, 81] m5 m10 := gx_t (gx_sub fq.1 (by decide)) (gx_t (gx_sub x7 (by decide)) (gx_t (gx_sub x8 (by decide)) (gx_t (gx_sub x9 (by decide)) (gx_sub x10 (by decide)))))
  have c20 : ∀ a, 20 ≤ a → a ≤ 25 → m10 a = m3 a := fun a p q => by
    rw [x510 a (fun z => by
      simp only [List.mem_cons, List.not_mem_nil, or_false] at z
      omega), x35 a (fun z => by
      simp only [List.mem_cons, List.not_mem_nil, or_false] at z
      omega)]
  have fct10 : gm_fct G m10 := by
    unfold gm_fct at fct ⊢
    rw [c20 20 (by decide) (by decide), c20 21 (by decide) (by decide)]
    exact fct
  have fct210 : gm_fct2 G m10 := by
    unfold gm_fct2 at fct2 ⊢
    rw [c20 20 (by decide) (by decide), c20 22 (by decide) (by decide), c20 23 (by decide) (by decide), c20 24 (by decide) (by decide), c20 25 (by decide) (by decide)]
    exact fct2
  refine gl_mfind hG hD10 fct10 fct210 (fun m11 x11 o11 mf => ?_)
  unfold w_Model_changed
  obtain ⟨m12, hm12⟩ : ∃ m12, m12 = gh_u (gh_u (gh_u (gh_u (gh_u m11 63 50 0) 63 52 0) 63 61 0) 63 68 0) 63 70 0 := ⟨_, rfl⟩
  (try dsimp only)
  rw [← hm12]
  have x12 : gx [63] m11 m12 := by
    rw [hm12]
    exact gx_u (gx_u (gx_u (gx_u (gx_u gx_rf (by decide)) (by decide)) (by decide)) (by decide)) (by decide)
  have o12 : ∀ y, y ≠ 50 → y ≠ 52 → y ≠ 61 → y ≠ 68 → y ≠ 70 → m12 63 y = m11 63 y := fun y y1 y2 y3 y4 y5 => by
    rw [hm12, gh_u_i y5, gh_u_i y4, gh_u_i y3, gh_u_i y2, gh_u_i y1]
  have s50 : m12 63 50 = 0 := by
    rw [hm12, gh_u_i (by decide), gh_u_i (by decide), gh_u_i (by decide), gh_u_i (by decide), gh_u_s]
  have s52 : m12 63 52 = 0 := by
    rw [hm12, gh_u_i (by decide), gh_u_i (by decide), gh_u_i (by decide), gh_u_s]
  have s61 : m12 63 61 = 0 := by
    rw [hm12, gh_u_i (by decide), gh_u_i (by decide), gh_u_s]
  have s68 : m12 63 68 = 0 := by
    rw [hm12, gh_u_i (by decide), gh_u_s]
  clear hm12
  -- the model's numbers, from the last one back
  have p12 : ∀ y, y ≠ 50 → y ≠ 52 → y ≠ 61 → y ≠ 68 → y ≠ 70 → y ≠ 42 → y ≠ 24 → y ≠ 27 → m12 63 y = m7 63 y := fun y y1 y2 y3 y4 y5 y6 y7 y8 => by
    rw [o12 y y1 y2 y3 y4 y5, o11 y y6, o10 y y7, o9 y y8, e863]
  have p7 : ∀ y, y < 2 ∨ 26 < y → m7 63 y = m 63 y := fun y hy => by
    rw [o7 y (by omega) (by omega) (by omega) (by omega), fq.2 y (by omega), x05 63 (by decide)]
  have e27 : m12 63 27 = gm_R G := by
    rw [o12 27 (by decide) (by decide) (by decide) (by decide) (by decide), o11 27 (by decide), o10 27 (by decide)]
    exact hD.2.1
  rw [e27]
  have x1012 : gx [63, 82, 83, 84, 85, 86, 87, 88, 89, 90, 91, 92, 93, 94, 95] m10 m12 := gx_t x11 (gx_sub x12 (by decide))
  have x512 : gx [63, 65, 66, 67, 68, 69, 70, 71, 72, 73, 74, 75, 76, 77, 78, 79, 80, 81, 82, 83, 84, 85, 86, 87, 88, 89, 90, 91, 92, 93, 94, 95] m5 m12 := gx_t (gx_sub x510 (by decide)) (gx_sub x1012 (by decide))
  have x012 : gx [2, 3, 5, 6, 7, 8, 9, 10, 11, 12, 13, 14, 15, 16, 17, 18, 19, 20, 21, 22, 23, 24, 25, 26, 30, 36, 41, 47, 58, 63, 65, 66, 67, 68, 69, 70, 71, 72, 73, 74, 75, 76, 77, 78, 79, 80, 81, 82, 83, 84, 85, 86, 87, 88, 89, 90, 91, 92, 93, 94, 95] m m12 := gx_t (gx_sub x05 (by decide)) (gx_sub x512 (by decide))
  have c512 : ∀ a, a < 63 → m12 a = m5 a := fun a p => x512 a (fun z => by
    simp only [List.mem_cons, List.not_mem_nil, or_false] at z
    omega)
  have c13 : ∀ a, 13 ≤ a → a ≤ 19 → m12 a = m2 a := fun a p q => by
    rw [c512 a (by omega), x25 a (fun z => by
      simp only [List.mem_cons, List.not_mem_nil, or_false] at z
      omega)]
  have d75 : ∀ a, (a = 75 ∨ a = 76) → m12 a = m8 a := fun a p => by
    rw [x1012 a (fun z => by
      simp only [List.mem_cons, List.not_mem_nil, or_false] at z
      omega), x10 a (fun z => by
      have := List.mem_singleton.mp z
      omega), x9 a (fun z => by
      simp only [List.mem_cons, List.not_mem_nil, or_false] at z
      omega)]
  have d77 : ∀ a, 77 ≤ a → a ≤ 81 → m12 a = m9 a := fun a p q => by
    rw [x1012 a (fun z => by
      simp only [List.mem_cons, List.not_mem_nil, or_false] at z
      omega), x10 a (fun z => by
      have := List.mem_singleton.mp z
      omega)]
  have g31 : m12 3 1 = m 3 1 := by
    rw [c512 3 (by decide), x5 3 (by decide), x4 3 (by decide), x3 3 (by decide), x2 3 (by decide)]
    exact o1 1 (by decide) (by decide) (by decide)
  have g5 : m12 5 = m1 5 := by
    rw [c512 5 (by decide), x5 5 (by decide), x4 5 (by decide), x3 5 (by decide), x2 5 (by decide)]
  have g63 : ∀ y, y < 2 → m12 63 y = m 63 y := fun y hy => by
    rw [p12 y (by omega) (by omega) (by omega) (by omega) (by omega) (by omega) (by omega) (by omega), p7 y (by omega)]
  have g64 : m12 63 64 = m 63 64 := by
    rw [p12 64 (by decide) (by decide) (by decide) (by decide) (by decide) (by decide) (by decide) (by decide), p7 64 (by decide)]
  have h24 : m12 63 24 = 1 := by
    rw [o12 24 (by decide) (by decide) (by decide) (by decide) (by decide), o11 24 (by decide)]
    exact s10
  have h2 := h2 m12 (x012 1 (by decide))
  refine h2 ?_
  clear h2
  have tp12 : gl_tp m12 := by
    refine ⟨⟨?_, ?_, fun k k0 k1 => ?_⟩, by rw [g31]; exact t240⟩
    · show m12 63 1 = m12 3 1
      rw [g63 1 (by decide), g31]
      exact tR1
    · show 0 ≤ m12 3 1
      rw [g31]
      exact tR2
    · have k1' : k < m12 3 1 := k1
      rw [g31] at k1'
      show m12 64 k = m12 4 k ∧ 32 ≤ m12 4 k ∧ m12 4 k ≤ 126
      rw [x012 64 (by decide), x012 4 (by decide)]
      exact tR3 k k0 k1'
  have e41' : m12 41 = m5 41 := c512 41 (by decide)
  have n26 : m12 26 3 = 0 := by
    rw [c512 26 (by decide), x5 26 (by decide)]
    exact s26
  have fo12 : gk_fo K G (m12 26 3) (m12 27) m12 := gk_fo_new (by omega) fo (x012 0 (by decide)) (x012 119 (by decide)) (fun x xn => by rw [e41']; exact e41 x xn) (by
    rw [e41', e11]
    have := fo.2.1
    omega)
  have gr12 : gl_gr G m12 := by
    refine ⟨hG, ?_, ?_, ?_, ?_, fun n n0 n1 => ?_, ?_, ?_, ?_, ?_⟩
    · unfold gm_C at hC ⊢
      rw [c13 13 (by decide) (by decide), c13 16 (by decide) (by decide), c13 17 (by decide) (by decide), c13 19 (by decide) (by decide)]
      exact hC
    · unfold gm_D at hD ⊢
      rw [e27, o12 26 (by decide) (by decide) (by decide) (by decide) (by decide), o11 26 (by decide), o10 26 (by decide), d77 79 (by decide) (by decide), d77 80 (by decide) (by decide), d77 81 (by decide) (by decide)]
      exact ⟨hD.1, rfl, hD.2.2⟩
    · rw [c13 14 (by decide) (by decide), c13 15 (by decide) (by decide)]
      exact rg
    · rw [d77 77 (by decide) (by decide), d77 78 (by decide) (by decide)]
      exact rg9
    · have u := go_rr_u rr rr9 n0 (by omega)
      rw [c13 14 (by decide) (by decide), c13 15 (by decide) (by decide), d77 77 (by decide) (by decide), d77 78 (by decide) (by decide)]
      refine ⟨u.1, u.2, ?_⟩
      obtain ⟨w1, w2⟩ := nm n n0 (by omega)
      obtain ⟨v1, v2⟩ := keys n n0 (by omega)
      by_cases q : n < S.1.2.1
      · obtain ⟨d, a1, a2, a3⟩ := w1 q
        exact gl_nm_of a1 (by rw [c13 18 (by decide) (by decide)]; exact v1 q) (by rw [d75 75 (Or.inl rfl)]; exact a2) (by rw [d75 76 (Or.inr rfl)]; exact a3)
      · exact gl_nm_0 (by rw [c13 18 (by decide) (by decide)]; exact v2 (by omega)) (by rw [d75 75 (Or.inl rfl)]; exact w2 (by omega))
    · rw [c13 13 (by decide) (by decide), e130, p12 25 (by decide) (by decide) (by decide) (by decide) (by decide) (by decide) (by decide) (by decide), s725]
    · unfold gm_fct at fct10 ⊢
      rw [x1012 20 (by decide), x1012 21 (by decide)]
      exact fct10
    · unfold gm_fct2 at fct210 ⊢
      rw [x1012 20 (by decide), x1012 22 (by decide), x1012 23 (by decide), x1012 24 (by decide), x1012 25 (by decide)]
      exact fct210
    · unfold gl_mf gy_mh gy_mr at mf ⊢
      rw [x12 20 (by decide), x12 21 (by decide), x12 22 (by decide), x12 23 (by decide), x12 24 (by decide), x12 82 (by decide), x12 83 (by decide), x12 84 (by decide), x12 85 (by decide), x12 86 (by decide), x12 87 (by decide), x12 88 (by decide), x12 89 (by decide), x12 90 (by decide), x12 92 (by decide), o12 42 (by decide) (by decide) (by decide) (by decide) (by decide)]
      exact mf
  have e36 : m12 36 = m5 36 := c512 36 (by decide)
  have k36 : m12 36 7 = -1 := by
    rw [e36, r7]
    have := i6.2.1
    omega
  refine ⟨tp12, ?_, ?_, ⟨?_, by rw [g64]; omega⟩, by rw [x012 106 (by decide), g64]; exact i5, ⟨by rw [e36]; exact g9, by rw [k36]; exact Int.le_refl _, fun z => ?_⟩, G, ⟨_, _, fo12⟩, fun _ => ⟨gl_c4_of fo12, gr12, ⟨⟨by omega, by omega, fun k k0 k1 => by omega⟩, by rw [s50, n26], by omega, by omega, fun k k0 k1 => by omega⟩, ⟨fun z => ?_, ⟨by rw [e36]; exact g9, fun k k0 hk => ?_⟩, ⟨by omega, by omega, fun j j0 j1 => by omega⟩, fun z => ?_⟩, fun z => absurd s52 z, ⟨fun z => absurd s61 z, by rw [x012 106 (by decide), g64]; exact i5⟩, ?_⟩⟩
  · rw [g5, e51, e52, pl1, p12 2 (by decide) (by decide) (by decide) (by decide) (by decide) (by decide) (by decide) (by decide), s72, p12 3 (by decide) (by decide) (by decide) (by decide) (by decide) (by decide) (by decide) (by decide), s73]
    exact ⟨rfl, rfl⟩
  · rw [h24, c512 2 (by decide), x5 2 (by decide)]
    exact s2
  · rw [e41', e41 9 (by decide)]
    omega
  · rw [c512 2 (by decide), x5 2 (by decide), s2] at z
    exact absurd z (by decide)
  · refine absurd ?_ z
    rw [c512 30 (by decide)]
    exact k30
  · rw [e36] at hk
    have := ((bits k k0).mp hk).2
    omega
  · refine absurd ?_ z
    rw [c512 58 (by decide), x5 58 (by decide)]
    exact s58
  · have e47 : m12 47 4 = 0 := by
      rw [c512 47 (by decide)]
      exact p47
    exact ⟨by rw [e47]; decide, by rw [e47]; exact s68, fun z => absurd e47 z, fun x x0 x1' => by rw [e47] at x1'; omega⟩
