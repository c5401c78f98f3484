/-! THE LIBRARY'S OWN: min, max, bitCount, fill -/
def gh_pop (x : Int) : Int :=
  let a := (Int32.ofInt x - (((Int32.ofInt x).toUInt32 >>> ((1 : Int32).toUInt32 &&& Int32.toUInt32 31)).toInt32 &&& 1431655765))
  let b := (a &&& 858993459) + ((a.toUInt32 >>> ((2 : Int32).toUInt32 &&& Int32.toUInt32 31)).toInt32 &&& 858993459)
  let c := (b + (b.toUInt32 >>> ((4 : Int32).toUInt32 &&& Int32.toUInt32 31)).toInt32) &&& 252645135
  let e := c + (c.toUInt32 >>> ((8 : Int32).toUInt32 &&& Int32.toUInt32 31)).toInt32
  let f := e + (e.toUInt32 >>> ((16 : Int32).toUInt32 &&& Int32.toUInt32 31)).toInt32
  (f &&& 63).toInt
def gh_fil (m : gh_M) (a n v : Int) : gh_M := fun b i => if b = a ∧ 0 ≤ i ∧ i < n then v else m b i
theorem gh_fil_0 {m : gh_M} {a n v j : Int} (h : a ≠ 0) : gh_fil m a n v 0 j = m 0 j := by
  unfold gh_fil
  rw [if_neg (fun z => h z.1.symm)]
theorem gh_Ffil {m : gh_M} {a n v : Int} (hF : gh_F m) (h0 : a ≠ 0) (h : ∀ e ∈ gh_fix, e.1 ≠ a) : gh_F (gh_fil m a n v) := by
  refine ⟨fun e he => ?_, by rw [gh_fil_0 h0]; exact hF.2⟩
  unfold gh_fil
  rw [if_neg (fun z => h e he z.1)]
  exact hF.1 e he
theorem gh_fil_s (m : gh_M) (a i v : Int) (h : 0 ≤ i) : gh_u (gh_fil m a i v) a i v = gh_fil m a (i + 1) v := by
  funext b j
  unfold gh_u gh_fil
  by_cases h1 : b = a
  · subst h1
    by_cases h2 : j = i
    · subst h2
      rw [if_pos ⟨rfl, rfl⟩, if_pos ⟨rfl, by omega, by omega⟩]
    · rw [if_neg (fun z => h2 z.2)]
      by_cases h3 : 0 ≤ j ∧ j < i
      · rw [if_pos ⟨rfl, h3.1, h3.2⟩, if_pos ⟨rfl, h3.1, by omega⟩]
      · rw [if_neg (fun z => h3 ⟨z.2.1, z.2.2⟩), if_neg (fun z => h3 ⟨z.2.1, by omega⟩)]
  · rw [if_neg (fun z => h1 z.1), if_neg (fun z => h1 z.1), if_neg (fun z => h1 z.1)]
theorem gh_fil_z (m : gh_M) (a v : Int) : gh_fil m a 0 v = m := by
  funext b j
  unfold gh_fil
  rw [if_neg (fun z => by have := z.2.1; have := z.2.2; omega)]
theorem gh_pure2 {E : gh_E} {M : gh_I} {d pc pc2 : Nat} {L L2 : gh_Ls} {st st2 : gh_St} {m : gh_M} {Q : Int → gh_M → Prop} (k : gh_T E M d pc2 L2 st2 m Q) (hp2 : gh_P m L st → gh_P m L2 st2) (h : gh_P m L st → ∀ (p : Program) (e : Env) (R : Room) (s : State) (mt : MethodId) (args : Array Value) (below : List Frame) (meth : Method) (c : Code), gh_En E M d p R s mt args meth c →
    ∀ (H : Heap) (locs : List Loc) (cells slots : Nat) (ls : Array Slot) (Qs : State → Prop), gh_At E M.2.2.1 m s H locs ls L → cells ≤ R.cells → slots ≤ R.slots →
      (∀ ls2 : Array Slot, gh_At E M.2.2.1 m s H locs ls2 L2 → W p E.1 e R s mt args below meth c H locs cells slots Qs (F0 mt pc2 ls2 (gh_sc E st2))) → W p E.1 e R s mt args below meth c H locs cells slots Qs (F0 mt pc ls (gh_sc E st))) : gh_T E M d pc L st m Q := by
  intro hp
  obtain ⟨r, m', h1, h2, h3, h4, h6, h5⟩ := k (hp2 hp)
  refine ⟨r, m', h1, h2, h3, h4, h6, fun p e R s mt args below meth c hE H locs cells slots ls Qs hA hc hs K => ?_⟩
  exact h hp p e R s mt args below meth c hE H locs cells slots ls Qs hA (by omega) (by omega) (fun ls2 hA2 => h5 p e R s mt args below meth c hE H locs cells slots ls2 Qs hA2 hc hs K)
theorem gh_pr_min {E : gh_E} {M : gh_I} {d pc idx : Nat} {L : gh_Ls} {st : gh_St} {m : gh_M} {Q : Int → gh_M → Prop} {x y : Int} (hd : decode M.2.1 pc = .ok (.invokestatic idx, 3)) (hw : Cond.methodLink M.1 idx ⟨"java/lang/Math", "min", "(II)I"⟩ ∈ gh_tb) (hwd : gh_wd st ≤ 8) (kk : gh_T E M (d + 1) (pc + 3) L ((0, min x y) :: st) m Q) : gh_T E M (d + 1) pc L ((0, y) :: (0, x) :: st) m Q := by
  refine gh_pure2 kk (fun hp => ⟨hp.1, hp.2.1, gh_okc ?_ (gh_okt (gh_okt hp.2.2))⟩) (fun hp p e R s mt args below meth c hE H locs cells slots ls Qs hA hc hs k => ?_)
  · rcases (show min x y = x ∨ min x y = y by omega) with h | h
    · rw [h]; exact gh_okh (gh_okt hp.2.2)
    · rw [h]; exact gh_okh hp.2.2
  · obtain ⟨hx, hb, hml, hown, hts, -, hf, hlo, hK⟩ := hE
    have ex := gh_i32 (gh_okh (gh_okt hp.2.2))
    have ey := gh_i32 (gh_okh hp.2.2)
    have e : (if Int32.ofInt y < Int32.ofInt x then Int32.ofInt y else Int32.ofInt x) = Int32.ofInt (min x y) := by
      split
      · rename_i h
        rw [Int32.lt_iff_toInt_lt, ex, ey] at h
        congr 1; omega
      · rename_i h
        rw [Int32.lt_iff_toInt_lt, ex, ey] at h
        congr 1; omega
    have hwd2 := gh_wd_le (E := E) st
    refine va_mmin hx hb (hml.trans hA.2.2.1.symm) hown (hts _ hw) (hts _ gh_k676) (hts _ gh_k67) (hts _ (show Cond.code Lib.Math.min.name Lib.Math.min.code 2 (some .int) ∈ gh_tb from gh_k677)) (by omega) (by show ((gh_sc E st).map fun v => v.category).sum + _ ≤ _; omega) hc hs hd ?_
    rw [e]
    exact k ls hA
theorem gh_pr_max {E : gh_E} {M : gh_I} {d pc idx : Nat} {L : gh_Ls} {st : gh_St} {m : gh_M} {Q : Int → gh_M → Prop} {x y : Int} (hd : decode M.2.1 pc = .ok (.invokestatic idx, 3)) (hw : Cond.methodLink M.1 idx ⟨"java/lang/Math", "max", "(II)I"⟩ ∈ gh_tb) (hwd : gh_wd st ≤ 8) (kk : gh_T E M (d + 1) (pc + 3) L ((0, max x y) :: st) m Q) : gh_T E M (d + 1) pc L ((0, y) :: (0, x) :: st) m Q := by
  refine gh_pure2 kk (fun hp => ⟨hp.1, hp.2.1, gh_okc ?_ (gh_okt (gh_okt hp.2.2))⟩) (fun hp p e R s mt args below meth c hE H locs cells slots ls Qs hA hc hs k => ?_)
  · rcases (show max x y = x ∨ max x y = y by omega) with h | h
    · rw [h]; exact gh_okh (gh_okt hp.2.2)
    · rw [h]; exact gh_okh hp.2.2
  · obtain ⟨hx, hb, hml, hown, hts, -, hf, hlo, hK⟩ := hE
    have ex := gh_i32 (gh_okh (gh_okt hp.2.2))
    have ey := gh_i32 (gh_okh hp.2.2)
    have e : (if Int32.ofInt x < Int32.ofInt y then Int32.ofInt y else Int32.ofInt x) = Int32.ofInt (max x y) := by
      split
      · rename_i h
        rw [Int32.lt_iff_toInt_lt, ex, ey] at h
        congr 1; omega
      · rename_i h
        rw [Int32.lt_iff_toInt_lt, ex, ey] at h
        congr 1; omega
    have hwd2 := gh_wd_le (E := E) st
    refine va_mmax hx hb (hml.trans hA.2.2.1.symm) hown (hts _ hw) (hts _ gh_k699) (hts _ gh_k67) (hts _ (show Cond.code Lib.Math.max.name Lib.Math.max.code 2 (some .int) ∈ gh_tb from gh_k700)) (by omega) (by show ((gh_sc E st).map fun v => v.category).sum + _ ≤ _; omega) hc hs hd ?_
    rw [e]
    exact k ls hA
theorem gh_pr_minJ {E : gh_E} {M : gh_I} {d pc idx : Nat} {L : gh_Ls} {st : gh_St} {m : gh_M} {Q : Int → gh_M → Prop} {x y : Int} (hd : decode M.2.1 pc = .ok (.invokestatic idx, 3)) (hw : Cond.methodLink M.1 idx ⟨"java/lang/Math", "min", "(JJ)J"⟩ ∈ gh_tb) (hwd : gh_wd st ≤ 8) (kk : gh_T E M (d + 1) (pc + 3) L ((1, min x y) :: st) m Q) : gh_T E M (d + 1) pc L ((1, y) :: (1, x) :: st) m Q := by
  refine gh_pure2 kk (fun hp => ⟨hp.1, hp.2.1, gh_okc ?_ (gh_okt (gh_okt hp.2.2))⟩) (fun hp p e R s mt args below meth c hE H locs cells slots ls Qs hA hc hs k => ?_)
  · rcases (show min x y = x ∨ min x y = y by omega) with h | h
    · rw [h]; exact gh_okh (gh_okt hp.2.2)
    · rw [h]; exact gh_okh hp.2.2
  · obtain ⟨hx, hb, hml, hown, hts, -, hf, hlo, hK⟩ := hE
    have ex := gh_i64 (gh_okh (gh_okt hp.2.2))
    have ey := gh_i64 (gh_okh hp.2.2)
    have e : (if Int64.ofInt y < Int64.ofInt x then Int64.ofInt y else Int64.ofInt x) = Int64.ofInt (min x y) := by
      split
      · rename_i h
        rw [Int64.lt_iff_toInt_lt, ex, ey] at h
        congr 1; omega
      · rename_i h
        rw [Int64.lt_iff_toInt_lt, ex, ey] at h
        congr 1; omega
    have hwd2 := gh_wd_le (E := E) st
    refine va_mmin_long hx hb (hml.trans hA.2.2.1.symm) hown (hts _ hw) (hts _ gh_k1070) (hts _ gh_k67) (hts _ (show Cond.code Lib.MathLoose.min_long.x Lib.MathLoose.min_long.code 4 (some .long) ∈ gh_tb from gh_k1071)) (by omega) (by show ((gh_sc E st).map fun v => v.category).sum + _ ≤ _; omega) hc hs hd ?_
    rw [e]
    exact k ls hA
theorem gp_JInteger_bitCount {E : gh_E} {m : gh_M} (d : Nat) (x : Int) : gh_C E gh_yJInteger_bitCount prog_15_method_49_code 1 (some .int) 0 d [(0, x)] m (fun r m1 => m1 = m ∧ r = gh_pop x) := by
  refine gh_enter2 (L := [(0, 0, x)]) (by decide +kernel) gh_rt0 (Nat.le_of_ble_eq_true rfl) rfl rfl ?_
  refine gh_iload_n gd_JInteger_bitCount_0 0 rfl ?_
  refine gh_iload_n gd_JInteger_bitCount_1 0 rfl ?_
  refine gh_iconst gd_JInteger_bitCount_2 (gh_r0 rfl) ?_
  refine gh_iushr gd_JInteger_bitCount_3 ?_
  refine gh_ldcw (n := 1431655765) gd_JInteger_bitCount_4 gh_k860 (by decide) (gh_r0 rfl) ?_
  refine gh_iand gd_JInteger_bitCount_7 ?_
  refine gh_wisub gd_JInteger_bitCount_8 ?_
  refine gh_istore_n gd_JInteger_bitCount_9 (by decide) rfl ?_
  refine gh_iload_n gd_JInteger_bitCount_10 0 rfl ?_
  refine gh_ldcw (n := 858993459) gd_JInteger_bitCount_11 gh_k861 (by decide) (gh_r0 rfl) ?_
  refine gh_iand gd_JInteger_bitCount_14 ?_
  refine gh_iload_n gd_JInteger_bitCount_15 0 rfl ?_
  refine gh_iconst gd_JInteger_bitCount_16 (gh_r0 rfl) ?_
  refine gh_iushr gd_JInteger_bitCount_17 ?_
  refine gh_ldcw (n := 858993459) gd_JInteger_bitCount_18 gh_k861 (by decide) (gh_r0 rfl) ?_
  refine gh_iand gd_JInteger_bitCount_21 ?_
  refine gh_wiadd gd_JInteger_bitCount_22 ?_
  refine gh_istore_n gd_JInteger_bitCount_23 (by decide) rfl ?_
  refine gh_iload_n gd_JInteger_bitCount_24 0 rfl ?_
  refine gh_iload_n gd_JInteger_bitCount_25 0 rfl ?_
  refine gh_iconst gd_JInteger_bitCount_26 (gh_r0 rfl) ?_
  refine gh_iushr gd_JInteger_bitCount_27 ?_
  refine gh_wiadd gd_JInteger_bitCount_28 ?_
  refine gh_ldcw (n := 252645135) gd_JInteger_bitCount_29 gh_k862 (by decide) (gh_r0 rfl) ?_
  refine gh_iand gd_JInteger_bitCount_32 ?_
  refine gh_istore_n gd_JInteger_bitCount_33 (by decide) rfl ?_
  refine gh_iload_n gd_JInteger_bitCount_34 0 rfl ?_
  refine gh_iload_n gd_JInteger_bitCount_35 0 rfl ?_
  refine gh_bipush gd_JInteger_bitCount_36 (by decide) (gh_r0 rfl) ?_
  refine gh_iushr gd_JInteger_bitCount_38 ?_
  refine gh_wiadd gd_JInteger_bitCount_39 ?_
  refine gh_istore_n gd_JInteger_bitCount_40 (by decide) rfl ?_
  refine gh_iload_n gd_JInteger_bitCount_41 0 rfl ?_
  refine gh_iload_n gd_JInteger_bitCount_42 0 rfl ?_
  refine gh_bipush gd_JInteger_bitCount_43 (by decide) (gh_r0 rfl) ?_
  refine gh_iushr gd_JInteger_bitCount_45 ?_
  refine gh_wiadd gd_JInteger_bitCount_46 ?_
  refine gh_istore_n gd_JInteger_bitCount_47 (by decide) rfl ?_
  refine gh_iload_n gd_JInteger_bitCount_48 0 rfl ?_
  refine gh_bipush gd_JInteger_bitCount_49 (by decide) (gh_r0 rfl) ?_
  refine gh_iand gd_JInteger_bitCount_51 ?_
  refine gh_ret0 rfl gd_JInteger_bitCount_52 ⟨rfl, ?_⟩
  unfold gh_pop gh_iand_f gh_iushr_f
  simp only [Int32.ofInt_toInt]
  rfl
theorem gh_pr_gh_pop {E : gh_E} {M : gh_I} {d pc idx : Nat} {L : gh_Ls} {st : gh_St} {m : gh_M} {Q : Int → gh_M → Prop} {x : Int} (hd : decode M.2.1 pc = .ok (.invokestatic idx, 3)) (hw : Cond.methodLink M.1 idx ⟨"java/lang/Integer", "bitCount", "(I)I"⟩ ∈ gh_tb) (hwd : gh_wd st ≤ 8) (kk : gh_T E M (d + 1) (pc + 3) L ((0, gh_pop x) :: st) m Q) : gh_T E M (d + 1) pc L ((0, x) :: st) m Q := by
  refine gh_callS (n := 1) (as := [(0, x)]) (tag := 0) hd gh_k859 gh_k69 hw gh_k858 ⟨by decide, by decide, by decide +kernel⟩ rfl (by decide) hwd ((gp_JInteger_bitCount d x).mono (fun r m1 h => ?_))
  obtain ⟨rfl, rfl⟩ := h
  exact kk
theorem gp_JArrays_fill {E : gh_E} (d : Nat) {m0 : gh_M} {a n v : Int} (hF : gh_F m0) (hA : gh_isA m0 a 1 ∧ m0 0 (2 * a + 1) = n) (hn : ∀ e ∈ gh_fix, e.1 ≠ a) (h32 : n < 2147483647) (h0 : 0 ≤ n) : gh_C E gh_yJArrays_fill prog_18_method_103_code 4 none 9 d [(2, a), (0, v)] m0 (fun r m1 => m1 = gh_fil m0 a n v) := by
  have ha := hA.1.1
  refine gh_enter (L := [(0, 2, a), (1, 0, v)]) false (by decide +kernel) (fun h => by cases h) gh_rt9 ?_ ?_ (fun h q hq => ?_) ?_
  · show (lg_sl (gh_cv E 2 a :: [gh_cv E 0 v])).length ≤ 4
    rw [gh_cv2 E (by omega)]
    exact Nat.le_of_ble_eq_true rfl
  · show lv_args 0 (gh_cv E 2 a :: [gh_cv E 0 v]) = (0, gh_cv E 2 a) :: [(1, gh_cv E 0 v)]
    rw [gh_cv2 E (by omega)]
    rfl
  · rcases List.mem_cons.mp hq with rfl | hq
    · exact h (2, a) (by simp)
    · rw [List.mem_singleton.mp hq]
      exact h (0, v) (by simp)
  refine gh_iconst gd_JArrays_fill_0 (gh_r0 rfl) ?_
  refine gh_istore_n (L2 := [(2, 0, 0), (0, 2, a), (1, 0, v)]) gd_JArrays_fill_1 (by decide) rfl ?_
  refine gh_aload_n gd_JArrays_fill_2 1 rfl (by omega) ?_
  refine gh_alen gd_JArrays_fill_3 hA.1 (by decide) (gh_top hA.2 ?_)
  refine gh_istore_n (L2 := [(3, 0, n), (2, 0, 0), (0, 2, a), (1, 0, v)]) gd_JArrays_fill_4 (by decide) rfl ?_
  have key : ∀ (k : Nat) (i : Int), 0 ≤ i → i ≤ n → n - i ≤ k → ∀ m : gh_M, m = gh_fil m0 a i v → gh_T E (gh_yJArrays_fill.cls, prog_18_method_103_code, 4, false, 9) d 5 [(3, 0, n), (2, 0, i), (0, 2, a), (1, 0, v)] [] m (fun r m1 => m1 = gh_fil m0 a n v) := by
    intro k
    induction k with
    | zero =>
      intro i h1 h2 h3 m hm
      have : i = n := by omega
      subst this
      refine gh_iload_n gd_JArrays_fill_5 1 rfl ?_
      refine gh_iload_n gd_JArrays_fill_6 0 rfl ?_
      refine gh_jge (tgt := 20) gd_JArrays_fill_7 (by decide) (fun c => absurd c (by omega)) (fun c => ?_)
      exact gh_ret9 rfl gd_JArrays_fill_20 hm
    | succ k ih =>
      intro i h1 h2 h3 m hm
      refine gh_iload_n gd_JArrays_fill_5 1 rfl ?_
      refine gh_iload_n gd_JArrays_fill_6 0 rfl ?_
      refine gh_jge (tgt := 20) gd_JArrays_fill_7 (by decide) (fun c => ?_) (fun c => ?_)
      · refine gh_aload_n gd_JArrays_fill_10 2 rfl (by omega) ?_
        refine gh_iload_n gd_JArrays_fill_11 1 rfl ?_
        refine gh_iload_n gd_JArrays_fill_12 3 rfl ?_
        have e0 : ∀ j, m 0 j = m0 0 j := fun j => by rw [hm]; exact gh_fil_0 (by omega)
        have hA2 : gh_isA m a 1 := ⟨ha, by rw [e0]; exact hA.1.2.1, by rw [e0]; exact hA.1.2.2⟩
        refine gh_iast gd_JArrays_fill_13 hA2 h1 (by rw [e0, hA.2]; exact c) ?_
        refine gh_iinc (L2 := [(2, 0, i + 1), (3, 0, n), (0, 2, a), (1, 0, v)]) gd_JArrays_fill_14 1 rfl ⟨by omega, by omega⟩ (by decide) rfl ?_
        refine gh_goto (tgt := 5) gd_JArrays_fill_17 (by decide) ?_
        refine gh_pick (L2 := [(3, 0, n), (2, 0, i + 1), (0, 2, a), (1, 0, v)]) [1, 0, 2, 3] rfl ?_
        exact ih (i + 1) (by omega) (by omega) (by omega) _ (by rw [hm]; exact gh_fil_s m0 a i v h1)
      · have : i = n := by omega
        subst this
        exact gh_ret9 rfl gd_JArrays_fill_20 hm
  exact key n.toNat 0 (by omega) h0 (by omega) m0 (gh_fil_z m0 a v).symm
theorem gh_fillF {E : gh_E} {M : gh_I} {d pc idx : Nat} {L : gh_Ls} {st : gh_St} {m : gh_M} {Q : Int → gh_M → Prop} {a n v : Int} (hd : decode M.2.1 pc = .ok (.invokestatic idx, 3)) (hw : Cond.methodLink M.1 idx ⟨"java/util/Arrays", "fill", "([II)V"⟩ ∈ gh_tb) (hA : gh_isA m a 1 ∧ m 0 (2 * a + 1) = n) (hwd : gh_wd st ≤ 8) (hF : gh_F m) (hn : ∀ e ∈ gh_fix, e.1 ≠ a) (h0 : 0 ≤ n ∧ n < 2147483647) (kk : gh_F (gh_fil m a n v) → gh_T E M (d + 1) (pc + 3) L st (gh_fil m a n v) Q) : gh_T E M (d + 1) pc L ((0, v) :: (2, a) :: st) m Q := by
  refine gh_callS (n := 2) (as := [(2, a), (0, v)]) (tag := 9) hd gh_k772 gh_k68 hw gh_k771 ⟨by decide, by decide, by decide +kernel⟩ rfl (by decide) hwd ((gp_JArrays_fill d hF hA hn h0.2 h0.1).mono (fun r m1 h => ?_))
  subst h
  exact kk (gh_Ffil hF (by have := hA.1.1; omega) hn)
