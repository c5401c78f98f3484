/-! THE SYSTEM'S OWN MEMORY: where its cells lie, what never changes -/
def gh_fix : List (Int × Int × Int) := [(0, 4, 21), (0, 5, 11), (0, 6, 18), (0, 7, 5), (0, 8, 1), (0, 9, 240), (0, 10, 17), (0, 11, 9), (0, 12, 11), (0, 13, 7), (0, 14, 1), (0, 15, 8), (0, 16, 1), (0, 17, 20), (0, 18, 1), (0, 19, 20), (0, 20, 1), (0, 21, 80), (0, 22, 1), (0, 23, 4), (0, 24, 1), (0, 25, 16), (0, 26, 14), (0, 27, 9), (0, 28, 1), (0, 29, 8), (0, 30, 1), (0, 31, 8), (0, 32, 1), (0, 33, 20), (0, 34, 1), (0, 35, 20), (0, 36, 1), (0, 37, 8), (0, 38, 1), (0, 39, 80), (0, 40, 12), (0, 41, 11), (0, 42, 1), (0, 43, 8), (0, 44, 1), (0, 45, 8), (0, 46, 1), (0, 47, 8), (0, 48, 1), (0, 49, 8), (0, 50, 1), (0, 51, 20), (0, 52, 19), (0, 53, 9), (0, 54, 1), (0, 55, 8), (0, 56, 1), (0, 57, 8), (0, 58, 1), (0, 59, 241), (0, 60, 10), (0, 61, 9), (0, 62, 1), (0, 63, 72), (0, 64, 1), (0, 65, 9), (0, 66, 1), (0, 67, 9), (0, 68, 1), (0, 69, 9), (0, 70, 1), (0, 71, 9), (0, 72, 20), (0, 73, 10), (0, 74, 1), (0, 75, 9), (0, 76, 1), (0, 77, 72), (0, 78, 1), (0, 79, 648), (0, 80, 1), (0, 81, 9), (0, 82, 13), (0, 83, 12), (0, 84, 3), (0, 85, 648), (0, 86, 3), (0, 87, 360), (0, 88, 1), (0, 89, 32), (0, 90, 3), (0, 91, 0), (0, 92, 1), (0, 93, 0), (0, 94, 15), (0, 95, 17), (0, 96, 1), (0, 97, 300), (0, 98, 1), (0, 99, 300), (0, 100, 1), (0, 101, 289), (0, 102, 1), (0, 103, 289), (0, 104, 1), (0, 105, 289), (0, 106, 1), (0, 107, 289), (0, 108, 1), (0, 109, 289), (0, 110, 3), (0, 111, 289), (0, 112, 1), (0, 113, 4), (0, 114, 3), (0, 115, 4), (0, 116, 16), (0, 117, 12), (0, 118, 1), (0, 119, 80), (0, 120, 1), (0, 121, 320), (0, 122, 1), (0, 123, 320), (0, 124, 1), (0, 125, 8), (0, 126, 1), (0, 127, 1), (0, 128, 1), (0, 129, 64), (0, 130, 1), (0, 131, 64), (30, 0, 13), (30, 1, 20), (30, 2, 26), (30, 4, 31), (30, 5, 32), (30, 6, 33), (30, 7, 34), (30, 8, 35), (6, 0, 7), (6, 4, 8), (6, 5, 9), (6, 6, 10), (20, 0, 13), (20, 6, 21), (20, 7, 22), (20, 8, 23), (20, 9, 24), (20, 10, 25), (41, 0, 13), (41, 1, 20), (41, 2, 26), (41, 3, 30), (41, 4, 42), (41, 5, 43), (41, 6, 44), (13, 3, 14), (13, 4, 15), (13, 5, 16), (13, 6, 17), (13, 7, 18), (13, 8, 19), (47, 0, 13), (47, 1, 26), (47, 2, 41), (47, 3, 48), (47, 6, 49), (47, 8, 50), (47, 9, 51), (47, 10, 52), (47, 11, 53), (47, 12, 54), (47, 13, 55), (47, 15, 56), (47, 16, 57), (58, 0, 13), (58, 1, 20), (58, 6, 59), (58, 8, 60), (58, 9, 61), (58, 11, 62), (5, 0, 6), (5, 3, 3), (5, 7, 11), (5, 8, 12), (3, 0, 4), (26, 0, 13), (26, 1, 20), (26, 2, 27), (26, 4, 28), (26, 5, 29), (36, 0, 13), (36, 1, 20), (36, 2, 26), (36, 3, 30), (36, 5, 37), (36, 6, 38), (36, 8, 39), (36, 9, 40), (2, 0, 3), (2, 1, 5), (2, 2, 13), (2, 3, 20), (2, 4, 26), (2, 5, 30), (2, 6, 36), (2, 7, 41), (2, 8, 47), (2, 9, 58)]
/-- behind the constructors: the shapes and the final references are these -/
def gh_F (m : gh_M) : Prop := (∀ e ∈ gh_fix, m e.1 e.2.1 = e.2.2) ∧ 66 ≤ m 0 1
theorem gh_Fx {m : gh_M} (hF : gh_F m) (n : Nat) {a i v : Int} (h : gh_fix[n]? = some (a, i, v)) : m a i = v := hF.1 _ (List.mem_of_getElem? h)
theorem gh_Fu {m : gh_M} {a i v : Int} (hF : gh_F m) (h0 : a ≠ 0) (h : ∀ e ∈ gh_fix, ¬ (e.1 = a ∧ e.2.1 = i)) : gh_F (gh_u m a i v) := by
  refine ⟨fun e he => ?_, by rw [gh_u_a (Ne.symm h0)]; exact hF.2⟩
  unfold gh_u
  rw [if_neg (h e he)]
  exact hF.1 e he
theorem gh_fix_o : gh_fix.all (fun e => e.1 == 0 || (decide (2 ≤ e.1) && decide (e.1 < 66) && gh_fix.any (fun f => f.1 == 0 && f.2.1 == 2 * e.1 && decide (10 ≤ f.2.2)))) = true := by decide +kernel
theorem gh_Fnar {m : gh_M} {a κ : Int} (hF : gh_F m) (hA : gh_isA m a κ) (hκ : κ < 10) : ∀ e ∈ gh_fix, e.1 ≠ a := by
  intro e he h
  have h1 := List.all_eq_true.mp gh_fix_o e he
  simp only [Bool.or_eq_true, Bool.and_eq_true, beq_iff_eq, decide_eq_true_eq, List.any_eq_true] at h1
  rcases h1 with h1 | ⟨_, f, hf, ⟨h2, h3⟩, h4⟩
  · have := hA.1
    omega
  · have h5 := hF.1 f hf
    rw [h2, h3, h, hA.2.2] at h5
    omega
theorem gh_Farr {m : gh_M} {a κ i v : Int} (hF : gh_F m) (hA : gh_isA m a κ) (hκ : κ < 10) : gh_F (gh_u m a i v) :=
  gh_Fu hF (by have := hA.1; omega) (fun e he h => gh_Fnar hF hA hκ e he h.1)
theorem gh_fix_k : gh_fix.all (fun e => (e.1 == 0 && decide (2 ≤ e.2.1) && decide (e.2.1 < 132)) || (decide (2 ≤ e.1) && decide (e.1 < 66))) = true := by decide +kernel
theorem gh_Fal {m : gh_M} {κ n : Int} (hF : gh_F m) : gh_F (gh_al m κ n) := by
  have hk := hF.2
  refine ⟨fun e he => ?_, by rw [gh_al_01 (by omega)]; omega⟩
  have h1 := List.all_eq_true.mp gh_fix_k e he
  simp only [Bool.or_eq_true, Bool.and_eq_true, beq_iff_eq, decide_eq_true_eq] at h1
  rcases h1 with ⟨⟨h1, h2⟩, h3⟩ | ⟨h1, h2⟩
  · have := hF.1 e he
    rw [h1] at this ⊢
    rw [gh_al_0 (by omega) h2 (by omega) (by omega)]
    exact this
  · rw [gh_al_o (by omega) (by omega)]
    exact hF.1 e he
theorem gh_r0 {n : Int} (h : (decide (-2147483648 ≤ n) && decide (n < 2147483648)) = true) : gh_ok 0 n := by
  simp only [Bool.and_eq_true, decide_eq_true_eq] at h
  exact h
theorem gh_r1 {n : Int} (h : (decide (-9223372036854775808 ≤ n) && decide (n < 9223372036854775808)) = true) : gh_ok 1 n := by
  simp only [Bool.and_eq_true, decide_eq_true_eq] at h
  exact h
abbrev gh_i (z : Int) : Prop := -2147483648 ≤ z ∧ z < 2147483648
abbrev gh_j (z : Int) : Prop := -9223372036854775808 ≤ z ∧ z < 9223372036854775808
theorem gh_ib01 {P : Prop} [Decidable P] : (if P then (1:Int) else 0) = 0 ∨ (if P then (1:Int) else 0) = 1 := by
  split
  · exact Or.inr rfl
  · exact Or.inl rfl
theorem gh_ok_i {z : Int} (h : gh_i z) : gh_ok 0 z := h
theorem gh_ok_j {z : Int} (h : gh_j z) : gh_ok 1 z := h
theorem gh_C.mono {E : gh_E} {y : MethodName} {cc : ByteArray} {nL : Nat} {ret : Option FieldType} {tag : Int} {d : Nat} {as : gh_St} {m : gh_M} {Q Q' : Int → gh_M → Prop} (h : gh_C E y cc nL ret tag d as m Q) (hq : ∀ r m1, Q r m1 → Q' r m1) : gh_C E y cc nL ret tag d as m Q' := by
  intro hp
  obtain ⟨r, m', h1, h2⟩ := h hp
  exact ⟨r, m', hq _ _ h1, h2⟩
theorem gh_C.pe {E : gh_E} {y : MethodName} {cc : ByteArray} {nL : Nat} {ret : Option FieldType} {tag : Int} {d : Nat} {as : gh_St} {m : gh_M} {x : Int} {Q' : Int → gh_M → Prop} (h : gh_C E y cc nL ret tag d as m (fun r m1 => m1 = m ∧ r = x)) (k : Q' x m) : gh_C E y cc nL ret tag d as m Q' :=
  h.mono (fun r m1 hq => by rw [hq.1, hq.2]; exact k)
theorem gh_C.pw {E : gh_E} {y : MethodName} {cc : ByteArray} {nL : Nat} {ret : Option FieldType} {tag : Int} {d : Nat} {as : gh_St} {m : gh_M} {Q : Int → Prop} {Q' : Int → gh_M → Prop} (h : gh_C E y cc nL ret tag d as m (fun r m1 => m1 = m ∧ Q r)) (k : ∀ r, Q r → Q' r m) : gh_C E y cc nL ret tag d as m Q' :=
  h.mono (fun r m1 hq => by rw [hq.1]; exact k r hq.2)
theorem gh_rt9 : ((9:Int) = 9 ∧ (none : Option FieldType) = none) ∨ ((9:Int) = 0 ∧ (none : Option FieldType) = some .int) ∨ ((9:Int) = 1 ∧ (none : Option FieldType) = some .long) ∨ ((9:Int) = 8 ∧ (none : Option FieldType) = some .boolean) := Or.inl ⟨rfl, rfl⟩
theorem gh_rt0 : ((0:Int) = 9 ∧ some FieldType.int = none) ∨ ((0:Int) = 0 ∧ some FieldType.int = some .int) ∨ ((0:Int) = 1 ∧ some FieldType.int = some .long) ∨ ((0:Int) = 8 ∧ some FieldType.int = some .boolean) := Or.inr (Or.inl ⟨rfl, rfl⟩)
theorem gh_rt1 : ((1:Int) = 9 ∧ some FieldType.long = none) ∨ ((1:Int) = 0 ∧ some FieldType.long = some .int) ∨ ((1:Int) = 1 ∧ some FieldType.long = some .long) ∨ ((1:Int) = 8 ∧ some FieldType.long = some .boolean) := Or.inr (Or.inr (Or.inl ⟨rfl, rfl⟩))
theorem gh_rt8 : ((8:Int) = 9 ∧ some FieldType.boolean = none) ∨ ((8:Int) = 0 ∧ some FieldType.boolean = some .int) ∨ ((8:Int) = 1 ∧ some FieldType.boolean = some .long) ∨ ((8:Int) = 8 ∧ some FieldType.boolean = some .boolean) := Or.inr (Or.inr (Or.inr ⟨rfl, rfl⟩))
theorem gh_enter2 {E : gh_E} {y : MethodName} {cc : ByteArray} {nL d : Nat} {ret : Option FieldType} {tag : Int} {as : gh_St} {m : gh_M} {Q : Int → gh_M → Prop} {L : gh_Ls} (hy : plainName y.cls = true)
    (hret : (tag = 9 ∧ ret = none) ∨ (tag = 0 ∧ ret = some .int) ∨ (tag = 1 ∧ ret = some .long) ∨ (tag = 8 ∧ ret = some .boolean))
    (hlen : (lg_sl (gh_sc E as)).length ≤ nL) (hL : lv_args 0 (gh_sc E as) = gh_lc E L) (hLa : L.map (fun q => q.2) = as)
    (kk : gh_T E (y.cls, cc, nL, false, tag) d 0 L [] m Q) : gh_C E y cc nL ret tag d as m Q := by
  refine gh_enter false hy (fun h => by cases h) hret hlen hL (fun h q hq => ?_) kk
  rw [← hLa] at h
  exact h q.2 (List.mem_map.mpr ⟨q, hq, rfl⟩)
section G7
variable {E : gh_E} {M : gh_I} {d pc : Nat} {L L2 : gh_Ls} {st : gh_St} {m : gh_M} {Q : Int → gh_M → Prop}
theorem gh_name {t x : Int} (k : ∀ y : Int, y = x → gh_T E M d pc L ((t, y) :: st) m Q) : gh_T E M d pc L ((t, x) :: st) m Q := k x rfl
theorem gh_top {t x y : Int} (e : x = y) (kk : gh_T E M d pc L ((t, y) :: st) m Q) : gh_T E M d pc L ((t, x) :: st) m Q := e ▸ kk
theorem gh_jeq {x y : Int} {off : Int} {tgt : Nat} (hd : decode M.2.1 pc = .ok (.if_icmp .eq off, 3)) (ht : (pc : Int) + off = (tgt : Int)) (kt : x = y → gh_T E M d tgt L st m Q) (kf : ¬ (x = y) → gh_T E M d (pc + 3) L st m Q) : gh_T E M d pc L ((0, y) :: (0, x) :: st) m Q := gh_icmp_eq hd ht kt kf
theorem gh_jne {x y : Int} {off : Int} {tgt : Nat} (hd : decode M.2.1 pc = .ok (.if_icmp .ne off, 3)) (ht : (pc : Int) + off = (tgt : Int)) (kt : x = y → gh_T E M d (pc + 3) L st m Q) (kf : ¬ (x = y) → gh_T E M d tgt L st m Q) : gh_T E M d pc L ((0, y) :: (0, x) :: st) m Q := gh_icmp_ne hd ht kf kt
theorem gh_jlt {x y : Int} {off : Int} {tgt : Nat} (hd : decode M.2.1 pc = .ok (.if_icmp .lt off, 3)) (ht : (pc : Int) + off = (tgt : Int)) (kt : x < y → gh_T E M d tgt L st m Q) (kf : ¬ (x < y) → gh_T E M d (pc + 3) L st m Q) : gh_T E M d pc L ((0, y) :: (0, x) :: st) m Q := gh_icmp_lt hd ht kt kf
theorem gh_jge {x y : Int} {off : Int} {tgt : Nat} (hd : decode M.2.1 pc = .ok (.if_icmp .ge off, 3)) (ht : (pc : Int) + off = (tgt : Int)) (kt : x < y → gh_T E M d (pc + 3) L st m Q) (kf : ¬ (x < y) → gh_T E M d tgt L st m Q) : gh_T E M d pc L ((0, y) :: (0, x) :: st) m Q := gh_icmp_ge hd ht (fun h => kf (Int.not_lt.mpr h)) (fun h => kt (Int.not_le.mp h))
theorem gh_jle {x y : Int} {off : Int} {tgt : Nat} (hd : decode M.2.1 pc = .ok (.if_icmp .le off, 3)) (ht : (pc : Int) + off = (tgt : Int)) (kt : x ≤ y → gh_T E M d tgt L st m Q) (kf : ¬ (x ≤ y) → gh_T E M d (pc + 3) L st m Q) : gh_T E M d pc L ((0, y) :: (0, x) :: st) m Q := gh_icmp_le hd ht kt kf
theorem gh_jgt {x y : Int} {off : Int} {tgt : Nat} (hd : decode M.2.1 pc = .ok (.if_icmp .gt off, 3)) (ht : (pc : Int) + off = (tgt : Int)) (kt : x ≤ y → gh_T E M d (pc + 3) L st m Q) (kf : ¬ (x ≤ y) → gh_T E M d tgt L st m Q) : gh_T E M d pc L ((0, y) :: (0, x) :: st) m Q := gh_icmp_gt hd ht (fun h => kf (Int.not_le.mpr h)) (fun h => kt (Int.not_lt.mp h))
theorem gh_zeq {x : Int} {off : Int} {tgt : Nat} (hd : decode M.2.1 pc = .ok (.ifCond .eq off, 3)) (ht : (pc : Int) + off = (tgt : Int)) (kt : x = 0 → gh_T E M d tgt L st m Q) (kf : ¬ (x = 0) → gh_T E M d (pc + 3) L st m Q) : gh_T E M d pc L ((0, x) :: st) m Q := gh_if_eq hd ht kt kf
theorem gh_zne {x : Int} {off : Int} {tgt : Nat} (hd : decode M.2.1 pc = .ok (.ifCond .ne off, 3)) (ht : (pc : Int) + off = (tgt : Int)) (kt : x = 0 → gh_T E M d (pc + 3) L st m Q) (kf : ¬ (x = 0) → gh_T E M d tgt L st m Q) : gh_T E M d pc L ((0, x) :: st) m Q := gh_if_ne hd ht kf kt
theorem gh_zlt {x : Int} {off : Int} {tgt : Nat} (hd : decode M.2.1 pc = .ok (.ifCond .lt off, 3)) (ht : (pc : Int) + off = (tgt : Int)) (kt : x < 0 → gh_T E M d tgt L st m Q) (kf : ¬ (x < 0) → gh_T E M d (pc + 3) L st m Q) : gh_T E M d pc L ((0, x) :: st) m Q := gh_if_lt hd ht kt kf
theorem gh_zge {x : Int} {off : Int} {tgt : Nat} (hd : decode M.2.1 pc = .ok (.ifCond .ge off, 3)) (ht : (pc : Int) + off = (tgt : Int)) (kt : x < 0 → gh_T E M d (pc + 3) L st m Q) (kf : ¬ (x < 0) → gh_T E M d tgt L st m Q) : gh_T E M d pc L ((0, x) :: st) m Q := gh_if_ge hd ht (fun h => kf (Int.not_lt.mpr h)) (fun h => kt (Int.not_le.mp h))
theorem gh_zle {x : Int} {off : Int} {tgt : Nat} (hd : decode M.2.1 pc = .ok (.ifCond .le off, 3)) (ht : (pc : Int) + off = (tgt : Int)) (kt : x ≤ 0 → gh_T E M d tgt L st m Q) (kf : ¬ (x ≤ 0) → gh_T E M d (pc + 3) L st m Q) : gh_T E M d pc L ((0, x) :: st) m Q := gh_if_le hd ht kt kf
theorem gh_zgt {x : Int} {off : Int} {tgt : Nat} (hd : decode M.2.1 pc = .ok (.ifCond .gt off, 3)) (ht : (pc : Int) + off = (tgt : Int)) (kt : x ≤ 0 → gh_T E M d (pc + 3) L st m Q) (kf : ¬ (x ≤ 0) → gh_T E M d tgt L st m Q) : gh_T E M d pc L ((0, x) :: st) m Q := gh_if_gt hd ht (fun h => kf (Int.not_le.mpr h)) (fun h => kt (Int.not_lt.mp h))
theorem gh_ceq {x y : Int} {off : Int} {tgt : Nat} (hd : decode M.2.1 pc = .ok (.ifCond .eq off, 3)) (ht : (pc : Int) + off = (tgt : Int)) (kt : x = y → gh_T E M d tgt L st m Q) (kf : ¬ (x = y) → gh_T E M d (pc + 3) L st m Q) : gh_T E M d pc L ((0, gh_cmp x y) :: st) m Q := gh_if_eq hd ht (fun h => kt (gh_cmp_eq.mp h)) (fun h => kf (fun z => h (gh_cmp_eq.mpr z)))
theorem gh_cne {x y : Int} {off : Int} {tgt : Nat} (hd : decode M.2.1 pc = .ok (.ifCond .ne off, 3)) (ht : (pc : Int) + off = (tgt : Int)) (kt : x = y → gh_T E M d (pc + 3) L st m Q) (kf : ¬ (x = y) → gh_T E M d tgt L st m Q) : gh_T E M d pc L ((0, gh_cmp x y) :: st) m Q := gh_if_ne hd ht (fun h => kf (fun z => h (gh_cmp_eq.mpr z))) (fun h => kt (gh_cmp_eq.mp h))
theorem gh_clt {x y : Int} {off : Int} {tgt : Nat} (hd : decode M.2.1 pc = .ok (.ifCond .lt off, 3)) (ht : (pc : Int) + off = (tgt : Int)) (kt : x < y → gh_T E M d tgt L st m Q) (kf : ¬ (x < y) → gh_T E M d (pc + 3) L st m Q) : gh_T E M d pc L ((0, gh_cmp x y) :: st) m Q := gh_if_lt hd ht (fun h => kt (gh_cmp_lt.mp h)) (fun h => kf (fun z => h (gh_cmp_lt.mpr z)))
theorem gh_cge {x y : Int} {off : Int} {tgt : Nat} (hd : decode M.2.1 pc = .ok (.ifCond .ge off, 3)) (ht : (pc : Int) + off = (tgt : Int)) (kt : x < y → gh_T E M d (pc + 3) L st m Q) (kf : ¬ (x < y) → gh_T E M d tgt L st m Q) : gh_T E M d pc L ((0, gh_cmp x y) :: st) m Q := gh_if_ge hd ht (fun h => kf (Int.not_lt.mpr (gh_cmp_ge.mp h))) (fun h => kt (Int.not_le.mp (fun z => h (gh_cmp_ge.mpr z))))
theorem gh_cle {x y : Int} {off : Int} {tgt : Nat} (hd : decode M.2.1 pc = .ok (.ifCond .le off, 3)) (ht : (pc : Int) + off = (tgt : Int)) (kt : x ≤ y → gh_T E M d tgt L st m Q) (kf : ¬ (x ≤ y) → gh_T E M d (pc + 3) L st m Q) : gh_T E M d pc L ((0, gh_cmp x y) :: st) m Q := gh_if_le hd ht (fun h => kt (gh_cmp_le.mp h)) (fun h => kf (fun z => h (gh_cmp_le.mpr z)))
theorem gh_cgt {x y : Int} {off : Int} {tgt : Nat} (hd : decode M.2.1 pc = .ok (.ifCond .gt off, 3)) (ht : (pc : Int) + off = (tgt : Int)) (kt : x ≤ y → gh_T E M d (pc + 3) L st m Q) (kf : ¬ (x ≤ y) → gh_T E M d tgt L st m Q) : gh_T E M d pc L ((0, gh_cmp x y) :: st) m Q := gh_if_gt hd ht (fun h => kf (Int.not_le.mpr (gh_cmp_gt.mp h))) (fun h => kt (Int.not_lt.mp (fun z => h (gh_cmp_gt.mpr z))))
theorem gh_beq {P : Prop} [Decidable P] {off : Int} {tgt : Nat} (hd : decode M.2.1 pc = .ok (.ifCond .eq off, 3)) (ht : (pc : Int) + off = (tgt : Int)) (kt : P → gh_T E M d (pc + 3) L st m Q) (kf : ¬ P → gh_T E M d tgt L st m Q) : gh_T E M d pc L ((0, if P then (1:Int) else 0) :: st) m Q := by
  refine gh_if_eq hd ht (fun h => kf (fun p => ?_)) (fun h => ?_)
  · rw [if_pos p] at h; cases h
  · by_cases p : P
    · exact kt p
    · rw [if_neg p] at h; exact absurd rfl h
theorem gh_bne {P : Prop} [Decidable P] {off : Int} {tgt : Nat} (hd : decode M.2.1 pc = .ok (.ifCond .ne off, 3)) (ht : (pc : Int) + off = (tgt : Int)) (kt : P → gh_T E M d tgt L st m Q) (kf : ¬ P → gh_T E M d (pc + 3) L st m Q) : gh_T E M d pc L ((0, if P then (1:Int) else 0) :: st) m Q := by
  refine gh_if_ne hd ht (fun h => ?_) (fun h => kf (fun p => ?_))
  · by_cases p : P
    · exact kt p
    · rw [if_neg p] at h; exact absurd rfl h
  · rw [if_pos p] at h; cases h
theorem gh_isA_lt {a κ : Int} (h : gh_isA m a κ) : 2 ≤ a := h.1
theorem gh_iastF {a i v : Int} (hd : decode M.2.1 pc = .ok (.iastore, 1)) (hF : gh_F m) (hA : gh_isA m a 1) (h0 : 0 ≤ i) (h1 : i < m 0 (2 * a + 1)) (kk : gh_F (gh_u m a i v) → gh_T E M d (pc + 1) L st (gh_u m a i v) Q) : gh_T E M d pc L ((0, v) :: (0, i) :: (2, a) :: st) m Q := gh_iast hd hA h0 h1 (kk (gh_Farr hF hA (by decide)))
theorem gh_lastF {a i v : Int} (hd : decode M.2.1 pc = .ok (.lastore, 1)) (hF : gh_F m) (hA : gh_isA m a 3) (h0 : 0 ≤ i) (h1 : i < m 0 (2 * a + 1)) (kk : gh_F (gh_u m a i v) → gh_T E M d (pc + 1) L st (gh_u m a i v) Q) : gh_T E M d pc L ((1, v) :: (0, i) :: (2, a) :: st) m Q := gh_last hd hA h0 h1 (kk (gh_Farr hF hA (by decide)))
theorem gh_newarrF {κ n : Int} {at_ : ArrayType} (hd : decode M.2.1 pc = .ok (.newarray at_, 2)) (hκ : (at_ = .int ∧ κ = 1) ∨ (at_ = .long ∧ κ = 3)) (hw : Cond.arrayClass (newarray.typeOf at_) ∈ gh_tb) (hn : 0 ≤ n) (hn2 : n < 60000000) (hF : gh_F m) (kk : gh_F (gh_al m κ n) → gh_T E M d (pc + 2) L ((2, m 0 1) :: st) (gh_al m κ n) Q) : gh_T E M d pc L ((0, n) :: st) m Q := gh_newarr hd hκ hw hn hn2 (kk (gh_Fal hF))
theorem gh_Fcpy {a0 sp a1 dp n : Int} (hF : gh_F m) (h0 : a1 ≠ 0) (h : ∀ e ∈ gh_fix, e.1 ≠ a1) : gh_F (gh_cpy m a0 sp a1 dp n) := by
  refine ⟨fun e he => ?_, by rw [gh_cpy_0 h0]; exact hF.2⟩
  unfold gh_cpy
  rw [if_neg (fun z => h e he z.1)]
  exact hF.1 e he
theorem gh_copyF {idx : Nat} {a0 a1 sp dp n n0 n1 : Int} (hd : decode M.2.1 pc = .ok (.invokestatic idx, 3)) (hlink : Cond.methodLink M.1 idx arraycopyName ∈ gh_tb) (hnat : Cond.native arraycopyName ∈ gh_tb) (hsta : Cond.static arraycopyName ∈ gh_tb) (hini : Cond.initialized "java/lang/System" ∈ gh_tb)
    (hA0 : gh_isA m a0 1 ∧ m 0 (2 * a0 + 1) = n0) (hA1 : gh_isA m a1 1 ∧ m 0 (2 * a1 + 1) = n1) (hne : a0 ≠ a1) (h1 : 0 ≤ sp) (h2 : 0 ≤ dp) (h3 : 0 ≤ n) (h4 : sp + n ≤ n0) (h5 : dp + n ≤ n1) (hwd : gh_wd st ≤ 8) (hF : gh_F m) (hn : ∀ e ∈ gh_fix, e.1 ≠ a1)
    (kk : gh_F (gh_cpy m a0 sp a1 dp n) → gh_T E M (d + 1) (pc + 3) L st (gh_cpy m a0 sp a1 dp n) Q) : gh_T E M (d + 1) pc L ((0, n) :: (0, dp) :: (2, a1) :: (0, sp) :: (2, a0) :: st) m Q :=
  gh_copy hd hlink hnat hsta hini hA0.1 hA1.1 hne h1 h2 h3 (by rw [hA0.2]; exact h4) (by rw [hA1.2]; exact h5) hwd (kk (gh_Fcpy hF (by have := hA1.1.1; omega) hn))
theorem gh_cV0 {y : MethodName} {cc : ByteArray} {nL n idx ci : Nat} {C : String} {T : u_T} {N : Nat} {ret : Option FieldType} {a : Int} {as rest : gh_St} (tag : Int) (ht : tag = 0 ∨ tag = 8) (hd : decode M.2.1 pc = .ok (.invokevirtual idx, 3)) (hck : gh_cl[ci]? = some (C, T, N)) (hA : gh_isA m a (10 + ci))
    (hcode : Cond.code y cc nL ret ∈ gh_tb) (hini : Cond.initialized y.cls ∈ gh_tb) (hlink : Cond.methodLink M.1 idx y ∈ gh_tb) (hins : Cond.instanceMethod y ∈ gh_tb) (hsel : Cond.selects C y y ∈ gh_tb)
    (hn : y.cls ≠ "java/lang/invoke/MethodHandle" ∧ y.cls ≠ "java/lang/invoke/VarHandle" ∧ (parseMethodDescriptor y.desc).map (fun d => d.parameters.length) = some n) (has : as.length = n) (hnL : nL ≤ 40) (hwd : gh_wd rest ≤ 8)
    (hC : gh_C E y cc nL ret tag d ((2, a) :: as) m (fun r m1 => gh_T E M (d + 1) (pc + 3) L ((0, r) :: rest) m1 Q)) : gh_T E M (d + 1) pc L (as.reverse ++ (2, a) :: rest) m Q :=
  gh_callV hd hck hA hcode hini hlink hins hsel hn has hnL hwd (hC.mono (fun r m1 h => by rcases ht with rfl | rfl <;> exact h))
theorem gh_cVN0 {y : MethodName} {cc : ByteArray} {nL n idx ci : Nat} {C : String} {T : u_T} {N : Nat} {ret : Option FieldType} {a : Int} {as rest : gh_St} (tag : Int) (ht : tag = 0 ∨ tag = 8) (hd : decode M.2.1 pc = .ok (.invokevirtual idx, 3)) (hck : gh_cl[ci]? = some (C, T, N)) (hA : gh_isA m a (10 + ci))
    (hcode : Cond.code y cc nL ret ∈ gh_tb) (hini : Cond.initialized y.cls ∈ gh_tb) (hlink : Cond.methodLinkNest M.1 idx y "GrammarHouse" ∈ gh_nw) (hins : Cond.instanceMethod y ∈ gh_tb) (hsel : Cond.selects C y y ∈ gh_tb)
    (hn : y.cls ≠ "java/lang/invoke/MethodHandle" ∧ y.cls ≠ "java/lang/invoke/VarHandle" ∧ (parseMethodDescriptor y.desc).map (fun d => d.parameters.length) = some n) (has : as.length = n) (hnL : nL ≤ 40) (hwd : gh_wd rest ≤ 8)
    (hC : gh_C E y cc nL ret tag d ((2, a) :: as) m (fun r m1 => gh_T E M (d + 1) (pc + 3) L ((0, r) :: rest) m1 Q)) : gh_T E M (d + 1) pc L (as.reverse ++ (2, a) :: rest) m Q :=
  gh_callVN hd hck hA hcode hini hlink hins hsel hn has hnL hwd (hC.mono (fun r m1 h => by rcases ht with rfl | rfl <;> exact h))
theorem gh_cS0 {y : MethodName} {cc : ByteArray} {nL n idx : Nat} {ret : Option FieldType} {as rest : gh_St} (tag : Int) (ht : tag = 0 ∨ tag = 8) (hd : decode M.2.1 pc = .ok (.invokestatic idx, 3))
    (hcode : Cond.code y cc nL ret ∈ gh_tb) (hini : Cond.initialized y.cls ∈ gh_tb) (hlink : Cond.methodLink M.1 idx y ∈ gh_tb) (hsta : Cond.static y ∈ gh_tb)
    (hn : y.cls ≠ "java/lang/invoke/MethodHandle" ∧ y.cls ≠ "java/lang/invoke/VarHandle" ∧ (parseMethodDescriptor y.desc).map (fun d => d.parameters.length) = some n) (has : as.length = n) (hnL : nL ≤ 40) (hwd : gh_wd rest ≤ 8)
    (hC : gh_C E y cc nL ret tag d as m (fun r m1 => gh_T E M (d + 1) (pc + 3) L ((0, r) :: rest) m1 Q)) : gh_T E M (d + 1) pc L (as.reverse ++ rest) m Q :=
  gh_callS hd hcode hini hlink hsta hn has hnL hwd (hC.mono (fun r m1 h => by rcases ht with rfl | rfl <;> exact h))
end G7
def gh_M0 (F : (gh_M → Prop) → gh_M → Prop) (m : gh_M) : Prop := ∃ (I : gh_M → Prop) (μ : gh_M → Nat), I m ∧ ∀ (m : gh_M), I m → F (fun m' => I m' ∧ μ m' < μ m) m
theorem gh_M0_sound {T : gh_M → Prop} (G : gh_M → Prop) {F : (gh_M → Prop) → gh_M → Prop} (hb : ∀ (K : gh_M → Prop) (m : gh_M), (∀ (m : gh_M), G m → K m → T m) → G m → F K m → T m) (m : gh_M) (hG : G m) (h : gh_M0 F m) : T m := by
  obtain ⟨I, μ, h0, hs⟩ := h
  have key : ∀ (n : Nat) (m : gh_M), μ m < n → G m → I m → T m := by
    intro n
    induction n with
    | zero => intro m hm; exact absurd hm (Nat.not_lt_zero _)
    | succ n ih =>
      intro m hm hg hi
      exact hb _ m (fun m' hg2 hk => ih m' (Nat.lt_of_lt_of_le hk.2 (Nat.le_of_lt_succ hm)) hg2 hk.1) hg (hs m hi)
  exact key _ m (Nat.lt_succ_self _) hG h0
def gh_L1 (F : (Int → Prop) → Int → Prop) (x0 : Int) : Prop := ∃ (I : Int → Prop) (μ : Int → Nat), I x0 ∧ ∀ (x0 : Int), I x0 → F (fun x0' => I x0' ∧ μ x0' < μ x0) x0
theorem gh_L1_sound {T : Int → Prop} (G : Int → Prop) {F : (Int → Prop) → Int → Prop} (hb : ∀ (K : Int → Prop) (x0 : Int), (∀ (x0 : Int), G x0 → K x0 → T x0) → G x0 → F K x0 → T x0) (x0 : Int) (hG : G x0) (h : gh_L1 F x0) : T x0 := by
  obtain ⟨I, μ, h0, hs⟩ := h
  have key : ∀ (n : Nat) (x0 : Int), μ x0 < n → G x0 → I x0 → T x0 := by
    intro n
    induction n with
    | zero => intro x0 hm; exact absurd hm (Nat.not_lt_zero _)
    | succ n ih =>
      intro x0 hm hg hi
      exact hb _ x0 (fun x0' hg2 hk => ih x0' (Nat.lt_of_lt_of_le hk.2 (Nat.le_of_lt_succ hm)) hg2 hk.1) hg (hs x0 hi)
  exact key _ x0 (Nat.lt_succ_self _) hG h0
def gh_M1 (F : (Int → gh_M → Prop) → Int → gh_M → Prop) (x0 : Int) (m : gh_M) : Prop := ∃ (I : Int → gh_M → Prop) (μ : Int → gh_M → Nat), I x0 m ∧ ∀ (x0 : Int) (m : gh_M), I x0 m → F (fun x0' m' => I x0' m' ∧ μ x0' m' < μ x0 m) x0 m
theorem gh_M1_sound {T : Int → gh_M → Prop} (G : Int → gh_M → Prop) {F : (Int → gh_M → Prop) → Int → gh_M → Prop} (hb : ∀ (K : Int → gh_M → Prop) (x0 : Int) (m : gh_M), (∀ (x0 : Int) (m : gh_M), G x0 m → K x0 m → T x0 m) → G x0 m → F K x0 m → T x0 m) (x0 : Int) (m : gh_M) (hG : G x0 m) (h : gh_M1 F x0 m) : T x0 m := by
  obtain ⟨I, μ, h0, hs⟩ := h
  have key : ∀ (n : Nat) (x0 : Int) (m : gh_M), μ x0 m < n → G x0 m → I x0 m → T x0 m := by
    intro n
    induction n with
    | zero => intro x0 m hm; exact absurd hm (Nat.not_lt_zero _)
    | succ n ih =>
      intro x0 m hm hg hi
      exact hb _ x0 m (fun x0' m' hg2 hk => ih x0' m' (Nat.lt_of_lt_of_le hk.2 (Nat.le_of_lt_succ hm)) hg2 hk.1) hg (hs x0 m hi)
  exact key _ x0 m (Nat.lt_succ_self _) hG h0
def gh_L2 (F : (Int → Int → Prop) → Int → Int → Prop) (x0 : Int) (x1 : Int) : Prop := ∃ (I : Int → Int → Prop) (μ : Int → Int → Nat), I x0 x1 ∧ ∀ (x0 : Int) (x1 : Int), I x0 x1 → F (fun x0' x1' => I x0' x1' ∧ μ x0' x1' < μ x0 x1) x0 x1
theorem gh_L2_sound {T : Int → Int → Prop} (G : Int → Int → Prop) {F : (Int → Int → Prop) → Int → Int → Prop} (hb : ∀ (K : Int → Int → Prop) (x0 : Int) (x1 : Int), (∀ (x0 : Int) (x1 : Int), G x0 x1 → K x0 x1 → T x0 x1) → G x0 x1 → F K x0 x1 → T x0 x1) (x0 : Int) (x1 : Int) (hG : G x0 x1) (h : gh_L2 F x0 x1) : T x0 x1 := by
  obtain ⟨I, μ, h0, hs⟩ := h
  have key : ∀ (n : Nat) (x0 : Int) (x1 : Int), μ x0 x1 < n → G x0 x1 → I x0 x1 → T x0 x1 := by
    intro n
    induction n with
    | zero => intro x0 x1 hm; exact absurd hm (Nat.not_lt_zero _)
    | succ n ih =>
      intro x0 x1 hm hg hi
      exact hb _ x0 x1 (fun x0' x1' hg2 hk => ih x0' x1' (Nat.lt_of_lt_of_le hk.2 (Nat.le_of_lt_succ hm)) hg2 hk.1) hg (hs x0 x1 hi)
  exact key _ x0 x1 (Nat.lt_succ_self _) hG h0
def gh_M2 (F : (Int → Int → gh_M → Prop) → Int → Int → gh_M → Prop) (x0 : Int) (x1 : Int) (m : gh_M) : Prop := ∃ (I : Int → Int → gh_M → Prop) (μ : Int → Int → gh_M → Nat), I x0 x1 m ∧ ∀ (x0 : Int) (x1 : Int) (m : gh_M), I x0 x1 m → F (fun x0' x1' m' => I x0' x1' m' ∧ μ x0' x1' m' < μ x0 x1 m) x0 x1 m
theorem gh_M2_sound {T : Int → Int → gh_M → Prop} (G : Int → Int → gh_M → Prop) {F : (Int → Int → gh_M → Prop) → Int → Int → gh_M → Prop} (hb : ∀ (K : Int → Int → gh_M → Prop) (x0 : Int) (x1 : Int) (m : gh_M), (∀ (x0 : Int) (x1 : Int) (m : gh_M), G x0 x1 m → K x0 x1 m → T x0 x1 m) → G x0 x1 m → F K x0 x1 m → T x0 x1 m) (x0 : Int) (x1 : Int) (m : gh_M) (hG : G x0 x1 m) (h : gh_M2 F x0 x1 m) : T x0 x1 m := by
  obtain ⟨I, μ, h0, hs⟩ := h
  have key : ∀ (n : Nat) (x0 : Int) (x1 : Int) (m : gh_M), μ x0 x1 m < n → G x0 x1 m → I x0 x1 m → T x0 x1 m := by
    intro n
    induction n with
    | zero => intro x0 x1 m hm; exact absurd hm (Nat.not_lt_zero _)
    | succ n ih =>
      intro x0 x1 m hm hg hi
      exact hb _ x0 x1 m (fun x0' x1' m' hg2 hk => ih x0' x1' m' (Nat.lt_of_lt_of_le hk.2 (Nat.le_of_lt_succ hm)) hg2 hk.1) hg (hs x0 x1 m hi)
  exact key _ x0 x1 m (Nat.lt_succ_self _) hG h0
def gh_L3 (F : (Int → Int → Int → Prop) → Int → Int → Int → Prop) (x0 : Int) (x1 : Int) (x2 : Int) : Prop := ∃ (I : Int → Int → Int → Prop) (μ : Int → Int → Int → Nat), I x0 x1 x2 ∧ ∀ (x0 : Int) (x1 : Int) (x2 : Int), I x0 x1 x2 → F (fun x0' x1' x2' => I x0' x1' x2' ∧ μ x0' x1' x2' < μ x0 x1 x2) x0 x1 x2
theorem gh_L3_sound {T : Int → Int → Int → Prop} (G : Int → Int → Int → Prop) {F : (Int → Int → Int → Prop) → Int → Int → Int → Prop} (hb : ∀ (K : Int → Int → Int → Prop) (x0 : Int) (x1 : Int) (x2 : Int), (∀ (x0 : Int) (x1 : Int) (x2 : Int), G x0 x1 x2 → K x0 x1 x2 → T x0 x1 x2) → G x0 x1 x2 → F K x0 x1 x2 → T x0 x1 x2) (x0 : Int) (x1 : Int) (x2 : Int) (hG : G x0 x1 x2) (h : gh_L3 F x0 x1 x2) : T x0 x1 x2 := by
  obtain ⟨I, μ, h0, hs⟩ := h
  have key : ∀ (n : Nat) (x0 : Int) (x1 : Int) (x2 : Int), μ x0 x1 x2 < n → G x0 x1 x2 → I x0 x1 x2 → T x0 x1 x2 := by
    intro n
    induction n with
    | zero => intro x0 x1 x2 hm; exact absurd hm (Nat.not_lt_zero _)
    | succ n ih =>
      intro x0 x1 x2 hm hg hi
      exact hb _ x0 x1 x2 (fun x0' x1' x2' hg2 hk => ih x0' x1' x2' (Nat.lt_of_lt_of_le hk.2 (Nat.le_of_lt_succ hm)) hg2 hk.1) hg (hs x0 x1 x2 hi)
  exact key _ x0 x1 x2 (Nat.lt_succ_self _) hG h0
def gh_M3 (F : (Int → Int → Int → gh_M → Prop) → Int → Int → Int → gh_M → Prop) (x0 : Int) (x1 : Int) (x2 : Int) (m : gh_M) : Prop := ∃ (I : Int → Int → Int → gh_M → Prop) (μ : Int → Int → Int → gh_M → Nat), I x0 x1 x2 m ∧ ∀ (x0 : Int) (x1 : Int) (x2 : Int) (m : gh_M), I x0 x1 x2 m → F (fun x0' x1' x2' m' => I x0' x1' x2' m' ∧ μ x0' x1' x2' m' < μ x0 x1 x2 m) x0 x1 x2 m
theorem gh_M3_sound {T : Int → Int → Int → gh_M → Prop} (G : Int → Int → Int → gh_M → Prop) {F : (Int → Int → Int → gh_M → Prop) → Int → Int → Int → gh_M → Prop} (hb : ∀ (K : Int → Int → Int → gh_M → Prop) (x0 : Int) (x1 : Int) (x2 : Int) (m : gh_M), (∀ (x0 : Int) (x1 : Int) (x2 : Int) (m : gh_M), G x0 x1 x2 m → K x0 x1 x2 m → T x0 x1 x2 m) → G x0 x1 x2 m → F K x0 x1 x2 m → T x0 x1 x2 m) (x0 : Int) (x1 : Int) (x2 : Int) (m : gh_M) (hG : G x0 x1 x2 m) (h : gh_M3 F x0 x1 x2 m) : T x0 x1 x2 m := by
  obtain ⟨I, μ, h0, hs⟩ := h
  have key : ∀ (n : Nat) (x0 : Int) (x1 : Int) (x2 : Int) (m : gh_M), μ x0 x1 x2 m < n → G x0 x1 x2 m → I x0 x1 x2 m → T x0 x1 x2 m := by
    intro n
    induction n with
    | zero => intro x0 x1 x2 m hm; exact absurd hm (Nat.not_lt_zero _)
    | succ n ih =>
      intro x0 x1 x2 m hm hg hi
      exact hb _ x0 x1 x2 m (fun x0' x1' x2' m' hg2 hk => ih x0' x1' x2' m' (Nat.lt_of_lt_of_le hk.2 (Nat.le_of_lt_succ hm)) hg2 hk.1) hg (hs x0 x1 x2 m hi)
  exact key _ x0 x1 x2 m (Nat.lt_succ_self _) hG h0
def gh_L4 (F : (Int → Int → Int → Int → Prop) → Int → Int → Int → Int → Prop) (x0 : Int) (x1 : Int) (x2 : Int) (x3 : Int) : Prop := ∃ (I : Int → Int → Int → Int → Prop) (μ : Int → Int → Int → Int → Nat), I x0 x1 x2 x3 ∧ ∀ (x0 : Int) (x1 : Int) (x2 : Int) (x3 : Int), I x0 x1 x2 x3 → F (fun x0' x1' x2' x3' => I x0' x1' x2' x3' ∧ μ x0' x1' x2' x3' < μ x0 x1 x2 x3) x0 x1 x2 x3
theorem gh_L4_sound {T : Int → Int → Int → Int → Prop} (G : Int → Int → Int → Int → Prop) {F : (Int → Int → Int → Int → Prop) → Int → Int → Int → Int → Prop} (hb : ∀ (K : Int → Int → Int → Int → Prop) (x0 : Int) (x1 : Int) (x2 : Int) (x3 : Int), (∀ (x0 : Int) (x1 : Int) (x2 : Int) (x3 : Int), G x0 x1 x2 x3 → K x0 x1 x2 x3 → T x0 x1 x2 x3) → G x0 x1 x2 x3 → F K x0 x1 x2 x3 → T x0 x1 x2 x3) (x0 : Int) (x1 : Int) (x2 : Int) (x3 : Int) (hG : G x0 x1 x2 x3) (h : gh_L4 F x0 x1 x2 x3) : T x0 x1 x2 x3 := by
  obtain ⟨I, μ, h0, hs⟩ := h
  have key : ∀ (n : Nat) (x0 : Int) (x1 : Int) (x2 : Int) (x3 : Int), μ x0 x1 x2 x3 < n → G x0 x1 x2 x3 → I x0 x1 x2 x3 → T x0 x1 x2 x3 := by
    intro n
    induction n with
    | zero => intro x0 x1 x2 x3 hm; exact absurd hm (Nat.not_lt_zero _)
    | succ n ih =>
      intro x0 x1 x2 x3 hm hg hi
      exact hb _ x0 x1 x2 x3 (fun x0' x1' x2' x3' hg2 hk => ih x0' x1' x2' x3' (Nat.lt_of_lt_of_le hk.2 (Nat.le_of_lt_succ hm)) hg2 hk.1) hg (hs x0 x1 x2 x3 hi)
  exact key _ x0 x1 x2 x3 (Nat.lt_succ_self _) hG h0
def gh_M4 (F : (Int → Int → Int → Int → gh_M → Prop) → Int → Int → Int → Int → gh_M → Prop) (x0 : Int) (x1 : Int) (x2 : Int) (x3 : Int) (m : gh_M) : Prop := ∃ (I : Int → Int → Int → Int → gh_M → Prop) (μ : Int → Int → Int → Int → gh_M → Nat), I x0 x1 x2 x3 m ∧ ∀ (x0 : Int) (x1 : Int) (x2 : Int) (x3 : Int) (m : gh_M), I x0 x1 x2 x3 m → F (fun x0' x1' x2' x3' m' => I x0' x1' x2' x3' m' ∧ μ x0' x1' x2' x3' m' < μ x0 x1 x2 x3 m) x0 x1 x2 x3 m
theorem gh_M4_sound {T : Int → Int → Int → Int → gh_M → Prop} (G : Int → Int → Int → Int → gh_M → Prop) {F : (Int → Int → Int → Int → gh_M → Prop) → Int → Int → Int → Int → gh_M → Prop} (hb : ∀ (K : Int → Int → Int → Int → gh_M → Prop) (x0 : Int) (x1 : Int) (x2 : Int) (x3 : Int) (m : gh_M), (∀ (x0 : Int) (x1 : Int) (x2 : Int) (x3 : Int) (m : gh_M), G x0 x1 x2 x3 m → K x0 x1 x2 x3 m → T x0 x1 x2 x3 m) → G x0 x1 x2 x3 m → F K x0 x1 x2 x3 m → T x0 x1 x2 x3 m) (x0 : Int) (x1 : Int) (x2 : Int) (x3 : Int) (m : gh_M) (hG : G x0 x1 x2 x3 m) (h : gh_M4 F x0 x1 x2 x3 m) : T x0 x1 x2 x3 m := by
  obtain ⟨I, μ, h0, hs⟩ := h
  have key : ∀ (n : Nat) (x0 : Int) (x1 : Int) (x2 : Int) (x3 : Int) (m : gh_M), μ x0 x1 x2 x3 m < n → G x0 x1 x2 x3 m → I x0 x1 x2 x3 m → T x0 x1 x2 x3 m := by
    intro n
    induction n with
    | zero => intro x0 x1 x2 x3 m hm; exact absurd hm (Nat.not_lt_zero _)
    | succ n ih =>
      intro x0 x1 x2 x3 m hm hg hi
      exact hb _ x0 x1 x2 x3 m (fun x0' x1' x2' x3' m' hg2 hk => ih x0' x1' x2' x3' m' (Nat.lt_of_lt_of_le hk.2 (Nat.le_of_lt_succ hm)) hg2 hk.1) hg (hs x0 x1 x2 x3 m hi)
  exact key _ x0 x1 x2 x3 m (Nat.lt_succ_self _) hG h0
def gh_L5 (F : (Int → Int → Int → Int → Int → Prop) → Int → Int → Int → Int → Int → Prop) (x0 : Int) (x1 : Int) (x2 : Int) (x3 : Int) (x4 : Int) : Prop := ∃ (I : Int → Int → Int → Int → Int → Prop) (μ : Int → Int → Int → Int → Int → Nat), I x0 x1 x2 x3 x4 ∧ ∀ (x0 : Int) (x1 : Int) (x2 : Int) (x3 : Int) (x4 : Int), I x0 x1 x2 x3 x4 → F (fun x0' x1' x2' x3' x4' => I x0' x1' x2' x3' x4' ∧ μ x0' x1' x2' x3' x4' < μ x0 x1 x2 x3 x4) x0 x1 x2 x3 x4
theorem gh_L5_sound {T : Int → Int → Int → Int → Int → Prop} (G : Int → Int → Int → Int → Int → Prop) {F : (Int → Int → Int → Int → Int → Prop) → Int → Int → Int → Int → Int → Prop} (hb : ∀ (K : Int → Int → Int → Int → Int → Prop) (x0 : Int) (x1 : Int) (x2 : Int) (x3 : Int) (x4 : Int), (∀ (x0 : Int) (x1 : Int) (x2 : Int) (x3 : Int) (x4 : Int), G x0 x1 x2 x3 x4 → K x0 x1 x2 x3 x4 → T x0 x1 x2 x3 x4) → G x0 x1 x2 x3 x4 → F K x0 x1 x2 x3 x4 → T x0 x1 x2 x3 x4) (x0 : Int) (x1 : Int) (x2 : Int) (x3 : Int) (x4 : Int) (hG : G x0 x1 x2 x3 x4) (h : gh_L5 F x0 x1 x2 x3 x4) : T x0 x1 x2 x3 x4 := by
  obtain ⟨I, μ, h0, hs⟩ := h
  have key : ∀ (n : Nat) (x0 : Int) (x1 : Int) (x2 : Int) (x3 : Int) (x4 : Int), μ x0 x1 x2 x3 x4 < n → G x0 x1 x2 x3 x4 → I x0 x1 x2 x3 x4 → T x0 x1 x2 x3 x4 := by
    intro n
    induction n with
    | zero => intro x0 x1 x2 x3 x4 hm; exact absurd hm (Nat.not_lt_zero _)
    | succ n ih =>
      intro x0 x1 x2 x3 x4 hm hg hi
      exact hb _ x0 x1 x2 x3 x4 (fun x0' x1' x2' x3' x4' hg2 hk => ih x0' x1' x2' x3' x4' (Nat.lt_of_lt_of_le hk.2 (Nat.le_of_lt_succ hm)) hg2 hk.1) hg (hs x0 x1 x2 x3 x4 hi)
  exact key _ x0 x1 x2 x3 x4 (Nat.lt_succ_self _) hG h0
def gh_M5 (F : (Int → Int → Int → Int → Int → gh_M → Prop) → Int → Int → Int → Int → Int → gh_M → Prop) (x0 : Int) (x1 : Int) (x2 : Int) (x3 : Int) (x4 : Int) (m : gh_M) : Prop := ∃ (I : Int → Int → Int → Int → Int → gh_M → Prop) (μ : Int → Int → Int → Int → Int → gh_M → Nat), I x0 x1 x2 x3 x4 m ∧ ∀ (x0 : Int) (x1 : Int) (x2 : Int) (x3 : Int) (x4 : Int) (m : gh_M), I x0 x1 x2 x3 x4 m → F (fun x0' x1' x2' x3' x4' m' => I x0' x1' x2' x3' x4' m' ∧ μ x0' x1' x2' x3' x4' m' < μ x0 x1 x2 x3 x4 m) x0 x1 x2 x3 x4 m
theorem gh_M5_sound {T : Int → Int → Int → Int → Int → gh_M → Prop} (G : Int → Int → Int → Int → Int → gh_M → Prop) {F : (Int → Int → Int → Int → Int → gh_M → Prop) → Int → Int → Int → Int → Int → gh_M → Prop} (hb : ∀ (K : Int → Int → Int → Int → Int → gh_M → Prop) (x0 : Int) (x1 : Int) (x2 : Int) (x3 : Int) (x4 : Int) (m : gh_M), (∀ (x0 : Int) (x1 : Int) (x2 : Int) (x3 : Int) (x4 : Int) (m : gh_M), G x0 x1 x2 x3 x4 m → K x0 x1 x2 x3 x4 m → T x0 x1 x2 x3 x4 m) → G x0 x1 x2 x3 x4 m → F K x0 x1 x2 x3 x4 m → T x0 x1 x2 x3 x4 m) (x0 : Int) (x1 : Int) (x2 : Int) (x3 : Int) (x4 : Int) (m : gh_M) (hG : G x0 x1 x2 x3 x4 m) (h : gh_M5 F x0 x1 x2 x3 x4 m) : T x0 x1 x2 x3 x4 m := by
  obtain ⟨I, μ, h0, hs⟩ := h
  have key : ∀ (n : Nat) (x0 : Int) (x1 : Int) (x2 : Int) (x3 : Int) (x4 : Int) (m : gh_M), μ x0 x1 x2 x3 x4 m < n → G x0 x1 x2 x3 x4 m → I x0 x1 x2 x3 x4 m → T x0 x1 x2 x3 x4 m := by
    intro n
    induction n with
    | zero => intro x0 x1 x2 x3 x4 m hm; exact absurd hm (Nat.not_lt_zero _)
    | succ n ih =>
      intro x0 x1 x2 x3 x4 m hm hg hi
      exact hb _ x0 x1 x2 x3 x4 m (fun x0' x1' x2' x3' x4' m' hg2 hk => ih x0' x1' x2' x3' x4' m' (Nat.lt_of_lt_of_le hk.2 (Nat.le_of_lt_succ hm)) hg2 hk.1) hg (hs x0 x1 x2 x3 x4 m hi)
  exact key _ x0 x1 x2 x3 x4 m (Nat.lt_succ_self _) hG h0
def gh_L6 (F : (Int → Int → Int → Int → Int → Int → Prop) → Int → Int → Int → Int → Int → Int → Prop) (x0 : Int) (x1 : Int) (x2 : Int) (x3 : Int) (x4 : Int) (x5 : Int) : Prop := ∃ (I : Int → Int → Int → Int → Int → Int → Prop) (μ : Int → Int → Int → Int → Int → Int → Nat), I x0 x1 x2 x3 x4 x5 ∧ ∀ (x0 : Int) (x1 : Int) (x2 : Int) (x3 : Int) (x4 : Int) (x5 : Int), I x0 x1 x2 x3 x4 x5 → F (fun x0' x1' x2' x3' x4' x5' => I x0' x1' x2' x3' x4' x5' ∧ μ x0' x1' x2' x3' x4' x5' < μ x0 x1 x2 x3 x4 x5) x0 x1 x2 x3 x4 x5
theorem gh_L6_sound {T : Int → Int → Int → Int → Int → Int → Prop} (G : Int → Int → Int → Int → Int → Int → Prop) {F : (Int → Int → Int → Int → Int → Int → Prop) → Int → Int → Int → Int → Int → Int → Prop} (hb : ∀ (K : Int → Int → Int → Int → Int → Int → Prop) (x0 : Int) (x1 : Int) (x2 : Int) (x3 : Int) (x4 : Int) (x5 : Int), (∀ (x0 : Int) (x1 : Int) (x2 : Int) (x3 : Int) (x4 : Int) (x5 : Int), G x0 x1 x2 x3 x4 x5 → K x0 x1 x2 x3 x4 x5 → T x0 x1 x2 x3 x4 x5) → G x0 x1 x2 x3 x4 x5 → F K x0 x1 x2 x3 x4 x5 → T x0 x1 x2 x3 x4 x5) (x0 : Int) (x1 : Int) (x2 : Int) (x3 : Int) (x4 : Int) (x5 : Int) (hG : G x0 x1 x2 x3 x4 x5) (h : gh_L6 F x0 x1 x2 x3 x4 x5) : T x0 x1 x2 x3 x4 x5 := by
  obtain ⟨I, μ, h0, hs⟩ := h
  have key : ∀ (n : Nat) (x0 : Int) (x1 : Int) (x2 : Int) (x3 : Int) (x4 : Int) (x5 : Int), μ x0 x1 x2 x3 x4 x5 < n → G x0 x1 x2 x3 x4 x5 → I x0 x1 x2 x3 x4 x5 → T x0 x1 x2 x3 x4 x5 := by
    intro n
    induction n with
    | zero => intro x0 x1 x2 x3 x4 x5 hm; exact absurd hm (Nat.not_lt_zero _)
    | succ n ih =>
      intro x0 x1 x2 x3 x4 x5 hm hg hi
      exact hb _ x0 x1 x2 x3 x4 x5 (fun x0' x1' x2' x3' x4' x5' hg2 hk => ih x0' x1' x2' x3' x4' x5' (Nat.lt_of_lt_of_le hk.2 (Nat.le_of_lt_succ hm)) hg2 hk.1) hg (hs x0 x1 x2 x3 x4 x5 hi)
  exact key _ x0 x1 x2 x3 x4 x5 (Nat.lt_succ_self _) hG h0
def gh_M6 (F : (Int → Int → Int → Int → Int → Int → gh_M → Prop) → Int → Int → Int → Int → Int → Int → gh_M → Prop) (x0 : Int) (x1 : Int) (x2 : Int) (x3 : Int) (x4 : Int) (x5 : Int) (m : gh_M) : Prop := ∃ (I : Int → Int → Int → Int → Int → Int → gh_M → Prop) (μ : Int → Int → Int → Int → Int → Int → gh_M → Nat), I x0 x1 x2 x3 x4 x5 m ∧ ∀ (x0 : Int) (x1 : Int) (x2 : Int) (x3 : Int) (x4 : Int) (x5 : Int) (m : gh_M), I x0 x1 x2 x3 x4 x5 m → F (fun x0' x1' x2' x3' x4' x5' m' => I x0' x1' x2' x3' x4' x5' m' ∧ μ x0' x1' x2' x3' x4' x5' m' < μ x0 x1 x2 x3 x4 x5 m) x0 x1 x2 x3 x4 x5 m
theorem gh_M6_sound {T : Int → Int → Int → Int → Int → Int → gh_M → Prop} (G : Int → Int → Int → Int → Int → Int → gh_M → Prop) {F : (Int → Int → Int → Int → Int → Int → gh_M → Prop) → Int → Int → Int → Int → Int → Int → gh_M → Prop} (hb : ∀ (K : Int → Int → Int → Int → Int → Int → gh_M → Prop) (x0 : Int) (x1 : Int) (x2 : Int) (x3 : Int) (x4 : Int) (x5 : Int) (m : gh_M), (∀ (x0 : Int) (x1 : Int) (x2 : Int) (x3 : Int) (x4 : Int) (x5 : Int) (m : gh_M), G x0 x1 x2 x3 x4 x5 m → K x0 x1 x2 x3 x4 x5 m → T x0 x1 x2 x3 x4 x5 m) → G x0 x1 x2 x3 x4 x5 m → F K x0 x1 x2 x3 x4 x5 m → T x0 x1 x2 x3 x4 x5 m) (x0 : Int) (x1 : Int) (x2 : Int) (x3 : Int) (x4 : Int) (x5 : Int) (m : gh_M) (hG : G x0 x1 x2 x3 x4 x5 m) (h : gh_M6 F x0 x1 x2 x3 x4 x5 m) : T x0 x1 x2 x3 x4 x5 m := by
  obtain ⟨I, μ, h0, hs⟩ := h
  have key : ∀ (n : Nat) (x0 : Int) (x1 : Int) (x2 : Int) (x3 : Int) (x4 : Int) (x5 : Int) (m : gh_M), μ x0 x1 x2 x3 x4 x5 m < n → G x0 x1 x2 x3 x4 x5 m → I x0 x1 x2 x3 x4 x5 m → T x0 x1 x2 x3 x4 x5 m := by
    intro n
    induction n with
    | zero => intro x0 x1 x2 x3 x4 x5 m hm; exact absurd hm (Nat.not_lt_zero _)
    | succ n ih =>
      intro x0 x1 x2 x3 x4 x5 m hm hg hi
      exact hb _ x0 x1 x2 x3 x4 x5 m (fun x0' x1' x2' x3' x4' x5' m' hg2 hk => ih x0' x1' x2' x3' x4' x5' m' (Nat.lt_of_lt_of_le hk.2 (Nat.le_of_lt_succ hm)) hg2 hk.1) hg (hs x0 x1 x2 x3 x4 x5 m hi)
  exact key _ x0 x1 x2 x3 x4 x5 m (Nat.lt_succ_self _) hG h0
def gh_L7 (F : (Int → Int → Int → Int → Int → Int → Int → Prop) → Int → Int → Int → Int → Int → Int → Int → Prop) (x0 : Int) (x1 : Int) (x2 : Int) (x3 : Int) (x4 : Int) (x5 : Int) (x6 : Int) : Prop := ∃ (I : Int → Int → Int → Int → Int → Int → Int → Prop) (μ : Int → Int → Int → Int → Int → Int → Int → Nat), I x0 x1 x2 x3 x4 x5 x6 ∧ ∀ (x0 : Int) (x1 : Int) (x2 : Int) (x3 : Int) (x4 : Int) (x5 : Int) (x6 : Int), I x0 x1 x2 x3 x4 x5 x6 → F (fun x0' x1' x2' x3' x4' x5' x6' => I x0' x1' x2' x3' x4' x5' x6' ∧ μ x0' x1' x2' x3' x4' x5' x6' < μ x0 x1 x2 x3 x4 x5 x6) x0 x1 x2 x3 x4 x5 x6
theorem gh_L7_sound {T : Int → Int → Int → Int → Int → Int → Int → Prop} (G : Int → Int → Int → Int → Int → Int → Int → Prop) {F : (Int → Int → Int → Int → Int → Int → Int → Prop) → Int → Int → Int → Int → Int → Int → Int → Prop} (hb : ∀ (K : Int → Int → Int → Int → Int → Int → Int → Prop) (x0 : Int) (x1 : Int) (x2 : Int) (x3 : Int) (x4 : Int) (x5 : Int) (x6 : Int), (∀ (x0 : Int) (x1 : Int) (x2 : Int) (x3 : Int) (x4 : Int) (x5 : Int) (x6 : Int), G x0 x1 x2 x3 x4 x5 x6 → K x0 x1 x2 x3 x4 x5 x6 → T x0 x1 x2 x3 x4 x5 x6) → G x0 x1 x2 x3 x4 x5 x6 → F K x0 x1 x2 x3 x4 x5 x6 → T x0 x1 x2 x3 x4 x5 x6) (x0 : Int) (x1 : Int) (x2 : Int) (x3 : Int) (x4 : Int) (x5 : Int) (x6 : Int) (hG : G x0 x1 x2 x3 x4 x5 x6) (h : gh_L7 F x0 x1 x2 x3 x4 x5 x6) : T x0 x1 x2 x3 x4 x5 x6 := by
  obtain ⟨I, μ, h0, hs⟩ := h
  have key : ∀ (n : Nat) (x0 : Int) (x1 : Int) (x2 : Int) (x3 : Int) (x4 : Int) (x5 : Int) (x6 : Int), μ x0 x1 x2 x3 x4 x5 x6 < n → G x0 x1 x2 x3 x4 x5 x6 → I x0 x1 x2 x3 x4 x5 x6 → T x0 x1 x2 x3 x4 x5 x6 := by
    intro n
    induction n with
    | zero => intro x0 x1 x2 x3 x4 x5 x6 hm; exact absurd hm (Nat.not_lt_zero _)
    | succ n ih =>
      intro x0 x1 x2 x3 x4 x5 x6 hm hg hi
      exact hb _ x0 x1 x2 x3 x4 x5 x6 (fun x0' x1' x2' x3' x4' x5' x6' hg2 hk => ih x0' x1' x2' x3' x4' x5' x6' (Nat.lt_of_lt_of_le hk.2 (Nat.le_of_lt_succ hm)) hg2 hk.1) hg (hs x0 x1 x2 x3 x4 x5 x6 hi)
  exact key _ x0 x1 x2 x3 x4 x5 x6 (Nat.lt_succ_self _) hG h0
def gh_M7 (F : (Int → Int → Int → Int → Int → Int → Int → gh_M → Prop) → Int → Int → Int → Int → Int → Int → Int → gh_M → Prop) (x0 : Int) (x1 : Int) (x2 : Int) (x3 : Int) (x4 : Int) (x5 : Int) (x6 : Int) (m : gh_M) : Prop := ∃ (I : Int → Int → Int → Int → Int → Int → Int → gh_M → Prop) (μ : Int → Int → Int → Int → Int → Int → Int → gh_M → Nat), I x0 x1 x2 x3 x4 x5 x6 m ∧ ∀ (x0 : Int) (x1 : Int) (x2 : Int) (x3 : Int) (x4 : Int) (x5 : Int) (x6 : Int) (m : gh_M), I x0 x1 x2 x3 x4 x5 x6 m → F (fun x0' x1' x2' x3' x4' x5' x6' m' => I x0' x1' x2' x3' x4' x5' x6' m' ∧ μ x0' x1' x2' x3' x4' x5' x6' m' < μ x0 x1 x2 x3 x4 x5 x6 m) x0 x1 x2 x3 x4 x5 x6 m
theorem gh_M7_sound {T : Int → Int → Int → Int → Int → Int → Int → gh_M → Prop} (G : Int → Int → Int → Int → Int → Int → Int → gh_M → Prop) {F : (Int → Int → Int → Int → Int → Int → Int → gh_M → Prop) → Int → Int → Int → Int → Int → Int → Int → gh_M → Prop} (hb : ∀ (K : Int → Int → Int → Int → Int → Int → Int → gh_M → Prop) (x0 : Int) (x1 : Int) (x2 : Int) (x3 : Int) (x4 : Int) (x5 : Int) (x6 : Int) (m : gh_M), (∀ (x0 : Int) (x1 : Int) (x2 : Int) (x3 : Int) (x4 : Int) (x5 : Int) (x6 : Int) (m : gh_M), G x0 x1 x2 x3 x4 x5 x6 m → K x0 x1 x2 x3 x4 x5 x6 m → T x0 x1 x2 x3 x4 x5 x6 m) → G x0 x1 x2 x3 x4 x5 x6 m → F K x0 x1 x2 x3 x4 x5 x6 m → T x0 x1 x2 x3 x4 x5 x6 m) (x0 : Int) (x1 : Int) (x2 : Int) (x3 : Int) (x4 : Int) (x5 : Int) (x6 : Int) (m : gh_M) (hG : G x0 x1 x2 x3 x4 x5 x6 m) (h : gh_M7 F x0 x1 x2 x3 x4 x5 x6 m) : T x0 x1 x2 x3 x4 x5 x6 m := by
  obtain ⟨I, μ, h0, hs⟩ := h
  have key : ∀ (n : Nat) (x0 : Int) (x1 : Int) (x2 : Int) (x3 : Int) (x4 : Int) (x5 : Int) (x6 : Int) (m : gh_M), μ x0 x1 x2 x3 x4 x5 x6 m < n → G x0 x1 x2 x3 x4 x5 x6 m → I x0 x1 x2 x3 x4 x5 x6 m → T x0 x1 x2 x3 x4 x5 x6 m := by
    intro n
    induction n with
    | zero => intro x0 x1 x2 x3 x4 x5 x6 m hm; exact absurd hm (Nat.not_lt_zero _)
    | succ n ih =>
      intro x0 x1 x2 x3 x4 x5 x6 m hm hg hi
      exact hb _ x0 x1 x2 x3 x4 x5 x6 m (fun x0' x1' x2' x3' x4' x5' x6' m' hg2 hk => ih x0' x1' x2' x3' x4' x5' x6' m' (Nat.lt_of_lt_of_le hk.2 (Nat.le_of_lt_succ hm)) hg2 hk.1) hg (hs x0 x1 x2 x3 x4 x5 x6 m hi)
  exact key _ x0 x1 x2 x3 x4 x5 x6 m (Nat.lt_succ_self _) hG h0
def gh_L8 (F : (Int → Int → Int → Int → Int → Int → Int → Int → Prop) → Int → Int → Int → Int → Int → Int → Int → Int → Prop) (x0 : Int) (x1 : Int) (x2 : Int) (x3 : Int) (x4 : Int) (x5 : Int) (x6 : Int) (x7 : Int) : Prop := ∃ (I : Int → Int → Int → Int → Int → Int → Int → Int → Prop) (μ : Int → Int → Int → Int → Int → Int → Int → Int → Nat), I x0 x1 x2 x3 x4 x5 x6 x7 ∧ ∀ (x0 : Int) (x1 : Int) (x2 : Int) (x3 : Int) (x4 : Int) (x5 : Int) (x6 : Int) (x7 : Int), I x0 x1 x2 x3 x4 x5 x6 x7 → F (fun x0' x1' x2' x3' x4' x5' x6' x7' => I x0' x1' x2' x3' x4' x5' x6' x7' ∧ μ x0' x1' x2' x3' x4' x5' x6' x7' < μ x0 x1 x2 x3 x4 x5 x6 x7) x0 x1 x2 x3 x4 x5 x6 x7
theorem gh_L8_sound {T : Int → Int → Int → Int → Int → Int → Int → Int → Prop} (G : Int → Int → Int → Int → Int → Int → Int → Int → Prop) {F : (Int → Int → Int → Int → Int → Int → Int → Int → Prop) → Int → Int → Int → Int → Int → Int → Int → Int → Prop} (hb : ∀ (K : Int → Int → Int → Int → Int → Int → Int → Int → Prop) (x0 : Int) (x1 : Int) (x2 : Int) (x3 : Int) (x4 : Int) (x5 : Int) (x6 : Int) (x7 : Int), (∀ (x0 : Int) (x1 : Int) (x2 : Int) (x3 : Int) (x4 : Int) (x5 : Int) (x6 : Int) (x7 : Int), G x0 x1 x2 x3 x4 x5 x6 x7 → K x0 x1 x2 x3 x4 x5 x6 x7 → T x0 x1 x2 x3 x4 x5 x6 x7) → G x0 x1 x2 x3 x4 x5 x6 x7 → F K x0 x1 x2 x3 x4 x5 x6 x7 → T x0 x1 x2 x3 x4 x5 x6 x7) (x0 : Int) (x1 : Int) (x2 : Int) (x3 : Int) (x4 : Int) (x5 : Int) (x6 : Int) (x7 : Int) (hG : G x0 x1 x2 x3 x4 x5 x6 x7) (h : gh_L8 F x0 x1 x2 x3 x4 x5 x6 x7) : T x0 x1 x2 x3 x4 x5 x6 x7 := by
  obtain ⟨I, μ, h0, hs⟩ := h
  have key : ∀ (n : Nat) (x0 : Int) (x1 : Int) (x2 : Int) (x3 : Int) (x4 : Int) (x5 : Int) (x6 : Int) (x7 : Int), μ x0 x1 x2 x3 x4 x5 x6 x7 < n → G x0 x1 x2 x3 x4 x5 x6 x7 → I x0 x1 x2 x3 x4 x5 x6 x7 → T x0 x1 x2 x3 x4 x5 x6 x7 := by
    intro n
    induction n with
    | zero => intro x0 x1 x2 x3 x4 x5 x6 x7 hm; exact absurd hm (Nat.not_lt_zero _)
    | succ n ih =>
      intro x0 x1 x2 x3 x4 x5 x6 x7 hm hg hi
      exact hb _ x0 x1 x2 x3 x4 x5 x6 x7 (fun x0' x1' x2' x3' x4' x5' x6' x7' hg2 hk => ih x0' x1' x2' x3' x4' x5' x6' x7' (Nat.lt_of_lt_of_le hk.2 (Nat.le_of_lt_succ hm)) hg2 hk.1) hg (hs x0 x1 x2 x3 x4 x5 x6 x7 hi)
  exact key _ x0 x1 x2 x3 x4 x5 x6 x7 (Nat.lt_succ_self _) hG h0
def gh_M8 (F : (Int → Int → Int → Int → Int → Int → Int → Int → gh_M → Prop) → Int → Int → Int → Int → Int → Int → Int → Int → gh_M → Prop) (x0 : Int) (x1 : Int) (x2 : Int) (x3 : Int) (x4 : Int) (x5 : Int) (x6 : Int) (x7 : Int) (m : gh_M) : Prop := ∃ (I : Int → Int → Int → Int → Int → Int → Int → Int → gh_M → Prop) (μ : Int → Int → Int → Int → Int → Int → Int → Int → gh_M → Nat), I x0 x1 x2 x3 x4 x5 x6 x7 m ∧ ∀ (x0 : Int) (x1 : Int) (x2 : Int) (x3 : Int) (x4 : Int) (x5 : Int) (x6 : Int) (x7 : Int) (m : gh_M), I x0 x1 x2 x3 x4 x5 x6 x7 m → F (fun x0' x1' x2' x3' x4' x5' x6' x7' m' => I x0' x1' x2' x3' x4' x5' x6' x7' m' ∧ μ x0' x1' x2' x3' x4' x5' x6' x7' m' < μ x0 x1 x2 x3 x4 x5 x6 x7 m) x0 x1 x2 x3 x4 x5 x6 x7 m
theorem gh_M8_sound {T : Int → Int → Int → Int → Int → Int → Int → Int → gh_M → Prop} (G : Int → Int → Int → Int → Int → Int → Int → Int → gh_M → Prop) {F : (Int → Int → Int → Int → Int → Int → Int → Int → gh_M → Prop) → Int → Int → Int → Int → Int → Int → Int → Int → gh_M → Prop} (hb : ∀ (K : Int → Int → Int → Int → Int → Int → Int → Int → gh_M → Prop) (x0 : Int) (x1 : Int) (x2 : Int) (x3 : Int) (x4 : Int) (x5 : Int) (x6 : Int) (x7 : Int) (m : gh_M), (∀ (x0 : Int) (x1 : Int) (x2 : Int) (x3 : Int) (x4 : Int) (x5 : Int) (x6 : Int) (x7 : Int) (m : gh_M), G x0 x1 x2 x3 x4 x5 x6 x7 m → K x0 x1 x2 x3 x4 x5 x6 x7 m → T x0 x1 x2 x3 x4 x5 x6 x7 m) → G x0 x1 x2 x3 x4 x5 x6 x7 m → F K x0 x1 x2 x3 x4 x5 x6 x7 m → T x0 x1 x2 x3 x4 x5 x6 x7 m) (x0 : Int) (x1 : Int) (x2 : Int) (x3 : Int) (x4 : Int) (x5 : Int) (x6 : Int) (x7 : Int) (m : gh_M) (hG : G x0 x1 x2 x3 x4 x5 x6 x7 m) (h : gh_M8 F x0 x1 x2 x3 x4 x5 x6 x7 m) : T x0 x1 x2 x3 x4 x5 x6 x7 m := by
  obtain ⟨I, μ, h0, hs⟩ := h
  have key : ∀ (n : Nat) (x0 : Int) (x1 : Int) (x2 : Int) (x3 : Int) (x4 : Int) (x5 : Int) (x6 : Int) (x7 : Int) (m : gh_M), μ x0 x1 x2 x3 x4 x5 x6 x7 m < n → G x0 x1 x2 x3 x4 x5 x6 x7 m → I x0 x1 x2 x3 x4 x5 x6 x7 m → T x0 x1 x2 x3 x4 x5 x6 x7 m := by
    intro n
    induction n with
    | zero => intro x0 x1 x2 x3 x4 x5 x6 x7 m hm; exact absurd hm (Nat.not_lt_zero _)
    | succ n ih =>
      intro x0 x1 x2 x3 x4 x5 x6 x7 m hm hg hi
      exact hb _ x0 x1 x2 x3 x4 x5 x6 x7 m (fun x0' x1' x2' x3' x4' x5' x6' x7' m' hg2 hk => ih x0' x1' x2' x3' x4' x5' x6' x7' m' (Nat.lt_of_lt_of_le hk.2 (Nat.le_of_lt_succ hm)) hg2 hk.1) hg (hs x0 x1 x2 x3 x4 x5 x6 x7 m hi)
  exact key _ x0 x1 x2 x3 x4 x5 x6 x7 m (Nat.lt_succ_self _) hG h0
def gh_L9 (F : (Int → Int → Int → Int → Int → Int → Int → Int → Int → Prop) → Int → Int → Int → Int → Int → Int → Int → Int → Int → Prop) (x0 : Int) (x1 : Int) (x2 : Int) (x3 : Int) (x4 : Int) (x5 : Int) (x6 : Int) (x7 : Int) (x8 : Int) : Prop := ∃ (I : Int → Int → Int → Int → Int → Int → Int → Int → Int → Prop) (μ : Int → Int → Int → Int → Int → Int → Int → Int → Int → Nat), I x0 x1 x2 x3 x4 x5 x6 x7 x8 ∧ ∀ (x0 : Int) (x1 : Int) (x2 : Int) (x3 : Int) (x4 : Int) (x5 : Int) (x6 : Int) (x7 : Int) (x8 : Int), I x0 x1 x2 x3 x4 x5 x6 x7 x8 → F (fun x0' x1' x2' x3' x4' x5' x6' x7' x8' => I x0' x1' x2' x3' x4' x5' x6' x7' x8' ∧ μ x0' x1' x2' x3' x4' x5' x6' x7' x8' < μ x0 x1 x2 x3 x4 x5 x6 x7 x8) x0 x1 x2 x3 x4 x5 x6 x7 x8
theorem gh_L9_sound {T : Int → Int → Int → Int → Int → Int → Int → Int → Int → Prop} (G : Int → Int → Int → Int → Int → Int → Int → Int → Int → Prop) {F : (Int → Int → Int → Int → Int → Int → Int → Int → Int → Prop) → Int → Int → Int → Int → Int → Int → Int → Int → Int → Prop} (hb : ∀ (K : Int → Int → Int → Int → Int → Int → Int → Int → Int → Prop) (x0 : Int) (x1 : Int) (x2 : Int) (x3 : Int) (x4 : Int) (x5 : Int) (x6 : Int) (x7 : Int) (x8 : Int), (∀ (x0 : Int) (x1 : Int) (x2 : Int) (x3 : Int) (x4 : Int) (x5 : Int) (x6 : Int) (x7 : Int) (x8 : Int), G x0 x1 x2 x3 x4 x5 x6 x7 x8 → K x0 x1 x2 x3 x4 x5 x6 x7 x8 → T x0 x1 x2 x3 x4 x5 x6 x7 x8) → G x0 x1 x2 x3 x4 x5 x6 x7 x8 → F K x0 x1 x2 x3 x4 x5 x6 x7 x8 → T x0 x1 x2 x3 x4 x5 x6 x7 x8) (x0 : Int) (x1 : Int) (x2 : Int) (x3 : Int) (x4 : Int) (x5 : Int) (x6 : Int) (x7 : Int) (x8 : Int) (hG : G x0 x1 x2 x3 x4 x5 x6 x7 x8) (h : gh_L9 F x0 x1 x2 x3 x4 x5 x6 x7 x8) : T x0 x1 x2 x3 x4 x5 x6 x7 x8 := by
  obtain ⟨I, μ, h0, hs⟩ := h
  have key : ∀ (n : Nat) (x0 : Int) (x1 : Int) (x2 : Int) (x3 : Int) (x4 : Int) (x5 : Int) (x6 : Int) (x7 : Int) (x8 : Int), μ x0 x1 x2 x3 x4 x5 x6 x7 x8 < n → G x0 x1 x2 x3 x4 x5 x6 x7 x8 → I x0 x1 x2 x3 x4 x5 x6 x7 x8 → T x0 x1 x2 x3 x4 x5 x6 x7 x8 := by
    intro n
    induction n with
    | zero => intro x0 x1 x2 x3 x4 x5 x6 x7 x8 hm; exact absurd hm (Nat.not_lt_zero _)
    | succ n ih =>
      intro x0 x1 x2 x3 x4 x5 x6 x7 x8 hm hg hi
      exact hb _ x0 x1 x2 x3 x4 x5 x6 x7 x8 (fun x0' x1' x2' x3' x4' x5' x6' x7' x8' hg2 hk => ih x0' x1' x2' x3' x4' x5' x6' x7' x8' (Nat.lt_of_lt_of_le hk.2 (Nat.le_of_lt_succ hm)) hg2 hk.1) hg (hs x0 x1 x2 x3 x4 x5 x6 x7 x8 hi)
  exact key _ x0 x1 x2 x3 x4 x5 x6 x7 x8 (Nat.lt_succ_self _) hG h0
def gh_M9 (F : (Int → Int → Int → Int → Int → Int → Int → Int → Int → gh_M → Prop) → Int → Int → Int → Int → Int → Int → Int → Int → Int → gh_M → Prop) (x0 : Int) (x1 : Int) (x2 : Int) (x3 : Int) (x4 : Int) (x5 : Int) (x6 : Int) (x7 : Int) (x8 : Int) (m : gh_M) : Prop := ∃ (I : Int → Int → Int → Int → Int → Int → Int → Int → Int → gh_M → Prop) (μ : Int → Int → Int → Int → Int → Int → Int → Int → Int → gh_M → Nat), I x0 x1 x2 x3 x4 x5 x6 x7 x8 m ∧ ∀ (x0 : Int) (x1 : Int) (x2 : Int) (x3 : Int) (x4 : Int) (x5 : Int) (x6 : Int) (x7 : Int) (x8 : Int) (m : gh_M), I x0 x1 x2 x3 x4 x5 x6 x7 x8 m → F (fun x0' x1' x2' x3' x4' x5' x6' x7' x8' m' => I x0' x1' x2' x3' x4' x5' x6' x7' x8' m' ∧ μ x0' x1' x2' x3' x4' x5' x6' x7' x8' m' < μ x0 x1 x2 x3 x4 x5 x6 x7 x8 m) x0 x1 x2 x3 x4 x5 x6 x7 x8 m
theorem gh_M9_sound {T : Int → Int → Int → Int → Int → Int → Int → Int → Int → gh_M → Prop} (G : Int → Int → Int → Int → Int → Int → Int → Int → Int → gh_M → Prop) {F : (Int → Int → Int → Int → Int → Int → Int → Int → Int → gh_M → Prop) → Int → Int → Int → Int → Int → Int → Int → Int → Int → gh_M → Prop} (hb : ∀ (K : Int → Int → Int → Int → Int → Int → Int → Int → Int → gh_M → Prop) (x0 : Int) (x1 : Int) (x2 : Int) (x3 : Int) (x4 : Int) (x5 : Int) (x6 : Int) (x7 : Int) (x8 : Int) (m : gh_M), (∀ (x0 : Int) (x1 : Int) (x2 : Int) (x3 : Int) (x4 : Int) (x5 : Int) (x6 : Int) (x7 : Int) (x8 : Int) (m : gh_M), G x0 x1 x2 x3 x4 x5 x6 x7 x8 m → K x0 x1 x2 x3 x4 x5 x6 x7 x8 m → T x0 x1 x2 x3 x4 x5 x6 x7 x8 m) → G x0 x1 x2 x3 x4 x5 x6 x7 x8 m → F K x0 x1 x2 x3 x4 x5 x6 x7 x8 m → T x0 x1 x2 x3 x4 x5 x6 x7 x8 m) (x0 : Int) (x1 : Int) (x2 : Int) (x3 : Int) (x4 : Int) (x5 : Int) (x6 : Int) (x7 : Int) (x8 : Int) (m : gh_M) (hG : G x0 x1 x2 x3 x4 x5 x6 x7 x8 m) (h : gh_M9 F x0 x1 x2 x3 x4 x5 x6 x7 x8 m) : T x0 x1 x2 x3 x4 x5 x6 x7 x8 m := by
  obtain ⟨I, μ, h0, hs⟩ := h
  have key : ∀ (n : Nat) (x0 : Int) (x1 : Int) (x2 : Int) (x3 : Int) (x4 : Int) (x5 : Int) (x6 : Int) (x7 : Int) (x8 : Int) (m : gh_M), μ x0 x1 x2 x3 x4 x5 x6 x7 x8 m < n → G x0 x1 x2 x3 x4 x5 x6 x7 x8 m → I x0 x1 x2 x3 x4 x5 x6 x7 x8 m → T x0 x1 x2 x3 x4 x5 x6 x7 x8 m := by
    intro n
    induction n with
    | zero => intro x0 x1 x2 x3 x4 x5 x6 x7 x8 m hm; exact absurd hm (Nat.not_lt_zero _)
    | succ n ih =>
      intro x0 x1 x2 x3 x4 x5 x6 x7 x8 m hm hg hi
      exact hb _ x0 x1 x2 x3 x4 x5 x6 x7 x8 m (fun x0' x1' x2' x3' x4' x5' x6' x7' x8' m' hg2 hk => ih x0' x1' x2' x3' x4' x5' x6' x7' x8' m' (Nat.lt_of_lt_of_le hk.2 (Nat.le_of_lt_succ hm)) hg2 hk.1) hg (hs x0 x1 x2 x3 x4 x5 x6 x7 x8 m hi)
  exact key _ x0 x1 x2 x3 x4 x5 x6 x7 x8 m (Nat.lt_succ_self _) hG h0
section G8
variable {E : gh_E} {M : gh_I} {d pc idx : Nat} {L : gh_Ls} {st : gh_St} {m : gh_M} {Q : Int → gh_M → Prop}
theorem ga_2 (hF : gh_F m) : gh_isA m 2 (10 + (11 : Nat)) ∧ m 0 (2 * 2 + 1) = 11 := ⟨⟨by decide, (by have := hF.2; omega), gh_Fx hF 0 rfl⟩, gh_Fx hF 1 rfl⟩
theorem gf_2_0 (hd : decode M.2.1 pc = .ok (.getfield idx, 3)) (hw : Cond.fieldLink M.1 idx "GrammarHouse" "tape" "LGrammarHouse$Tape;" ∈ gh_tb) (hF : gh_F m) (kk : gh_T E M d (pc + 3) L ((2, 3) :: st) m Q) : gh_T E M d pc L ((2, 2) :: st) m Q := gh_get (k := 0) hd gh_ck11 (ga_2 hF).1 (ga_2 hF).2 (by decide) hw rfl (gh_top (gh_Fx hF 196 rfl) kk)
theorem gf_2_1 (hd : decode M.2.1 pc = .ok (.getfield idx, 3)) (hw : Cond.fieldLink M.1 idx "GrammarHouse" "reader" "LGrammarHouse$Reader;" ∈ gh_tb) (hF : gh_F m) (kk : gh_T E M d (pc + 3) L ((2, 5) :: st) m Q) : gh_T E M d pc L ((2, 2) :: st) m Q := gh_get (k := 1) hd gh_ck11 (ga_2 hF).1 (ga_2 hF).2 (by decide) hw rfl (gh_top (gh_Fx hF 197 rfl) kk)
theorem gf_2_2 (hd : decode M.2.1 pc = .ok (.getfield idx, 3)) (hw : Cond.fieldLink M.1 idx "GrammarHouse" "grammar" "LGrammarHouse$Grammar;" ∈ gh_tb) (hF : gh_F m) (kk : gh_T E M d (pc + 3) L ((2, 13) :: st) m Q) : gh_T E M d pc L ((2, 2) :: st) m Q := gh_get (k := 2) hd gh_ck11 (ga_2 hF).1 (ga_2 hF).2 (by decide) hw rfl (gh_top (gh_Fx hF 198 rfl) kk)
theorem gf_2_3 (hd : decode M.2.1 pc = .ok (.getfield idx, 3)) (hw : Cond.fieldLink M.1 idx "GrammarHouse" "facts" "LGrammarHouse$Facts;" ∈ gh_tb) (hF : gh_F m) (kk : gh_T E M d (pc + 3) L ((2, 20) :: st) m Q) : gh_T E M d pc L ((2, 2) :: st) m Q := gh_get (k := 3) hd gh_ck11 (ga_2 hF).1 (ga_2 hF).2 (by decide) hw rfl (gh_top (gh_Fx hF 199 rfl) kk)
theorem gf_2_4 (hd : decode M.2.1 pc = .ok (.getfield idx, 3)) (hw : Cond.fieldLink M.1 idx "GrammarHouse" "text" "LGrammarHouse$Text;" ∈ gh_tb) (hF : gh_F m) (kk : gh_T E M d (pc + 3) L ((2, 26) :: st) m Q) : gh_T E M d pc L ((2, 2) :: st) m Q := gh_get (k := 4) hd gh_ck11 (ga_2 hF).1 (ga_2 hF).2 (by decide) hw rfl (gh_top (gh_Fx hF 200 rfl) kk)
theorem gf_2_5 (hd : decode M.2.1 pc = .ok (.getfield idx, 3)) (hw : Cond.fieldLink M.1 idx "GrammarHouse" "chart" "LGrammarHouse$Chart;" ∈ gh_tb) (hF : gh_F m) (kk : gh_T E M d (pc + 3) L ((2, 30) :: st) m Q) : gh_T E M d pc L ((2, 2) :: st) m Q := gh_get (k := 5) hd gh_ck11 (ga_2 hF).1 (ga_2 hF).2 (by decide) hw rfl (gh_top (gh_Fx hF 201 rfl) kk)
theorem gf_2_6 (hd : decode M.2.1 pc = .ok (.getfield idx, 3)) (hw : Cond.fieldLink M.1 idx "GrammarHouse" "wants" "LGrammarHouse$Wants;" ∈ gh_tb) (hF : gh_F m) (kk : gh_T E M d (pc + 3) L ((2, 36) :: st) m Q) : gh_T E M d pc L ((2, 2) :: st) m Q := gh_get (k := 6) hd gh_ck11 (ga_2 hF).1 (ga_2 hF).2 (by decide) hw rfl (gh_top (gh_Fx hF 202 rfl) kk)
theorem gf_2_7 (hd : decode M.2.1 pc = .ok (.getfield idx, 3)) (hw : Cond.fieldLink M.1 idx "GrammarHouse" "forest" "LGrammarHouse$Forest;" ∈ gh_tb) (hF : gh_F m) (kk : gh_T E M d (pc + 3) L ((2, 41) :: st) m Q) : gh_T E M d pc L ((2, 2) :: st) m Q := gh_get (k := 7) hd gh_ck11 (ga_2 hF).1 (ga_2 hF).2 (by decide) hw rfl (gh_top (gh_Fx hF 203 rfl) kk)
theorem gf_2_8 (hd : decode M.2.1 pc = .ok (.getfield idx, 3)) (hw : Cond.fieldLink M.1 idx "GrammarHouse" "picker" "LGrammarHouse$Picker;" ∈ gh_tb) (hF : gh_F m) (kk : gh_T E M d (pc + 3) L ((2, 47) :: st) m Q) : gh_T E M d pc L ((2, 2) :: st) m Q := gh_get (k := 8) hd gh_ck11 (ga_2 hF).1 (ga_2 hF).2 (by decide) hw rfl (gh_top (gh_Fx hF 204 rfl) kk)
theorem gf_2_9 (hd : decode M.2.1 pc = .ok (.getfield idx, 3)) (hw : Cond.fieldLink M.1 idx "GrammarHouse" "leanest" "LGrammarHouse$Proper;" ∈ gh_tb) (hF : gh_F m) (kk : gh_T E M d (pc + 3) L ((2, 58) :: st) m Q) : gh_T E M d pc L ((2, 2) :: st) m Q := gh_get (k := 9) hd gh_ck11 (ga_2 hF).1 (ga_2 hF).2 (by decide) hw rfl (gh_top (gh_Fx hF 205 rfl) kk)
theorem gf_2_10 {x : Int} (hd : decode M.2.1 pc = .ok (.getfield idx, 3)) (hw : Cond.fieldLink M.1 idx "GrammarHouse" "hasGrammar" "Z" ∈ gh_tb) (hF : gh_F m) (e : m 2 10 = x) (kk : gh_T E M d (pc + 3) L ((0, x) :: st) m Q) : gh_T E M d pc L ((2, 2) :: st) m Q := gh_get (k := 10) hd gh_ck11 (ga_2 hF).1 (ga_2 hF).2 (by decide) hw rfl (gh_top e kk)
theorem gw_2_10 : ∀ e ∈ gh_fix, ¬ (e.1 = 2 ∧ e.2.1 = 10) := by
  have h : gh_fix.all (fun e => !(e.1 == 2 && e.2.1 == 10)) = true := by decide +kernel
  intro e he z
  have := List.all_eq_true.mp h e he
  rw [z.1, z.2] at this
  exact absurd this (by decide)
theorem pf_2_10 {v : Int} (hd : decode M.2.1 pc = .ok (.putfield idx, 3)) (hw : Cond.fieldLink M.1 idx "GrammarHouse" "hasGrammar" "Z" ∈ gh_tb) (hF : gh_F m) (hv : v = 0 ∨ v = 1) (kk : gh_F (gh_u m 2 10 v) → gh_T E M d (pc + 3) L st (gh_u m 2 10 v) Q) : gh_T E M d pc L ((0, v) :: (2, 2) :: st) m Q := gh_put (k := 10) hd gh_ck11 (ga_2 hF).1 (by decide) hw rfl (fun _ => hv) (Or.inl rfl) (kk (gh_Fu hF (by decide) gw_2_10))
theorem ga_3 (hF : gh_F m) : gh_isA m 3 (10 + (8 : Nat)) ∧ m 0 (2 * 3 + 1) = 5 := ⟨⟨by decide, (by have := hF.2; omega), gh_Fx hF 2 rfl⟩, gh_Fx hF 3 rfl⟩
theorem gf_3_0 (hd : decode M.2.1 pc = .ok (.getfield idx, 3)) (hw : Cond.fieldLink M.1 idx "GrammarHouse$Tape" "signs" "[I" ∈ gh_tb) (hF : gh_F m) (kk : gh_T E M d (pc + 3) L ((2, 4) :: st) m Q) : gh_T E M d pc L ((2, 3) :: st) m Q := gh_get (k := 0) hd gh_ck8 (ga_3 hF).1 (ga_3 hF).2 (by decide) hw rfl (gh_top (gh_Fx hF 182 rfl) kk)
theorem gf_3_1 {x : Int} (hd : decode M.2.1 pc = .ok (.getfield idx, 3)) (hw : Cond.fieldLink M.1 idx "GrammarHouse$Tape" "count" "I" ∈ gh_tb) (hF : gh_F m) (e : m 3 1 = x) (kk : gh_T E M d (pc + 3) L ((0, x) :: st) m Q) : gh_T E M d pc L ((2, 3) :: st) m Q := gh_get (k := 1) hd gh_ck8 (ga_3 hF).1 (ga_3 hF).2 (by decide) hw rfl (gh_top e kk)
theorem gw_3_1 : ∀ e ∈ gh_fix, ¬ (e.1 = 3 ∧ e.2.1 = 1) := by
  have h : gh_fix.all (fun e => !(e.1 == 3 && e.2.1 == 1)) = true := by decide +kernel
  intro e he z
  have := List.all_eq_true.mp h e he
  rw [z.1, z.2] at this
  exact absurd this (by decide)
theorem pf_3_1 {v : Int} (hd : decode M.2.1 pc = .ok (.putfield idx, 3)) (hw : Cond.fieldLink M.1 idx "GrammarHouse$Tape" "count" "I" ∈ gh_tb) (hF : gh_F m) (kk : gh_F (gh_u m 3 1 v) → gh_T E M d (pc + 3) L st (gh_u m 3 1 v) Q) : gh_T E M d pc L ((0, v) :: (2, 3) :: st) m Q := gh_put (k := 1) hd gh_ck8 (ga_3 hF).1 (by decide) hw rfl (fun z => by cases z) (Or.inl rfl) (kk (gh_Fu hF (by decide) gw_3_1))
theorem gf_3_2 {x : Int} (hd : decode M.2.1 pc = .ok (.getfield idx, 3)) (hw : Cond.fieldLink M.1 idx "GrammarHouse$Tape" "kind" "I" ∈ gh_tb) (hF : gh_F m) (e : m 3 2 = x) (kk : gh_T E M d (pc + 3) L ((0, x) :: st) m Q) : gh_T E M d pc L ((2, 3) :: st) m Q := gh_get (k := 2) hd gh_ck8 (ga_3 hF).1 (ga_3 hF).2 (by decide) hw rfl (gh_top e kk)
theorem gw_3_2 : ∀ e ∈ gh_fix, ¬ (e.1 = 3 ∧ e.2.1 = 2) := by
  have h : gh_fix.all (fun e => !(e.1 == 3 && e.2.1 == 2)) = true := by decide +kernel
  intro e he z
  have := List.all_eq_true.mp h e he
  rw [z.1, z.2] at this
  exact absurd this (by decide)
theorem pf_3_2 {v : Int} (hd : decode M.2.1 pc = .ok (.putfield idx, 3)) (hw : Cond.fieldLink M.1 idx "GrammarHouse$Tape" "kind" "I" ∈ gh_tb) (hF : gh_F m) (kk : gh_F (gh_u m 3 2 v) → gh_T E M d (pc + 3) L st (gh_u m 3 2 v) Q) : gh_T E M d pc L ((0, v) :: (2, 3) :: st) m Q := gh_put (k := 2) hd gh_ck8 (ga_3 hF).1 (by decide) hw rfl (fun z => by cases z) (Or.inl rfl) (kk (gh_Fu hF (by decide) gw_3_2))
theorem gf_3_3 {x : Int} (hd : decode M.2.1 pc = .ok (.getfield idx, 3)) (hw : Cond.fieldLink M.1 idx "GrammarHouse$Tape" "place" "I" ∈ gh_tb) (hF : gh_F m) (e : m 3 3 = x) (kk : gh_T E M d (pc + 3) L ((0, x) :: st) m Q) : gh_T E M d pc L ((2, 3) :: st) m Q := gh_get (k := 3) hd gh_ck8 (ga_3 hF).1 (ga_3 hF).2 (by decide) hw rfl (gh_top e kk)
theorem gw_3_3 : ∀ e ∈ gh_fix, ¬ (e.1 = 3 ∧ e.2.1 = 3) := by
  have h : gh_fix.all (fun e => !(e.1 == 3 && e.2.1 == 3)) = true := by decide +kernel
  intro e he z
  have := List.all_eq_true.mp h e he
  rw [z.1, z.2] at this
  exact absurd this (by decide)
theorem pf_3_3 {v : Int} (hd : decode M.2.1 pc = .ok (.putfield idx, 3)) (hw : Cond.fieldLink M.1 idx "GrammarHouse$Tape" "place" "I" ∈ gh_tb) (hF : gh_F m) (kk : gh_F (gh_u m 3 3 v) → gh_T E M d (pc + 3) L st (gh_u m 3 3 v) Q) : gh_T E M d pc L ((0, v) :: (2, 3) :: st) m Q := gh_put (k := 3) hd gh_ck8 (ga_3 hF).1 (by decide) hw rfl (fun z => by cases z) (Or.inl rfl) (kk (gh_Fu hF (by decide) gw_3_3))
theorem gf_3_4 {x : Int} (hd : decode M.2.1 pc = .ok (.getfield idx, 3)) (hw : Cond.fieldLink M.1 idx "GrammarHouse$Tape" "behind" "I" ∈ gh_tb) (hF : gh_F m) (e : m 3 4 = x) (kk : gh_T E M d (pc + 3) L ((0, x) :: st) m Q) : gh_T E M d pc L ((2, 3) :: st) m Q := gh_get (k := 4) hd gh_ck8 (ga_3 hF).1 (ga_3 hF).2 (by decide) hw rfl (gh_top e kk)
theorem gw_3_4 : ∀ e ∈ gh_fix, ¬ (e.1 = 3 ∧ e.2.1 = 4) := by
  have h : gh_fix.all (fun e => !(e.1 == 3 && e.2.1 == 4)) = true := by decide +kernel
  intro e he z
  have := List.all_eq_true.mp h e he
  rw [z.1, z.2] at this
  exact absurd this (by decide)
theorem pf_3_4 {v : Int} (hd : decode M.2.1 pc = .ok (.putfield idx, 3)) (hw : Cond.fieldLink M.1 idx "GrammarHouse$Tape" "behind" "I" ∈ gh_tb) (hF : gh_F m) (kk : gh_F (gh_u m 3 4 v) → gh_T E M d (pc + 3) L st (gh_u m 3 4 v) Q) : gh_T E M d pc L ((0, v) :: (2, 3) :: st) m Q := gh_put (k := 4) hd gh_ck8 (ga_3 hF).1 (by decide) hw rfl (fun z => by cases z) (Or.inl rfl) (kk (gh_Fu hF (by decide) gw_3_4))
theorem ga_4 (hF : gh_F m) : gh_isA m 4 (1) ∧ m 0 (2 * 4 + 1) = 240 := ⟨⟨by decide, (by have := hF.2; omega), gh_Fx hF 4 rfl⟩, gh_Fx hF 5 rfl⟩
theorem gn_4 : ∀ e ∈ gh_fix, e.1 ≠ 4 := by
  have h : gh_fix.all (fun e => !(e.1 == 4)) = true := by decide +kernel
  intro e he z
  have := List.all_eq_true.mp h e he
  rw [z] at this
  exact absurd this (by decide)
theorem la_4 {i x : Int} (hd : decode M.2.1 pc = .ok (.iaload, 1)) (hF : gh_F m) (h0 : 0 ≤ i) (h1 : i < 240) (e : m 4 i = x) (kk : gh_T E M d (pc + 1) L ((0, x) :: st) m Q) : gh_T E M d pc L ((0, i) :: (2, 4) :: st) m Q := gh_iald hd (ga_4 hF).1 h0 (by rw [(ga_4 hF).2]; exact h1) (gh_top e kk)
theorem sa_4 {i v : Int} (hd : decode M.2.1 pc = .ok (.iastore, 1)) (hF : gh_F m) (h0 : 0 ≤ i) (h1 : i < 240) (kk : gh_F (gh_u m 4 i v) → gh_T E M d (pc + 1) L st (gh_u m 4 i v) Q) : gh_T E M d pc L ((0, v) :: (0, i) :: (2, 4) :: st) m Q := gh_iast hd (ga_4 hF).1 h0 (by rw [(ga_4 hF).2]; exact h1) (kk (gh_Fu hF (by decide) (fun e he z => gn_4 e he z.1)))
theorem ll_4 (hd : decode M.2.1 pc = .ok (.arraylength, 1)) (hF : gh_F m) (kk : gh_T E M d (pc + 1) L ((0, 240) :: st) m Q) : gh_T E M d pc L ((2, 4) :: st) m Q := gh_alen hd (ga_4 hF).1 (by decide) (gh_top (ga_4 hF).2 kk)
theorem ga_5 (hF : gh_F m) : gh_isA m 5 (10 + (7 : Nat)) ∧ m 0 (2 * 5 + 1) = 9 := ⟨⟨by decide, (by have := hF.2; omega), gh_Fx hF 6 rfl⟩, gh_Fx hF 7 rfl⟩
theorem gf_5_0 (hd : decode M.2.1 pc = .ok (.getfield idx, 3)) (hw : Cond.fieldLink M.1 idx "GrammarHouse$Reader" "draft" "LGrammarHouse$Draft;" ∈ gh_tb) (hF : gh_F m) (kk : gh_T E M d (pc + 3) L ((2, 6) :: st) m Q) : gh_T E M d pc L ((2, 5) :: st) m Q := gh_get (k := 0) hd gh_ck7 (ga_5 hF).1 (ga_5 hF).2 (by decide) hw rfl (gh_top (gh_Fx hF 178 rfl) kk)
theorem gf_5_1 {x : Int} (hd : decode M.2.1 pc = .ok (.getfield idx, 3)) (hw : Cond.fieldLink M.1 idx "GrammarHouse$Reader" "fault" "I" ∈ gh_tb) (hF : gh_F m) (e : m 5 1 = x) (kk : gh_T E M d (pc + 3) L ((0, x) :: st) m Q) : gh_T E M d pc L ((2, 5) :: st) m Q := gh_get (k := 1) hd gh_ck7 (ga_5 hF).1 (ga_5 hF).2 (by decide) hw rfl (gh_top e kk)
theorem gw_5_1 : ∀ e ∈ gh_fix, ¬ (e.1 = 5 ∧ e.2.1 = 1) := by
  have h : gh_fix.all (fun e => !(e.1 == 5 && e.2.1 == 1)) = true := by decide +kernel
  intro e he z
  have := List.all_eq_true.mp h e he
  rw [z.1, z.2] at this
  exact absurd this (by decide)
theorem pf_5_1 {v : Int} (hd : decode M.2.1 pc = .ok (.putfield idx, 3)) (hw : Cond.fieldLink M.1 idx "GrammarHouse$Reader" "fault" "I" ∈ gh_tb) (hF : gh_F m) (kk : gh_F (gh_u m 5 1 v) → gh_T E M d (pc + 3) L st (gh_u m 5 1 v) Q) : gh_T E M d pc L ((0, v) :: (2, 5) :: st) m Q := gh_put (k := 1) hd gh_ck7 (ga_5 hF).1 (by decide) hw rfl (fun z => by cases z) (Or.inl rfl) (kk (gh_Fu hF (by decide) gw_5_1))
theorem gf_5_2 {x : Int} (hd : decode M.2.1 pc = .ok (.getfield idx, 3)) (hw : Cond.fieldLink M.1 idx "GrammarHouse$Reader" "place" "I" ∈ gh_tb) (hF : gh_F m) (e : m 5 2 = x) (kk : gh_T E M d (pc + 3) L ((0, x) :: st) m Q) : gh_T E M d pc L ((2, 5) :: st) m Q := gh_get (k := 2) hd gh_ck7 (ga_5 hF).1 (ga_5 hF).2 (by decide) hw rfl (gh_top e kk)
theorem gw_5_2 : ∀ e ∈ gh_fix, ¬ (e.1 = 5 ∧ e.2.1 = 2) := by
  have h : gh_fix.all (fun e => !(e.1 == 5 && e.2.1 == 2)) = true := by decide +kernel
  intro e he z
  have := List.all_eq_true.mp h e he
  rw [z.1, z.2] at this
  exact absurd this (by decide)
theorem pf_5_2 {v : Int} (hd : decode M.2.1 pc = .ok (.putfield idx, 3)) (hw : Cond.fieldLink M.1 idx "GrammarHouse$Reader" "place" "I" ∈ gh_tb) (hF : gh_F m) (kk : gh_F (gh_u m 5 2 v) → gh_T E M d (pc + 3) L st (gh_u m 5 2 v) Q) : gh_T E M d pc L ((0, v) :: (2, 5) :: st) m Q := gh_put (k := 2) hd gh_ck7 (ga_5 hF).1 (by decide) hw rfl (fun z => by cases z) (Or.inl rfl) (kk (gh_Fu hF (by decide) gw_5_2))
theorem gf_5_3 (hd : decode M.2.1 pc = .ok (.getfield idx, 3)) (hw : Cond.fieldLink M.1 idx "GrammarHouse$Reader" "tape" "LGrammarHouse$Tape;" ∈ gh_tb) (hF : gh_F m) (kk : gh_T E M d (pc + 3) L ((2, 3) :: st) m Q) : gh_T E M d pc L ((2, 5) :: st) m Q := gh_get (k := 3) hd gh_ck7 (ga_5 hF).1 (ga_5 hF).2 (by decide) hw rfl (gh_top (gh_Fx hF 179 rfl) kk)
theorem gf_5_4 {x : Int} (hd : decode M.2.1 pc = .ok (.getfield idx, 3)) (hw : Cond.fieldLink M.1 idx "GrammarHouse$Reader" "stage" "I" ∈ gh_tb) (hF : gh_F m) (e : m 5 4 = x) (kk : gh_T E M d (pc + 3) L ((0, x) :: st) m Q) : gh_T E M d pc L ((2, 5) :: st) m Q := gh_get (k := 4) hd gh_ck7 (ga_5 hF).1 (ga_5 hF).2 (by decide) hw rfl (gh_top e kk)
theorem gw_5_4 : ∀ e ∈ gh_fix, ¬ (e.1 = 5 ∧ e.2.1 = 4) := by
  have h : gh_fix.all (fun e => !(e.1 == 5 && e.2.1 == 4)) = true := by decide +kernel
  intro e he z
  have := List.all_eq_true.mp h e he
  rw [z.1, z.2] at this
  exact absurd this (by decide)
theorem pf_5_4 {v : Int} (hd : decode M.2.1 pc = .ok (.putfield idx, 3)) (hw : Cond.fieldLink M.1 idx "GrammarHouse$Reader" "stage" "I" ∈ gh_tb) (hF : gh_F m) (kk : gh_F (gh_u m 5 4 v) → gh_T E M d (pc + 3) L st (gh_u m 5 4 v) Q) : gh_T E M d pc L ((0, v) :: (2, 5) :: st) m Q := gh_put (k := 4) hd gh_ck7 (ga_5 hF).1 (by decide) hw rfl (fun z => by cases z) (Or.inl rfl) (kk (gh_Fu hF (by decide) gw_5_4))
theorem gf_5_5 {x : Int} (hd : decode M.2.1 pc = .ok (.getfield idx, 3)) (hw : Cond.fieldLink M.1 idx "GrammarHouse$Reader" "level" "I" ∈ gh_tb) (hF : gh_F m) (e : m 5 5 = x) (kk : gh_T E M d (pc + 3) L ((0, x) :: st) m Q) : gh_T E M d pc L ((2, 5) :: st) m Q := gh_get (k := 5) hd gh_ck7 (ga_5 hF).1 (ga_5 hF).2 (by decide) hw rfl (gh_top e kk)
theorem gw_5_5 : ∀ e ∈ gh_fix, ¬ (e.1 = 5 ∧ e.2.1 = 5) := by
  have h : gh_fix.all (fun e => !(e.1 == 5 && e.2.1 == 5)) = true := by decide +kernel
  intro e he z
  have := List.all_eq_true.mp h e he
  rw [z.1, z.2] at this
  exact absurd this (by decide)
theorem pf_5_5 {v : Int} (hd : decode M.2.1 pc = .ok (.putfield idx, 3)) (hw : Cond.fieldLink M.1 idx "GrammarHouse$Reader" "level" "I" ∈ gh_tb) (hF : gh_F m) (kk : gh_F (gh_u m 5 5 v) → gh_T E M d (pc + 3) L st (gh_u m 5 5 v) Q) : gh_T E M d pc L ((0, v) :: (2, 5) :: st) m Q := gh_put (k := 5) hd gh_ck7 (ga_5 hF).1 (by decide) hw rfl (fun z => by cases z) (Or.inl rfl) (kk (gh_Fu hF (by decide) gw_5_5))
theorem gf_5_6 {x : Int} (hd : decode M.2.1 pc = .ok (.getfield idx, 3)) (hw : Cond.fieldLink M.1 idx "GrammarHouse$Reader" "atom" "I" ∈ gh_tb) (hF : gh_F m) (e : m 5 6 = x) (kk : gh_T E M d (pc + 3) L ((0, x) :: st) m Q) : gh_T E M d pc L ((2, 5) :: st) m Q := gh_get (k := 6) hd gh_ck7 (ga_5 hF).1 (ga_5 hF).2 (by decide) hw rfl (gh_top e kk)
theorem gw_5_6 : ∀ e ∈ gh_fix, ¬ (e.1 = 5 ∧ e.2.1 = 6) := by
  have h : gh_fix.all (fun e => !(e.1 == 5 && e.2.1 == 6)) = true := by decide +kernel
  intro e he z
  have := List.all_eq_true.mp h e he
  rw [z.1, z.2] at this
  exact absurd this (by decide)
theorem pf_5_6 {v : Int} (hd : decode M.2.1 pc = .ok (.putfield idx, 3)) (hw : Cond.fieldLink M.1 idx "GrammarHouse$Reader" "atom" "I" ∈ gh_tb) (hF : gh_F m) (kk : gh_F (gh_u m 5 6 v) → gh_T E M d (pc + 3) L st (gh_u m 5 6 v) Q) : gh_T E M d pc L ((0, v) :: (2, 5) :: st) m Q := gh_put (k := 6) hd gh_ck7 (ga_5 hF).1 (by decide) hw rfl (fun z => by cases z) (Or.inl rfl) (kk (gh_Fu hF (by decide) gw_5_6))
theorem gf_5_7 (hd : decode M.2.1 pc = .ok (.getfield idx, 3)) (hw : Cond.fieldLink M.1 idx "GrammarHouse$Reader" "rowSize" "[I" ∈ gh_tb) (hF : gh_F m) (kk : gh_T E M d (pc + 3) L ((2, 11) :: st) m Q) : gh_T E M d pc L ((2, 5) :: st) m Q := gh_get (k := 7) hd gh_ck7 (ga_5 hF).1 (ga_5 hF).2 (by decide) hw rfl (gh_top (gh_Fx hF 180 rfl) kk)
theorem gf_5_8 (hd : decode M.2.1 pc = .ok (.getfield idx, 3)) (hw : Cond.fieldLink M.1 idx "GrammarHouse$Reader" "row" "[I" ∈ gh_tb) (hF : gh_F m) (kk : gh_T E M d (pc + 3) L ((2, 12) :: st) m Q) : gh_T E M d pc L ((2, 5) :: st) m Q := gh_get (k := 8) hd gh_ck7 (ga_5 hF).1 (ga_5 hF).2 (by decide) hw rfl (gh_top (gh_Fx hF 181 rfl) kk)
theorem ga_6 (hF : gh_F m) : gh_isA m 6 (10 + (1 : Nat)) ∧ m 0 (2 * 6 + 1) = 7 := ⟨⟨by decide, (by have := hF.2; omega), gh_Fx hF 8 rfl⟩, gh_Fx hF 9 rfl⟩
theorem gf_6_0 (hd : decode M.2.1 pc = .ok (.getfield idx, 3)) (hw : Cond.fieldLink M.1 idx "GrammarHouse$Draft" "keys" "[I" ∈ gh_tb) (hF : gh_F m) (kk : gh_T E M d (pc + 3) L ((2, 7) :: st) m Q) : gh_T E M d pc L ((2, 6) :: st) m Q := gh_get (k := 0) hd gh_ck1 (ga_6 hF).1 (ga_6 hF).2 (by decide) hw rfl (gh_top (gh_Fx hF 136 rfl) kk)
theorem gf_6_1 {x : Int} (hd : decode M.2.1 pc = .ok (.getfield idx, 3)) (hw : Cond.fieldLink M.1 idx "GrammarHouse$Draft" "told" "I" ∈ gh_tb) (hF : gh_F m) (e : m 6 1 = x) (kk : gh_T E M d (pc + 3) L ((0, x) :: st) m Q) : gh_T E M d pc L ((2, 6) :: st) m Q := gh_get (k := 1) hd gh_ck1 (ga_6 hF).1 (ga_6 hF).2 (by decide) hw rfl (gh_top e kk)
theorem gw_6_1 : ∀ e ∈ gh_fix, ¬ (e.1 = 6 ∧ e.2.1 = 1) := by
  have h : gh_fix.all (fun e => !(e.1 == 6 && e.2.1 == 1)) = true := by decide +kernel
  intro e he z
  have := List.all_eq_true.mp h e he
  rw [z.1, z.2] at this
  exact absurd this (by decide)
theorem pf_6_1 {v : Int} (hd : decode M.2.1 pc = .ok (.putfield idx, 3)) (hw : Cond.fieldLink M.1 idx "GrammarHouse$Draft" "told" "I" ∈ gh_tb) (hF : gh_F m) (kk : gh_F (gh_u m 6 1 v) → gh_T E M d (pc + 3) L st (gh_u m 6 1 v) Q) : gh_T E M d pc L ((0, v) :: (2, 6) :: st) m Q := gh_put (k := 1) hd gh_ck1 (ga_6 hF).1 (by decide) hw rfl (fun z => by cases z) (Or.inl rfl) (kk (gh_Fu hF (by decide) gw_6_1))
theorem gf_6_2 {x : Int} (hd : decode M.2.1 pc = .ok (.getfield idx, 3)) (hw : Cond.fieldLink M.1 idx "GrammarHouse$Draft" "made" "I" ∈ gh_tb) (hF : gh_F m) (e : m 6 2 = x) (kk : gh_T E M d (pc + 3) L ((0, x) :: st) m Q) : gh_T E M d pc L ((2, 6) :: st) m Q := gh_get (k := 2) hd gh_ck1 (ga_6 hF).1 (ga_6 hF).2 (by decide) hw rfl (gh_top e kk)
theorem gw_6_2 : ∀ e ∈ gh_fix, ¬ (e.1 = 6 ∧ e.2.1 = 2) := by
  have h : gh_fix.all (fun e => !(e.1 == 6 && e.2.1 == 2)) = true := by decide +kernel
  intro e he z
  have := List.all_eq_true.mp h e he
  rw [z.1, z.2] at this
  exact absurd this (by decide)
theorem pf_6_2 {v : Int} (hd : decode M.2.1 pc = .ok (.putfield idx, 3)) (hw : Cond.fieldLink M.1 idx "GrammarHouse$Draft" "made" "I" ∈ gh_tb) (hF : gh_F m) (kk : gh_F (gh_u m 6 2 v) → gh_T E M d (pc + 3) L st (gh_u m 6 2 v) Q) : gh_T E M d pc L ((0, v) :: (2, 6) :: st) m Q := gh_put (k := 2) hd gh_ck1 (ga_6 hF).1 (by decide) hw rfl (fun z => by cases z) (Or.inl rfl) (kk (gh_Fu hF (by decide) gw_6_2))
theorem gf_6_3 {x : Int} (hd : decode M.2.1 pc = .ok (.getfield idx, 3)) (hw : Cond.fieldLink M.1 idx "GrammarHouse$Draft" "rules" "I" ∈ gh_tb) (hF : gh_F m) (e : m 6 3 = x) (kk : gh_T E M d (pc + 3) L ((0, x) :: st) m Q) : gh_T E M d pc L ((2, 6) :: st) m Q := gh_get (k := 3) hd gh_ck1 (ga_6 hF).1 (ga_6 hF).2 (by decide) hw rfl (gh_top e kk)
theorem gw_6_3 : ∀ e ∈ gh_fix, ¬ (e.1 = 6 ∧ e.2.1 = 3) := by
  have h : gh_fix.all (fun e => !(e.1 == 6 && e.2.1 == 3)) = true := by decide +kernel
  intro e he z
  have := List.all_eq_true.mp h e he
  rw [z.1, z.2] at this
  exact absurd this (by decide)
theorem pf_6_3 {v : Int} (hd : decode M.2.1 pc = .ok (.putfield idx, 3)) (hw : Cond.fieldLink M.1 idx "GrammarHouse$Draft" "rules" "I" ∈ gh_tb) (hF : gh_F m) (kk : gh_F (gh_u m 6 3 v) → gh_T E M d (pc + 3) L st (gh_u m 6 3 v) Q) : gh_T E M d pc L ((0, v) :: (2, 6) :: st) m Q := gh_put (k := 3) hd gh_ck1 (ga_6 hF).1 (by decide) hw rfl (fun z => by cases z) (Or.inl rfl) (kk (gh_Fu hF (by decide) gw_6_3))
theorem gf_6_4 (hd : decode M.2.1 pc = .ok (.getfield idx, 3)) (hw : Cond.fieldLink M.1 idx "GrammarHouse$Draft" "owner" "[I" ∈ gh_tb) (hF : gh_F m) (kk : gh_T E M d (pc + 3) L ((2, 8) :: st) m Q) : gh_T E M d pc L ((2, 6) :: st) m Q := gh_get (k := 4) hd gh_ck1 (ga_6 hF).1 (ga_6 hF).2 (by decide) hw rfl (gh_top (gh_Fx hF 137 rfl) kk)
theorem gf_6_5 (hd : decode M.2.1 pc = .ok (.getfield idx, 3)) (hw : Cond.fieldLink M.1 idx "GrammarHouse$Draft" "size" "[I" ∈ gh_tb) (hF : gh_F m) (kk : gh_T E M d (pc + 3) L ((2, 9) :: st) m Q) : gh_T E M d pc L ((2, 6) :: st) m Q := gh_get (k := 5) hd gh_ck1 (ga_6 hF).1 (ga_6 hF).2 (by decide) hw rfl (gh_top (gh_Fx hF 138 rfl) kk)
theorem gf_6_6 (hd : decode M.2.1 pc = .ok (.getfield idx, 3)) (hw : Cond.fieldLink M.1 idx "GrammarHouse$Draft" "parts" "[I" ∈ gh_tb) (hF : gh_F m) (kk : gh_T E M d (pc + 3) L ((2, 10) :: st) m Q) : gh_T E M d pc L ((2, 6) :: st) m Q := gh_get (k := 6) hd gh_ck1 (ga_6 hF).1 (ga_6 hF).2 (by decide) hw rfl (gh_top (gh_Fx hF 139 rfl) kk)
theorem ga_7 (hF : gh_F m) : gh_isA m 7 (1) ∧ m 0 (2 * 7 + 1) = 8 := ⟨⟨by decide, (by have := hF.2; omega), gh_Fx hF 10 rfl⟩, gh_Fx hF 11 rfl⟩
theorem gn_7 : ∀ e ∈ gh_fix, e.1 ≠ 7 := by
  have h : gh_fix.all (fun e => !(e.1 == 7)) = true := by decide +kernel
  intro e he z
  have := List.all_eq_true.mp h e he
  rw [z] at this
  exact absurd this (by decide)
theorem la_7 {i x : Int} (hd : decode M.2.1 pc = .ok (.iaload, 1)) (hF : gh_F m) (h0 : 0 ≤ i) (h1 : i < 8) (e : m 7 i = x) (kk : gh_T E M d (pc + 1) L ((0, x) :: st) m Q) : gh_T E M d pc L ((0, i) :: (2, 7) :: st) m Q := gh_iald hd (ga_7 hF).1 h0 (by rw [(ga_7 hF).2]; exact h1) (gh_top e kk)
theorem sa_7 {i v : Int} (hd : decode M.2.1 pc = .ok (.iastore, 1)) (hF : gh_F m) (h0 : 0 ≤ i) (h1 : i < 8) (kk : gh_F (gh_u m 7 i v) → gh_T E M d (pc + 1) L st (gh_u m 7 i v) Q) : gh_T E M d pc L ((0, v) :: (0, i) :: (2, 7) :: st) m Q := gh_iast hd (ga_7 hF).1 h0 (by rw [(ga_7 hF).2]; exact h1) (kk (gh_Fu hF (by decide) (fun e he z => gn_7 e he z.1)))
theorem ll_7 (hd : decode M.2.1 pc = .ok (.arraylength, 1)) (hF : gh_F m) (kk : gh_T E M d (pc + 1) L ((0, 8) :: st) m Q) : gh_T E M d pc L ((2, 7) :: st) m Q := gh_alen hd (ga_7 hF).1 (by decide) (gh_top (ga_7 hF).2 kk)
theorem ga_8 (hF : gh_F m) : gh_isA m 8 (1) ∧ m 0 (2 * 8 + 1) = 20 := ⟨⟨by decide, (by have := hF.2; omega), gh_Fx hF 12 rfl⟩, gh_Fx hF 13 rfl⟩
theorem gn_8 : ∀ e ∈ gh_fix, e.1 ≠ 8 := by
  have h : gh_fix.all (fun e => !(e.1 == 8)) = true := by decide +kernel
  intro e he z
  have := List.all_eq_true.mp h e he
  rw [z] at this
  exact absurd this (by decide)
theorem la_8 {i x : Int} (hd : decode M.2.1 pc = .ok (.iaload, 1)) (hF : gh_F m) (h0 : 0 ≤ i) (h1 : i < 20) (e : m 8 i = x) (kk : gh_T E M d (pc + 1) L ((0, x) :: st) m Q) : gh_T E M d pc L ((0, i) :: (2, 8) :: st) m Q := gh_iald hd (ga_8 hF).1 h0 (by rw [(ga_8 hF).2]; exact h1) (gh_top e kk)
theorem sa_8 {i v : Int} (hd : decode M.2.1 pc = .ok (.iastore, 1)) (hF : gh_F m) (h0 : 0 ≤ i) (h1 : i < 20) (kk : gh_F (gh_u m 8 i v) → gh_T E M d (pc + 1) L st (gh_u m 8 i v) Q) : gh_T E M d pc L ((0, v) :: (0, i) :: (2, 8) :: st) m Q := gh_iast hd (ga_8 hF).1 h0 (by rw [(ga_8 hF).2]; exact h1) (kk (gh_Fu hF (by decide) (fun e he z => gn_8 e he z.1)))
theorem ll_8 (hd : decode M.2.1 pc = .ok (.arraylength, 1)) (hF : gh_F m) (kk : gh_T E M d (pc + 1) L ((0, 20) :: st) m Q) : gh_T E M d pc L ((2, 8) :: st) m Q := gh_alen hd (ga_8 hF).1 (by decide) (gh_top (ga_8 hF).2 kk)
theorem ga_9 (hF : gh_F m) : gh_isA m 9 (1) ∧ m 0 (2 * 9 + 1) = 20 := ⟨⟨by decide, (by have := hF.2; omega), gh_Fx hF 14 rfl⟩, gh_Fx hF 15 rfl⟩
theorem gn_9 : ∀ e ∈ gh_fix, e.1 ≠ 9 := by
  have h : gh_fix.all (fun e => !(e.1 == 9)) = true := by decide +kernel
  intro e he z
  have := List.all_eq_true.mp h e he
  rw [z] at this
  exact absurd this (by decide)
theorem la_9 {i x : Int} (hd : decode M.2.1 pc = .ok (.iaload, 1)) (hF : gh_F m) (h0 : 0 ≤ i) (h1 : i < 20) (e : m 9 i = x) (kk : gh_T E M d (pc + 1) L ((0, x) :: st) m Q) : gh_T E M d pc L ((0, i) :: (2, 9) :: st) m Q := gh_iald hd (ga_9 hF).1 h0 (by rw [(ga_9 hF).2]; exact h1) (gh_top e kk)
theorem sa_9 {i v : Int} (hd : decode M.2.1 pc = .ok (.iastore, 1)) (hF : gh_F m) (h0 : 0 ≤ i) (h1 : i < 20) (kk : gh_F (gh_u m 9 i v) → gh_T E M d (pc + 1) L st (gh_u m 9 i v) Q) : gh_T E M d pc L ((0, v) :: (0, i) :: (2, 9) :: st) m Q := gh_iast hd (ga_9 hF).1 h0 (by rw [(ga_9 hF).2]; exact h1) (kk (gh_Fu hF (by decide) (fun e he z => gn_9 e he z.1)))
theorem ll_9 (hd : decode M.2.1 pc = .ok (.arraylength, 1)) (hF : gh_F m) (kk : gh_T E M d (pc + 1) L ((0, 20) :: st) m Q) : gh_T E M d pc L ((2, 9) :: st) m Q := gh_alen hd (ga_9 hF).1 (by decide) (gh_top (ga_9 hF).2 kk)
theorem ga_10 (hF : gh_F m) : gh_isA m 10 (1) ∧ m 0 (2 * 10 + 1) = 80 := ⟨⟨by decide, (by have := hF.2; omega), gh_Fx hF 16 rfl⟩, gh_Fx hF 17 rfl⟩
theorem gn_10 : ∀ e ∈ gh_fix, e.1 ≠ 10 := by
  have h : gh_fix.all (fun e => !(e.1 == 10)) = true := by decide +kernel
  intro e he z
  have := List.all_eq_true.mp h e he
  rw [z] at this
  exact absurd this (by decide)
theorem la_10 {i x : Int} (hd : decode M.2.1 pc = .ok (.iaload, 1)) (hF : gh_F m) (h0 : 0 ≤ i) (h1 : i < 80) (e : m 10 i = x) (kk : gh_T E M d (pc + 1) L ((0, x) :: st) m Q) : gh_T E M d pc L ((0, i) :: (2, 10) :: st) m Q := gh_iald hd (ga_10 hF).1 h0 (by rw [(ga_10 hF).2]; exact h1) (gh_top e kk)
theorem sa_10 {i v : Int} (hd : decode M.2.1 pc = .ok (.iastore, 1)) (hF : gh_F m) (h0 : 0 ≤ i) (h1 : i < 80) (kk : gh_F (gh_u m 10 i v) → gh_T E M d (pc + 1) L st (gh_u m 10 i v) Q) : gh_T E M d pc L ((0, v) :: (0, i) :: (2, 10) :: st) m Q := gh_iast hd (ga_10 hF).1 h0 (by rw [(ga_10 hF).2]; exact h1) (kk (gh_Fu hF (by decide) (fun e he z => gn_10 e he z.1)))
theorem ll_10 (hd : decode M.2.1 pc = .ok (.arraylength, 1)) (hF : gh_F m) (kk : gh_T E M d (pc + 1) L ((0, 80) :: st) m Q) : gh_T E M d pc L ((2, 10) :: st) m Q := gh_alen hd (ga_10 hF).1 (by decide) (gh_top (ga_10 hF).2 kk)
theorem ga_11 (hF : gh_F m) : gh_isA m 11 (1) ∧ m 0 (2 * 11 + 1) = 4 := ⟨⟨by decide, (by have := hF.2; omega), gh_Fx hF 18 rfl⟩, gh_Fx hF 19 rfl⟩
theorem gn_11 : ∀ e ∈ gh_fix, e.1 ≠ 11 := by
  have h : gh_fix.all (fun e => !(e.1 == 11)) = true := by decide +kernel
  intro e he z
  have := List.all_eq_true.mp h e he
  rw [z] at this
  exact absurd this (by decide)
theorem la_11 {i x : Int} (hd : decode M.2.1 pc = .ok (.iaload, 1)) (hF : gh_F m) (h0 : 0 ≤ i) (h1 : i < 4) (e : m 11 i = x) (kk : gh_T E M d (pc + 1) L ((0, x) :: st) m Q) : gh_T E M d pc L ((0, i) :: (2, 11) :: st) m Q := gh_iald hd (ga_11 hF).1 h0 (by rw [(ga_11 hF).2]; exact h1) (gh_top e kk)
theorem sa_11 {i v : Int} (hd : decode M.2.1 pc = .ok (.iastore, 1)) (hF : gh_F m) (h0 : 0 ≤ i) (h1 : i < 4) (kk : gh_F (gh_u m 11 i v) → gh_T E M d (pc + 1) L st (gh_u m 11 i v) Q) : gh_T E M d pc L ((0, v) :: (0, i) :: (2, 11) :: st) m Q := gh_iast hd (ga_11 hF).1 h0 (by rw [(ga_11 hF).2]; exact h1) (kk (gh_Fu hF (by decide) (fun e he z => gn_11 e he z.1)))
theorem ll_11 (hd : decode M.2.1 pc = .ok (.arraylength, 1)) (hF : gh_F m) (kk : gh_T E M d (pc + 1) L ((0, 4) :: st) m Q) : gh_T E M d pc L ((2, 11) :: st) m Q := gh_alen hd (ga_11 hF).1 (by decide) (gh_top (ga_11 hF).2 kk)
theorem ga_12 (hF : gh_F m) : gh_isA m 12 (1) ∧ m 0 (2 * 12 + 1) = 16 := ⟨⟨by decide, (by have := hF.2; omega), gh_Fx hF 20 rfl⟩, gh_Fx hF 21 rfl⟩
theorem gn_12 : ∀ e ∈ gh_fix, e.1 ≠ 12 := by
  have h : gh_fix.all (fun e => !(e.1 == 12)) = true := by decide +kernel
  intro e he z
  have := List.all_eq_true.mp h e he
  rw [z] at this
  exact absurd this (by decide)
theorem la_12 {i x : Int} (hd : decode M.2.1 pc = .ok (.iaload, 1)) (hF : gh_F m) (h0 : 0 ≤ i) (h1 : i < 16) (e : m 12 i = x) (kk : gh_T E M d (pc + 1) L ((0, x) :: st) m Q) : gh_T E M d pc L ((0, i) :: (2, 12) :: st) m Q := gh_iald hd (ga_12 hF).1 h0 (by rw [(ga_12 hF).2]; exact h1) (gh_top e kk)
theorem sa_12 {i v : Int} (hd : decode M.2.1 pc = .ok (.iastore, 1)) (hF : gh_F m) (h0 : 0 ≤ i) (h1 : i < 16) (kk : gh_F (gh_u m 12 i v) → gh_T E M d (pc + 1) L st (gh_u m 12 i v) Q) : gh_T E M d pc L ((0, v) :: (0, i) :: (2, 12) :: st) m Q := gh_iast hd (ga_12 hF).1 h0 (by rw [(ga_12 hF).2]; exact h1) (kk (gh_Fu hF (by decide) (fun e he z => gn_12 e he z.1)))
theorem ll_12 (hd : decode M.2.1 pc = .ok (.arraylength, 1)) (hF : gh_F m) (kk : gh_T E M d (pc + 1) L ((0, 16) :: st) m Q) : gh_T E M d pc L ((2, 12) :: st) m Q := gh_alen hd (ga_12 hF).1 (by decide) (gh_top (ga_12 hF).2 kk)
theorem ga_13 (hF : gh_F m) : gh_isA m 13 (10 + (4 : Nat)) ∧ m 0 (2 * 13 + 1) = 9 := ⟨⟨by decide, (by have := hF.2; omega), gh_Fx hF 22 rfl⟩, gh_Fx hF 23 rfl⟩
theorem gf_13_0 {x : Int} (hd : decode M.2.1 pc = .ok (.getfield idx, 3)) (hw : Cond.fieldLink M.1 idx "GrammarHouse$Grammar" "told" "I" ∈ gh_tb) (hF : gh_F m) (e : m 13 0 = x) (kk : gh_T E M d (pc + 3) L ((0, x) :: st) m Q) : gh_T E M d pc L ((2, 13) :: st) m Q := gh_get (k := 0) hd gh_ck4 (ga_13 hF).1 (ga_13 hF).2 (by decide) hw rfl (gh_top e kk)
theorem gw_13_0 : ∀ e ∈ gh_fix, ¬ (e.1 = 13 ∧ e.2.1 = 0) := by
  have h : gh_fix.all (fun e => !(e.1 == 13 && e.2.1 == 0)) = true := by decide +kernel
  intro e he z
  have := List.all_eq_true.mp h e he
  rw [z.1, z.2] at this
  exact absurd this (by decide)
theorem pf_13_0 {v : Int} (hd : decode M.2.1 pc = .ok (.putfield idx, 3)) (hw : Cond.fieldLink M.1 idx "GrammarHouse$Grammar" "told" "I" ∈ gh_tb) (hF : gh_F m) (kk : gh_F (gh_u m 13 0 v) → gh_T E M d (pc + 3) L st (gh_u m 13 0 v) Q) : gh_T E M d pc L ((0, v) :: (2, 13) :: st) m Q := gh_put (k := 0) hd gh_ck4 (ga_13 hF).1 (by decide) hw rfl (fun z => by cases z) (Or.inl rfl) (kk (gh_Fu hF (by decide) gw_13_0))
theorem gf_13_1 {x : Int} (hd : decode M.2.1 pc = .ok (.getfield idx, 3)) (hw : Cond.fieldLink M.1 idx "GrammarHouse$Grammar" "names" "I" ∈ gh_tb) (hF : gh_F m) (e : m 13 1 = x) (kk : gh_T E M d (pc + 3) L ((0, x) :: st) m Q) : gh_T E M d pc L ((2, 13) :: st) m Q := gh_get (k := 1) hd gh_ck4 (ga_13 hF).1 (ga_13 hF).2 (by decide) hw rfl (gh_top e kk)
theorem gw_13_1 : ∀ e ∈ gh_fix, ¬ (e.1 = 13 ∧ e.2.1 = 1) := by
  have h : gh_fix.all (fun e => !(e.1 == 13 && e.2.1 == 1)) = true := by decide +kernel
  intro e he z
  have := List.all_eq_true.mp h e he
  rw [z.1, z.2] at this
  exact absurd this (by decide)
theorem pf_13_1 {v : Int} (hd : decode M.2.1 pc = .ok (.putfield idx, 3)) (hw : Cond.fieldLink M.1 idx "GrammarHouse$Grammar" "names" "I" ∈ gh_tb) (hF : gh_F m) (kk : gh_F (gh_u m 13 1 v) → gh_T E M d (pc + 3) L st (gh_u m 13 1 v) Q) : gh_T E M d pc L ((0, v) :: (2, 13) :: st) m Q := gh_put (k := 1) hd gh_ck4 (ga_13 hF).1 (by decide) hw rfl (fun z => by cases z) (Or.inl rfl) (kk (gh_Fu hF (by decide) gw_13_1))
theorem gf_13_2 {x : Int} (hd : decode M.2.1 pc = .ok (.getfield idx, 3)) (hw : Cond.fieldLink M.1 idx "GrammarHouse$Grammar" "rules" "I" ∈ gh_tb) (hF : gh_F m) (e : m 13 2 = x) (kk : gh_T E M d (pc + 3) L ((0, x) :: st) m Q) : gh_T E M d pc L ((2, 13) :: st) m Q := gh_get (k := 2) hd gh_ck4 (ga_13 hF).1 (ga_13 hF).2 (by decide) hw rfl (gh_top e kk)
theorem gw_13_2 : ∀ e ∈ gh_fix, ¬ (e.1 = 13 ∧ e.2.1 = 2) := by
  have h : gh_fix.all (fun e => !(e.1 == 13 && e.2.1 == 2)) = true := by decide +kernel
  intro e he z
  have := List.all_eq_true.mp h e he
  rw [z.1, z.2] at this
  exact absurd this (by decide)
theorem pf_13_2 {v : Int} (hd : decode M.2.1 pc = .ok (.putfield idx, 3)) (hw : Cond.fieldLink M.1 idx "GrammarHouse$Grammar" "rules" "I" ∈ gh_tb) (hF : gh_F m) (kk : gh_F (gh_u m 13 2 v) → gh_T E M d (pc + 3) L st (gh_u m 13 2 v) Q) : gh_T E M d pc L ((0, v) :: (2, 13) :: st) m Q := gh_put (k := 2) hd gh_ck4 (ga_13 hF).1 (by decide) hw rfl (fun z => by cases z) (Or.inl rfl) (kk (gh_Fu hF (by decide) gw_13_2))
theorem gf_13_3 (hd : decode M.2.1 pc = .ok (.getfield idx, 3)) (hw : Cond.fieldLink M.1 idx "GrammarHouse$Grammar" "firstRule" "[I" ∈ gh_tb) (hF : gh_F m) (kk : gh_T E M d (pc + 3) L ((2, 14) :: st) m Q) : gh_T E M d pc L ((2, 13) :: st) m Q := gh_get (k := 3) hd gh_ck4 (ga_13 hF).1 (ga_13 hF).2 (by decide) hw rfl (gh_top (gh_Fx hF 153 rfl) kk)
theorem gf_13_4 (hd : decode M.2.1 pc = .ok (.getfield idx, 3)) (hw : Cond.fieldLink M.1 idx "GrammarHouse$Grammar" "ruleCount" "[I" ∈ gh_tb) (hF : gh_F m) (kk : gh_T E M d (pc + 3) L ((2, 15) :: st) m Q) : gh_T E M d pc L ((2, 13) :: st) m Q := gh_get (k := 4) hd gh_ck4 (ga_13 hF).1 (ga_13 hF).2 (by decide) hw rfl (gh_top (gh_Fx hF 154 rfl) kk)
theorem gf_13_5 (hd : decode M.2.1 pc = .ok (.getfield idx, 3)) (hw : Cond.fieldLink M.1 idx "GrammarHouse$Grammar" "nameOfRule" "[I" ∈ gh_tb) (hF : gh_F m) (kk : gh_T E M d (pc + 3) L ((2, 16) :: st) m Q) : gh_T E M d pc L ((2, 13) :: st) m Q := gh_get (k := 5) hd gh_ck4 (ga_13 hF).1 (ga_13 hF).2 (by decide) hw rfl (gh_top (gh_Fx hF 155 rfl) kk)
theorem gf_13_6 (hd : decode M.2.1 pc = .ok (.getfield idx, 3)) (hw : Cond.fieldLink M.1 idx "GrammarHouse$Grammar" "size" "[I" ∈ gh_tb) (hF : gh_F m) (kk : gh_T E M d (pc + 3) L ((2, 17) :: st) m Q) : gh_T E M d pc L ((2, 13) :: st) m Q := gh_get (k := 6) hd gh_ck4 (ga_13 hF).1 (ga_13 hF).2 (by decide) hw rfl (gh_top (gh_Fx hF 156 rfl) kk)
theorem gf_13_7 (hd : decode M.2.1 pc = .ok (.getfield idx, 3)) (hw : Cond.fieldLink M.1 idx "GrammarHouse$Grammar" "keys" "[I" ∈ gh_tb) (hF : gh_F m) (kk : gh_T E M d (pc + 3) L ((2, 18) :: st) m Q) : gh_T E M d pc L ((2, 13) :: st) m Q := gh_get (k := 7) hd gh_ck4 (ga_13 hF).1 (ga_13 hF).2 (by decide) hw rfl (gh_top (gh_Fx hF 157 rfl) kk)
theorem gf_13_8 (hd : decode M.2.1 pc = .ok (.getfield idx, 3)) (hw : Cond.fieldLink M.1 idx "GrammarHouse$Grammar" "parts" "[I" ∈ gh_tb) (hF : gh_F m) (kk : gh_T E M d (pc + 3) L ((2, 19) :: st) m Q) : gh_T E M d pc L ((2, 13) :: st) m Q := gh_get (k := 8) hd gh_ck4 (ga_13 hF).1 (ga_13 hF).2 (by decide) hw rfl (gh_top (gh_Fx hF 158 rfl) kk)
theorem ga_14 (hF : gh_F m) : gh_isA m 14 (1) ∧ m 0 (2 * 14 + 1) = 8 := ⟨⟨by decide, (by have := hF.2; omega), gh_Fx hF 24 rfl⟩, gh_Fx hF 25 rfl⟩
theorem gn_14 : ∀ e ∈ gh_fix, e.1 ≠ 14 := by
  have h : gh_fix.all (fun e => !(e.1 == 14)) = true := by decide +kernel
  intro e he z
  have := List.all_eq_true.mp h e he
  rw [z] at this
  exact absurd this (by decide)
theorem la_14 {i x : Int} (hd : decode M.2.1 pc = .ok (.iaload, 1)) (hF : gh_F m) (h0 : 0 ≤ i) (h1 : i < 8) (e : m 14 i = x) (kk : gh_T E M d (pc + 1) L ((0, x) :: st) m Q) : gh_T E M d pc L ((0, i) :: (2, 14) :: st) m Q := gh_iald hd (ga_14 hF).1 h0 (by rw [(ga_14 hF).2]; exact h1) (gh_top e kk)
theorem sa_14 {i v : Int} (hd : decode M.2.1 pc = .ok (.iastore, 1)) (hF : gh_F m) (h0 : 0 ≤ i) (h1 : i < 8) (kk : gh_F (gh_u m 14 i v) → gh_T E M d (pc + 1) L st (gh_u m 14 i v) Q) : gh_T E M d pc L ((0, v) :: (0, i) :: (2, 14) :: st) m Q := gh_iast hd (ga_14 hF).1 h0 (by rw [(ga_14 hF).2]; exact h1) (kk (gh_Fu hF (by decide) (fun e he z => gn_14 e he z.1)))
theorem ll_14 (hd : decode M.2.1 pc = .ok (.arraylength, 1)) (hF : gh_F m) (kk : gh_T E M d (pc + 1) L ((0, 8) :: st) m Q) : gh_T E M d pc L ((2, 14) :: st) m Q := gh_alen hd (ga_14 hF).1 (by decide) (gh_top (ga_14 hF).2 kk)
theorem ga_15 (hF : gh_F m) : gh_isA m 15 (1) ∧ m 0 (2 * 15 + 1) = 8 := ⟨⟨by decide, (by have := hF.2; omega), gh_Fx hF 26 rfl⟩, gh_Fx hF 27 rfl⟩
theorem gn_15 : ∀ e ∈ gh_fix, e.1 ≠ 15 := by
  have h : gh_fix.all (fun e => !(e.1 == 15)) = true := by decide +kernel
  intro e he z
  have := List.all_eq_true.mp h e he
  rw [z] at this
  exact absurd this (by decide)
theorem la_15 {i x : Int} (hd : decode M.2.1 pc = .ok (.iaload, 1)) (hF : gh_F m) (h0 : 0 ≤ i) (h1 : i < 8) (e : m 15 i = x) (kk : gh_T E M d (pc + 1) L ((0, x) :: st) m Q) : gh_T E M d pc L ((0, i) :: (2, 15) :: st) m Q := gh_iald hd (ga_15 hF).1 h0 (by rw [(ga_15 hF).2]; exact h1) (gh_top e kk)
theorem sa_15 {i v : Int} (hd : decode M.2.1 pc = .ok (.iastore, 1)) (hF : gh_F m) (h0 : 0 ≤ i) (h1 : i < 8) (kk : gh_F (gh_u m 15 i v) → gh_T E M d (pc + 1) L st (gh_u m 15 i v) Q) : gh_T E M d pc L ((0, v) :: (0, i) :: (2, 15) :: st) m Q := gh_iast hd (ga_15 hF).1 h0 (by rw [(ga_15 hF).2]; exact h1) (kk (gh_Fu hF (by decide) (fun e he z => gn_15 e he z.1)))
theorem ll_15 (hd : decode M.2.1 pc = .ok (.arraylength, 1)) (hF : gh_F m) (kk : gh_T E M d (pc + 1) L ((0, 8) :: st) m Q) : gh_T E M d pc L ((2, 15) :: st) m Q := gh_alen hd (ga_15 hF).1 (by decide) (gh_top (ga_15 hF).2 kk)
theorem ga_16 (hF : gh_F m) : gh_isA m 16 (1) ∧ m 0 (2 * 16 + 1) = 20 := ⟨⟨by decide, (by have := hF.2; omega), gh_Fx hF 28 rfl⟩, gh_Fx hF 29 rfl⟩
theorem gn_16 : ∀ e ∈ gh_fix, e.1 ≠ 16 := by
  have h : gh_fix.all (fun e => !(e.1 == 16)) = true := by decide +kernel
  intro e he z
  have := List.all_eq_true.mp h e he
  rw [z] at this
  exact absurd this (by decide)
theorem la_16 {i x : Int} (hd : decode M.2.1 pc = .ok (.iaload, 1)) (hF : gh_F m) (h0 : 0 ≤ i) (h1 : i < 20) (e : m 16 i = x) (kk : gh_T E M d (pc + 1) L ((0, x) :: st) m Q) : gh_T E M d pc L ((0, i) :: (2, 16) :: st) m Q := gh_iald hd (ga_16 hF).1 h0 (by rw [(ga_16 hF).2]; exact h1) (gh_top e kk)
theorem sa_16 {i v : Int} (hd : decode M.2.1 pc = .ok (.iastore, 1)) (hF : gh_F m) (h0 : 0 ≤ i) (h1 : i < 20) (kk : gh_F (gh_u m 16 i v) → gh_T E M d (pc + 1) L st (gh_u m 16 i v) Q) : gh_T E M d pc L ((0, v) :: (0, i) :: (2, 16) :: st) m Q := gh_iast hd (ga_16 hF).1 h0 (by rw [(ga_16 hF).2]; exact h1) (kk (gh_Fu hF (by decide) (fun e he z => gn_16 e he z.1)))
theorem ll_16 (hd : decode M.2.1 pc = .ok (.arraylength, 1)) (hF : gh_F m) (kk : gh_T E M d (pc + 1) L ((0, 20) :: st) m Q) : gh_T E M d pc L ((2, 16) :: st) m Q := gh_alen hd (ga_16 hF).1 (by decide) (gh_top (ga_16 hF).2 kk)
theorem ga_17 (hF : gh_F m) : gh_isA m 17 (1) ∧ m 0 (2 * 17 + 1) = 20 := ⟨⟨by decide, (by have := hF.2; omega), gh_Fx hF 30 rfl⟩, gh_Fx hF 31 rfl⟩
theorem gn_17 : ∀ e ∈ gh_fix, e.1 ≠ 17 := by
  have h : gh_fix.all (fun e => !(e.1 == 17)) = true := by decide +kernel
  intro e he z
  have := List.all_eq_true.mp h e he
  rw [z] at this
  exact absurd this (by decide)
theorem la_17 {i x : Int} (hd : decode M.2.1 pc = .ok (.iaload, 1)) (hF : gh_F m) (h0 : 0 ≤ i) (h1 : i < 20) (e : m 17 i = x) (kk : gh_T E M d (pc + 1) L ((0, x) :: st) m Q) : gh_T E M d pc L ((0, i) :: (2, 17) :: st) m Q := gh_iald hd (ga_17 hF).1 h0 (by rw [(ga_17 hF).2]; exact h1) (gh_top e kk)
theorem sa_17 {i v : Int} (hd : decode M.2.1 pc = .ok (.iastore, 1)) (hF : gh_F m) (h0 : 0 ≤ i) (h1 : i < 20) (kk : gh_F (gh_u m 17 i v) → gh_T E M d (pc + 1) L st (gh_u m 17 i v) Q) : gh_T E M d pc L ((0, v) :: (0, i) :: (2, 17) :: st) m Q := gh_iast hd (ga_17 hF).1 h0 (by rw [(ga_17 hF).2]; exact h1) (kk (gh_Fu hF (by decide) (fun e he z => gn_17 e he z.1)))
theorem ll_17 (hd : decode M.2.1 pc = .ok (.arraylength, 1)) (hF : gh_F m) (kk : gh_T E M d (pc + 1) L ((0, 20) :: st) m Q) : gh_T E M d pc L ((2, 17) :: st) m Q := gh_alen hd (ga_17 hF).1 (by decide) (gh_top (ga_17 hF).2 kk)
theorem ga_18 (hF : gh_F m) : gh_isA m 18 (1) ∧ m 0 (2 * 18 + 1) = 8 := ⟨⟨by decide, (by have := hF.2; omega), gh_Fx hF 32 rfl⟩, gh_Fx hF 33 rfl⟩
theorem gn_18 : ∀ e ∈ gh_fix, e.1 ≠ 18 := by
  have h : gh_fix.all (fun e => !(e.1 == 18)) = true := by decide +kernel
  intro e he z
  have := List.all_eq_true.mp h e he
  rw [z] at this
  exact absurd this (by decide)
theorem la_18 {i x : Int} (hd : decode M.2.1 pc = .ok (.iaload, 1)) (hF : gh_F m) (h0 : 0 ≤ i) (h1 : i < 8) (e : m 18 i = x) (kk : gh_T E M d (pc + 1) L ((0, x) :: st) m Q) : gh_T E M d pc L ((0, i) :: (2, 18) :: st) m Q := gh_iald hd (ga_18 hF).1 h0 (by rw [(ga_18 hF).2]; exact h1) (gh_top e kk)
theorem sa_18 {i v : Int} (hd : decode M.2.1 pc = .ok (.iastore, 1)) (hF : gh_F m) (h0 : 0 ≤ i) (h1 : i < 8) (kk : gh_F (gh_u m 18 i v) → gh_T E M d (pc + 1) L st (gh_u m 18 i v) Q) : gh_T E M d pc L ((0, v) :: (0, i) :: (2, 18) :: st) m Q := gh_iast hd (ga_18 hF).1 h0 (by rw [(ga_18 hF).2]; exact h1) (kk (gh_Fu hF (by decide) (fun e he z => gn_18 e he z.1)))
theorem ll_18 (hd : decode M.2.1 pc = .ok (.arraylength, 1)) (hF : gh_F m) (kk : gh_T E M d (pc + 1) L ((0, 8) :: st) m Q) : gh_T E M d pc L ((2, 18) :: st) m Q := gh_alen hd (ga_18 hF).1 (by decide) (gh_top (ga_18 hF).2 kk)
theorem ga_19 (hF : gh_F m) : gh_isA m 19 (1) ∧ m 0 (2 * 19 + 1) = 80 := ⟨⟨by decide, (by have := hF.2; omega), gh_Fx hF 34 rfl⟩, gh_Fx hF 35 rfl⟩
theorem gn_19 : ∀ e ∈ gh_fix, e.1 ≠ 19 := by
  have h : gh_fix.all (fun e => !(e.1 == 19)) = true := by decide +kernel
  intro e he z
  have := List.all_eq_true.mp h e he
  rw [z] at this
  exact absurd this (by decide)
theorem la_19 {i x : Int} (hd : decode M.2.1 pc = .ok (.iaload, 1)) (hF : gh_F m) (h0 : 0 ≤ i) (h1 : i < 80) (e : m 19 i = x) (kk : gh_T E M d (pc + 1) L ((0, x) :: st) m Q) : gh_T E M d pc L ((0, i) :: (2, 19) :: st) m Q := gh_iald hd (ga_19 hF).1 h0 (by rw [(ga_19 hF).2]; exact h1) (gh_top e kk)
theorem sa_19 {i v : Int} (hd : decode M.2.1 pc = .ok (.iastore, 1)) (hF : gh_F m) (h0 : 0 ≤ i) (h1 : i < 80) (kk : gh_F (gh_u m 19 i v) → gh_T E M d (pc + 1) L st (gh_u m 19 i v) Q) : gh_T E M d pc L ((0, v) :: (0, i) :: (2, 19) :: st) m Q := gh_iast hd (ga_19 hF).1 h0 (by rw [(ga_19 hF).2]; exact h1) (kk (gh_Fu hF (by decide) (fun e he z => gn_19 e he z.1)))
theorem ll_19 (hd : decode M.2.1 pc = .ok (.arraylength, 1)) (hF : gh_F m) (kk : gh_T E M d (pc + 1) L ((0, 80) :: st) m Q) : gh_T E M d pc L ((2, 19) :: st) m Q := gh_alen hd (ga_19 hF).1 (by decide) (gh_top (ga_19 hF).2 kk)
theorem ga_20 (hF : gh_F m) : gh_isA m 20 (10 + (2 : Nat)) ∧ m 0 (2 * 20 + 1) = 11 := ⟨⟨by decide, (by have := hF.2; omega), gh_Fx hF 36 rfl⟩, gh_Fx hF 37 rfl⟩
theorem gf_20_0 (hd : decode M.2.1 pc = .ok (.getfield idx, 3)) (hw : Cond.fieldLink M.1 idx "GrammarHouse$Facts" "grammar" "LGrammarHouse$Grammar;" ∈ gh_tb) (hF : gh_F m) (kk : gh_T E M d (pc + 3) L ((2, 13) :: st) m Q) : gh_T E M d pc L ((2, 20) :: st) m Q := gh_get (k := 0) hd gh_ck2 (ga_20 hF).1 (ga_20 hF).2 (by decide) hw rfl (gh_top (gh_Fx hF 140 rfl) kk)
theorem gf_20_1 {x : Int} (hd : decode M.2.1 pc = .ok (.getfield idx, 3)) (hw : Cond.fieldLink M.1 idx "GrammarHouse$Facts" "empty" "I" ∈ gh_tb) (hF : gh_F m) (e : m 20 1 = x) (kk : gh_T E M d (pc + 3) L ((0, x) :: st) m Q) : gh_T E M d pc L ((2, 20) :: st) m Q := gh_get (k := 1) hd gh_ck2 (ga_20 hF).1 (ga_20 hF).2 (by decide) hw rfl (gh_top e kk)
theorem gw_20_1 : ∀ e ∈ gh_fix, ¬ (e.1 = 20 ∧ e.2.1 = 1) := by
  have h : gh_fix.all (fun e => !(e.1 == 20 && e.2.1 == 1)) = true := by decide +kernel
  intro e he z
  have := List.all_eq_true.mp h e he
  rw [z.1, z.2] at this
  exact absurd this (by decide)
theorem pf_20_1 {v : Int} (hd : decode M.2.1 pc = .ok (.putfield idx, 3)) (hw : Cond.fieldLink M.1 idx "GrammarHouse$Facts" "empty" "I" ∈ gh_tb) (hF : gh_F m) (kk : gh_F (gh_u m 20 1 v) → gh_T E M d (pc + 3) L st (gh_u m 20 1 v) Q) : gh_T E M d pc L ((0, v) :: (2, 20) :: st) m Q := gh_put (k := 1) hd gh_ck2 (ga_20 hF).1 (by decide) hw rfl (fun z => by cases z) (Or.inl rfl) (kk (gh_Fu hF (by decide) gw_20_1))
theorem gf_20_2 {x : Int} (hd : decode M.2.1 pc = .ok (.getfield idx, 3)) (hw : Cond.fieldLink M.1 idx "GrammarHouse$Facts" "ending" "I" ∈ gh_tb) (hF : gh_F m) (e : m 20 2 = x) (kk : gh_T E M d (pc + 3) L ((0, x) :: st) m Q) : gh_T E M d pc L ((2, 20) :: st) m Q := gh_get (k := 2) hd gh_ck2 (ga_20 hF).1 (ga_20 hF).2 (by decide) hw rfl (gh_top e kk)
theorem gw_20_2 : ∀ e ∈ gh_fix, ¬ (e.1 = 20 ∧ e.2.1 = 2) := by
  have h : gh_fix.all (fun e => !(e.1 == 20 && e.2.1 == 2)) = true := by decide +kernel
  intro e he z
  have := List.all_eq_true.mp h e he
  rw [z.1, z.2] at this
  exact absurd this (by decide)
theorem pf_20_2 {v : Int} (hd : decode M.2.1 pc = .ok (.putfield idx, 3)) (hw : Cond.fieldLink M.1 idx "GrammarHouse$Facts" "ending" "I" ∈ gh_tb) (hF : gh_F m) (kk : gh_F (gh_u m 20 2 v) → gh_T E M d (pc + 3) L st (gh_u m 20 2 v) Q) : gh_T E M d pc L ((0, v) :: (2, 20) :: st) m Q := gh_put (k := 2) hd gh_ck2 (ga_20 hF).1 (by decide) hw rfl (fun z => by cases z) (Or.inl rfl) (kk (gh_Fu hF (by decide) gw_20_2))
theorem gf_20_3 {x : Int} (hd : decode M.2.1 pc = .ok (.getfield idx, 3)) (hw : Cond.fieldLink M.1 idx "GrammarHouse$Facts" "reached" "I" ∈ gh_tb) (hF : gh_F m) (e : m 20 3 = x) (kk : gh_T E M d (pc + 3) L ((0, x) :: st) m Q) : gh_T E M d pc L ((2, 20) :: st) m Q := gh_get (k := 3) hd gh_ck2 (ga_20 hF).1 (ga_20 hF).2 (by decide) hw rfl (gh_top e kk)
theorem gw_20_3 : ∀ e ∈ gh_fix, ¬ (e.1 = 20 ∧ e.2.1 = 3) := by
  have h : gh_fix.all (fun e => !(e.1 == 20 && e.2.1 == 3)) = true := by decide +kernel
  intro e he z
  have := List.all_eq_true.mp h e he
  rw [z.1, z.2] at this
  exact absurd this (by decide)
theorem pf_20_3 {v : Int} (hd : decode M.2.1 pc = .ok (.putfield idx, 3)) (hw : Cond.fieldLink M.1 idx "GrammarHouse$Facts" "reached" "I" ∈ gh_tb) (hF : gh_F m) (kk : gh_F (gh_u m 20 3 v) → gh_T E M d (pc + 3) L st (gh_u m 20 3 v) Q) : gh_T E M d pc L ((0, v) :: (2, 20) :: st) m Q := gh_put (k := 3) hd gh_ck2 (ga_20 hF).1 (by decide) hw rfl (fun z => by cases z) (Or.inl rfl) (kk (gh_Fu hF (by decide) gw_20_3))
theorem gf_20_4 {x : Int} (hd : decode M.2.1 pc = .ok (.getfield idx, 3)) (hw : Cond.fieldLink M.1 idx "GrammarHouse$Facts" "useful" "I" ∈ gh_tb) (hF : gh_F m) (e : m 20 4 = x) (kk : gh_T E M d (pc + 3) L ((0, x) :: st) m Q) : gh_T E M d pc L ((2, 20) :: st) m Q := gh_get (k := 4) hd gh_ck2 (ga_20 hF).1 (ga_20 hF).2 (by decide) hw rfl (gh_top e kk)
theorem gw_20_4 : ∀ e ∈ gh_fix, ¬ (e.1 = 20 ∧ e.2.1 = 4) := by
  have h : gh_fix.all (fun e => !(e.1 == 20 && e.2.1 == 4)) = true := by decide +kernel
  intro e he z
  have := List.all_eq_true.mp h e he
  rw [z.1, z.2] at this
  exact absurd this (by decide)
theorem pf_20_4 {v : Int} (hd : decode M.2.1 pc = .ok (.putfield idx, 3)) (hw : Cond.fieldLink M.1 idx "GrammarHouse$Facts" "useful" "I" ∈ gh_tb) (hF : gh_F m) (kk : gh_F (gh_u m 20 4 v) → gh_T E M d (pc + 3) L st (gh_u m 20 4 v) Q) : gh_T E M d pc L ((0, v) :: (2, 20) :: st) m Q := gh_put (k := 4) hd gh_ck2 (ga_20 hF).1 (by decide) hw rfl (fun z => by cases z) (Or.inl rfl) (kk (gh_Fu hF (by decide) gw_20_4))
theorem gf_20_5 {x : Int} (hd : decode M.2.1 pc = .ok (.getfield idx, 3)) (hw : Cond.fieldLink M.1 idx "GrammarHouse$Facts" "usefulRules" "I" ∈ gh_tb) (hF : gh_F m) (e : m 20 5 = x) (kk : gh_T E M d (pc + 3) L ((0, x) :: st) m Q) : gh_T E M d pc L ((2, 20) :: st) m Q := gh_get (k := 5) hd gh_ck2 (ga_20 hF).1 (ga_20 hF).2 (by decide) hw rfl (gh_top e kk)
theorem gw_20_5 : ∀ e ∈ gh_fix, ¬ (e.1 = 20 ∧ e.2.1 = 5) := by
  have h : gh_fix.all (fun e => !(e.1 == 20 && e.2.1 == 5)) = true := by decide +kernel
  intro e he z
  have := List.all_eq_true.mp h e he
  rw [z.1, z.2] at this
  exact absurd this (by decide)
theorem pf_20_5 {v : Int} (hd : decode M.2.1 pc = .ok (.putfield idx, 3)) (hw : Cond.fieldLink M.1 idx "GrammarHouse$Facts" "usefulRules" "I" ∈ gh_tb) (hF : gh_F m) (kk : gh_F (gh_u m 20 5 v) → gh_T E M d (pc + 3) L st (gh_u m 20 5 v) Q) : gh_T E M d pc L ((0, v) :: (2, 20) :: st) m Q := gh_put (k := 5) hd gh_ck2 (ga_20 hF).1 (by decide) hw rfl (fun z => by cases z) (Or.inl rfl) (kk (gh_Fu hF (by decide) gw_20_5))
theorem gf_20_6 (hd : decode M.2.1 pc = .ok (.getfield idx, 3)) (hw : Cond.fieldLink M.1 idx "GrammarHouse$Facts" "least" "[I" ∈ gh_tb) (hF : gh_F m) (kk : gh_T E M d (pc + 3) L ((2, 21) :: st) m Q) : gh_T E M d pc L ((2, 20) :: st) m Q := gh_get (k := 6) hd gh_ck2 (ga_20 hF).1 (ga_20 hF).2 (by decide) hw rfl (gh_top (gh_Fx hF 141 rfl) kk)
theorem gf_20_7 (hd : decode M.2.1 pc = .ok (.getfield idx, 3)) (hw : Cond.fieldLink M.1 idx "GrammarHouse$Facts" "first" "[I" ∈ gh_tb) (hF : gh_F m) (kk : gh_T E M d (pc + 3) L ((2, 22) :: st) m Q) : gh_T E M d pc L ((2, 20) :: st) m Q := gh_get (k := 7) hd gh_ck2 (ga_20 hF).1 (ga_20 hF).2 (by decide) hw rfl (gh_top (gh_Fx hF 142 rfl) kk)
theorem gf_20_8 (hd : decode M.2.1 pc = .ok (.getfield idx, 3)) (hw : Cond.fieldLink M.1 idx "GrammarHouse$Facts" "follow" "[I" ∈ gh_tb) (hF : gh_F m) (kk : gh_T E M d (pc + 3) L ((2, 23) :: st) m Q) : gh_T E M d pc L ((2, 20) :: st) m Q := gh_get (k := 8) hd gh_ck2 (ga_20 hF).1 (ga_20 hF).2 (by decide) hw rfl (gh_top (gh_Fx hF 143 rfl) kk)
theorem gf_20_9 (hd : decode M.2.1 pc = .ok (.getfield idx, 3)) (hw : Cond.fieldLink M.1 idx "GrammarHouse$Facts" "over" "[I" ∈ gh_tb) (hF : gh_F m) (kk : gh_T E M d (pc + 3) L ((2, 24) :: st) m Q) : gh_T E M d pc L ((2, 20) :: st) m Q := gh_get (k := 9) hd gh_ck2 (ga_20 hF).1 (ga_20 hF).2 (by decide) hw rfl (gh_top (gh_Fx hF 144 rfl) kk)
theorem gf_20_10 (hd : decode M.2.1 pc = .ok (.getfield idx, 3)) (hw : Cond.fieldLink M.1 idx "GrammarHouse$Facts" "tabled" "[I" ∈ gh_tb) (hF : gh_F m) (kk : gh_T E M d (pc + 3) L ((2, 25) :: st) m Q) : gh_T E M d pc L ((2, 20) :: st) m Q := gh_get (k := 10) hd gh_ck2 (ga_20 hF).1 (ga_20 hF).2 (by decide) hw rfl (gh_top (gh_Fx hF 145 rfl) kk)
theorem ga_21 (hF : gh_F m) : gh_isA m 21 (1) ∧ m 0 (2 * 21 + 1) = 8 := ⟨⟨by decide, (by have := hF.2; omega), gh_Fx hF 38 rfl⟩, gh_Fx hF 39 rfl⟩
theorem gn_21 : ∀ e ∈ gh_fix, e.1 ≠ 21 := by
  have h : gh_fix.all (fun e => !(e.1 == 21)) = true := by decide +kernel
  intro e he z
  have := List.all_eq_true.mp h e he
  rw [z] at this
  exact absurd this (by decide)
theorem la_21 {i x : Int} (hd : decode M.2.1 pc = .ok (.iaload, 1)) (hF : gh_F m) (h0 : 0 ≤ i) (h1 : i < 8) (e : m 21 i = x) (kk : gh_T E M d (pc + 1) L ((0, x) :: st) m Q) : gh_T E M d pc L ((0, i) :: (2, 21) :: st) m Q := gh_iald hd (ga_21 hF).1 h0 (by rw [(ga_21 hF).2]; exact h1) (gh_top e kk)
theorem sa_21 {i v : Int} (hd : decode M.2.1 pc = .ok (.iastore, 1)) (hF : gh_F m) (h0 : 0 ≤ i) (h1 : i < 8) (kk : gh_F (gh_u m 21 i v) → gh_T E M d (pc + 1) L st (gh_u m 21 i v) Q) : gh_T E M d pc L ((0, v) :: (0, i) :: (2, 21) :: st) m Q := gh_iast hd (ga_21 hF).1 h0 (by rw [(ga_21 hF).2]; exact h1) (kk (gh_Fu hF (by decide) (fun e he z => gn_21 e he z.1)))
theorem ll_21 (hd : decode M.2.1 pc = .ok (.arraylength, 1)) (hF : gh_F m) (kk : gh_T E M d (pc + 1) L ((0, 8) :: st) m Q) : gh_T E M d pc L ((2, 21) :: st) m Q := gh_alen hd (ga_21 hF).1 (by decide) (gh_top (ga_21 hF).2 kk)
theorem ga_22 (hF : gh_F m) : gh_isA m 22 (1) ∧ m 0 (2 * 22 + 1) = 8 := ⟨⟨by decide, (by have := hF.2; omega), gh_Fx hF 40 rfl⟩, gh_Fx hF 41 rfl⟩
theorem gn_22 : ∀ e ∈ gh_fix, e.1 ≠ 22 := by
  have h : gh_fix.all (fun e => !(e.1 == 22)) = true := by decide +kernel
  intro e he z
  have := List.all_eq_true.mp h e he
  rw [z] at this
  exact absurd this (by decide)
theorem la_22 {i x : Int} (hd : decode M.2.1 pc = .ok (.iaload, 1)) (hF : gh_F m) (h0 : 0 ≤ i) (h1 : i < 8) (e : m 22 i = x) (kk : gh_T E M d (pc + 1) L ((0, x) :: st) m Q) : gh_T E M d pc L ((0, i) :: (2, 22) :: st) m Q := gh_iald hd (ga_22 hF).1 h0 (by rw [(ga_22 hF).2]; exact h1) (gh_top e kk)
theorem sa_22 {i v : Int} (hd : decode M.2.1 pc = .ok (.iastore, 1)) (hF : gh_F m) (h0 : 0 ≤ i) (h1 : i < 8) (kk : gh_F (gh_u m 22 i v) → gh_T E M d (pc + 1) L st (gh_u m 22 i v) Q) : gh_T E M d pc L ((0, v) :: (0, i) :: (2, 22) :: st) m Q := gh_iast hd (ga_22 hF).1 h0 (by rw [(ga_22 hF).2]; exact h1) (kk (gh_Fu hF (by decide) (fun e he z => gn_22 e he z.1)))
theorem ll_22 (hd : decode M.2.1 pc = .ok (.arraylength, 1)) (hF : gh_F m) (kk : gh_T E M d (pc + 1) L ((0, 8) :: st) m Q) : gh_T E M d pc L ((2, 22) :: st) m Q := gh_alen hd (ga_22 hF).1 (by decide) (gh_top (ga_22 hF).2 kk)
theorem ga_23 (hF : gh_F m) : gh_isA m 23 (1) ∧ m 0 (2 * 23 + 1) = 8 := ⟨⟨by decide, (by have := hF.2; omega), gh_Fx hF 42 rfl⟩, gh_Fx hF 43 rfl⟩
theorem gn_23 : ∀ e ∈ gh_fix, e.1 ≠ 23 := by
  have h : gh_fix.all (fun e => !(e.1 == 23)) = true := by decide +kernel
  intro e he z
  have := List.all_eq_true.mp h e he
  rw [z] at this
  exact absurd this (by decide)
theorem la_23 {i x : Int} (hd : decode M.2.1 pc = .ok (.iaload, 1)) (hF : gh_F m) (h0 : 0 ≤ i) (h1 : i < 8) (e : m 23 i = x) (kk : gh_T E M d (pc + 1) L ((0, x) :: st) m Q) : gh_T E M d pc L ((0, i) :: (2, 23) :: st) m Q := gh_iald hd (ga_23 hF).1 h0 (by rw [(ga_23 hF).2]; exact h1) (gh_top e kk)
theorem sa_23 {i v : Int} (hd : decode M.2.1 pc = .ok (.iastore, 1)) (hF : gh_F m) (h0 : 0 ≤ i) (h1 : i < 8) (kk : gh_F (gh_u m 23 i v) → gh_T E M d (pc + 1) L st (gh_u m 23 i v) Q) : gh_T E M d pc L ((0, v) :: (0, i) :: (2, 23) :: st) m Q := gh_iast hd (ga_23 hF).1 h0 (by rw [(ga_23 hF).2]; exact h1) (kk (gh_Fu hF (by decide) (fun e he z => gn_23 e he z.1)))
theorem ll_23 (hd : decode M.2.1 pc = .ok (.arraylength, 1)) (hF : gh_F m) (kk : gh_T E M d (pc + 1) L ((0, 8) :: st) m Q) : gh_T E M d pc L ((2, 23) :: st) m Q := gh_alen hd (ga_23 hF).1 (by decide) (gh_top (ga_23 hF).2 kk)
theorem ga_24 (hF : gh_F m) : gh_isA m 24 (1) ∧ m 0 (2 * 24 + 1) = 8 := ⟨⟨by decide, (by have := hF.2; omega), gh_Fx hF 44 rfl⟩, gh_Fx hF 45 rfl⟩
theorem gn_24 : ∀ e ∈ gh_fix, e.1 ≠ 24 := by
  have h : gh_fix.all (fun e => !(e.1 == 24)) = true := by decide +kernel
  intro e he z
  have := List.all_eq_true.mp h e he
  rw [z] at this
  exact absurd this (by decide)
theorem la_24 {i x : Int} (hd : decode M.2.1 pc = .ok (.iaload, 1)) (hF : gh_F m) (h0 : 0 ≤ i) (h1 : i < 8) (e : m 24 i = x) (kk : gh_T E M d (pc + 1) L ((0, x) :: st) m Q) : gh_T E M d pc L ((0, i) :: (2, 24) :: st) m Q := gh_iald hd (ga_24 hF).1 h0 (by rw [(ga_24 hF).2]; exact h1) (gh_top e kk)
theorem sa_24 {i v : Int} (hd : decode M.2.1 pc = .ok (.iastore, 1)) (hF : gh_F m) (h0 : 0 ≤ i) (h1 : i < 8) (kk : gh_F (gh_u m 24 i v) → gh_T E M d (pc + 1) L st (gh_u m 24 i v) Q) : gh_T E M d pc L ((0, v) :: (0, i) :: (2, 24) :: st) m Q := gh_iast hd (ga_24 hF).1 h0 (by rw [(ga_24 hF).2]; exact h1) (kk (gh_Fu hF (by decide) (fun e he z => gn_24 e he z.1)))
theorem ll_24 (hd : decode M.2.1 pc = .ok (.arraylength, 1)) (hF : gh_F m) (kk : gh_T E M d (pc + 1) L ((0, 8) :: st) m Q) : gh_T E M d pc L ((2, 24) :: st) m Q := gh_alen hd (ga_24 hF).1 (by decide) (gh_top (ga_24 hF).2 kk)
theorem ga_25 (hF : gh_F m) : gh_isA m 25 (1) ∧ m 0 (2 * 25 + 1) = 20 := ⟨⟨by decide, (by have := hF.2; omega), gh_Fx hF 46 rfl⟩, gh_Fx hF 47 rfl⟩
theorem gn_25 : ∀ e ∈ gh_fix, e.1 ≠ 25 := by
  have h : gh_fix.all (fun e => !(e.1 == 25)) = true := by decide +kernel
  intro e he z
  have := List.all_eq_true.mp h e he
  rw [z] at this
  exact absurd this (by decide)
theorem la_25 {i x : Int} (hd : decode M.2.1 pc = .ok (.iaload, 1)) (hF : gh_F m) (h0 : 0 ≤ i) (h1 : i < 20) (e : m 25 i = x) (kk : gh_T E M d (pc + 1) L ((0, x) :: st) m Q) : gh_T E M d pc L ((0, i) :: (2, 25) :: st) m Q := gh_iald hd (ga_25 hF).1 h0 (by rw [(ga_25 hF).2]; exact h1) (gh_top e kk)
theorem sa_25 {i v : Int} (hd : decode M.2.1 pc = .ok (.iastore, 1)) (hF : gh_F m) (h0 : 0 ≤ i) (h1 : i < 20) (kk : gh_F (gh_u m 25 i v) → gh_T E M d (pc + 1) L st (gh_u m 25 i v) Q) : gh_T E M d pc L ((0, v) :: (0, i) :: (2, 25) :: st) m Q := gh_iast hd (ga_25 hF).1 h0 (by rw [(ga_25 hF).2]; exact h1) (kk (gh_Fu hF (by decide) (fun e he z => gn_25 e he z.1)))
theorem ll_25 (hd : decode M.2.1 pc = .ok (.arraylength, 1)) (hF : gh_F m) (kk : gh_T E M d (pc + 1) L ((0, 20) :: st) m Q) : gh_T E M d pc L ((2, 25) :: st) m Q := gh_alen hd (ga_25 hF).1 (by decide) (gh_top (ga_25 hF).2 kk)
theorem ga_26 (hF : gh_F m) : gh_isA m 26 (10 + (9 : Nat)) ∧ m 0 (2 * 26 + 1) = 9 := ⟨⟨by decide, (by have := hF.2; omega), gh_Fx hF 48 rfl⟩, gh_Fx hF 49 rfl⟩
theorem gf_26_0 (hd : decode M.2.1 pc = .ok (.getfield idx, 3)) (hw : Cond.fieldLink M.1 idx "GrammarHouse$Text" "grammar" "LGrammarHouse$Grammar;" ∈ gh_tb) (hF : gh_F m) (kk : gh_T E M d (pc + 3) L ((2, 13) :: st) m Q) : gh_T E M d pc L ((2, 26) :: st) m Q := gh_get (k := 0) hd gh_ck9 (ga_26 hF).1 (ga_26 hF).2 (by decide) hw rfl (gh_top (gh_Fx hF 183 rfl) kk)
theorem gf_26_1 (hd : decode M.2.1 pc = .ok (.getfield idx, 3)) (hw : Cond.fieldLink M.1 idx "GrammarHouse$Text" "facts" "LGrammarHouse$Facts;" ∈ gh_tb) (hF : gh_F m) (kk : gh_T E M d (pc + 3) L ((2, 20) :: st) m Q) : gh_T E M d pc L ((2, 26) :: st) m Q := gh_get (k := 1) hd gh_ck9 (ga_26 hF).1 (ga_26 hF).2 (by decide) hw rfl (gh_top (gh_Fx hF 184 rfl) kk)
theorem gf_26_2 (hd : decode M.2.1 pc = .ok (.getfield idx, 3)) (hw : Cond.fieldLink M.1 idx "GrammarHouse$Text" "letters" "[I" ∈ gh_tb) (hF : gh_F m) (kk : gh_T E M d (pc + 3) L ((2, 27) :: st) m Q) : gh_T E M d pc L ((2, 26) :: st) m Q := gh_get (k := 2) hd gh_ck9 (ga_26 hF).1 (ga_26 hF).2 (by decide) hw rfl (gh_top (gh_Fx hF 185 rfl) kk)
theorem gf_26_3 {x : Int} (hd : decode M.2.1 pc = .ok (.getfield idx, 3)) (hw : Cond.fieldLink M.1 idx "GrammarHouse$Text" "count" "I" ∈ gh_tb) (hF : gh_F m) (e : m 26 3 = x) (kk : gh_T E M d (pc + 3) L ((0, x) :: st) m Q) : gh_T E M d pc L ((2, 26) :: st) m Q := gh_get (k := 3) hd gh_ck9 (ga_26 hF).1 (ga_26 hF).2 (by decide) hw rfl (gh_top e kk)
theorem gw_26_3 : ∀ e ∈ gh_fix, ¬ (e.1 = 26 ∧ e.2.1 = 3) := by
  have h : gh_fix.all (fun e => !(e.1 == 26 && e.2.1 == 3)) = true := by decide +kernel
  intro e he z
  have := List.all_eq_true.mp h e he
  rw [z.1, z.2] at this
  exact absurd this (by decide)
theorem pf_26_3 {v : Int} (hd : decode M.2.1 pc = .ok (.putfield idx, 3)) (hw : Cond.fieldLink M.1 idx "GrammarHouse$Text" "count" "I" ∈ gh_tb) (hF : gh_F m) (kk : gh_F (gh_u m 26 3 v) → gh_T E M d (pc + 3) L st (gh_u m 26 3 v) Q) : gh_T E M d pc L ((0, v) :: (2, 26) :: st) m Q := gh_put (k := 3) hd gh_ck9 (ga_26 hF).1 (by decide) hw rfl (fun z => by cases z) (Or.inl rfl) (kk (gh_Fu hF (by decide) gw_26_3))
theorem gf_26_4 (hd : decode M.2.1 pc = .ok (.getfield idx, 3)) (hw : Cond.fieldLink M.1 idx "GrammarHouse$Text" "trial" "[I" ∈ gh_tb) (hF : gh_F m) (kk : gh_T E M d (pc + 3) L ((2, 28) :: st) m Q) : gh_T E M d pc L ((2, 26) :: st) m Q := gh_get (k := 4) hd gh_ck9 (ga_26 hF).1 (ga_26 hF).2 (by decide) hw rfl (gh_top (gh_Fx hF 186 rfl) kk)
theorem gf_26_5 (hd : decode M.2.1 pc = .ok (.getfield idx, 3)) (hw : Cond.fieldLink M.1 idx "GrammarHouse$Text" "open" "[I" ∈ gh_tb) (hF : gh_F m) (kk : gh_T E M d (pc + 3) L ((2, 29) :: st) m Q) : gh_T E M d pc L ((2, 26) :: st) m Q := gh_get (k := 5) hd gh_ck9 (ga_26 hF).1 (ga_26 hF).2 (by decide) hw rfl (gh_top (gh_Fx hF 187 rfl) kk)
theorem gf_26_6 {x : Int} (hd : decode M.2.1 pc = .ok (.getfield idx, 3)) (hw : Cond.fieldLink M.1 idx "GrammarHouse$Text" "top" "I" ∈ gh_tb) (hF : gh_F m) (e : m 26 6 = x) (kk : gh_T E M d (pc + 3) L ((0, x) :: st) m Q) : gh_T E M d pc L ((2, 26) :: st) m Q := gh_get (k := 6) hd gh_ck9 (ga_26 hF).1 (ga_26 hF).2 (by decide) hw rfl (gh_top e kk)
theorem gw_26_6 : ∀ e ∈ gh_fix, ¬ (e.1 = 26 ∧ e.2.1 = 6) := by
  have h : gh_fix.all (fun e => !(e.1 == 26 && e.2.1 == 6)) = true := by decide +kernel
  intro e he z
  have := List.all_eq_true.mp h e he
  rw [z.1, z.2] at this
  exact absurd this (by decide)
theorem pf_26_6 {v : Int} (hd : decode M.2.1 pc = .ok (.putfield idx, 3)) (hw : Cond.fieldLink M.1 idx "GrammarHouse$Text" "top" "I" ∈ gh_tb) (hF : gh_F m) (kk : gh_F (gh_u m 26 6 v) → gh_T E M d (pc + 3) L st (gh_u m 26 6 v) Q) : gh_T E M d pc L ((0, v) :: (2, 26) :: st) m Q := gh_put (k := 6) hd gh_ck9 (ga_26 hF).1 (by decide) hw rfl (fun z => by cases z) (Or.inl rfl) (kk (gh_Fu hF (by decide) gw_26_6))
theorem gf_26_7 {x : Int} (hd : decode M.2.1 pc = .ok (.getfield idx, 3)) (hw : Cond.fieldLink M.1 idx "GrammarHouse$Text" "trialCount" "I" ∈ gh_tb) (hF : gh_F m) (e : m 26 7 = x) (kk : gh_T E M d (pc + 3) L ((0, x) :: st) m Q) : gh_T E M d pc L ((2, 26) :: st) m Q := gh_get (k := 7) hd gh_ck9 (ga_26 hF).1 (ga_26 hF).2 (by decide) hw rfl (gh_top e kk)
theorem gw_26_7 : ∀ e ∈ gh_fix, ¬ (e.1 = 26 ∧ e.2.1 = 7) := by
  have h : gh_fix.all (fun e => !(e.1 == 26 && e.2.1 == 7)) = true := by decide +kernel
  intro e he z
  have := List.all_eq_true.mp h e he
  rw [z.1, z.2] at this
  exact absurd this (by decide)
theorem pf_26_7 {v : Int} (hd : decode M.2.1 pc = .ok (.putfield idx, 3)) (hw : Cond.fieldLink M.1 idx "GrammarHouse$Text" "trialCount" "I" ∈ gh_tb) (hF : gh_F m) (kk : gh_F (gh_u m 26 7 v) → gh_T E M d (pc + 3) L st (gh_u m 26 7 v) Q) : gh_T E M d pc L ((0, v) :: (2, 26) :: st) m Q := gh_put (k := 7) hd gh_ck9 (ga_26 hF).1 (by decide) hw rfl (fun z => by cases z) (Or.inl rfl) (kk (gh_Fu hF (by decide) gw_26_7))
theorem gf_26_8 {x : Int} (hd : decode M.2.1 pc = .ok (.getfield idx, 3)) (hw : Cond.fieldLink M.1 idx "GrammarHouse$Text" "drawn" "I" ∈ gh_tb) (hF : gh_F m) (e : m 26 8 = x) (kk : gh_T E M d (pc + 3) L ((0, x) :: st) m Q) : gh_T E M d pc L ((2, 26) :: st) m Q := gh_get (k := 8) hd gh_ck9 (ga_26 hF).1 (ga_26 hF).2 (by decide) hw rfl (gh_top e kk)
theorem gw_26_8 : ∀ e ∈ gh_fix, ¬ (e.1 = 26 ∧ e.2.1 = 8) := by
  have h : gh_fix.all (fun e => !(e.1 == 26 && e.2.1 == 8)) = true := by decide +kernel
  intro e he z
  have := List.all_eq_true.mp h e he
  rw [z.1, z.2] at this
  exact absurd this (by decide)
theorem pf_26_8 {v : Int} (hd : decode M.2.1 pc = .ok (.putfield idx, 3)) (hw : Cond.fieldLink M.1 idx "GrammarHouse$Text" "drawn" "I" ∈ gh_tb) (hF : gh_F m) (kk : gh_F (gh_u m 26 8 v) → gh_T E M d (pc + 3) L st (gh_u m 26 8 v) Q) : gh_T E M d pc L ((0, v) :: (2, 26) :: st) m Q := gh_put (k := 8) hd gh_ck9 (ga_26 hF).1 (by decide) hw rfl (fun z => by cases z) (Or.inl rfl) (kk (gh_Fu hF (by decide) gw_26_8))
theorem ga_27 (hF : gh_F m) : gh_isA m 27 (1) ∧ m 0 (2 * 27 + 1) = 8 := ⟨⟨by decide, (by have := hF.2; omega), gh_Fx hF 50 rfl⟩, gh_Fx hF 51 rfl⟩
theorem gn_27 : ∀ e ∈ gh_fix, e.1 ≠ 27 := by
  have h : gh_fix.all (fun e => !(e.1 == 27)) = true := by decide +kernel
  intro e he z
  have := List.all_eq_true.mp h e he
  rw [z] at this
  exact absurd this (by decide)
theorem la_27 {i x : Int} (hd : decode M.2.1 pc = .ok (.iaload, 1)) (hF : gh_F m) (h0 : 0 ≤ i) (h1 : i < 8) (e : m 27 i = x) (kk : gh_T E M d (pc + 1) L ((0, x) :: st) m Q) : gh_T E M d pc L ((0, i) :: (2, 27) :: st) m Q := gh_iald hd (ga_27 hF).1 h0 (by rw [(ga_27 hF).2]; exact h1) (gh_top e kk)
theorem sa_27 {i v : Int} (hd : decode M.2.1 pc = .ok (.iastore, 1)) (hF : gh_F m) (h0 : 0 ≤ i) (h1 : i < 8) (kk : gh_F (gh_u m 27 i v) → gh_T E M d (pc + 1) L st (gh_u m 27 i v) Q) : gh_T E M d pc L ((0, v) :: (0, i) :: (2, 27) :: st) m Q := gh_iast hd (ga_27 hF).1 h0 (by rw [(ga_27 hF).2]; exact h1) (kk (gh_Fu hF (by decide) (fun e he z => gn_27 e he z.1)))
theorem ll_27 (hd : decode M.2.1 pc = .ok (.arraylength, 1)) (hF : gh_F m) (kk : gh_T E M d (pc + 1) L ((0, 8) :: st) m Q) : gh_T E M d pc L ((2, 27) :: st) m Q := gh_alen hd (ga_27 hF).1 (by decide) (gh_top (ga_27 hF).2 kk)
theorem ga_28 (hF : gh_F m) : gh_isA m 28 (1) ∧ m 0 (2 * 28 + 1) = 8 := ⟨⟨by decide, (by have := hF.2; omega), gh_Fx hF 52 rfl⟩, gh_Fx hF 53 rfl⟩
theorem gn_28 : ∀ e ∈ gh_fix, e.1 ≠ 28 := by
  have h : gh_fix.all (fun e => !(e.1 == 28)) = true := by decide +kernel
  intro e he z
  have := List.all_eq_true.mp h e he
  rw [z] at this
  exact absurd this (by decide)
theorem la_28 {i x : Int} (hd : decode M.2.1 pc = .ok (.iaload, 1)) (hF : gh_F m) (h0 : 0 ≤ i) (h1 : i < 8) (e : m 28 i = x) (kk : gh_T E M d (pc + 1) L ((0, x) :: st) m Q) : gh_T E M d pc L ((0, i) :: (2, 28) :: st) m Q := gh_iald hd (ga_28 hF).1 h0 (by rw [(ga_28 hF).2]; exact h1) (gh_top e kk)
theorem sa_28 {i v : Int} (hd : decode M.2.1 pc = .ok (.iastore, 1)) (hF : gh_F m) (h0 : 0 ≤ i) (h1 : i < 8) (kk : gh_F (gh_u m 28 i v) → gh_T E M d (pc + 1) L st (gh_u m 28 i v) Q) : gh_T E M d pc L ((0, v) :: (0, i) :: (2, 28) :: st) m Q := gh_iast hd (ga_28 hF).1 h0 (by rw [(ga_28 hF).2]; exact h1) (kk (gh_Fu hF (by decide) (fun e he z => gn_28 e he z.1)))
theorem ll_28 (hd : decode M.2.1 pc = .ok (.arraylength, 1)) (hF : gh_F m) (kk : gh_T E M d (pc + 1) L ((0, 8) :: st) m Q) : gh_T E M d pc L ((2, 28) :: st) m Q := gh_alen hd (ga_28 hF).1 (by decide) (gh_top (ga_28 hF).2 kk)
theorem ga_29 (hF : gh_F m) : gh_isA m 29 (1) ∧ m 0 (2 * 29 + 1) = 241 := ⟨⟨by decide, (by have := hF.2; omega), gh_Fx hF 54 rfl⟩, gh_Fx hF 55 rfl⟩
theorem gn_29 : ∀ e ∈ gh_fix, e.1 ≠ 29 := by
  have h : gh_fix.all (fun e => !(e.1 == 29)) = true := by decide +kernel
  intro e he z
  have := List.all_eq_true.mp h e he
  rw [z] at this
  exact absurd this (by decide)
theorem la_29 {i x : Int} (hd : decode M.2.1 pc = .ok (.iaload, 1)) (hF : gh_F m) (h0 : 0 ≤ i) (h1 : i < 241) (e : m 29 i = x) (kk : gh_T E M d (pc + 1) L ((0, x) :: st) m Q) : gh_T E M d pc L ((0, i) :: (2, 29) :: st) m Q := gh_iald hd (ga_29 hF).1 h0 (by rw [(ga_29 hF).2]; exact h1) (gh_top e kk)
theorem sa_29 {i v : Int} (hd : decode M.2.1 pc = .ok (.iastore, 1)) (hF : gh_F m) (h0 : 0 ≤ i) (h1 : i < 241) (kk : gh_F (gh_u m 29 i v) → gh_T E M d (pc + 1) L st (gh_u m 29 i v) Q) : gh_T E M d pc L ((0, v) :: (0, i) :: (2, 29) :: st) m Q := gh_iast hd (ga_29 hF).1 h0 (by rw [(ga_29 hF).2]; exact h1) (kk (gh_Fu hF (by decide) (fun e he z => gn_29 e he z.1)))
theorem ll_29 (hd : decode M.2.1 pc = .ok (.arraylength, 1)) (hF : gh_F m) (kk : gh_T E M d (pc + 1) L ((0, 241) :: st) m Q) : gh_T E M d pc L ((2, 29) :: st) m Q := gh_alen hd (ga_29 hF).1 (by decide) (gh_top (ga_29 hF).2 kk)
theorem ga_30 (hF : gh_F m) : gh_isA m 30 (10 + (0 : Nat)) ∧ m 0 (2 * 30 + 1) = 9 := ⟨⟨by decide, (by have := hF.2; omega), gh_Fx hF 56 rfl⟩, gh_Fx hF 57 rfl⟩
theorem gf_30_0 (hd : decode M.2.1 pc = .ok (.getfield idx, 3)) (hw : Cond.fieldLink M.1 idx "GrammarHouse$Chart" "grammar" "LGrammarHouse$Grammar;" ∈ gh_tb) (hF : gh_F m) (kk : gh_T E M d (pc + 3) L ((2, 13) :: st) m Q) : gh_T E M d pc L ((2, 30) :: st) m Q := gh_get (k := 0) hd gh_ck0 (ga_30 hF).1 (ga_30 hF).2 (by decide) hw rfl (gh_top (gh_Fx hF 128 rfl) kk)
theorem gf_30_1 (hd : decode M.2.1 pc = .ok (.getfield idx, 3)) (hw : Cond.fieldLink M.1 idx "GrammarHouse$Chart" "facts" "LGrammarHouse$Facts;" ∈ gh_tb) (hF : gh_F m) (kk : gh_T E M d (pc + 3) L ((2, 20) :: st) m Q) : gh_T E M d pc L ((2, 30) :: st) m Q := gh_get (k := 1) hd gh_ck0 (ga_30 hF).1 (ga_30 hF).2 (by decide) hw rfl (gh_top (gh_Fx hF 129 rfl) kk)
theorem gf_30_2 (hd : decode M.2.1 pc = .ok (.getfield idx, 3)) (hw : Cond.fieldLink M.1 idx "GrammarHouse$Chart" "text" "LGrammarHouse$Text;" ∈ gh_tb) (hF : gh_F m) (kk : gh_T E M d (pc + 3) L ((2, 26) :: st) m Q) : gh_T E M d pc L ((2, 30) :: st) m Q := gh_get (k := 2) hd gh_ck0 (ga_30 hF).1 (ga_30 hF).2 (by decide) hw rfl (gh_top (gh_Fx hF 130 rfl) kk)
theorem gf_30_3 {x : Int} (hd : decode M.2.1 pc = .ok (.getfield idx, 3)) (hw : Cond.fieldLink M.1 idx "GrammarHouse$Chart" "fresh" "Z" ∈ gh_tb) (hF : gh_F m) (e : m 30 3 = x) (kk : gh_T E M d (pc + 3) L ((0, x) :: st) m Q) : gh_T E M d pc L ((2, 30) :: st) m Q := gh_get (k := 3) hd gh_ck0 (ga_30 hF).1 (ga_30 hF).2 (by decide) hw rfl (gh_top e kk)
theorem gw_30_3 : ∀ e ∈ gh_fix, ¬ (e.1 = 30 ∧ e.2.1 = 3) := by
  have h : gh_fix.all (fun e => !(e.1 == 30 && e.2.1 == 3)) = true := by decide +kernel
  intro e he z
  have := List.all_eq_true.mp h e he
  rw [z.1, z.2] at this
  exact absurd this (by decide)
theorem pf_30_3 {v : Int} (hd : decode M.2.1 pc = .ok (.putfield idx, 3)) (hw : Cond.fieldLink M.1 idx "GrammarHouse$Chart" "fresh" "Z" ∈ gh_tb) (hF : gh_F m) (hv : v = 0 ∨ v = 1) (kk : gh_F (gh_u m 30 3 v) → gh_T E M d (pc + 3) L st (gh_u m 30 3 v) Q) : gh_T E M d pc L ((0, v) :: (2, 30) :: st) m Q := gh_put (k := 3) hd gh_ck0 (ga_30 hF).1 (by decide) hw rfl (fun _ => hv) (Or.inl rfl) (kk (gh_Fu hF (by decide) gw_30_3))
theorem gf_30_4 (hd : decode M.2.1 pc = .ok (.getfield idx, 3)) (hw : Cond.fieldLink M.1 idx "GrammarHouse$Chart" "ends" "[I" ∈ gh_tb) (hF : gh_F m) (kk : gh_T E M d (pc + 3) L ((2, 31) :: st) m Q) : gh_T E M d pc L ((2, 30) :: st) m Q := gh_get (k := 4) hd gh_ck0 (ga_30 hF).1 (ga_30 hF).2 (by decide) hw rfl (gh_top (gh_Fx hF 131 rfl) kk)
theorem gf_30_5 (hd : decode M.2.1 pc = .ok (.getfield idx, 3)) (hw : Cond.fieldLink M.1 idx "GrammarHouse$Chart" "awaited" "[I" ∈ gh_tb) (hF : gh_F m) (kk : gh_T E M d (pc + 3) L ((2, 32) :: st) m Q) : gh_T E M d pc L ((2, 30) :: st) m Q := gh_get (k := 5) hd gh_ck0 (ga_30 hF).1 (ga_30 hF).2 (by decide) hw rfl (gh_top (gh_Fx hF 132 rfl) kk)
theorem gf_30_6 (hd : decode M.2.1 pc = .ok (.getfield idx, 3)) (hw : Cond.fieldLink M.1 idx "GrammarHouse$Chart" "usefully" "[I" ∈ gh_tb) (hF : gh_F m) (kk : gh_T E M d (pc + 3) L ((2, 33) :: st) m Q) : gh_T E M d pc L ((2, 30) :: st) m Q := gh_get (k := 6) hd gh_ck0 (ga_30 hF).1 (ga_30 hF).2 (by decide) hw rfl (gh_top (gh_Fx hF 133 rfl) kk)
theorem gf_30_7 (hd : decode M.2.1 pc = .ok (.getfield idx, 3)) (hw : Cond.fieldLink M.1 idx "GrammarHouse$Chart" "itemCount" "[I" ∈ gh_tb) (hF : gh_F m) (kk : gh_T E M d (pc + 3) L ((2, 34) :: st) m Q) : gh_T E M d pc L ((2, 30) :: st) m Q := gh_get (k := 7) hd gh_ck0 (ga_30 hF).1 (ga_30 hF).2 (by decide) hw rfl (gh_top (gh_Fx hF 134 rfl) kk)
theorem gf_30_8 (hd : decode M.2.1 pc = .ok (.getfield idx, 3)) (hw : Cond.fieldLink M.1 idx "GrammarHouse$Chart" "goOn" "[I" ∈ gh_tb) (hF : gh_F m) (kk : gh_T E M d (pc + 3) L ((2, 35) :: st) m Q) : gh_T E M d pc L ((2, 30) :: st) m Q := gh_get (k := 8) hd gh_ck0 (ga_30 hF).1 (ga_30 hF).2 (by decide) hw rfl (gh_top (gh_Fx hF 135 rfl) kk)
theorem ga_31 (hF : gh_F m) : gh_isA m 31 (1) ∧ m 0 (2 * 31 + 1) = 72 := ⟨⟨by decide, (by have := hF.2; omega), gh_Fx hF 58 rfl⟩, gh_Fx hF 59 rfl⟩
theorem gn_31 : ∀ e ∈ gh_fix, e.1 ≠ 31 := by
  have h : gh_fix.all (fun e => !(e.1 == 31)) = true := by decide +kernel
  intro e he z
  have := List.all_eq_true.mp h e he
  rw [z] at this
  exact absurd this (by decide)
theorem la_31 {i x : Int} (hd : decode M.2.1 pc = .ok (.iaload, 1)) (hF : gh_F m) (h0 : 0 ≤ i) (h1 : i < 72) (e : m 31 i = x) (kk : gh_T E M d (pc + 1) L ((0, x) :: st) m Q) : gh_T E M d pc L ((0, i) :: (2, 31) :: st) m Q := gh_iald hd (ga_31 hF).1 h0 (by rw [(ga_31 hF).2]; exact h1) (gh_top e kk)
theorem sa_31 {i v : Int} (hd : decode M.2.1 pc = .ok (.iastore, 1)) (hF : gh_F m) (h0 : 0 ≤ i) (h1 : i < 72) (kk : gh_F (gh_u m 31 i v) → gh_T E M d (pc + 1) L st (gh_u m 31 i v) Q) : gh_T E M d pc L ((0, v) :: (0, i) :: (2, 31) :: st) m Q := gh_iast hd (ga_31 hF).1 h0 (by rw [(ga_31 hF).2]; exact h1) (kk (gh_Fu hF (by decide) (fun e he z => gn_31 e he z.1)))
theorem ll_31 (hd : decode M.2.1 pc = .ok (.arraylength, 1)) (hF : gh_F m) (kk : gh_T E M d (pc + 1) L ((0, 72) :: st) m Q) : gh_T E M d pc L ((2, 31) :: st) m Q := gh_alen hd (ga_31 hF).1 (by decide) (gh_top (ga_31 hF).2 kk)
theorem ga_32 (hF : gh_F m) : gh_isA m 32 (1) ∧ m 0 (2 * 32 + 1) = 9 := ⟨⟨by decide, (by have := hF.2; omega), gh_Fx hF 60 rfl⟩, gh_Fx hF 61 rfl⟩
theorem gn_32 : ∀ e ∈ gh_fix, e.1 ≠ 32 := by
  have h : gh_fix.all (fun e => !(e.1 == 32)) = true := by decide +kernel
  intro e he z
  have := List.all_eq_true.mp h e he
  rw [z] at this
  exact absurd this (by decide)
theorem la_32 {i x : Int} (hd : decode M.2.1 pc = .ok (.iaload, 1)) (hF : gh_F m) (h0 : 0 ≤ i) (h1 : i < 9) (e : m 32 i = x) (kk : gh_T E M d (pc + 1) L ((0, x) :: st) m Q) : gh_T E M d pc L ((0, i) :: (2, 32) :: st) m Q := gh_iald hd (ga_32 hF).1 h0 (by rw [(ga_32 hF).2]; exact h1) (gh_top e kk)
theorem sa_32 {i v : Int} (hd : decode M.2.1 pc = .ok (.iastore, 1)) (hF : gh_F m) (h0 : 0 ≤ i) (h1 : i < 9) (kk : gh_F (gh_u m 32 i v) → gh_T E M d (pc + 1) L st (gh_u m 32 i v) Q) : gh_T E M d pc L ((0, v) :: (0, i) :: (2, 32) :: st) m Q := gh_iast hd (ga_32 hF).1 h0 (by rw [(ga_32 hF).2]; exact h1) (kk (gh_Fu hF (by decide) (fun e he z => gn_32 e he z.1)))
theorem ll_32 (hd : decode M.2.1 pc = .ok (.arraylength, 1)) (hF : gh_F m) (kk : gh_T E M d (pc + 1) L ((0, 9) :: st) m Q) : gh_T E M d pc L ((2, 32) :: st) m Q := gh_alen hd (ga_32 hF).1 (by decide) (gh_top (ga_32 hF).2 kk)
theorem ga_33 (hF : gh_F m) : gh_isA m 33 (1) ∧ m 0 (2 * 33 + 1) = 9 := ⟨⟨by decide, (by have := hF.2; omega), gh_Fx hF 62 rfl⟩, gh_Fx hF 63 rfl⟩
theorem gn_33 : ∀ e ∈ gh_fix, e.1 ≠ 33 := by
  have h : gh_fix.all (fun e => !(e.1 == 33)) = true := by decide +kernel
  intro e he z
  have := List.all_eq_true.mp h e he
  rw [z] at this
  exact absurd this (by decide)
theorem la_33 {i x : Int} (hd : decode M.2.1 pc = .ok (.iaload, 1)) (hF : gh_F m) (h0 : 0 ≤ i) (h1 : i < 9) (e : m 33 i = x) (kk : gh_T E M d (pc + 1) L ((0, x) :: st) m Q) : gh_T E M d pc L ((0, i) :: (2, 33) :: st) m Q := gh_iald hd (ga_33 hF).1 h0 (by rw [(ga_33 hF).2]; exact h1) (gh_top e kk)
theorem sa_33 {i v : Int} (hd : decode M.2.1 pc = .ok (.iastore, 1)) (hF : gh_F m) (h0 : 0 ≤ i) (h1 : i < 9) (kk : gh_F (gh_u m 33 i v) → gh_T E M d (pc + 1) L st (gh_u m 33 i v) Q) : gh_T E M d pc L ((0, v) :: (0, i) :: (2, 33) :: st) m Q := gh_iast hd (ga_33 hF).1 h0 (by rw [(ga_33 hF).2]; exact h1) (kk (gh_Fu hF (by decide) (fun e he z => gn_33 e he z.1)))
theorem ll_33 (hd : decode M.2.1 pc = .ok (.arraylength, 1)) (hF : gh_F m) (kk : gh_T E M d (pc + 1) L ((0, 9) :: st) m Q) : gh_T E M d pc L ((2, 33) :: st) m Q := gh_alen hd (ga_33 hF).1 (by decide) (gh_top (ga_33 hF).2 kk)
theorem ga_34 (hF : gh_F m) : gh_isA m 34 (1) ∧ m 0 (2 * 34 + 1) = 9 := ⟨⟨by decide, (by have := hF.2; omega), gh_Fx hF 64 rfl⟩, gh_Fx hF 65 rfl⟩
theorem gn_34 : ∀ e ∈ gh_fix, e.1 ≠ 34 := by
  have h : gh_fix.all (fun e => !(e.1 == 34)) = true := by decide +kernel
  intro e he z
  have := List.all_eq_true.mp h e he
  rw [z] at this
  exact absurd this (by decide)
theorem la_34 {i x : Int} (hd : decode M.2.1 pc = .ok (.iaload, 1)) (hF : gh_F m) (h0 : 0 ≤ i) (h1 : i < 9) (e : m 34 i = x) (kk : gh_T E M d (pc + 1) L ((0, x) :: st) m Q) : gh_T E M d pc L ((0, i) :: (2, 34) :: st) m Q := gh_iald hd (ga_34 hF).1 h0 (by rw [(ga_34 hF).2]; exact h1) (gh_top e kk)
theorem sa_34 {i v : Int} (hd : decode M.2.1 pc = .ok (.iastore, 1)) (hF : gh_F m) (h0 : 0 ≤ i) (h1 : i < 9) (kk : gh_F (gh_u m 34 i v) → gh_T E M d (pc + 1) L st (gh_u m 34 i v) Q) : gh_T E M d pc L ((0, v) :: (0, i) :: (2, 34) :: st) m Q := gh_iast hd (ga_34 hF).1 h0 (by rw [(ga_34 hF).2]; exact h1) (kk (gh_Fu hF (by decide) (fun e he z => gn_34 e he z.1)))
theorem ll_34 (hd : decode M.2.1 pc = .ok (.arraylength, 1)) (hF : gh_F m) (kk : gh_T E M d (pc + 1) L ((0, 9) :: st) m Q) : gh_T E M d pc L ((2, 34) :: st) m Q := gh_alen hd (ga_34 hF).1 (by decide) (gh_top (ga_34 hF).2 kk)
theorem ga_35 (hF : gh_F m) : gh_isA m 35 (1) ∧ m 0 (2 * 35 + 1) = 9 := ⟨⟨by decide, (by have := hF.2; omega), gh_Fx hF 66 rfl⟩, gh_Fx hF 67 rfl⟩
theorem gn_35 : ∀ e ∈ gh_fix, e.1 ≠ 35 := by
  have h : gh_fix.all (fun e => !(e.1 == 35)) = true := by decide +kernel
  intro e he z
  have := List.all_eq_true.mp h e he
  rw [z] at this
  exact absurd this (by decide)
theorem la_35 {i x : Int} (hd : decode M.2.1 pc = .ok (.iaload, 1)) (hF : gh_F m) (h0 : 0 ≤ i) (h1 : i < 9) (e : m 35 i = x) (kk : gh_T E M d (pc + 1) L ((0, x) :: st) m Q) : gh_T E M d pc L ((0, i) :: (2, 35) :: st) m Q := gh_iald hd (ga_35 hF).1 h0 (by rw [(ga_35 hF).2]; exact h1) (gh_top e kk)
theorem sa_35 {i v : Int} (hd : decode M.2.1 pc = .ok (.iastore, 1)) (hF : gh_F m) (h0 : 0 ≤ i) (h1 : i < 9) (kk : gh_F (gh_u m 35 i v) → gh_T E M d (pc + 1) L st (gh_u m 35 i v) Q) : gh_T E M d pc L ((0, v) :: (0, i) :: (2, 35) :: st) m Q := gh_iast hd (ga_35 hF).1 h0 (by rw [(ga_35 hF).2]; exact h1) (kk (gh_Fu hF (by decide) (fun e he z => gn_35 e he z.1)))
theorem ll_35 (hd : decode M.2.1 pc = .ok (.arraylength, 1)) (hF : gh_F m) (kk : gh_T E M d (pc + 1) L ((0, 9) :: st) m Q) : gh_T E M d pc L ((2, 35) :: st) m Q := gh_alen hd (ga_35 hF).1 (by decide) (gh_top (ga_35 hF).2 kk)
theorem ga_36 (hF : gh_F m) : gh_isA m 36 (10 + (10 : Nat)) ∧ m 0 (2 * 36 + 1) = 10 := ⟨⟨by decide, (by have := hF.2; omega), gh_Fx hF 68 rfl⟩, gh_Fx hF 69 rfl⟩
theorem gf_36_0 (hd : decode M.2.1 pc = .ok (.getfield idx, 3)) (hw : Cond.fieldLink M.1 idx "GrammarHouse$Wants" "grammar" "LGrammarHouse$Grammar;" ∈ gh_tb) (hF : gh_F m) (kk : gh_T E M d (pc + 3) L ((2, 13) :: st) m Q) : gh_T E M d pc L ((2, 36) :: st) m Q := gh_get (k := 0) hd gh_ck10 (ga_36 hF).1 (ga_36 hF).2 (by decide) hw rfl (gh_top (gh_Fx hF 188 rfl) kk)
theorem gf_36_1 (hd : decode M.2.1 pc = .ok (.getfield idx, 3)) (hw : Cond.fieldLink M.1 idx "GrammarHouse$Wants" "facts" "LGrammarHouse$Facts;" ∈ gh_tb) (hF : gh_F m) (kk : gh_T E M d (pc + 3) L ((2, 20) :: st) m Q) : gh_T E M d pc L ((2, 36) :: st) m Q := gh_get (k := 1) hd gh_ck10 (ga_36 hF).1 (ga_36 hF).2 (by decide) hw rfl (gh_top (gh_Fx hF 189 rfl) kk)
theorem gf_36_2 (hd : decode M.2.1 pc = .ok (.getfield idx, 3)) (hw : Cond.fieldLink M.1 idx "GrammarHouse$Wants" "text" "LGrammarHouse$Text;" ∈ gh_tb) (hF : gh_F m) (kk : gh_T E M d (pc + 3) L ((2, 26) :: st) m Q) : gh_T E M d pc L ((2, 36) :: st) m Q := gh_get (k := 2) hd gh_ck10 (ga_36 hF).1 (ga_36 hF).2 (by decide) hw rfl (gh_top (gh_Fx hF 190 rfl) kk)
theorem gf_36_3 (hd : decode M.2.1 pc = .ok (.getfield idx, 3)) (hw : Cond.fieldLink M.1 idx "GrammarHouse$Wants" "chart" "LGrammarHouse$Chart;" ∈ gh_tb) (hF : gh_F m) (kk : gh_T E M d (pc + 3) L ((2, 30) :: st) m Q) : gh_T E M d pc L ((2, 36) :: st) m Q := gh_get (k := 3) hd gh_ck10 (ga_36 hF).1 (ga_36 hF).2 (by decide) hw rfl (gh_top (gh_Fx hF 191 rfl) kk)
theorem gf_36_4 {x : Int} (hd : decode M.2.1 pc = .ok (.getfield idx, 3)) (hw : Cond.fieldLink M.1 idx "GrammarHouse$Wants" "known" "I" ∈ gh_tb) (hF : gh_F m) (e : m 36 4 = x) (kk : gh_T E M d (pc + 3) L ((0, x) :: st) m Q) : gh_T E M d pc L ((2, 36) :: st) m Q := gh_get (k := 4) hd gh_ck10 (ga_36 hF).1 (ga_36 hF).2 (by decide) hw rfl (gh_top e kk)
theorem gw_36_4 : ∀ e ∈ gh_fix, ¬ (e.1 = 36 ∧ e.2.1 = 4) := by
  have h : gh_fix.all (fun e => !(e.1 == 36 && e.2.1 == 4)) = true := by decide +kernel
  intro e he z
  have := List.all_eq_true.mp h e he
  rw [z.1, z.2] at this
  exact absurd this (by decide)
theorem pf_36_4 {v : Int} (hd : decode M.2.1 pc = .ok (.putfield idx, 3)) (hw : Cond.fieldLink M.1 idx "GrammarHouse$Wants" "known" "I" ∈ gh_tb) (hF : gh_F m) (kk : gh_F (gh_u m 36 4 v) → gh_T E M d (pc + 3) L st (gh_u m 36 4 v) Q) : gh_T E M d pc L ((0, v) :: (2, 36) :: st) m Q := gh_put (k := 4) hd gh_ck10 (ga_36 hF).1 (by decide) hw rfl (fun z => by cases z) (Or.inl rfl) (kk (gh_Fu hF (by decide) gw_36_4))
theorem gf_36_5 (hd : decode M.2.1 pc = .ok (.getfield idx, 3)) (hw : Cond.fieldLink M.1 idx "GrammarHouse$Wants" "wanted" "[I" ∈ gh_tb) (hF : gh_F m) (kk : gh_T E M d (pc + 3) L ((2, 37) :: st) m Q) : gh_T E M d pc L ((2, 36) :: st) m Q := gh_get (k := 5) hd gh_ck10 (ga_36 hF).1 (ga_36 hF).2 (by decide) hw rfl (gh_top (gh_Fx hF 192 rfl) kk)
theorem gf_36_6 (hd : decode M.2.1 pc = .ok (.getfield idx, 3)) (hw : Cond.fieldLink M.1 idx "GrammarHouse$Wants" "more" "[I" ∈ gh_tb) (hF : gh_F m) (kk : gh_T E M d (pc + 3) L ((2, 38) :: st) m Q) : gh_T E M d pc L ((2, 36) :: st) m Q := gh_get (k := 6) hd gh_ck10 (ga_36 hF).1 (ga_36 hF).2 (by decide) hw rfl (gh_top (gh_Fx hF 193 rfl) kk)
theorem gf_36_7 {x : Int} (hd : decode M.2.1 pc = .ok (.getfield idx, 3)) (hw : Cond.fieldLink M.1 idx "GrammarHouse$Wants" "ready" "I" ∈ gh_tb) (hF : gh_F m) (e : m 36 7 = x) (kk : gh_T E M d (pc + 3) L ((0, x) :: st) m Q) : gh_T E M d pc L ((2, 36) :: st) m Q := gh_get (k := 7) hd gh_ck10 (ga_36 hF).1 (ga_36 hF).2 (by decide) hw rfl (gh_top e kk)
theorem gw_36_7 : ∀ e ∈ gh_fix, ¬ (e.1 = 36 ∧ e.2.1 = 7) := by
  have h : gh_fix.all (fun e => !(e.1 == 36 && e.2.1 == 7)) = true := by decide +kernel
  intro e he z
  have := List.all_eq_true.mp h e he
  rw [z.1, z.2] at this
  exact absurd this (by decide)
theorem pf_36_7 {v : Int} (hd : decode M.2.1 pc = .ok (.putfield idx, 3)) (hw : Cond.fieldLink M.1 idx "GrammarHouse$Wants" "ready" "I" ∈ gh_tb) (hF : gh_F m) (kk : gh_F (gh_u m 36 7 v) → gh_T E M d (pc + 3) L st (gh_u m 36 7 v) Q) : gh_T E M d pc L ((0, v) :: (2, 36) :: st) m Q := gh_put (k := 7) hd gh_ck10 (ga_36 hF).1 (by decide) hw rfl (fun z => by cases z) (Or.inl rfl) (kk (gh_Fu hF (by decide) gw_36_7))
theorem gf_36_8 (hd : decode M.2.1 pc = .ok (.getfield idx, 3)) (hw : Cond.fieldLink M.1 idx "GrammarHouse$Wants" "cost" "[I" ∈ gh_tb) (hF : gh_F m) (kk : gh_T E M d (pc + 3) L ((2, 39) :: st) m Q) : gh_T E M d pc L ((2, 36) :: st) m Q := gh_get (k := 8) hd gh_ck10 (ga_36 hF).1 (ga_36 hF).2 (by decide) hw rfl (gh_top (gh_Fx hF 194 rfl) kk)
theorem gf_36_9 (hd : decode M.2.1 pc = .ok (.getfield idx, 3)) (hw : Cond.fieldLink M.1 idx "GrammarHouse$Wants" "best" "[I" ∈ gh_tb) (hF : gh_F m) (kk : gh_T E M d (pc + 3) L ((2, 40) :: st) m Q) : gh_T E M d pc L ((2, 36) :: st) m Q := gh_get (k := 9) hd gh_ck10 (ga_36 hF).1 (ga_36 hF).2 (by decide) hw rfl (gh_top (gh_Fx hF 195 rfl) kk)
theorem ga_37 (hF : gh_F m) : gh_isA m 37 (1) ∧ m 0 (2 * 37 + 1) = 9 := ⟨⟨by decide, (by have := hF.2; omega), gh_Fx hF 70 rfl⟩, gh_Fx hF 71 rfl⟩
theorem gn_37 : ∀ e ∈ gh_fix, e.1 ≠ 37 := by
  have h : gh_fix.all (fun e => !(e.1 == 37)) = true := by decide +kernel
  intro e he z
  have := List.all_eq_true.mp h e he
  rw [z] at this
  exact absurd this (by decide)
theorem la_37 {i x : Int} (hd : decode M.2.1 pc = .ok (.iaload, 1)) (hF : gh_F m) (h0 : 0 ≤ i) (h1 : i < 9) (e : m 37 i = x) (kk : gh_T E M d (pc + 1) L ((0, x) :: st) m Q) : gh_T E M d pc L ((0, i) :: (2, 37) :: st) m Q := gh_iald hd (ga_37 hF).1 h0 (by rw [(ga_37 hF).2]; exact h1) (gh_top e kk)
theorem sa_37 {i v : Int} (hd : decode M.2.1 pc = .ok (.iastore, 1)) (hF : gh_F m) (h0 : 0 ≤ i) (h1 : i < 9) (kk : gh_F (gh_u m 37 i v) → gh_T E M d (pc + 1) L st (gh_u m 37 i v) Q) : gh_T E M d pc L ((0, v) :: (0, i) :: (2, 37) :: st) m Q := gh_iast hd (ga_37 hF).1 h0 (by rw [(ga_37 hF).2]; exact h1) (kk (gh_Fu hF (by decide) (fun e he z => gn_37 e he z.1)))
theorem ll_37 (hd : decode M.2.1 pc = .ok (.arraylength, 1)) (hF : gh_F m) (kk : gh_T E M d (pc + 1) L ((0, 9) :: st) m Q) : gh_T E M d pc L ((2, 37) :: st) m Q := gh_alen hd (ga_37 hF).1 (by decide) (gh_top (ga_37 hF).2 kk)
theorem ga_38 (hF : gh_F m) : gh_isA m 38 (1) ∧ m 0 (2 * 38 + 1) = 72 := ⟨⟨by decide, (by have := hF.2; omega), gh_Fx hF 72 rfl⟩, gh_Fx hF 73 rfl⟩
theorem gn_38 : ∀ e ∈ gh_fix, e.1 ≠ 38 := by
  have h : gh_fix.all (fun e => !(e.1 == 38)) = true := by decide +kernel
  intro e he z
  have := List.all_eq_true.mp h e he
  rw [z] at this
  exact absurd this (by decide)
theorem la_38 {i x : Int} (hd : decode M.2.1 pc = .ok (.iaload, 1)) (hF : gh_F m) (h0 : 0 ≤ i) (h1 : i < 72) (e : m 38 i = x) (kk : gh_T E M d (pc + 1) L ((0, x) :: st) m Q) : gh_T E M d pc L ((0, i) :: (2, 38) :: st) m Q := gh_iald hd (ga_38 hF).1 h0 (by rw [(ga_38 hF).2]; exact h1) (gh_top e kk)
theorem sa_38 {i v : Int} (hd : decode M.2.1 pc = .ok (.iastore, 1)) (hF : gh_F m) (h0 : 0 ≤ i) (h1 : i < 72) (kk : gh_F (gh_u m 38 i v) → gh_T E M d (pc + 1) L st (gh_u m 38 i v) Q) : gh_T E M d pc L ((0, v) :: (0, i) :: (2, 38) :: st) m Q := gh_iast hd (ga_38 hF).1 h0 (by rw [(ga_38 hF).2]; exact h1) (kk (gh_Fu hF (by decide) (fun e he z => gn_38 e he z.1)))
theorem ll_38 (hd : decode M.2.1 pc = .ok (.arraylength, 1)) (hF : gh_F m) (kk : gh_T E M d (pc + 1) L ((0, 72) :: st) m Q) : gh_T E M d pc L ((2, 38) :: st) m Q := gh_alen hd (ga_38 hF).1 (by decide) (gh_top (ga_38 hF).2 kk)
theorem ga_39 (hF : gh_F m) : gh_isA m 39 (1) ∧ m 0 (2 * 39 + 1) = 648 := ⟨⟨by decide, (by have := hF.2; omega), gh_Fx hF 74 rfl⟩, gh_Fx hF 75 rfl⟩
theorem gn_39 : ∀ e ∈ gh_fix, e.1 ≠ 39 := by
  have h : gh_fix.all (fun e => !(e.1 == 39)) = true := by decide +kernel
  intro e he z
  have := List.all_eq_true.mp h e he
  rw [z] at this
  exact absurd this (by decide)
theorem la_39 {i x : Int} (hd : decode M.2.1 pc = .ok (.iaload, 1)) (hF : gh_F m) (h0 : 0 ≤ i) (h1 : i < 648) (e : m 39 i = x) (kk : gh_T E M d (pc + 1) L ((0, x) :: st) m Q) : gh_T E M d pc L ((0, i) :: (2, 39) :: st) m Q := gh_iald hd (ga_39 hF).1 h0 (by rw [(ga_39 hF).2]; exact h1) (gh_top e kk)
theorem sa_39 {i v : Int} (hd : decode M.2.1 pc = .ok (.iastore, 1)) (hF : gh_F m) (h0 : 0 ≤ i) (h1 : i < 648) (kk : gh_F (gh_u m 39 i v) → gh_T E M d (pc + 1) L st (gh_u m 39 i v) Q) : gh_T E M d pc L ((0, v) :: (0, i) :: (2, 39) :: st) m Q := gh_iast hd (ga_39 hF).1 h0 (by rw [(ga_39 hF).2]; exact h1) (kk (gh_Fu hF (by decide) (fun e he z => gn_39 e he z.1)))
theorem ll_39 (hd : decode M.2.1 pc = .ok (.arraylength, 1)) (hF : gh_F m) (kk : gh_T E M d (pc + 1) L ((0, 648) :: st) m Q) : gh_T E M d pc L ((2, 39) :: st) m Q := gh_alen hd (ga_39 hF).1 (by decide) (gh_top (ga_39 hF).2 kk)
theorem ga_40 (hF : gh_F m) : gh_isA m 40 (1) ∧ m 0 (2 * 40 + 1) = 9 := ⟨⟨by decide, (by have := hF.2; omega), gh_Fx hF 76 rfl⟩, gh_Fx hF 77 rfl⟩
theorem gn_40 : ∀ e ∈ gh_fix, e.1 ≠ 40 := by
  have h : gh_fix.all (fun e => !(e.1 == 40)) = true := by decide +kernel
  intro e he z
  have := List.all_eq_true.mp h e he
  rw [z] at this
  exact absurd this (by decide)
theorem la_40 {i x : Int} (hd : decode M.2.1 pc = .ok (.iaload, 1)) (hF : gh_F m) (h0 : 0 ≤ i) (h1 : i < 9) (e : m 40 i = x) (kk : gh_T E M d (pc + 1) L ((0, x) :: st) m Q) : gh_T E M d pc L ((0, i) :: (2, 40) :: st) m Q := gh_iald hd (ga_40 hF).1 h0 (by rw [(ga_40 hF).2]; exact h1) (gh_top e kk)
theorem sa_40 {i v : Int} (hd : decode M.2.1 pc = .ok (.iastore, 1)) (hF : gh_F m) (h0 : 0 ≤ i) (h1 : i < 9) (kk : gh_F (gh_u m 40 i v) → gh_T E M d (pc + 1) L st (gh_u m 40 i v) Q) : gh_T E M d pc L ((0, v) :: (0, i) :: (2, 40) :: st) m Q := gh_iast hd (ga_40 hF).1 h0 (by rw [(ga_40 hF).2]; exact h1) (kk (gh_Fu hF (by decide) (fun e he z => gn_40 e he z.1)))
theorem ll_40 (hd : decode M.2.1 pc = .ok (.arraylength, 1)) (hF : gh_F m) (kk : gh_T E M d (pc + 1) L ((0, 9) :: st) m Q) : gh_T E M d pc L ((2, 40) :: st) m Q := gh_alen hd (ga_40 hF).1 (by decide) (gh_top (ga_40 hF).2 kk)
theorem ga_41 (hF : gh_F m) : gh_isA m 41 (10 + (3 : Nat)) ∧ m 0 (2 * 41 + 1) = 12 := ⟨⟨by decide, (by have := hF.2; omega), gh_Fx hF 78 rfl⟩, gh_Fx hF 79 rfl⟩
theorem gf_41_0 (hd : decode M.2.1 pc = .ok (.getfield idx, 3)) (hw : Cond.fieldLink M.1 idx "GrammarHouse$Forest" "grammar" "LGrammarHouse$Grammar;" ∈ gh_tb) (hF : gh_F m) (kk : gh_T E M d (pc + 3) L ((2, 13) :: st) m Q) : gh_T E M d pc L ((2, 41) :: st) m Q := gh_get (k := 0) hd gh_ck3 (ga_41 hF).1 (ga_41 hF).2 (by decide) hw rfl (gh_top (gh_Fx hF 146 rfl) kk)
theorem gf_41_1 (hd : decode M.2.1 pc = .ok (.getfield idx, 3)) (hw : Cond.fieldLink M.1 idx "GrammarHouse$Forest" "facts" "LGrammarHouse$Facts;" ∈ gh_tb) (hF : gh_F m) (kk : gh_T E M d (pc + 3) L ((2, 20) :: st) m Q) : gh_T E M d pc L ((2, 41) :: st) m Q := gh_get (k := 1) hd gh_ck3 (ga_41 hF).1 (ga_41 hF).2 (by decide) hw rfl (gh_top (gh_Fx hF 147 rfl) kk)
theorem gf_41_2 (hd : decode M.2.1 pc = .ok (.getfield idx, 3)) (hw : Cond.fieldLink M.1 idx "GrammarHouse$Forest" "text" "LGrammarHouse$Text;" ∈ gh_tb) (hF : gh_F m) (kk : gh_T E M d (pc + 3) L ((2, 26) :: st) m Q) : gh_T E M d pc L ((2, 41) :: st) m Q := gh_get (k := 2) hd gh_ck3 (ga_41 hF).1 (ga_41 hF).2 (by decide) hw rfl (gh_top (gh_Fx hF 148 rfl) kk)
theorem gf_41_3 (hd : decode M.2.1 pc = .ok (.getfield idx, 3)) (hw : Cond.fieldLink M.1 idx "GrammarHouse$Forest" "chart" "LGrammarHouse$Chart;" ∈ gh_tb) (hF : gh_F m) (kk : gh_T E M d (pc + 3) L ((2, 30) :: st) m Q) : gh_T E M d pc L ((2, 41) :: st) m Q := gh_get (k := 3) hd gh_ck3 (ga_41 hF).1 (ga_41 hF).2 (by decide) hw rfl (gh_top (gh_Fx hF 149 rfl) kk)
theorem gf_41_4 (hd : decode M.2.1 pc = .ok (.getfield idx, 3)) (hw : Cond.fieldLink M.1 idx "GrammarHouse$Forest" "plain" "[J" ∈ gh_tb) (hF : gh_F m) (kk : gh_T E M d (pc + 3) L ((2, 42) :: st) m Q) : gh_T E M d pc L ((2, 41) :: st) m Q := gh_get (k := 4) hd gh_ck3 (ga_41 hF).1 (ga_41 hF).2 (by decide) hw rfl (gh_top (gh_Fx hF 150 rfl) kk)
theorem gf_41_5 (hd : decode M.2.1 pc = .ok (.getfield idx, 3)) (hw : Cond.fieldLink M.1 idx "GrammarHouse$Forest" "rest" "[J" ∈ gh_tb) (hF : gh_F m) (kk : gh_T E M d (pc + 3) L ((2, 43) :: st) m Q) : gh_T E M d pc L ((2, 41) :: st) m Q := gh_get (k := 5) hd gh_ck3 (ga_41 hF).1 (ga_41 hF).2 (by decide) hw rfl (gh_top (gh_Fx hF 151 rfl) kk)
theorem gf_41_6 (hd : decode M.2.1 pc = .ok (.getfield idx, 3)) (hw : Cond.fieldLink M.1 idx "GrammarHouse$Forest" "starts" "[I" ∈ gh_tb) (hF : gh_F m) (kk : gh_T E M d (pc + 3) L ((2, 44) :: st) m Q) : gh_T E M d pc L ((2, 41) :: st) m Q := gh_get (k := 6) hd gh_ck3 (ga_41 hF).1 (ga_41 hF).2 (by decide) hw rfl (gh_top (gh_Fx hF 152 rfl) kk)
theorem gf_41_7 {x : Int} (hd : decode M.2.1 pc = .ok (.getfield idx, 3)) (hw : Cond.fieldLink M.1 idx "GrammarHouse$Forest" "under" "[J" ∈ gh_tb) (hF : gh_F m) (e : m 41 7 = x) (kk : gh_T E M d (pc + 3) L ((2, x) :: st) m Q) : gh_T E M d pc L ((2, 41) :: st) m Q := gh_get (k := 7) hd gh_ck3 (ga_41 hF).1 (ga_41 hF).2 (by decide) hw rfl (gh_top e kk)
theorem gw_41_7 : ∀ e ∈ gh_fix, ¬ (e.1 = 41 ∧ e.2.1 = 7) := by
  have h : gh_fix.all (fun e => !(e.1 == 41 && e.2.1 == 7)) = true := by decide +kernel
  intro e he z
  have := List.all_eq_true.mp h e he
  rw [z.1, z.2] at this
  exact absurd this (by decide)
theorem pf_41_7 {v : Int} (hd : decode M.2.1 pc = .ok (.putfield idx, 3)) (hw : Cond.fieldLink M.1 idx "GrammarHouse$Forest" "under" "[J" ∈ gh_tb) (hF : gh_F m) (kk : gh_F (gh_u m 41 7 v) → gh_T E M d (pc + 3) L st (gh_u m 41 7 v) Q) : gh_T E M d pc L ((2, v) :: (2, 41) :: st) m Q := gh_put (k := 7) hd gh_ck3 (ga_41 hF).1 (by decide) hw rfl (fun z => by cases z) (Or.inl rfl) (kk (gh_Fu hF (by decide) gw_41_7))
theorem gf_41_8 {x : Int} (hd : decode M.2.1 pc = .ok (.getfield idx, 3)) (hw : Cond.fieldLink M.1 idx "GrammarHouse$Forest" "turnOf" "[I" ∈ gh_tb) (hF : gh_F m) (e : m 41 8 = x) (kk : gh_T E M d (pc + 3) L ((2, x) :: st) m Q) : gh_T E M d pc L ((2, 41) :: st) m Q := gh_get (k := 8) hd gh_ck3 (ga_41 hF).1 (ga_41 hF).2 (by decide) hw rfl (gh_top e kk)
theorem gw_41_8 : ∀ e ∈ gh_fix, ¬ (e.1 = 41 ∧ e.2.1 = 8) := by
  have h : gh_fix.all (fun e => !(e.1 == 41 && e.2.1 == 8)) = true := by decide +kernel
  intro e he z
  have := List.all_eq_true.mp h e he
  rw [z.1, z.2] at this
  exact absurd this (by decide)
theorem pf_41_8 {v : Int} (hd : decode M.2.1 pc = .ok (.putfield idx, 3)) (hw : Cond.fieldLink M.1 idx "GrammarHouse$Forest" "turnOf" "[I" ∈ gh_tb) (hF : gh_F m) (kk : gh_F (gh_u m 41 8 v) → gh_T E M d (pc + 3) L st (gh_u m 41 8 v) Q) : gh_T E M d pc L ((2, v) :: (2, 41) :: st) m Q := gh_put (k := 8) hd gh_ck3 (ga_41 hF).1 (by decide) hw rfl (fun z => by cases z) (Or.inl rfl) (kk (gh_Fu hF (by decide) gw_41_8))
theorem gf_41_9 {x : Int} (hd : decode M.2.1 pc = .ok (.getfield idx, 3)) (hw : Cond.fieldLink M.1 idx "GrammarHouse$Forest" "turn" "I" ∈ gh_tb) (hF : gh_F m) (e : m 41 9 = x) (kk : gh_T E M d (pc + 3) L ((0, x) :: st) m Q) : gh_T E M d pc L ((2, 41) :: st) m Q := gh_get (k := 9) hd gh_ck3 (ga_41 hF).1 (ga_41 hF).2 (by decide) hw rfl (gh_top e kk)
theorem gw_41_9 : ∀ e ∈ gh_fix, ¬ (e.1 = 41 ∧ e.2.1 = 9) := by
  have h : gh_fix.all (fun e => !(e.1 == 41 && e.2.1 == 9)) = true := by decide +kernel
  intro e he z
  have := List.all_eq_true.mp h e he
  rw [z.1, z.2] at this
  exact absurd this (by decide)
theorem pf_41_9 {v : Int} (hd : decode M.2.1 pc = .ok (.putfield idx, 3)) (hw : Cond.fieldLink M.1 idx "GrammarHouse$Forest" "turn" "I" ∈ gh_tb) (hF : gh_F m) (kk : gh_F (gh_u m 41 9 v) → gh_T E M d (pc + 3) L st (gh_u m 41 9 v) Q) : gh_T E M d pc L ((0, v) :: (2, 41) :: st) m Q := gh_put (k := 9) hd gh_ck3 (ga_41 hF).1 (by decide) hw rfl (fun z => by cases z) (Or.inl rfl) (kk (gh_Fu hF (by decide) gw_41_9))
theorem gf_41_10 {x : Int} (hd : decode M.2.1 pc = .ok (.getfield idx, 3)) (hw : Cond.fieldLink M.1 idx "GrammarHouse$Forest" "emptyTurn" "I" ∈ gh_tb) (hF : gh_F m) (e : m 41 10 = x) (kk : gh_T E M d (pc + 3) L ((0, x) :: st) m Q) : gh_T E M d pc L ((2, 41) :: st) m Q := gh_get (k := 10) hd gh_ck3 (ga_41 hF).1 (ga_41 hF).2 (by decide) hw rfl (gh_top e kk)
theorem gw_41_10 : ∀ e ∈ gh_fix, ¬ (e.1 = 41 ∧ e.2.1 = 10) := by
  have h : gh_fix.all (fun e => !(e.1 == 41 && e.2.1 == 10)) = true := by decide +kernel
  intro e he z
  have := List.all_eq_true.mp h e he
  rw [z.1, z.2] at this
  exact absurd this (by decide)
theorem pf_41_10 {v : Int} (hd : decode M.2.1 pc = .ok (.putfield idx, 3)) (hw : Cond.fieldLink M.1 idx "GrammarHouse$Forest" "emptyTurn" "I" ∈ gh_tb) (hF : gh_F m) (kk : gh_F (gh_u m 41 10 v) → gh_T E M d (pc + 3) L st (gh_u m 41 10 v) Q) : gh_T E M d pc L ((0, v) :: (2, 41) :: st) m Q := gh_put (k := 10) hd gh_ck3 (ga_41 hF).1 (by decide) hw rfl (fun z => by cases z) (Or.inl rfl) (kk (gh_Fu hF (by decide) gw_41_10))
theorem gf_41_11 {x : Int} (hd : decode M.2.1 pc = .ok (.getfield idx, 3)) (hw : Cond.fieldLink M.1 idx "GrammarHouse$Forest" "ready" "I" ∈ gh_tb) (hF : gh_F m) (e : m 41 11 = x) (kk : gh_T E M d (pc + 3) L ((0, x) :: st) m Q) : gh_T E M d pc L ((2, 41) :: st) m Q := gh_get (k := 11) hd gh_ck3 (ga_41 hF).1 (ga_41 hF).2 (by decide) hw rfl (gh_top e kk)
theorem gw_41_11 : ∀ e ∈ gh_fix, ¬ (e.1 = 41 ∧ e.2.1 = 11) := by
  have h : gh_fix.all (fun e => !(e.1 == 41 && e.2.1 == 11)) = true := by decide +kernel
  intro e he z
  have := List.all_eq_true.mp h e he
  rw [z.1, z.2] at this
  exact absurd this (by decide)
theorem pf_41_11 {v : Int} (hd : decode M.2.1 pc = .ok (.putfield idx, 3)) (hw : Cond.fieldLink M.1 idx "GrammarHouse$Forest" "ready" "I" ∈ gh_tb) (hF : gh_F m) (kk : gh_F (gh_u m 41 11 v) → gh_T E M d (pc + 3) L st (gh_u m 41 11 v) Q) : gh_T E M d pc L ((0, v) :: (2, 41) :: st) m Q := gh_put (k := 11) hd gh_ck3 (ga_41 hF).1 (by decide) hw rfl (fun z => by cases z) (Or.inl rfl) (kk (gh_Fu hF (by decide) gw_41_11))
theorem ga_42 (hF : gh_F m) : gh_isA m 42 (3) ∧ m 0 (2 * 42 + 1) = 648 := ⟨⟨by decide, (by have := hF.2; omega), gh_Fx hF 80 rfl⟩, gh_Fx hF 81 rfl⟩
theorem gn_42 : ∀ e ∈ gh_fix, e.1 ≠ 42 := by
  have h : gh_fix.all (fun e => !(e.1 == 42)) = true := by decide +kernel
  intro e he z
  have := List.all_eq_true.mp h e he
  rw [z] at this
  exact absurd this (by decide)
theorem la_42 {i x : Int} (hd : decode M.2.1 pc = .ok (.laload, 1)) (hF : gh_F m) (h0 : 0 ≤ i) (h1 : i < 648) (e : m 42 i = x) (kk : gh_T E M d (pc + 1) L ((1, x) :: st) m Q) : gh_T E M d pc L ((0, i) :: (2, 42) :: st) m Q := gh_lald hd (ga_42 hF).1 h0 (by rw [(ga_42 hF).2]; exact h1) (gh_top e kk)
theorem sa_42 {i v : Int} (hd : decode M.2.1 pc = .ok (.lastore, 1)) (hF : gh_F m) (h0 : 0 ≤ i) (h1 : i < 648) (kk : gh_F (gh_u m 42 i v) → gh_T E M d (pc + 1) L st (gh_u m 42 i v) Q) : gh_T E M d pc L ((1, v) :: (0, i) :: (2, 42) :: st) m Q := gh_last hd (ga_42 hF).1 h0 (by rw [(ga_42 hF).2]; exact h1) (kk (gh_Fu hF (by decide) (fun e he z => gn_42 e he z.1)))
theorem ll_42 (hd : decode M.2.1 pc = .ok (.arraylength, 1)) (hF : gh_F m) (kk : gh_T E M d (pc + 1) L ((0, 648) :: st) m Q) : gh_T E M d pc L ((2, 42) :: st) m Q := gh_alen hd (ga_42 hF).1 (by decide) (gh_top (ga_42 hF).2 kk)
theorem ga_43 (hF : gh_F m) : gh_isA m 43 (3) ∧ m 0 (2 * 43 + 1) = 360 := ⟨⟨by decide, (by have := hF.2; omega), gh_Fx hF 82 rfl⟩, gh_Fx hF 83 rfl⟩
theorem gn_43 : ∀ e ∈ gh_fix, e.1 ≠ 43 := by
  have h : gh_fix.all (fun e => !(e.1 == 43)) = true := by decide +kernel
  intro e he z
  have := List.all_eq_true.mp h e he
  rw [z] at this
  exact absurd this (by decide)
theorem la_43 {i x : Int} (hd : decode M.2.1 pc = .ok (.laload, 1)) (hF : gh_F m) (h0 : 0 ≤ i) (h1 : i < 360) (e : m 43 i = x) (kk : gh_T E M d (pc + 1) L ((1, x) :: st) m Q) : gh_T E M d pc L ((0, i) :: (2, 43) :: st) m Q := gh_lald hd (ga_43 hF).1 h0 (by rw [(ga_43 hF).2]; exact h1) (gh_top e kk)
theorem sa_43 {i v : Int} (hd : decode M.2.1 pc = .ok (.lastore, 1)) (hF : gh_F m) (h0 : 0 ≤ i) (h1 : i < 360) (kk : gh_F (gh_u m 43 i v) → gh_T E M d (pc + 1) L st (gh_u m 43 i v) Q) : gh_T E M d pc L ((1, v) :: (0, i) :: (2, 43) :: st) m Q := gh_last hd (ga_43 hF).1 h0 (by rw [(ga_43 hF).2]; exact h1) (kk (gh_Fu hF (by decide) (fun e he z => gn_43 e he z.1)))
theorem ll_43 (hd : decode M.2.1 pc = .ok (.arraylength, 1)) (hF : gh_F m) (kk : gh_T E M d (pc + 1) L ((0, 360) :: st) m Q) : gh_T E M d pc L ((2, 43) :: st) m Q := gh_alen hd (ga_43 hF).1 (by decide) (gh_top (ga_43 hF).2 kk)
theorem ga_44 (hF : gh_F m) : gh_isA m 44 (1) ∧ m 0 (2 * 44 + 1) = 32 := ⟨⟨by decide, (by have := hF.2; omega), gh_Fx hF 84 rfl⟩, gh_Fx hF 85 rfl⟩
theorem gn_44 : ∀ e ∈ gh_fix, e.1 ≠ 44 := by
  have h : gh_fix.all (fun e => !(e.1 == 44)) = true := by decide +kernel
  intro e he z
  have := List.all_eq_true.mp h e he
  rw [z] at this
  exact absurd this (by decide)
theorem la_44 {i x : Int} (hd : decode M.2.1 pc = .ok (.iaload, 1)) (hF : gh_F m) (h0 : 0 ≤ i) (h1 : i < 32) (e : m 44 i = x) (kk : gh_T E M d (pc + 1) L ((0, x) :: st) m Q) : gh_T E M d pc L ((0, i) :: (2, 44) :: st) m Q := gh_iald hd (ga_44 hF).1 h0 (by rw [(ga_44 hF).2]; exact h1) (gh_top e kk)
theorem sa_44 {i v : Int} (hd : decode M.2.1 pc = .ok (.iastore, 1)) (hF : gh_F m) (h0 : 0 ≤ i) (h1 : i < 32) (kk : gh_F (gh_u m 44 i v) → gh_T E M d (pc + 1) L st (gh_u m 44 i v) Q) : gh_T E M d pc L ((0, v) :: (0, i) :: (2, 44) :: st) m Q := gh_iast hd (ga_44 hF).1 h0 (by rw [(ga_44 hF).2]; exact h1) (kk (gh_Fu hF (by decide) (fun e he z => gn_44 e he z.1)))
theorem ll_44 (hd : decode M.2.1 pc = .ok (.arraylength, 1)) (hF : gh_F m) (kk : gh_T E M d (pc + 1) L ((0, 32) :: st) m Q) : gh_T E M d pc L ((2, 44) :: st) m Q := gh_alen hd (ga_44 hF).1 (by decide) (gh_top (ga_44 hF).2 kk)
theorem ga_45 (hF : gh_F m) : gh_isA m 45 (3) ∧ m 0 (2 * 45 + 1) = 0 := ⟨⟨by decide, (by have := hF.2; omega), gh_Fx hF 86 rfl⟩, gh_Fx hF 87 rfl⟩
theorem gn_45 : ∀ e ∈ gh_fix, e.1 ≠ 45 := by
  have h : gh_fix.all (fun e => !(e.1 == 45)) = true := by decide +kernel
  intro e he z
  have := List.all_eq_true.mp h e he
  rw [z] at this
  exact absurd this (by decide)
theorem la_45 {i x : Int} (hd : decode M.2.1 pc = .ok (.laload, 1)) (hF : gh_F m) (h0 : 0 ≤ i) (h1 : i < 0) (e : m 45 i = x) (kk : gh_T E M d (pc + 1) L ((1, x) :: st) m Q) : gh_T E M d pc L ((0, i) :: (2, 45) :: st) m Q := gh_lald hd (ga_45 hF).1 h0 (by rw [(ga_45 hF).2]; exact h1) (gh_top e kk)
theorem sa_45 {i v : Int} (hd : decode M.2.1 pc = .ok (.lastore, 1)) (hF : gh_F m) (h0 : 0 ≤ i) (h1 : i < 0) (kk : gh_F (gh_u m 45 i v) → gh_T E M d (pc + 1) L st (gh_u m 45 i v) Q) : gh_T E M d pc L ((1, v) :: (0, i) :: (2, 45) :: st) m Q := gh_last hd (ga_45 hF).1 h0 (by rw [(ga_45 hF).2]; exact h1) (kk (gh_Fu hF (by decide) (fun e he z => gn_45 e he z.1)))
theorem ll_45 (hd : decode M.2.1 pc = .ok (.arraylength, 1)) (hF : gh_F m) (kk : gh_T E M d (pc + 1) L ((0, 0) :: st) m Q) : gh_T E M d pc L ((2, 45) :: st) m Q := gh_alen hd (ga_45 hF).1 (by decide) (gh_top (ga_45 hF).2 kk)
theorem ga_46 (hF : gh_F m) : gh_isA m 46 (1) ∧ m 0 (2 * 46 + 1) = 0 := ⟨⟨by decide, (by have := hF.2; omega), gh_Fx hF 88 rfl⟩, gh_Fx hF 89 rfl⟩
theorem gn_46 : ∀ e ∈ gh_fix, e.1 ≠ 46 := by
  have h : gh_fix.all (fun e => !(e.1 == 46)) = true := by decide +kernel
  intro e he z
  have := List.all_eq_true.mp h e he
  rw [z] at this
  exact absurd this (by decide)
theorem la_46 {i x : Int} (hd : decode M.2.1 pc = .ok (.iaload, 1)) (hF : gh_F m) (h0 : 0 ≤ i) (h1 : i < 0) (e : m 46 i = x) (kk : gh_T E M d (pc + 1) L ((0, x) :: st) m Q) : gh_T E M d pc L ((0, i) :: (2, 46) :: st) m Q := gh_iald hd (ga_46 hF).1 h0 (by rw [(ga_46 hF).2]; exact h1) (gh_top e kk)
theorem sa_46 {i v : Int} (hd : decode M.2.1 pc = .ok (.iastore, 1)) (hF : gh_F m) (h0 : 0 ≤ i) (h1 : i < 0) (kk : gh_F (gh_u m 46 i v) → gh_T E M d (pc + 1) L st (gh_u m 46 i v) Q) : gh_T E M d pc L ((0, v) :: (0, i) :: (2, 46) :: st) m Q := gh_iast hd (ga_46 hF).1 h0 (by rw [(ga_46 hF).2]; exact h1) (kk (gh_Fu hF (by decide) (fun e he z => gn_46 e he z.1)))
theorem ll_46 (hd : decode M.2.1 pc = .ok (.arraylength, 1)) (hF : gh_F m) (kk : gh_T E M d (pc + 1) L ((0, 0) :: st) m Q) : gh_T E M d pc L ((2, 46) :: st) m Q := gh_alen hd (ga_46 hF).1 (by decide) (gh_top (ga_46 hF).2 kk)
theorem ga_47 (hF : gh_F m) : gh_isA m 47 (10 + (5 : Nat)) ∧ m 0 (2 * 47 + 1) = 17 := ⟨⟨by decide, (by have := hF.2; omega), gh_Fx hF 90 rfl⟩, gh_Fx hF 91 rfl⟩
theorem gf_47_0 (hd : decode M.2.1 pc = .ok (.getfield idx, 3)) (hw : Cond.fieldLink M.1 idx "GrammarHouse$Picker" "grammar" "LGrammarHouse$Grammar;" ∈ gh_tb) (hF : gh_F m) (kk : gh_T E M d (pc + 3) L ((2, 13) :: st) m Q) : gh_T E M d pc L ((2, 47) :: st) m Q := gh_get (k := 0) hd gh_ck5 (ga_47 hF).1 (ga_47 hF).2 (by decide) hw rfl (gh_top (gh_Fx hF 159 rfl) kk)
theorem gf_47_1 (hd : decode M.2.1 pc = .ok (.getfield idx, 3)) (hw : Cond.fieldLink M.1 idx "GrammarHouse$Picker" "text" "LGrammarHouse$Text;" ∈ gh_tb) (hF : gh_F m) (kk : gh_T E M d (pc + 3) L ((2, 26) :: st) m Q) : gh_T E M d pc L ((2, 47) :: st) m Q := gh_get (k := 1) hd gh_ck5 (ga_47 hF).1 (ga_47 hF).2 (by decide) hw rfl (gh_top (gh_Fx hF 160 rfl) kk)
theorem gf_47_2 (hd : decode M.2.1 pc = .ok (.getfield idx, 3)) (hw : Cond.fieldLink M.1 idx "GrammarHouse$Picker" "forest" "LGrammarHouse$Forest;" ∈ gh_tb) (hF : gh_F m) (kk : gh_T E M d (pc + 3) L ((2, 41) :: st) m Q) : gh_T E M d pc L ((2, 47) :: st) m Q := gh_get (k := 2) hd gh_ck5 (ga_47 hF).1 (ga_47 hF).2 (by decide) hw rfl (gh_top (gh_Fx hF 161 rfl) kk)
theorem gf_47_3 (hd : decode M.2.1 pc = .ok (.getfield idx, 3)) (hw : Cond.fieldLink M.1 idx "GrammarHouse$Picker" "steps" "[I" ∈ gh_tb) (hF : gh_F m) (kk : gh_T E M d (pc + 3) L ((2, 48) :: st) m Q) : gh_T E M d pc L ((2, 47) :: st) m Q := gh_get (k := 3) hd gh_ck5 (ga_47 hF).1 (ga_47 hF).2 (by decide) hw rfl (gh_top (gh_Fx hF 162 rfl) kk)
theorem gf_47_4 {x : Int} (hd : decode M.2.1 pc = .ok (.getfield idx, 3)) (hw : Cond.fieldLink M.1 idx "GrammarHouse$Picker" "count" "I" ∈ gh_tb) (hF : gh_F m) (e : m 47 4 = x) (kk : gh_T E M d (pc + 3) L ((0, x) :: st) m Q) : gh_T E M d pc L ((2, 47) :: st) m Q := gh_get (k := 4) hd gh_ck5 (ga_47 hF).1 (ga_47 hF).2 (by decide) hw rfl (gh_top e kk)
theorem gw_47_4 : ∀ e ∈ gh_fix, ¬ (e.1 = 47 ∧ e.2.1 = 4) := by
  have h : gh_fix.all (fun e => !(e.1 == 47 && e.2.1 == 4)) = true := by decide +kernel
  intro e he z
  have := List.all_eq_true.mp h e he
  rw [z.1, z.2] at this
  exact absurd this (by decide)
theorem pf_47_4 {v : Int} (hd : decode M.2.1 pc = .ok (.putfield idx, 3)) (hw : Cond.fieldLink M.1 idx "GrammarHouse$Picker" "count" "I" ∈ gh_tb) (hF : gh_F m) (kk : gh_F (gh_u m 47 4 v) → gh_T E M d (pc + 3) L st (gh_u m 47 4 v) Q) : gh_T E M d pc L ((0, v) :: (2, 47) :: st) m Q := gh_put (k := 4) hd gh_ck5 (ga_47 hF).1 (by decide) hw rfl (fun z => by cases z) (Or.inl rfl) (kk (gh_Fu hF (by decide) gw_47_4))
theorem gf_47_5 {x : Int} (hd : decode M.2.1 pc = .ok (.getfield idx, 3)) (hw : Cond.fieldLink M.1 idx "GrammarHouse$Picker" "deepest" "I" ∈ gh_tb) (hF : gh_F m) (e : m 47 5 = x) (kk : gh_T E M d (pc + 3) L ((0, x) :: st) m Q) : gh_T E M d pc L ((2, 47) :: st) m Q := gh_get (k := 5) hd gh_ck5 (ga_47 hF).1 (ga_47 hF).2 (by decide) hw rfl (gh_top e kk)
theorem gw_47_5 : ∀ e ∈ gh_fix, ¬ (e.1 = 47 ∧ e.2.1 = 5) := by
  have h : gh_fix.all (fun e => !(e.1 == 47 && e.2.1 == 5)) = true := by decide +kernel
  intro e he z
  have := List.all_eq_true.mp h e he
  rw [z.1, z.2] at this
  exact absurd this (by decide)
theorem pf_47_5 {v : Int} (hd : decode M.2.1 pc = .ok (.putfield idx, 3)) (hw : Cond.fieldLink M.1 idx "GrammarHouse$Picker" "deepest" "I" ∈ gh_tb) (hF : gh_F m) (kk : gh_F (gh_u m 47 5 v) → gh_T E M d (pc + 3) L st (gh_u m 47 5 v) Q) : gh_T E M d pc L ((0, v) :: (2, 47) :: st) m Q := gh_put (k := 5) hd gh_ck5 (ga_47 hF).1 (by decide) hw rfl (fun z => by cases z) (Or.inl rfl) (kk (gh_Fu hF (by decide) gw_47_5))
theorem gf_47_6 (hd : decode M.2.1 pc = .ok (.getfield idx, 3)) (hw : Cond.fieldLink M.1 idx "GrammarHouse$Picker" "trial" "[I" ∈ gh_tb) (hF : gh_F m) (kk : gh_T E M d (pc + 3) L ((2, 49) :: st) m Q) : gh_T E M d pc L ((2, 47) :: st) m Q := gh_get (k := 6) hd gh_ck5 (ga_47 hF).1 (ga_47 hF).2 (by decide) hw rfl (gh_top (gh_Fx hF 163 rfl) kk)
theorem gf_47_7 {x : Int} (hd : decode M.2.1 pc = .ok (.getfield idx, 3)) (hw : Cond.fieldLink M.1 idx "GrammarHouse$Picker" "depth" "I" ∈ gh_tb) (hF : gh_F m) (e : m 47 7 = x) (kk : gh_T E M d (pc + 3) L ((0, x) :: st) m Q) : gh_T E M d pc L ((2, 47) :: st) m Q := gh_get (k := 7) hd gh_ck5 (ga_47 hF).1 (ga_47 hF).2 (by decide) hw rfl (gh_top e kk)
theorem gw_47_7 : ∀ e ∈ gh_fix, ¬ (e.1 = 47 ∧ e.2.1 = 7) := by
  have h : gh_fix.all (fun e => !(e.1 == 47 && e.2.1 == 7)) = true := by decide +kernel
  intro e he z
  have := List.all_eq_true.mp h e he
  rw [z.1, z.2] at this
  exact absurd this (by decide)
theorem pf_47_7 {v : Int} (hd : decode M.2.1 pc = .ok (.putfield idx, 3)) (hw : Cond.fieldLink M.1 idx "GrammarHouse$Picker" "depth" "I" ∈ gh_tb) (hF : gh_F m) (kk : gh_F (gh_u m 47 7 v) → gh_T E M d (pc + 3) L st (gh_u m 47 7 v) Q) : gh_T E M d pc L ((0, v) :: (2, 47) :: st) m Q := gh_put (k := 7) hd gh_ck5 (ga_47 hF).1 (by decide) hw rfl (fun z => by cases z) (Or.inl rfl) (kk (gh_Fu hF (by decide) gw_47_7))
theorem gf_47_8 (hd : decode M.2.1 pc = .ok (.getfield idx, 3)) (hw : Cond.fieldLink M.1 idx "GrammarHouse$Picker" "node" "[I" ∈ gh_tb) (hF : gh_F m) (kk : gh_T E M d (pc + 3) L ((2, 50) :: st) m Q) : gh_T E M d pc L ((2, 47) :: st) m Q := gh_get (k := 8) hd gh_ck5 (ga_47 hF).1 (ga_47 hF).2 (by decide) hw rfl (gh_top (gh_Fx hF 164 rfl) kk)
theorem gf_47_9 (hd : decode M.2.1 pc = .ok (.getfield idx, 3)) (hw : Cond.fieldLink M.1 idx "GrammarHouse$Picker" "from" "[I" ∈ gh_tb) (hF : gh_F m) (kk : gh_T E M d (pc + 3) L ((2, 51) :: st) m Q) : gh_T E M d pc L ((2, 47) :: st) m Q := gh_get (k := 9) hd gh_ck5 (ga_47 hF).1 (ga_47 hF).2 (by decide) hw rfl (gh_top (gh_Fx hF 165 rfl) kk)
theorem gf_47_10 (hd : decode M.2.1 pc = .ok (.getfield idx, 3)) (hw : Cond.fieldLink M.1 idx "GrammarHouse$Picker" "upTo" "[I" ∈ gh_tb) (hF : gh_F m) (kk : gh_T E M d (pc + 3) L ((2, 52) :: st) m Q) : gh_T E M d pc L ((2, 47) :: st) m Q := gh_get (k := 10) hd gh_ck5 (ga_47 hF).1 (ga_47 hF).2 (by decide) hw rfl (gh_top (gh_Fx hF 166 rfl) kk)
theorem gf_47_11 (hd : decode M.2.1 pc = .ok (.getfield idx, 3)) (hw : Cond.fieldLink M.1 idx "GrammarHouse$Picker" "above" "[I" ∈ gh_tb) (hF : gh_F m) (kk : gh_T E M d (pc + 3) L ((2, 53) :: st) m Q) : gh_T E M d pc L ((2, 47) :: st) m Q := gh_get (k := 11) hd gh_ck5 (ga_47 hF).1 (ga_47 hF).2 (by decide) hw rfl (gh_top (gh_Fx hF 167 rfl) kk)
theorem gf_47_12 (hd : decode M.2.1 pc = .ok (.getfield idx, 3)) (hw : Cond.fieldLink M.1 idx "GrammarHouse$Picker" "level" "[I" ∈ gh_tb) (hF : gh_F m) (kk : gh_T E M d (pc + 3) L ((2, 54) :: st) m Q) : gh_T E M d pc L ((2, 47) :: st) m Q := gh_get (k := 12) hd gh_ck5 (ga_47 hF).1 (ga_47 hF).2 (by decide) hw rfl (gh_top (gh_Fx hF 168 rfl) kk)
theorem gf_47_13 (hd : decode M.2.1 pc = .ok (.getfield idx, 3)) (hw : Cond.fieldLink M.1 idx "GrammarHouse$Picker" "number" "[J" ∈ gh_tb) (hF : gh_F m) (kk : gh_T E M d (pc + 3) L ((2, 55) :: st) m Q) : gh_T E M d pc L ((2, 47) :: st) m Q := gh_get (k := 13) hd gh_ck5 (ga_47 hF).1 (ga_47 hF).2 (by decide) hw rfl (gh_top (gh_Fx hF 169 rfl) kk)
theorem gf_47_14 {x : Int} (hd : decode M.2.1 pc = .ok (.getfield idx, 3)) (hw : Cond.fieldLink M.1 idx "GrammarHouse$Picker" "top" "I" ∈ gh_tb) (hF : gh_F m) (e : m 47 14 = x) (kk : gh_T E M d (pc + 3) L ((0, x) :: st) m Q) : gh_T E M d pc L ((2, 47) :: st) m Q := gh_get (k := 14) hd gh_ck5 (ga_47 hF).1 (ga_47 hF).2 (by decide) hw rfl (gh_top e kk)
theorem gw_47_14 : ∀ e ∈ gh_fix, ¬ (e.1 = 47 ∧ e.2.1 = 14) := by
  have h : gh_fix.all (fun e => !(e.1 == 47 && e.2.1 == 14)) = true := by decide +kernel
  intro e he z
  have := List.all_eq_true.mp h e he
  rw [z.1, z.2] at this
  exact absurd this (by decide)
theorem pf_47_14 {v : Int} (hd : decode M.2.1 pc = .ok (.putfield idx, 3)) (hw : Cond.fieldLink M.1 idx "GrammarHouse$Picker" "top" "I" ∈ gh_tb) (hF : gh_F m) (kk : gh_F (gh_u m 47 14 v) → gh_T E M d (pc + 3) L st (gh_u m 47 14 v) Q) : gh_T E M d pc L ((0, v) :: (2, 47) :: st) m Q := gh_put (k := 14) hd gh_ck5 (ga_47 hF).1 (by decide) hw rfl (fun z => by cases z) (Or.inl rfl) (kk (gh_Fu hF (by decide) gw_47_14))
theorem gf_47_15 (hd : decode M.2.1 pc = .ok (.getfield idx, 3)) (hw : Cond.fieldLink M.1 idx "GrammarHouse$Picker" "cut" "[I" ∈ gh_tb) (hF : gh_F m) (kk : gh_T E M d (pc + 3) L ((2, 56) :: st) m Q) : gh_T E M d pc L ((2, 47) :: st) m Q := gh_get (k := 15) hd gh_ck5 (ga_47 hF).1 (ga_47 hF).2 (by decide) hw rfl (gh_top (gh_Fx hF 170 rfl) kk)
theorem gf_47_16 (hd : decode M.2.1 pc = .ok (.getfield idx, 3)) (hw : Cond.fieldLink M.1 idx "GrammarHouse$Picker" "share" "[J" ∈ gh_tb) (hF : gh_F m) (kk : gh_T E M d (pc + 3) L ((2, 57) :: st) m Q) : gh_T E M d pc L ((2, 47) :: st) m Q := gh_get (k := 16) hd gh_ck5 (ga_47 hF).1 (ga_47 hF).2 (by decide) hw rfl (gh_top (gh_Fx hF 171 rfl) kk)
theorem ga_48 (hF : gh_F m) : gh_isA m 48 (1) ∧ m 0 (2 * 48 + 1) = 300 := ⟨⟨by decide, (by have := hF.2; omega), gh_Fx hF 92 rfl⟩, gh_Fx hF 93 rfl⟩
theorem gn_48 : ∀ e ∈ gh_fix, e.1 ≠ 48 := by
  have h : gh_fix.all (fun e => !(e.1 == 48)) = true := by decide +kernel
  intro e he z
  have := List.all_eq_true.mp h e he
  rw [z] at this
  exact absurd this (by decide)
theorem la_48 {i x : Int} (hd : decode M.2.1 pc = .ok (.iaload, 1)) (hF : gh_F m) (h0 : 0 ≤ i) (h1 : i < 300) (e : m 48 i = x) (kk : gh_T E M d (pc + 1) L ((0, x) :: st) m Q) : gh_T E M d pc L ((0, i) :: (2, 48) :: st) m Q := gh_iald hd (ga_48 hF).1 h0 (by rw [(ga_48 hF).2]; exact h1) (gh_top e kk)
theorem sa_48 {i v : Int} (hd : decode M.2.1 pc = .ok (.iastore, 1)) (hF : gh_F m) (h0 : 0 ≤ i) (h1 : i < 300) (kk : gh_F (gh_u m 48 i v) → gh_T E M d (pc + 1) L st (gh_u m 48 i v) Q) : gh_T E M d pc L ((0, v) :: (0, i) :: (2, 48) :: st) m Q := gh_iast hd (ga_48 hF).1 h0 (by rw [(ga_48 hF).2]; exact h1) (kk (gh_Fu hF (by decide) (fun e he z => gn_48 e he z.1)))
theorem ll_48 (hd : decode M.2.1 pc = .ok (.arraylength, 1)) (hF : gh_F m) (kk : gh_T E M d (pc + 1) L ((0, 300) :: st) m Q) : gh_T E M d pc L ((2, 48) :: st) m Q := gh_alen hd (ga_48 hF).1 (by decide) (gh_top (ga_48 hF).2 kk)
theorem ga_49 (hF : gh_F m) : gh_isA m 49 (1) ∧ m 0 (2 * 49 + 1) = 300 := ⟨⟨by decide, (by have := hF.2; omega), gh_Fx hF 94 rfl⟩, gh_Fx hF 95 rfl⟩
theorem gn_49 : ∀ e ∈ gh_fix, e.1 ≠ 49 := by
  have h : gh_fix.all (fun e => !(e.1 == 49)) = true := by decide +kernel
  intro e he z
  have := List.all_eq_true.mp h e he
  rw [z] at this
  exact absurd this (by decide)
theorem la_49 {i x : Int} (hd : decode M.2.1 pc = .ok (.iaload, 1)) (hF : gh_F m) (h0 : 0 ≤ i) (h1 : i < 300) (e : m 49 i = x) (kk : gh_T E M d (pc + 1) L ((0, x) :: st) m Q) : gh_T E M d pc L ((0, i) :: (2, 49) :: st) m Q := gh_iald hd (ga_49 hF).1 h0 (by rw [(ga_49 hF).2]; exact h1) (gh_top e kk)
theorem sa_49 {i v : Int} (hd : decode M.2.1 pc = .ok (.iastore, 1)) (hF : gh_F m) (h0 : 0 ≤ i) (h1 : i < 300) (kk : gh_F (gh_u m 49 i v) → gh_T E M d (pc + 1) L st (gh_u m 49 i v) Q) : gh_T E M d pc L ((0, v) :: (0, i) :: (2, 49) :: st) m Q := gh_iast hd (ga_49 hF).1 h0 (by rw [(ga_49 hF).2]; exact h1) (kk (gh_Fu hF (by decide) (fun e he z => gn_49 e he z.1)))
theorem ll_49 (hd : decode M.2.1 pc = .ok (.arraylength, 1)) (hF : gh_F m) (kk : gh_T E M d (pc + 1) L ((0, 300) :: st) m Q) : gh_T E M d pc L ((2, 49) :: st) m Q := gh_alen hd (ga_49 hF).1 (by decide) (gh_top (ga_49 hF).2 kk)
theorem ga_50 (hF : gh_F m) : gh_isA m 50 (1) ∧ m 0 (2 * 50 + 1) = 289 := ⟨⟨by decide, (by have := hF.2; omega), gh_Fx hF 96 rfl⟩, gh_Fx hF 97 rfl⟩
theorem gn_50 : ∀ e ∈ gh_fix, e.1 ≠ 50 := by
  have h : gh_fix.all (fun e => !(e.1 == 50)) = true := by decide +kernel
  intro e he z
  have := List.all_eq_true.mp h e he
  rw [z] at this
  exact absurd this (by decide)
theorem la_50 {i x : Int} (hd : decode M.2.1 pc = .ok (.iaload, 1)) (hF : gh_F m) (h0 : 0 ≤ i) (h1 : i < 289) (e : m 50 i = x) (kk : gh_T E M d (pc + 1) L ((0, x) :: st) m Q) : gh_T E M d pc L ((0, i) :: (2, 50) :: st) m Q := gh_iald hd (ga_50 hF).1 h0 (by rw [(ga_50 hF).2]; exact h1) (gh_top e kk)
theorem sa_50 {i v : Int} (hd : decode M.2.1 pc = .ok (.iastore, 1)) (hF : gh_F m) (h0 : 0 ≤ i) (h1 : i < 289) (kk : gh_F (gh_u m 50 i v) → gh_T E M d (pc + 1) L st (gh_u m 50 i v) Q) : gh_T E M d pc L ((0, v) :: (0, i) :: (2, 50) :: st) m Q := gh_iast hd (ga_50 hF).1 h0 (by rw [(ga_50 hF).2]; exact h1) (kk (gh_Fu hF (by decide) (fun e he z => gn_50 e he z.1)))
theorem ll_50 (hd : decode M.2.1 pc = .ok (.arraylength, 1)) (hF : gh_F m) (kk : gh_T E M d (pc + 1) L ((0, 289) :: st) m Q) : gh_T E M d pc L ((2, 50) :: st) m Q := gh_alen hd (ga_50 hF).1 (by decide) (gh_top (ga_50 hF).2 kk)
theorem ga_51 (hF : gh_F m) : gh_isA m 51 (1) ∧ m 0 (2 * 51 + 1) = 289 := ⟨⟨by decide, (by have := hF.2; omega), gh_Fx hF 98 rfl⟩, gh_Fx hF 99 rfl⟩
theorem gn_51 : ∀ e ∈ gh_fix, e.1 ≠ 51 := by
  have h : gh_fix.all (fun e => !(e.1 == 51)) = true := by decide +kernel
  intro e he z
  have := List.all_eq_true.mp h e he
  rw [z] at this
  exact absurd this (by decide)
theorem la_51 {i x : Int} (hd : decode M.2.1 pc = .ok (.iaload, 1)) (hF : gh_F m) (h0 : 0 ≤ i) (h1 : i < 289) (e : m 51 i = x) (kk : gh_T E M d (pc + 1) L ((0, x) :: st) m Q) : gh_T E M d pc L ((0, i) :: (2, 51) :: st) m Q := gh_iald hd (ga_51 hF).1 h0 (by rw [(ga_51 hF).2]; exact h1) (gh_top e kk)
theorem sa_51 {i v : Int} (hd : decode M.2.1 pc = .ok (.iastore, 1)) (hF : gh_F m) (h0 : 0 ≤ i) (h1 : i < 289) (kk : gh_F (gh_u m 51 i v) → gh_T E M d (pc + 1) L st (gh_u m 51 i v) Q) : gh_T E M d pc L ((0, v) :: (0, i) :: (2, 51) :: st) m Q := gh_iast hd (ga_51 hF).1 h0 (by rw [(ga_51 hF).2]; exact h1) (kk (gh_Fu hF (by decide) (fun e he z => gn_51 e he z.1)))
theorem ll_51 (hd : decode M.2.1 pc = .ok (.arraylength, 1)) (hF : gh_F m) (kk : gh_T E M d (pc + 1) L ((0, 289) :: st) m Q) : gh_T E M d pc L ((2, 51) :: st) m Q := gh_alen hd (ga_51 hF).1 (by decide) (gh_top (ga_51 hF).2 kk)
theorem ga_52 (hF : gh_F m) : gh_isA m 52 (1) ∧ m 0 (2 * 52 + 1) = 289 := ⟨⟨by decide, (by have := hF.2; omega), gh_Fx hF 100 rfl⟩, gh_Fx hF 101 rfl⟩
theorem gn_52 : ∀ e ∈ gh_fix, e.1 ≠ 52 := by
  have h : gh_fix.all (fun e => !(e.1 == 52)) = true := by decide +kernel
  intro e he z
  have := List.all_eq_true.mp h e he
  rw [z] at this
  exact absurd this (by decide)
theorem la_52 {i x : Int} (hd : decode M.2.1 pc = .ok (.iaload, 1)) (hF : gh_F m) (h0 : 0 ≤ i) (h1 : i < 289) (e : m 52 i = x) (kk : gh_T E M d (pc + 1) L ((0, x) :: st) m Q) : gh_T E M d pc L ((0, i) :: (2, 52) :: st) m Q := gh_iald hd (ga_52 hF).1 h0 (by rw [(ga_52 hF).2]; exact h1) (gh_top e kk)
theorem sa_52 {i v : Int} (hd : decode M.2.1 pc = .ok (.iastore, 1)) (hF : gh_F m) (h0 : 0 ≤ i) (h1 : i < 289) (kk : gh_F (gh_u m 52 i v) → gh_T E M d (pc + 1) L st (gh_u m 52 i v) Q) : gh_T E M d pc L ((0, v) :: (0, i) :: (2, 52) :: st) m Q := gh_iast hd (ga_52 hF).1 h0 (by rw [(ga_52 hF).2]; exact h1) (kk (gh_Fu hF (by decide) (fun e he z => gn_52 e he z.1)))
theorem ll_52 (hd : decode M.2.1 pc = .ok (.arraylength, 1)) (hF : gh_F m) (kk : gh_T E M d (pc + 1) L ((0, 289) :: st) m Q) : gh_T E M d pc L ((2, 52) :: st) m Q := gh_alen hd (ga_52 hF).1 (by decide) (gh_top (ga_52 hF).2 kk)
theorem ga_53 (hF : gh_F m) : gh_isA m 53 (1) ∧ m 0 (2 * 53 + 1) = 289 := ⟨⟨by decide, (by have := hF.2; omega), gh_Fx hF 102 rfl⟩, gh_Fx hF 103 rfl⟩
theorem gn_53 : ∀ e ∈ gh_fix, e.1 ≠ 53 := by
  have h : gh_fix.all (fun e => !(e.1 == 53)) = true := by decide +kernel
  intro e he z
  have := List.all_eq_true.mp h e he
  rw [z] at this
  exact absurd this (by decide)
theorem la_53 {i x : Int} (hd : decode M.2.1 pc = .ok (.iaload, 1)) (hF : gh_F m) (h0 : 0 ≤ i) (h1 : i < 289) (e : m 53 i = x) (kk : gh_T E M d (pc + 1) L ((0, x) :: st) m Q) : gh_T E M d pc L ((0, i) :: (2, 53) :: st) m Q := gh_iald hd (ga_53 hF).1 h0 (by rw [(ga_53 hF).2]; exact h1) (gh_top e kk)
theorem sa_53 {i v : Int} (hd : decode M.2.1 pc = .ok (.iastore, 1)) (hF : gh_F m) (h0 : 0 ≤ i) (h1 : i < 289) (kk : gh_F (gh_u m 53 i v) → gh_T E M d (pc + 1) L st (gh_u m 53 i v) Q) : gh_T E M d pc L ((0, v) :: (0, i) :: (2, 53) :: st) m Q := gh_iast hd (ga_53 hF).1 h0 (by rw [(ga_53 hF).2]; exact h1) (kk (gh_Fu hF (by decide) (fun e he z => gn_53 e he z.1)))
theorem ll_53 (hd : decode M.2.1 pc = .ok (.arraylength, 1)) (hF : gh_F m) (kk : gh_T E M d (pc + 1) L ((0, 289) :: st) m Q) : gh_T E M d pc L ((2, 53) :: st) m Q := gh_alen hd (ga_53 hF).1 (by decide) (gh_top (ga_53 hF).2 kk)
theorem ga_54 (hF : gh_F m) : gh_isA m 54 (1) ∧ m 0 (2 * 54 + 1) = 289 := ⟨⟨by decide, (by have := hF.2; omega), gh_Fx hF 104 rfl⟩, gh_Fx hF 105 rfl⟩
theorem gn_54 : ∀ e ∈ gh_fix, e.1 ≠ 54 := by
  have h : gh_fix.all (fun e => !(e.1 == 54)) = true := by decide +kernel
  intro e he z
  have := List.all_eq_true.mp h e he
  rw [z] at this
  exact absurd this (by decide)
theorem la_54 {i x : Int} (hd : decode M.2.1 pc = .ok (.iaload, 1)) (hF : gh_F m) (h0 : 0 ≤ i) (h1 : i < 289) (e : m 54 i = x) (kk : gh_T E M d (pc + 1) L ((0, x) :: st) m Q) : gh_T E M d pc L ((0, i) :: (2, 54) :: st) m Q := gh_iald hd (ga_54 hF).1 h0 (by rw [(ga_54 hF).2]; exact h1) (gh_top e kk)
theorem sa_54 {i v : Int} (hd : decode M.2.1 pc = .ok (.iastore, 1)) (hF : gh_F m) (h0 : 0 ≤ i) (h1 : i < 289) (kk : gh_F (gh_u m 54 i v) → gh_T E M d (pc + 1) L st (gh_u m 54 i v) Q) : gh_T E M d pc L ((0, v) :: (0, i) :: (2, 54) :: st) m Q := gh_iast hd (ga_54 hF).1 h0 (by rw [(ga_54 hF).2]; exact h1) (kk (gh_Fu hF (by decide) (fun e he z => gn_54 e he z.1)))
theorem ll_54 (hd : decode M.2.1 pc = .ok (.arraylength, 1)) (hF : gh_F m) (kk : gh_T E M d (pc + 1) L ((0, 289) :: st) m Q) : gh_T E M d pc L ((2, 54) :: st) m Q := gh_alen hd (ga_54 hF).1 (by decide) (gh_top (ga_54 hF).2 kk)
theorem ga_55 (hF : gh_F m) : gh_isA m 55 (3) ∧ m 0 (2 * 55 + 1) = 289 := ⟨⟨by decide, (by have := hF.2; omega), gh_Fx hF 106 rfl⟩, gh_Fx hF 107 rfl⟩
theorem gn_55 : ∀ e ∈ gh_fix, e.1 ≠ 55 := by
  have h : gh_fix.all (fun e => !(e.1 == 55)) = true := by decide +kernel
  intro e he z
  have := List.all_eq_true.mp h e he
  rw [z] at this
  exact absurd this (by decide)
theorem la_55 {i x : Int} (hd : decode M.2.1 pc = .ok (.laload, 1)) (hF : gh_F m) (h0 : 0 ≤ i) (h1 : i < 289) (e : m 55 i = x) (kk : gh_T E M d (pc + 1) L ((1, x) :: st) m Q) : gh_T E M d pc L ((0, i) :: (2, 55) :: st) m Q := gh_lald hd (ga_55 hF).1 h0 (by rw [(ga_55 hF).2]; exact h1) (gh_top e kk)
theorem sa_55 {i v : Int} (hd : decode M.2.1 pc = .ok (.lastore, 1)) (hF : gh_F m) (h0 : 0 ≤ i) (h1 : i < 289) (kk : gh_F (gh_u m 55 i v) → gh_T E M d (pc + 1) L st (gh_u m 55 i v) Q) : gh_T E M d pc L ((1, v) :: (0, i) :: (2, 55) :: st) m Q := gh_last hd (ga_55 hF).1 h0 (by rw [(ga_55 hF).2]; exact h1) (kk (gh_Fu hF (by decide) (fun e he z => gn_55 e he z.1)))
theorem ll_55 (hd : decode M.2.1 pc = .ok (.arraylength, 1)) (hF : gh_F m) (kk : gh_T E M d (pc + 1) L ((0, 289) :: st) m Q) : gh_T E M d pc L ((2, 55) :: st) m Q := gh_alen hd (ga_55 hF).1 (by decide) (gh_top (ga_55 hF).2 kk)
theorem ga_56 (hF : gh_F m) : gh_isA m 56 (1) ∧ m 0 (2 * 56 + 1) = 4 := ⟨⟨by decide, (by have := hF.2; omega), gh_Fx hF 108 rfl⟩, gh_Fx hF 109 rfl⟩
theorem gn_56 : ∀ e ∈ gh_fix, e.1 ≠ 56 := by
  have h : gh_fix.all (fun e => !(e.1 == 56)) = true := by decide +kernel
  intro e he z
  have := List.all_eq_true.mp h e he
  rw [z] at this
  exact absurd this (by decide)
theorem la_56 {i x : Int} (hd : decode M.2.1 pc = .ok (.iaload, 1)) (hF : gh_F m) (h0 : 0 ≤ i) (h1 : i < 4) (e : m 56 i = x) (kk : gh_T E M d (pc + 1) L ((0, x) :: st) m Q) : gh_T E M d pc L ((0, i) :: (2, 56) :: st) m Q := gh_iald hd (ga_56 hF).1 h0 (by rw [(ga_56 hF).2]; exact h1) (gh_top e kk)
theorem sa_56 {i v : Int} (hd : decode M.2.1 pc = .ok (.iastore, 1)) (hF : gh_F m) (h0 : 0 ≤ i) (h1 : i < 4) (kk : gh_F (gh_u m 56 i v) → gh_T E M d (pc + 1) L st (gh_u m 56 i v) Q) : gh_T E M d pc L ((0, v) :: (0, i) :: (2, 56) :: st) m Q := gh_iast hd (ga_56 hF).1 h0 (by rw [(ga_56 hF).2]; exact h1) (kk (gh_Fu hF (by decide) (fun e he z => gn_56 e he z.1)))
theorem ll_56 (hd : decode M.2.1 pc = .ok (.arraylength, 1)) (hF : gh_F m) (kk : gh_T E M d (pc + 1) L ((0, 4) :: st) m Q) : gh_T E M d pc L ((2, 56) :: st) m Q := gh_alen hd (ga_56 hF).1 (by decide) (gh_top (ga_56 hF).2 kk)
theorem ga_57 (hF : gh_F m) : gh_isA m 57 (3) ∧ m 0 (2 * 57 + 1) = 4 := ⟨⟨by decide, (by have := hF.2; omega), gh_Fx hF 110 rfl⟩, gh_Fx hF 111 rfl⟩
theorem gn_57 : ∀ e ∈ gh_fix, e.1 ≠ 57 := by
  have h : gh_fix.all (fun e => !(e.1 == 57)) = true := by decide +kernel
  intro e he z
  have := List.all_eq_true.mp h e he
  rw [z] at this
  exact absurd this (by decide)
theorem la_57 {i x : Int} (hd : decode M.2.1 pc = .ok (.laload, 1)) (hF : gh_F m) (h0 : 0 ≤ i) (h1 : i < 4) (e : m 57 i = x) (kk : gh_T E M d (pc + 1) L ((1, x) :: st) m Q) : gh_T E M d pc L ((0, i) :: (2, 57) :: st) m Q := gh_lald hd (ga_57 hF).1 h0 (by rw [(ga_57 hF).2]; exact h1) (gh_top e kk)
theorem sa_57 {i v : Int} (hd : decode M.2.1 pc = .ok (.lastore, 1)) (hF : gh_F m) (h0 : 0 ≤ i) (h1 : i < 4) (kk : gh_F (gh_u m 57 i v) → gh_T E M d (pc + 1) L st (gh_u m 57 i v) Q) : gh_T E M d pc L ((1, v) :: (0, i) :: (2, 57) :: st) m Q := gh_last hd (ga_57 hF).1 h0 (by rw [(ga_57 hF).2]; exact h1) (kk (gh_Fu hF (by decide) (fun e he z => gn_57 e he z.1)))
theorem ll_57 (hd : decode M.2.1 pc = .ok (.arraylength, 1)) (hF : gh_F m) (kk : gh_T E M d (pc + 1) L ((0, 4) :: st) m Q) : gh_T E M d pc L ((2, 57) :: st) m Q := gh_alen hd (ga_57 hF).1 (by decide) (gh_top (ga_57 hF).2 kk)
theorem ga_58 (hF : gh_F m) : gh_isA m 58 (10 + (6 : Nat)) ∧ m 0 (2 * 58 + 1) = 12 := ⟨⟨by decide, (by have := hF.2; omega), gh_Fx hF 112 rfl⟩, gh_Fx hF 113 rfl⟩
theorem gf_58_0 (hd : decode M.2.1 pc = .ok (.getfield idx, 3)) (hw : Cond.fieldLink M.1 idx "GrammarHouse$Proper" "grammar" "LGrammarHouse$Grammar;" ∈ gh_tb) (hF : gh_F m) (kk : gh_T E M d (pc + 3) L ((2, 13) :: st) m Q) : gh_T E M d pc L ((2, 58) :: st) m Q := gh_get (k := 0) hd gh_ck6 (ga_58 hF).1 (ga_58 hF).2 (by decide) hw rfl (gh_top (gh_Fx hF 172 rfl) kk)
theorem gf_58_1 (hd : decode M.2.1 pc = .ok (.getfield idx, 3)) (hw : Cond.fieldLink M.1 idx "GrammarHouse$Proper" "facts" "LGrammarHouse$Facts;" ∈ gh_tb) (hF : gh_F m) (kk : gh_T E M d (pc + 3) L ((2, 20) :: st) m Q) : gh_T E M d pc L ((2, 58) :: st) m Q := gh_get (k := 1) hd gh_ck6 (ga_58 hF).1 (ga_58 hF).2 (by decide) hw rfl (gh_top (gh_Fx hF 173 rfl) kk)
theorem gf_58_2 {x : Int} (hd : decode M.2.1 pc = .ok (.getfield idx, 3)) (hw : Cond.fieldLink M.1 idx "GrammarHouse$Proper" "found" "Z" ∈ gh_tb) (hF : gh_F m) (e : m 58 2 = x) (kk : gh_T E M d (pc + 3) L ((0, x) :: st) m Q) : gh_T E M d pc L ((2, 58) :: st) m Q := gh_get (k := 2) hd gh_ck6 (ga_58 hF).1 (ga_58 hF).2 (by decide) hw rfl (gh_top e kk)
theorem gw_58_2 : ∀ e ∈ gh_fix, ¬ (e.1 = 58 ∧ e.2.1 = 2) := by
  have h : gh_fix.all (fun e => !(e.1 == 58 && e.2.1 == 2)) = true := by decide +kernel
  intro e he z
  have := List.all_eq_true.mp h e he
  rw [z.1, z.2] at this
  exact absurd this (by decide)
theorem pf_58_2 {v : Int} (hd : decode M.2.1 pc = .ok (.putfield idx, 3)) (hw : Cond.fieldLink M.1 idx "GrammarHouse$Proper" "found" "Z" ∈ gh_tb) (hF : gh_F m) (hv : v = 0 ∨ v = 1) (kk : gh_F (gh_u m 58 2 v) → gh_T E M d (pc + 3) L st (gh_u m 58 2 v) Q) : gh_T E M d pc L ((0, v) :: (2, 58) :: st) m Q := gh_put (k := 2) hd gh_ck6 (ga_58 hF).1 (by decide) hw rfl (fun _ => hv) (Or.inl rfl) (kk (gh_Fu hF (by decide) gw_58_2))
theorem gf_58_3 {x : Int} (hd : decode M.2.1 pc = .ok (.getfield idx, 3)) (hw : Cond.fieldLink M.1 idx "GrammarHouse$Proper" "pairs" "I" ∈ gh_tb) (hF : gh_F m) (e : m 58 3 = x) (kk : gh_T E M d (pc + 3) L ((0, x) :: st) m Q) : gh_T E M d pc L ((2, 58) :: st) m Q := gh_get (k := 3) hd gh_ck6 (ga_58 hF).1 (ga_58 hF).2 (by decide) hw rfl (gh_top e kk)
theorem gw_58_3 : ∀ e ∈ gh_fix, ¬ (e.1 = 58 ∧ e.2.1 = 3) := by
  have h : gh_fix.all (fun e => !(e.1 == 58 && e.2.1 == 3)) = true := by decide +kernel
  intro e he z
  have := List.all_eq_true.mp h e he
  rw [z.1, z.2] at this
  exact absurd this (by decide)
theorem pf_58_3 {v : Int} (hd : decode M.2.1 pc = .ok (.putfield idx, 3)) (hw : Cond.fieldLink M.1 idx "GrammarHouse$Proper" "pairs" "I" ∈ gh_tb) (hF : gh_F m) (kk : gh_F (gh_u m 58 3 v) → gh_T E M d (pc + 3) L st (gh_u m 58 3 v) Q) : gh_T E M d pc L ((0, v) :: (2, 58) :: st) m Q := gh_put (k := 3) hd gh_ck6 (ga_58 hF).1 (by decide) hw rfl (fun z => by cases z) (Or.inl rfl) (kk (gh_Fu hF (by decide) gw_58_3))
theorem gf_58_4 {x : Int} (hd : decode M.2.1 pc = .ok (.getfield idx, 3)) (hw : Cond.fieldLink M.1 idx "GrammarHouse$Proper" "owning" "I" ∈ gh_tb) (hF : gh_F m) (e : m 58 4 = x) (kk : gh_T E M d (pc + 3) L ((0, x) :: st) m Q) : gh_T E M d pc L ((2, 58) :: st) m Q := gh_get (k := 4) hd gh_ck6 (ga_58 hF).1 (ga_58 hF).2 (by decide) hw rfl (gh_top e kk)
theorem gw_58_4 : ∀ e ∈ gh_fix, ¬ (e.1 = 58 ∧ e.2.1 = 4) := by
  have h : gh_fix.all (fun e => !(e.1 == 58 && e.2.1 == 4)) = true := by decide +kernel
  intro e he z
  have := List.all_eq_true.mp h e he
  rw [z.1, z.2] at this
  exact absurd this (by decide)
theorem pf_58_4 {v : Int} (hd : decode M.2.1 pc = .ok (.putfield idx, 3)) (hw : Cond.fieldLink M.1 idx "GrammarHouse$Proper" "owning" "I" ∈ gh_tb) (hF : gh_F m) (kk : gh_F (gh_u m 58 4 v) → gh_T E M d (pc + 3) L st (gh_u m 58 4 v) Q) : gh_T E M d pc L ((0, v) :: (2, 58) :: st) m Q := gh_put (k := 4) hd gh_ck6 (ga_58 hF).1 (by decide) hw rfl (fun z => by cases z) (Or.inl rfl) (kk (gh_Fu hF (by decide) gw_58_4))
theorem gf_58_5 {x : Int} (hd : decode M.2.1 pc = .ok (.getfield idx, 3)) (hw : Cond.fieldLink M.1 idx "GrammarHouse$Proper" "parts" "I" ∈ gh_tb) (hF : gh_F m) (e : m 58 5 = x) (kk : gh_T E M d (pc + 3) L ((0, x) :: st) m Q) : gh_T E M d pc L ((2, 58) :: st) m Q := gh_get (k := 5) hd gh_ck6 (ga_58 hF).1 (ga_58 hF).2 (by decide) hw rfl (gh_top e kk)
theorem gw_58_5 : ∀ e ∈ gh_fix, ¬ (e.1 = 58 ∧ e.2.1 = 5) := by
  have h : gh_fix.all (fun e => !(e.1 == 58 && e.2.1 == 5)) = true := by decide +kernel
  intro e he z
  have := List.all_eq_true.mp h e he
  rw [z.1, z.2] at this
  exact absurd this (by decide)
theorem pf_58_5 {v : Int} (hd : decode M.2.1 pc = .ok (.putfield idx, 3)) (hw : Cond.fieldLink M.1 idx "GrammarHouse$Proper" "parts" "I" ∈ gh_tb) (hF : gh_F m) (kk : gh_F (gh_u m 58 5 v) → gh_T E M d (pc + 3) L st (gh_u m 58 5 v) Q) : gh_T E M d pc L ((0, v) :: (2, 58) :: st) m Q := gh_put (k := 5) hd gh_ck6 (ga_58 hF).1 (by decide) hw rfl (fun z => by cases z) (Or.inl rfl) (kk (gh_Fu hF (by decide) gw_58_5))
theorem gf_58_6 (hd : decode M.2.1 pc = .ok (.getfield idx, 3)) (hw : Cond.fieldLink M.1 idx "GrammarHouse$Proper" "sets" "[I" ∈ gh_tb) (hF : gh_F m) (kk : gh_T E M d (pc + 3) L ((2, 59) :: st) m Q) : gh_T E M d pc L ((2, 58) :: st) m Q := gh_get (k := 6) hd gh_ck6 (ga_58 hF).1 (ga_58 hF).2 (by decide) hw rfl (gh_top (gh_Fx hF 174 rfl) kk)
theorem gf_58_7 {x : Int} (hd : decode M.2.1 pc = .ok (.getfield idx, 3)) (hw : Cond.fieldLink M.1 idx "GrammarHouse$Proper" "setCount" "I" ∈ gh_tb) (hF : gh_F m) (e : m 58 7 = x) (kk : gh_T E M d (pc + 3) L ((0, x) :: st) m Q) : gh_T E M d pc L ((2, 58) :: st) m Q := gh_get (k := 7) hd gh_ck6 (ga_58 hF).1 (ga_58 hF).2 (by decide) hw rfl (gh_top e kk)
theorem gw_58_7 : ∀ e ∈ gh_fix, ¬ (e.1 = 58 ∧ e.2.1 = 7) := by
  have h : gh_fix.all (fun e => !(e.1 == 58 && e.2.1 == 7)) = true := by decide +kernel
  intro e he z
  have := List.all_eq_true.mp h e he
  rw [z.1, z.2] at this
  exact absurd this (by decide)
theorem pf_58_7 {v : Int} (hd : decode M.2.1 pc = .ok (.putfield idx, 3)) (hw : Cond.fieldLink M.1 idx "GrammarHouse$Proper" "setCount" "I" ∈ gh_tb) (hF : gh_F m) (kk : gh_F (gh_u m 58 7 v) → gh_T E M d (pc + 3) L st (gh_u m 58 7 v) Q) : gh_T E M d pc L ((0, v) :: (2, 58) :: st) m Q := gh_put (k := 7) hd gh_ck6 (ga_58 hF).1 (by decide) hw rfl (fun z => by cases z) (Or.inl rfl) (kk (gh_Fu hF (by decide) gw_58_7))
theorem gf_58_8 (hd : decode M.2.1 pc = .ok (.getfield idx, 3)) (hw : Cond.fieldLink M.1 idx "GrammarHouse$Proper" "rows" "[I" ∈ gh_tb) (hF : gh_F m) (kk : gh_T E M d (pc + 3) L ((2, 60) :: st) m Q) : gh_T E M d pc L ((2, 58) :: st) m Q := gh_get (k := 8) hd gh_ck6 (ga_58 hF).1 (ga_58 hF).2 (by decide) hw rfl (gh_top (gh_Fx hF 175 rfl) kk)
theorem gf_58_9 (hd : decode M.2.1 pc = .ok (.getfield idx, 3)) (hw : Cond.fieldLink M.1 idx "GrammarHouse$Proper" "owners" "[I" ∈ gh_tb) (hF : gh_F m) (kk : gh_T E M d (pc + 3) L ((2, 61) :: st) m Q) : gh_T E M d pc L ((2, 58) :: st) m Q := gh_get (k := 9) hd gh_ck6 (ga_58 hF).1 (ga_58 hF).2 (by decide) hw rfl (gh_top (gh_Fx hF 176 rfl) kk)
theorem gf_58_10 {x : Int} (hd : decode M.2.1 pc = .ok (.getfield idx, 3)) (hw : Cond.fieldLink M.1 idx "GrammarHouse$Proper" "rowCount" "I" ∈ gh_tb) (hF : gh_F m) (e : m 58 10 = x) (kk : gh_T E M d (pc + 3) L ((0, x) :: st) m Q) : gh_T E M d pc L ((2, 58) :: st) m Q := gh_get (k := 10) hd gh_ck6 (ga_58 hF).1 (ga_58 hF).2 (by decide) hw rfl (gh_top e kk)
theorem gw_58_10 : ∀ e ∈ gh_fix, ¬ (e.1 = 58 ∧ e.2.1 = 10) := by
  have h : gh_fix.all (fun e => !(e.1 == 58 && e.2.1 == 10)) = true := by decide +kernel
  intro e he z
  have := List.all_eq_true.mp h e he
  rw [z.1, z.2] at this
  exact absurd this (by decide)
theorem pf_58_10 {v : Int} (hd : decode M.2.1 pc = .ok (.putfield idx, 3)) (hw : Cond.fieldLink M.1 idx "GrammarHouse$Proper" "rowCount" "I" ∈ gh_tb) (hF : gh_F m) (kk : gh_F (gh_u m 58 10 v) → gh_T E M d (pc + 3) L st (gh_u m 58 10 v) Q) : gh_T E M d pc L ((0, v) :: (2, 58) :: st) m Q := gh_put (k := 10) hd gh_ck6 (ga_58 hF).1 (by decide) hw rfl (fun z => by cases z) (Or.inl rfl) (kk (gh_Fu hF (by decide) gw_58_10))
theorem gf_58_11 (hd : decode M.2.1 pc = .ok (.getfield idx, 3)) (hw : Cond.fieldLink M.1 idx "GrammarHouse$Proper" "units" "[I" ∈ gh_tb) (hF : gh_F m) (kk : gh_T E M d (pc + 3) L ((2, 62) :: st) m Q) : gh_T E M d pc L ((2, 58) :: st) m Q := gh_get (k := 11) hd gh_ck6 (ga_58 hF).1 (ga_58 hF).2 (by decide) hw rfl (gh_top (gh_Fx hF 177 rfl) kk)
theorem ga_59 (hF : gh_F m) : gh_isA m 59 (1) ∧ m 0 (2 * 59 + 1) = 80 := ⟨⟨by decide, (by have := hF.2; omega), gh_Fx hF 114 rfl⟩, gh_Fx hF 115 rfl⟩
theorem gn_59 : ∀ e ∈ gh_fix, e.1 ≠ 59 := by
  have h : gh_fix.all (fun e => !(e.1 == 59)) = true := by decide +kernel
  intro e he z
  have := List.all_eq_true.mp h e he
  rw [z] at this
  exact absurd this (by decide)
theorem la_59 {i x : Int} (hd : decode M.2.1 pc = .ok (.iaload, 1)) (hF : gh_F m) (h0 : 0 ≤ i) (h1 : i < 80) (e : m 59 i = x) (kk : gh_T E M d (pc + 1) L ((0, x) :: st) m Q) : gh_T E M d pc L ((0, i) :: (2, 59) :: st) m Q := gh_iald hd (ga_59 hF).1 h0 (by rw [(ga_59 hF).2]; exact h1) (gh_top e kk)
theorem sa_59 {i v : Int} (hd : decode M.2.1 pc = .ok (.iastore, 1)) (hF : gh_F m) (h0 : 0 ≤ i) (h1 : i < 80) (kk : gh_F (gh_u m 59 i v) → gh_T E M d (pc + 1) L st (gh_u m 59 i v) Q) : gh_T E M d pc L ((0, v) :: (0, i) :: (2, 59) :: st) m Q := gh_iast hd (ga_59 hF).1 h0 (by rw [(ga_59 hF).2]; exact h1) (kk (gh_Fu hF (by decide) (fun e he z => gn_59 e he z.1)))
theorem ll_59 (hd : decode M.2.1 pc = .ok (.arraylength, 1)) (hF : gh_F m) (kk : gh_T E M d (pc + 1) L ((0, 80) :: st) m Q) : gh_T E M d pc L ((2, 59) :: st) m Q := gh_alen hd (ga_59 hF).1 (by decide) (gh_top (ga_59 hF).2 kk)
theorem ga_60 (hF : gh_F m) : gh_isA m 60 (1) ∧ m 0 (2 * 60 + 1) = 320 := ⟨⟨by decide, (by have := hF.2; omega), gh_Fx hF 116 rfl⟩, gh_Fx hF 117 rfl⟩
theorem gn_60 : ∀ e ∈ gh_fix, e.1 ≠ 60 := by
  have h : gh_fix.all (fun e => !(e.1 == 60)) = true := by decide +kernel
  intro e he z
  have := List.all_eq_true.mp h e he
  rw [z] at this
  exact absurd this (by decide)
theorem la_60 {i x : Int} (hd : decode M.2.1 pc = .ok (.iaload, 1)) (hF : gh_F m) (h0 : 0 ≤ i) (h1 : i < 320) (e : m 60 i = x) (kk : gh_T E M d (pc + 1) L ((0, x) :: st) m Q) : gh_T E M d pc L ((0, i) :: (2, 60) :: st) m Q := gh_iald hd (ga_60 hF).1 h0 (by rw [(ga_60 hF).2]; exact h1) (gh_top e kk)
theorem sa_60 {i v : Int} (hd : decode M.2.1 pc = .ok (.iastore, 1)) (hF : gh_F m) (h0 : 0 ≤ i) (h1 : i < 320) (kk : gh_F (gh_u m 60 i v) → gh_T E M d (pc + 1) L st (gh_u m 60 i v) Q) : gh_T E M d pc L ((0, v) :: (0, i) :: (2, 60) :: st) m Q := gh_iast hd (ga_60 hF).1 h0 (by rw [(ga_60 hF).2]; exact h1) (kk (gh_Fu hF (by decide) (fun e he z => gn_60 e he z.1)))
theorem ll_60 (hd : decode M.2.1 pc = .ok (.arraylength, 1)) (hF : gh_F m) (kk : gh_T E M d (pc + 1) L ((0, 320) :: st) m Q) : gh_T E M d pc L ((2, 60) :: st) m Q := gh_alen hd (ga_60 hF).1 (by decide) (gh_top (ga_60 hF).2 kk)
theorem ga_61 (hF : gh_F m) : gh_isA m 61 (1) ∧ m 0 (2 * 61 + 1) = 320 := ⟨⟨by decide, (by have := hF.2; omega), gh_Fx hF 118 rfl⟩, gh_Fx hF 119 rfl⟩
theorem gn_61 : ∀ e ∈ gh_fix, e.1 ≠ 61 := by
  have h : gh_fix.all (fun e => !(e.1 == 61)) = true := by decide +kernel
  intro e he z
  have := List.all_eq_true.mp h e he
  rw [z] at this
  exact absurd this (by decide)
theorem la_61 {i x : Int} (hd : decode M.2.1 pc = .ok (.iaload, 1)) (hF : gh_F m) (h0 : 0 ≤ i) (h1 : i < 320) (e : m 61 i = x) (kk : gh_T E M d (pc + 1) L ((0, x) :: st) m Q) : gh_T E M d pc L ((0, i) :: (2, 61) :: st) m Q := gh_iald hd (ga_61 hF).1 h0 (by rw [(ga_61 hF).2]; exact h1) (gh_top e kk)
theorem sa_61 {i v : Int} (hd : decode M.2.1 pc = .ok (.iastore, 1)) (hF : gh_F m) (h0 : 0 ≤ i) (h1 : i < 320) (kk : gh_F (gh_u m 61 i v) → gh_T E M d (pc + 1) L st (gh_u m 61 i v) Q) : gh_T E M d pc L ((0, v) :: (0, i) :: (2, 61) :: st) m Q := gh_iast hd (ga_61 hF).1 h0 (by rw [(ga_61 hF).2]; exact h1) (kk (gh_Fu hF (by decide) (fun e he z => gn_61 e he z.1)))
theorem ll_61 (hd : decode M.2.1 pc = .ok (.arraylength, 1)) (hF : gh_F m) (kk : gh_T E M d (pc + 1) L ((0, 320) :: st) m Q) : gh_T E M d pc L ((2, 61) :: st) m Q := gh_alen hd (ga_61 hF).1 (by decide) (gh_top (ga_61 hF).2 kk)
theorem ga_62 (hF : gh_F m) : gh_isA m 62 (1) ∧ m 0 (2 * 62 + 1) = 8 := ⟨⟨by decide, (by have := hF.2; omega), gh_Fx hF 120 rfl⟩, gh_Fx hF 121 rfl⟩
theorem gn_62 : ∀ e ∈ gh_fix, e.1 ≠ 62 := by
  have h : gh_fix.all (fun e => !(e.1 == 62)) = true := by decide +kernel
  intro e he z
  have := List.all_eq_true.mp h e he
  rw [z] at this
  exact absurd this (by decide)
theorem la_62 {i x : Int} (hd : decode M.2.1 pc = .ok (.iaload, 1)) (hF : gh_F m) (h0 : 0 ≤ i) (h1 : i < 8) (e : m 62 i = x) (kk : gh_T E M d (pc + 1) L ((0, x) :: st) m Q) : gh_T E M d pc L ((0, i) :: (2, 62) :: st) m Q := gh_iald hd (ga_62 hF).1 h0 (by rw [(ga_62 hF).2]; exact h1) (gh_top e kk)
theorem sa_62 {i v : Int} (hd : decode M.2.1 pc = .ok (.iastore, 1)) (hF : gh_F m) (h0 : 0 ≤ i) (h1 : i < 8) (kk : gh_F (gh_u m 62 i v) → gh_T E M d (pc + 1) L st (gh_u m 62 i v) Q) : gh_T E M d pc L ((0, v) :: (0, i) :: (2, 62) :: st) m Q := gh_iast hd (ga_62 hF).1 h0 (by rw [(ga_62 hF).2]; exact h1) (kk (gh_Fu hF (by decide) (fun e he z => gn_62 e he z.1)))
theorem ll_62 (hd : decode M.2.1 pc = .ok (.arraylength, 1)) (hF : gh_F m) (kk : gh_T E M d (pc + 1) L ((0, 8) :: st) m Q) : gh_T E M d pc L ((2, 62) :: st) m Q := gh_alen hd (ga_62 hF).1 (by decide) (gh_top (ga_62 hF).2 kk)
theorem ga_63 (hF : gh_F m) : gh_isA m 63 (1) ∧ m 0 (2 * 63 + 1) = 1 := ⟨⟨by decide, (by have := hF.2; omega), gh_Fx hF 122 rfl⟩, gh_Fx hF 123 rfl⟩
theorem gn_63 : ∀ e ∈ gh_fix, e.1 ≠ 63 := by
  have h : gh_fix.all (fun e => !(e.1 == 63)) = true := by decide +kernel
  intro e he z
  have := List.all_eq_true.mp h e he
  rw [z] at this
  exact absurd this (by decide)
theorem la_63 {i x : Int} (hd : decode M.2.1 pc = .ok (.iaload, 1)) (hF : gh_F m) (h0 : 0 ≤ i) (h1 : i < 1) (e : m 63 i = x) (kk : gh_T E M d (pc + 1) L ((0, x) :: st) m Q) : gh_T E M d pc L ((0, i) :: (2, 63) :: st) m Q := gh_iald hd (ga_63 hF).1 h0 (by rw [(ga_63 hF).2]; exact h1) (gh_top e kk)
theorem sa_63 {i v : Int} (hd : decode M.2.1 pc = .ok (.iastore, 1)) (hF : gh_F m) (h0 : 0 ≤ i) (h1 : i < 1) (kk : gh_F (gh_u m 63 i v) → gh_T E M d (pc + 1) L st (gh_u m 63 i v) Q) : gh_T E M d pc L ((0, v) :: (0, i) :: (2, 63) :: st) m Q := gh_iast hd (ga_63 hF).1 h0 (by rw [(ga_63 hF).2]; exact h1) (kk (gh_Fu hF (by decide) (fun e he z => gn_63 e he z.1)))
theorem ll_63 (hd : decode M.2.1 pc = .ok (.arraylength, 1)) (hF : gh_F m) (kk : gh_T E M d (pc + 1) L ((0, 1) :: st) m Q) : gh_T E M d pc L ((2, 63) :: st) m Q := gh_alen hd (ga_63 hF).1 (by decide) (gh_top (ga_63 hF).2 kk)
theorem ga_64 (hF : gh_F m) : gh_isA m 64 (1) ∧ m 0 (2 * 64 + 1) = 64 := ⟨⟨by decide, (by have := hF.2; omega), gh_Fx hF 124 rfl⟩, gh_Fx hF 125 rfl⟩
theorem gn_64 : ∀ e ∈ gh_fix, e.1 ≠ 64 := by
  have h : gh_fix.all (fun e => !(e.1 == 64)) = true := by decide +kernel
  intro e he z
  have := List.all_eq_true.mp h e he
  rw [z] at this
  exact absurd this (by decide)
theorem la_64 {i x : Int} (hd : decode M.2.1 pc = .ok (.iaload, 1)) (hF : gh_F m) (h0 : 0 ≤ i) (h1 : i < 64) (e : m 64 i = x) (kk : gh_T E M d (pc + 1) L ((0, x) :: st) m Q) : gh_T E M d pc L ((0, i) :: (2, 64) :: st) m Q := gh_iald hd (ga_64 hF).1 h0 (by rw [(ga_64 hF).2]; exact h1) (gh_top e kk)
theorem sa_64 {i v : Int} (hd : decode M.2.1 pc = .ok (.iastore, 1)) (hF : gh_F m) (h0 : 0 ≤ i) (h1 : i < 64) (kk : gh_F (gh_u m 64 i v) → gh_T E M d (pc + 1) L st (gh_u m 64 i v) Q) : gh_T E M d pc L ((0, v) :: (0, i) :: (2, 64) :: st) m Q := gh_iast hd (ga_64 hF).1 h0 (by rw [(ga_64 hF).2]; exact h1) (kk (gh_Fu hF (by decide) (fun e he z => gn_64 e he z.1)))
theorem ll_64 (hd : decode M.2.1 pc = .ok (.arraylength, 1)) (hF : gh_F m) (kk : gh_T E M d (pc + 1) L ((0, 64) :: st) m Q) : gh_T E M d pc L ((2, 64) :: st) m Q := gh_alen hd (ga_64 hF).1 (by decide) (gh_top (ga_64 hF).2 kk)
theorem ga_65 (hF : gh_F m) : gh_isA m 65 (1) ∧ m 0 (2 * 65 + 1) = 64 := ⟨⟨by decide, (by have := hF.2; omega), gh_Fx hF 126 rfl⟩, gh_Fx hF 127 rfl⟩
theorem gn_65 : ∀ e ∈ gh_fix, e.1 ≠ 65 := by
  have h : gh_fix.all (fun e => !(e.1 == 65)) = true := by decide +kernel
  intro e he z
  have := List.all_eq_true.mp h e he
  rw [z] at this
  exact absurd this (by decide)
theorem la_65 {i x : Int} (hd : decode M.2.1 pc = .ok (.iaload, 1)) (hF : gh_F m) (h0 : 0 ≤ i) (h1 : i < 64) (e : m 65 i = x) (kk : gh_T E M d (pc + 1) L ((0, x) :: st) m Q) : gh_T E M d pc L ((0, i) :: (2, 65) :: st) m Q := gh_iald hd (ga_65 hF).1 h0 (by rw [(ga_65 hF).2]; exact h1) (gh_top e kk)
theorem sa_65 {i v : Int} (hd : decode M.2.1 pc = .ok (.iastore, 1)) (hF : gh_F m) (h0 : 0 ≤ i) (h1 : i < 64) (kk : gh_F (gh_u m 65 i v) → gh_T E M d (pc + 1) L st (gh_u m 65 i v) Q) : gh_T E M d pc L ((0, v) :: (0, i) :: (2, 65) :: st) m Q := gh_iast hd (ga_65 hF).1 h0 (by rw [(ga_65 hF).2]; exact h1) (kk (gh_Fu hF (by decide) (fun e he z => gn_65 e he z.1)))
theorem ll_65 (hd : decode M.2.1 pc = .ok (.arraylength, 1)) (hF : gh_F m) (kk : gh_T E M d (pc + 1) L ((0, 64) :: st) m Q) : gh_T E M d pc L ((2, 65) :: st) m Q := gh_alen hd (ga_65 hF).1 (by decide) (gh_top (ga_65 hF).2 kk)
end G8
