/-! THE CONSTRUCTORS: each runs once, over a memory that is written out; the latest entry counts -/
def gh_lk (ov : List (Int × Int × Int)) (a i : Int) : Option Int := match ov with
  | [] => none
  | e :: l => if e.1 = a ∧ e.2.1 = i then some e.2.2 else gh_lk l a i
def gh_ov (ov : List (Int × Int × Int)) (L : Nat) (xs : Nat → Int32) : gh_M := fun a i => match gh_lk ov a i with
  | some v => v
  | none => gh_m0 L xs a i
theorem gh_ov_s {ov : List (Int × Int × Int)} {L : Nat} {xs : Nat → Int32} {a i v : Int} (h : gh_lk ov a i = some v) : gh_ov ov L xs a i = v := by
  unfold gh_ov
  rw [h]
theorem gh_lk_t {e : Int × Int × Int} {l : List (Int × Int × Int)} {a i : Int} (h : e.1 = a ∧ e.2.1 = i) : gh_lk (e :: l) a i = some e.2.2 := by
  show (if e.1 = a ∧ e.2.1 = i then some e.2.2 else gh_lk l a i) = _
  rw [if_pos h]
theorem gh_lk_f {e : Int × Int × Int} {l : List (Int × Int × Int)} {a i : Int} (h : ¬ (e.1 = a ∧ e.2.1 = i)) : gh_lk (e :: l) a i = gh_lk l a i := by
  show (if e.1 = a ∧ e.2.1 = i then some e.2.2 else gh_lk l a i) = _
  rw [if_neg h]
theorem gh_ov_c {ov ov2 : List (Int × Int × Int)} {L : Nat} {xs : Nat → Int32} {a i : Int} (h : gh_lk ov a i = gh_lk ov2 a i) : gh_ov ov L xs a i = gh_ov ov2 L xs a i := by
  unfold gh_ov
  rw [h]
theorem gh_ov_n {ov : List (Int × Int × Int)} {L : Nat} {xs : Nat → Int32} {a i : Int} (h : gh_lk ov a i = none) : gh_ov ov L xs a i = gh_m0 L xs a i := by
  unfold gh_ov
  rw [h]
theorem gh_ov_u {ov : List (Int × Int × Int)} {L : Nat} {xs : Nat → Int32} {a i v : Int} : gh_u (gh_ov ov L xs) a i v = gh_ov ((a, i, v) :: ov) L xs := by
  funext b j
  unfold gh_u
  by_cases h : b = a ∧ j = i
  · rw [if_pos h]
    exact (gh_ov_s (gh_lk_t (e := (a, i, v)) ⟨h.1.symm, h.2.symm⟩)).symm
  · rw [if_neg h]
    exact (gh_ov_c (gh_lk_f (fun z => h ⟨z.1.symm, z.2.symm⟩))).symm
theorem gh_lk_n {a : Int} : ∀ (ov : List (Int × Int × Int)), ov.all (fun e => !(e.1 == a)) = true → ∀ i, gh_lk ov a i = none
  | [], _, _ => rfl
  | e :: l, h, i => by
    rw [List.all_cons, Bool.and_eq_true] at h
    rw [gh_lk_f (fun z => by have := h.1; rw [z.1] at this; simp at this)]
    exact gh_lk_n l h.2 i
theorem gh_ov_al {ov : List (Int × Int × Int)} {L : Nat} {xs : Nat → Int32} {N T κ n : Int} (h1 : gh_lk ov 0 1 = some N) (h0 : gh_lk ov 0 0 = some T) (h2 : 2 ≤ N) (hz : ov.all (fun e => !(e.1 == N)) = true) :
    gh_al (gh_ov ov L xs) κ n = gh_ov ((0, 0, T + n) :: (0, 1, N + 1) :: (0, 2 * N, κ) :: (0, 2 * N + 1, n) :: ov) L xs := by
  have e1 : gh_ov ov L xs 0 1 = N := gh_ov_s h1
  have e0 : gh_ov ov L xs 0 0 = T := gh_ov_s h0
  have out : ∀ a i : Int, a ≠ 0 → gh_lk ((0, 0, T + n) :: (0, 1, N + 1) :: (0, 2 * N, κ) :: (0, 2 * N + 1, n) :: ov) a i = gh_lk ov a i := fun a i ha => by
    rw [gh_lk_f (fun z => ha z.1.symm), gh_lk_f (fun z => ha z.1.symm), gh_lk_f (fun z => ha z.1.symm), gh_lk_f (fun z => ha z.1.symm)]
  funext a i
  unfold gh_al
  rw [e1, e0]
  by_cases ha : a = N
  · rw [if_pos ha, gh_ov_n ((out a i (by omega)).trans (by rw [ha]; exact gh_lk_n ov hz i))]
    unfold gh_m0
    rw [if_neg (by omega), if_neg (by omega)]
  · rw [if_neg ha]
    by_cases h0' : a = 0
    · rw [if_pos h0', h0']
      by_cases i0 : i = 0
      · rw [if_pos i0]
        exact (gh_ov_s (gh_lk_t (e := (0, 0, T + n)) ⟨rfl, i0.symm⟩)).symm
      · rw [if_neg i0]
        by_cases i1 : i = 1
        · rw [if_pos i1]
          refine (gh_ov_s ?_).symm
          rw [gh_lk_f (fun z => i0 z.2.symm), gh_lk_t ⟨rfl, i1.symm⟩]
        · rw [if_neg i1]
          by_cases i2 : i = 2 * N
          · rw [if_pos i2]
            refine (gh_ov_s ?_).symm
            rw [gh_lk_f (fun z => i0 z.2.symm), gh_lk_f (fun z => i1 z.2.symm), gh_lk_t ⟨rfl, i2.symm⟩]
          · rw [if_neg i2]
            by_cases i3 : i = 2 * N + 1
            · rw [if_pos i3]
              refine (gh_ov_s ?_).symm
              rw [gh_lk_f (fun z => i0 z.2.symm), gh_lk_f (fun z => i1 z.2.symm), gh_lk_f (fun z => i2 z.2.symm), gh_lk_t ⟨rfl, i3.symm⟩]
            · rw [if_neg i3]
              refine (gh_ov_c ?_).symm
              rw [gh_lk_f (fun z => i0 z.2.symm), gh_lk_f (fun z => i1 z.2.symm), gh_lk_f (fun z => i2 z.2.symm), gh_lk_f (fun z => i3 z.2.symm)]
    · rw [if_neg h0']
      exact (gh_ov_c (out a i h0')).symm
theorem gh_ov_A {ov : List (Int × Int × Int)} {L : Nat} {xs : Nat → Int32} {a κ N : Int} (h1 : gh_lk ov 0 1 = some N) (h2 : gh_lk ov 0 (2 * a) = some κ) (h3 : 2 ≤ a ∧ a < N) : gh_isA (gh_ov ov L xs) a κ := ⟨h3.1, by rw [gh_ov_s h1]; exact h3.2, gh_ov_s h2⟩
section G10
variable {E : gh_E} {M : gh_I} {d pc : Nat} {L : gh_Ls} {st : gh_St} {Q : Int → gh_M → Prop} {Ln : Nat} {xs : Nat → Int32} {ov ov2 : List (Int × Int × Int)}
theorem gh_newO {ci idx : Nat} {C : String} {T : u_T} {N : Nat} {A S : Int} (hd : decode M.2.1 pc = .ok (.new idx, 3)) (hc : gh_ck ci C T N) (hw1 : Cond.classLink M.1 idx C ∈ gh_tb) (hw2 : Cond.instantiable C N ∈ gh_tb) (hw3 : Cond.initialized C ∈ gh_tb) (hN : N < 1000) (h1 : gh_lk ov 0 1 = some A) (h0 : gh_lk ov 0 0 = some S) (h2 : 2 ≤ A) (hz : ov.all (fun e => !(e.1 == A)) = true)
    (ho : ov2 = (0, 0, S + (N : Int)) :: (0, 1, A + 1) :: (0, 2 * A, 10 + (ci : Int)) :: (0, 2 * A + 1, (N : Int)) :: ov) (kk : gh_T E M d (pc + 3) L ((2, A) :: st) (gh_ov ov2 Ln xs) Q) : gh_T E M d pc L st (gh_ov ov Ln xs) Q := by
  refine gh_new hd hc hw1 hw2 hw3 hN ?_
  rw [gh_ov_al h1 h0 h2 hz, gh_ov_s h1, ← ho]
  exact kk
theorem gh_newarrO {κ n A S : Int} {at_ : ArrayType} (hd : decode M.2.1 pc = .ok (.newarray at_, 2)) (hκ : (at_ = .int ∧ κ = 1) ∨ (at_ = .long ∧ κ = 3)) (hw : Cond.arrayClass (newarray.typeOf at_) ∈ gh_tb) (hn : 0 ≤ n ∧ n < 60000000) (h1 : gh_lk ov 0 1 = some A) (h0 : gh_lk ov 0 0 = some S) (h2 : 2 ≤ A) (hz : ov.all (fun e => !(e.1 == A)) = true)
    (ho : ov2 = (0, 0, S + n) :: (0, 1, A + 1) :: (0, 2 * A, κ) :: (0, 2 * A + 1, n) :: ov) (kk : gh_T E M d (pc + 2) L ((2, A) :: st) (gh_ov ov2 Ln xs) Q) : gh_T E M d pc L ((0, n) :: st) (gh_ov ov Ln xs) Q := by
  refine gh_newarr hd hκ hw hn.1 hn.2 ?_
  rw [gh_ov_al h1 h0 h2 hz, gh_ov_s h1, ← ho]
  exact kk
theorem gh_putO {a v A : Int} {ci idx k : Nat} {C : String} {T : u_T} {N : Nat} {t : Int} (hd : decode M.2.1 pc = .ok (.putfield idx, 3)) (hc : gh_ck ci C T N) (h1 : gh_lk ov 0 1 = some A) (h2 : gh_lk ov 0 (2 * a) = some (10 + (ci : Int))) (h3 : 2 ≤ a ∧ a < A) (hk : k < N) (hw : Cond.fieldLink M.1 idx (T k).1 (T k).2.1 (T k).2.2.1 ∈ gh_tb) (ht : gh_tg (10 + ci) k = t) (hfw : gh_fw ci k v) (hfin : (T k).2.2.2 = false ∨ (M.2.2.2.1 = true ∧ (T k).1 = M.1)) (ho : ov2 = (a, (k : Int), v) :: ov) (kk : gh_T E M d (pc + 3) L st (gh_ov ov2 Ln xs) Q) : gh_T E M d pc L ((t, v) :: (2, a) :: st) (gh_ov ov Ln xs) Q := by
  refine gh_put hd hc (gh_ov_A h1 h2 h3) hk hw ht hfw hfin ?_
  rw [gh_ov_u, ← ho]
  exact kk
theorem gh_getO {a v A : Int} {ci idx k : Nat} {C : String} {T : u_T} {N : Nat} {t : Int} (hd : decode M.2.1 pc = .ok (.getfield idx, 3)) (hc : gh_ck ci C T N) (h1 : gh_lk ov 0 1 = some A) (h2 : gh_lk ov 0 (2 * a) = some (10 + (ci : Int))) (h3 : 2 ≤ a ∧ a < A) (hl : gh_lk ov 0 (2 * a + 1) = some (N : Int)) (hk : k < N) (hw : Cond.fieldLink M.1 idx (T k).1 (T k).2.1 (T k).2.2.1 ∈ gh_tb) (ht : gh_tg (10 + ci) k = t) (hv : gh_lk ov a (k : Int) = some v) (kk : gh_T E M d (pc + 3) L ((t, v) :: st) (gh_ov ov Ln xs) Q) : gh_T E M d pc L ((2, a) :: st) (gh_ov ov Ln xs) Q := by
  refine gh_get hd hc (gh_ov_A h1 h2 h3) (gh_ov_s hl) hk hw ht ?_
  rw [gh_ov_s hv]
  exact kk
end G10
theorem gh_oka {as : gh_St} {L : gh_Ls} (hL : L.map (fun q => q.2) = as) (h : ∀ q ∈ as, gh_ok q.1 q.2) : ∀ q ∈ L, gh_ok q.2.1 q.2.2 := by
  intro q hq
  rw [← hL] at h
  exact h q.2 (List.mem_map.mpr ⟨q, hq, rfl⟩)
def gh_o0 : List (Int × Int × Int) := [(0, 0, 0), (0, 1, 2)]
def gh_o1 : List (Int × Int × Int) := (0, 0, 1) :: (0, 1, 3) :: (0, 4, 1) :: (0, 5, 1) :: gh_o0
def gh_o2 : List (Int × Int × Int) := (0, 0, 65) :: (0, 1, 4) :: (0, 6, 1) :: (0, 7, 64) :: gh_o1
def gh_o3 : List (Int × Int × Int) := (0, 0, 129) :: (0, 1, 5) :: (0, 8, 1) :: (0, 9, 64) :: gh_o2
def gh_o4 : List (Int × Int × Int) := (0, 0, 140) :: (0, 1, 6) :: (0, 10, 21) :: (0, 11, 11) :: gh_o3
def gh_o5 : List (Int × Int × Int) := (0, 0, 145) :: (0, 1, 7) :: (0, 12, 18) :: (0, 13, 5) :: gh_o4
def gh_o6 : List (Int × Int × Int) := (0, 0, 385) :: (0, 1, 8) :: (0, 14, 1) :: (0, 15, 240) :: gh_o5
def gh_o7 : List (Int × Int × Int) := (6, 0, 7) :: gh_o6
def gh_o8 : List (Int × Int × Int) := (5, 0, 6) :: gh_o7
def gh_o9 : List (Int × Int × Int) := (0, 0, 394) :: (0, 1, 9) :: (0, 16, 17) :: (0, 17, 9) :: gh_o8
def gh_o10 : List (Int × Int × Int) := (0, 0, 401) :: (0, 1, 10) :: (0, 18, 11) :: (0, 19, 7) :: gh_o9
def gh_o11 : List (Int × Int × Int) := (0, 0, 409) :: (0, 1, 11) :: (0, 20, 1) :: (0, 21, 8) :: gh_o10
def gh_o12 : List (Int × Int × Int) := (9, 0, 10) :: gh_o11
def gh_o13 : List (Int × Int × Int) := (0, 0, 429) :: (0, 1, 12) :: (0, 22, 1) :: (0, 23, 20) :: gh_o12
def gh_o14 : List (Int × Int × Int) := (9, 4, 11) :: gh_o13
def gh_o15 : List (Int × Int × Int) := (0, 0, 449) :: (0, 1, 13) :: (0, 24, 1) :: (0, 25, 20) :: gh_o14
def gh_o16 : List (Int × Int × Int) := (9, 5, 12) :: gh_o15
def gh_o17 : List (Int × Int × Int) := (0, 0, 529) :: (0, 1, 14) :: (0, 26, 1) :: (0, 27, 80) :: gh_o16
def gh_o18 : List (Int × Int × Int) := (9, 6, 13) :: gh_o17
def gh_o19 : List (Int × Int × Int) := (8, 0, 9) :: gh_o18
def gh_o20 : List (Int × Int × Int) := (8, 2, (-1)) :: gh_o19
def gh_o21 : List (Int × Int × Int) := (0, 0, 533) :: (0, 1, 15) :: (0, 28, 1) :: (0, 29, 4) :: gh_o20
def gh_o22 : List (Int × Int × Int) := (8, 7, 14) :: gh_o21
def gh_o23 : List (Int × Int × Int) := (0, 0, 549) :: (0, 1, 16) :: (0, 30, 1) :: (0, 31, 16) :: gh_o22
def gh_o24 : List (Int × Int × Int) := (8, 8, 15) :: gh_o23
def gh_o25 : List (Int × Int × Int) := (8, 3, 6) :: gh_o24
def gh_o26 : List (Int × Int × Int) := (5, 1, 8) :: gh_o25
def gh_o27 : List (Int × Int × Int) := (0, 0, 558) :: (0, 1, 17) :: (0, 32, 14) :: (0, 33, 9) :: gh_o26
def gh_o28 : List (Int × Int × Int) := (0, 0, 566) :: (0, 1, 18) :: (0, 34, 1) :: (0, 35, 8) :: gh_o27
def gh_o29 : List (Int × Int × Int) := (16, 3, 17) :: gh_o28
def gh_o30 : List (Int × Int × Int) := (0, 0, 574) :: (0, 1, 19) :: (0, 36, 1) :: (0, 37, 8) :: gh_o29
def gh_o31 : List (Int × Int × Int) := (16, 4, 18) :: gh_o30
def gh_o32 : List (Int × Int × Int) := (0, 0, 594) :: (0, 1, 20) :: (0, 38, 1) :: (0, 39, 20) :: gh_o31
def gh_o33 : List (Int × Int × Int) := (16, 5, 19) :: gh_o32
def gh_o34 : List (Int × Int × Int) := (0, 0, 614) :: (0, 1, 21) :: (0, 40, 1) :: (0, 41, 20) :: gh_o33
def gh_o35 : List (Int × Int × Int) := (16, 6, 20) :: gh_o34
def gh_o36 : List (Int × Int × Int) := (0, 0, 622) :: (0, 1, 22) :: (0, 42, 1) :: (0, 43, 8) :: gh_o35
def gh_o37 : List (Int × Int × Int) := (16, 7, 21) :: gh_o36
def gh_o38 : List (Int × Int × Int) := (0, 0, 702) :: (0, 1, 23) :: (0, 44, 1) :: (0, 45, 80) :: gh_o37
def gh_o39 : List (Int × Int × Int) := (16, 8, 22) :: gh_o38
def gh_o40 : List (Int × Int × Int) := (5, 2, 16) :: gh_o39
def gh_o41 : List (Int × Int × Int) := (0, 0, 713) :: (0, 1, 24) :: (0, 46, 12) :: (0, 47, 11) :: gh_o40
def gh_o42 : List (Int × Int × Int) := (0, 0, 721) :: (0, 1, 25) :: (0, 48, 1) :: (0, 49, 8) :: gh_o41
def gh_o43 : List (Int × Int × Int) := (23, 6, 24) :: gh_o42
def gh_o44 : List (Int × Int × Int) := (0, 0, 729) :: (0, 1, 26) :: (0, 50, 1) :: (0, 51, 8) :: gh_o43
def gh_o45 : List (Int × Int × Int) := (23, 7, 25) :: gh_o44
def gh_o46 : List (Int × Int × Int) := (0, 0, 737) :: (0, 1, 27) :: (0, 52, 1) :: (0, 53, 8) :: gh_o45
def gh_o47 : List (Int × Int × Int) := (23, 8, 26) :: gh_o46
def gh_o48 : List (Int × Int × Int) := (0, 0, 745) :: (0, 1, 28) :: (0, 54, 1) :: (0, 55, 8) :: gh_o47
def gh_o49 : List (Int × Int × Int) := (23, 9, 27) :: gh_o48
def gh_o50 : List (Int × Int × Int) := (0, 0, 765) :: (0, 1, 29) :: (0, 56, 1) :: (0, 57, 20) :: gh_o49
def gh_o51 : List (Int × Int × Int) := (23, 10, 28) :: gh_o50
def gh_o52 : List (Int × Int × Int) := (23, 0, 16) :: gh_o51
def gh_o53 : List (Int × Int × Int) := (5, 3, 23) :: gh_o52
def gh_o54 : List (Int × Int × Int) := (0, 0, 774) :: (0, 1, 30) :: (0, 58, 19) :: (0, 59, 9) :: gh_o53
def gh_o55 : List (Int × Int × Int) := (0, 0, 782) :: (0, 1, 31) :: (0, 60, 1) :: (0, 61, 8) :: gh_o54
def gh_o56 : List (Int × Int × Int) := (29, 2, 30) :: gh_o55
def gh_o57 : List (Int × Int × Int) := (0, 0, 790) :: (0, 1, 32) :: (0, 62, 1) :: (0, 63, 8) :: gh_o56
def gh_o58 : List (Int × Int × Int) := (29, 4, 31) :: gh_o57
def gh_o59 : List (Int × Int × Int) := (0, 0, 1031) :: (0, 1, 33) :: (0, 64, 1) :: (0, 65, 241) :: gh_o58
def gh_o60 : List (Int × Int × Int) := (29, 5, 32) :: gh_o59
def gh_o61 : List (Int × Int × Int) := (29, 0, 16) :: gh_o60
def gh_o62 : List (Int × Int × Int) := (29, 1, 23) :: gh_o61
def gh_o63 : List (Int × Int × Int) := (5, 4, 29) :: gh_o62
def gh_o64 : List (Int × Int × Int) := (0, 0, 1040) :: (0, 1, 34) :: (0, 66, 10) :: (0, 67, 9) :: gh_o63
def gh_o65 : List (Int × Int × Int) := (0, 0, 1112) :: (0, 1, 35) :: (0, 68, 1) :: (0, 69, 72) :: gh_o64
def gh_o66 : List (Int × Int × Int) := (33, 4, 34) :: gh_o65
def gh_o67 : List (Int × Int × Int) := (0, 0, 1121) :: (0, 1, 36) :: (0, 70, 1) :: (0, 71, 9) :: gh_o66
def gh_o68 : List (Int × Int × Int) := (33, 5, 35) :: gh_o67
def gh_o69 : List (Int × Int × Int) := (0, 0, 1130) :: (0, 1, 37) :: (0, 72, 1) :: (0, 73, 9) :: gh_o68
def gh_o70 : List (Int × Int × Int) := (33, 6, 36) :: gh_o69
def gh_o71 : List (Int × Int × Int) := (0, 0, 1139) :: (0, 1, 38) :: (0, 74, 1) :: (0, 75, 9) :: gh_o70
def gh_o72 : List (Int × Int × Int) := (33, 7, 37) :: gh_o71
def gh_o73 : List (Int × Int × Int) := (0, 0, 1148) :: (0, 1, 39) :: (0, 76, 1) :: (0, 77, 9) :: gh_o72
def gh_o74 : List (Int × Int × Int) := (33, 8, 38) :: gh_o73
def gh_o75 : List (Int × Int × Int) := (33, 0, 16) :: gh_o74
def gh_o76 : List (Int × Int × Int) := (33, 1, 23) :: gh_o75
def gh_o77 : List (Int × Int × Int) := (33, 2, 29) :: gh_o76
def gh_o78 : List (Int × Int × Int) := (5, 5, 33) :: gh_o77
def gh_o79 : List (Int × Int × Int) := (0, 0, 1158) :: (0, 1, 40) :: (0, 78, 20) :: (0, 79, 10) :: gh_o78
def gh_o80 : List (Int × Int × Int) := (0, 0, 1167) :: (0, 1, 41) :: (0, 80, 1) :: (0, 81, 9) :: gh_o79
def gh_o81 : List (Int × Int × Int) := (39, 5, 40) :: gh_o80
def gh_o82 : List (Int × Int × Int) := (0, 0, 1239) :: (0, 1, 42) :: (0, 82, 1) :: (0, 83, 72) :: gh_o81
def gh_o83 : List (Int × Int × Int) := (39, 6, 41) :: gh_o82
def gh_o84 : List (Int × Int × Int) := (39, 7, (-1)) :: gh_o83
def gh_o85 : List (Int × Int × Int) := (0, 0, 1887) :: (0, 1, 43) :: (0, 84, 1) :: (0, 85, 648) :: gh_o84
def gh_o86 : List (Int × Int × Int) := (39, 8, 42) :: gh_o85
def gh_o87 : List (Int × Int × Int) := (0, 0, 1896) :: (0, 1, 44) :: (0, 86, 1) :: (0, 87, 9) :: gh_o86
def gh_o88 : List (Int × Int × Int) := (39, 9, 43) :: gh_o87
def gh_o89 : List (Int × Int × Int) := (39, 0, 16) :: gh_o88
def gh_o90 : List (Int × Int × Int) := (39, 1, 23) :: gh_o89
def gh_o91 : List (Int × Int × Int) := (39, 2, 29) :: gh_o90
def gh_o92 : List (Int × Int × Int) := (39, 3, 33) :: gh_o91
def gh_o93 : List (Int × Int × Int) := (5, 6, 39) :: gh_o92
def gh_o94 : List (Int × Int × Int) := (0, 0, 1908) :: (0, 1, 45) :: (0, 88, 13) :: (0, 89, 12) :: gh_o93
def gh_o95 : List (Int × Int × Int) := (0, 0, 2556) :: (0, 1, 46) :: (0, 90, 3) :: (0, 91, 648) :: gh_o94
def gh_o96 : List (Int × Int × Int) := (44, 4, 45) :: gh_o95
def gh_o97 : List (Int × Int × Int) := (0, 0, 2916) :: (0, 1, 47) :: (0, 92, 3) :: (0, 93, 360) :: gh_o96
def gh_o98 : List (Int × Int × Int) := (44, 5, 46) :: gh_o97
def gh_o99 : List (Int × Int × Int) := (0, 0, 2948) :: (0, 1, 48) :: (0, 94, 1) :: (0, 95, 32) :: gh_o98
def gh_o100 : List (Int × Int × Int) := (44, 6, 47) :: gh_o99
def gh_o101 : List (Int × Int × Int) := (0, 0, 2948) :: (0, 1, 49) :: (0, 96, 3) :: (0, 97, 0) :: gh_o100
def gh_o102 : List (Int × Int × Int) := (44, 7, 48) :: gh_o101
def gh_o103 : List (Int × Int × Int) := (0, 0, 2948) :: (0, 1, 50) :: (0, 98, 1) :: (0, 99, 0) :: gh_o102
def gh_o104 : List (Int × Int × Int) := (44, 8, 49) :: gh_o103
def gh_o105 : List (Int × Int × Int) := (44, 11, (-1)) :: gh_o104
def gh_o106 : List (Int × Int × Int) := (44, 0, 16) :: gh_o105
def gh_o107 : List (Int × Int × Int) := (44, 1, 23) :: gh_o106
def gh_o108 : List (Int × Int × Int) := (44, 2, 29) :: gh_o107
def gh_o109 : List (Int × Int × Int) := (44, 3, 33) :: gh_o108
def gh_o110 : List (Int × Int × Int) := (5, 7, 44) :: gh_o109
def gh_o111 : List (Int × Int × Int) := (0, 0, 2965) :: (0, 1, 51) :: (0, 100, 15) :: (0, 101, 17) :: gh_o110
def gh_o112 : List (Int × Int × Int) := (0, 0, 3265) :: (0, 1, 52) :: (0, 102, 1) :: (0, 103, 300) :: gh_o111
def gh_o113 : List (Int × Int × Int) := (50, 3, 51) :: gh_o112
def gh_o114 : List (Int × Int × Int) := (0, 0, 3565) :: (0, 1, 53) :: (0, 104, 1) :: (0, 105, 300) :: gh_o113
def gh_o115 : List (Int × Int × Int) := (50, 6, 52) :: gh_o114
def gh_o116 : List (Int × Int × Int) := (0, 0, 3854) :: (0, 1, 54) :: (0, 106, 1) :: (0, 107, 289) :: gh_o115
def gh_o117 : List (Int × Int × Int) := (50, 8, 53) :: gh_o116
def gh_o118 : List (Int × Int × Int) := (0, 0, 4143) :: (0, 1, 55) :: (0, 108, 1) :: (0, 109, 289) :: gh_o117
def gh_o119 : List (Int × Int × Int) := (50, 9, 54) :: gh_o118
def gh_o120 : List (Int × Int × Int) := (0, 0, 4432) :: (0, 1, 56) :: (0, 110, 1) :: (0, 111, 289) :: gh_o119
def gh_o121 : List (Int × Int × Int) := (50, 10, 55) :: gh_o120
def gh_o122 : List (Int × Int × Int) := (0, 0, 4721) :: (0, 1, 57) :: (0, 112, 1) :: (0, 113, 289) :: gh_o121
def gh_o123 : List (Int × Int × Int) := (50, 11, 56) :: gh_o122
def gh_o124 : List (Int × Int × Int) := (0, 0, 5010) :: (0, 1, 58) :: (0, 114, 1) :: (0, 115, 289) :: gh_o123
def gh_o125 : List (Int × Int × Int) := (50, 12, 57) :: gh_o124
def gh_o126 : List (Int × Int × Int) := (0, 0, 5299) :: (0, 1, 59) :: (0, 116, 3) :: (0, 117, 289) :: gh_o125
def gh_o127 : List (Int × Int × Int) := (50, 13, 58) :: gh_o126
def gh_o128 : List (Int × Int × Int) := (0, 0, 5303) :: (0, 1, 60) :: (0, 118, 1) :: (0, 119, 4) :: gh_o127
def gh_o129 : List (Int × Int × Int) := (50, 15, 59) :: gh_o128
def gh_o130 : List (Int × Int × Int) := (0, 0, 5307) :: (0, 1, 61) :: (0, 120, 3) :: (0, 121, 4) :: gh_o129
def gh_o131 : List (Int × Int × Int) := (50, 16, 60) :: gh_o130
def gh_o132 : List (Int × Int × Int) := (50, 0, 16) :: gh_o131
def gh_o133 : List (Int × Int × Int) := (50, 1, 29) :: gh_o132
def gh_o134 : List (Int × Int × Int) := (50, 2, 44) :: gh_o133
def gh_o135 : List (Int × Int × Int) := (5, 8, 50) :: gh_o134
def gh_o136 : List (Int × Int × Int) := (0, 0, 5319) :: (0, 1, 62) :: (0, 122, 16) :: (0, 123, 12) :: gh_o135
def gh_o137 : List (Int × Int × Int) := (0, 0, 5399) :: (0, 1, 63) :: (0, 124, 1) :: (0, 125, 80) :: gh_o136
def gh_o138 : List (Int × Int × Int) := (61, 6, 62) :: gh_o137
def gh_o139 : List (Int × Int × Int) := (0, 0, 5719) :: (0, 1, 64) :: (0, 126, 1) :: (0, 127, 320) :: gh_o138
def gh_o140 : List (Int × Int × Int) := (61, 8, 63) :: gh_o139
def gh_o141 : List (Int × Int × Int) := (0, 0, 6039) :: (0, 1, 65) :: (0, 128, 1) :: (0, 129, 320) :: gh_o140
def gh_o142 : List (Int × Int × Int) := (61, 9, 64) :: gh_o141
def gh_o143 : List (Int × Int × Int) := (0, 0, 6047) :: (0, 1, 66) :: (0, 130, 1) :: (0, 131, 8) :: gh_o142
def gh_o144 : List (Int × Int × Int) := (61, 11, 65) :: gh_o143
def gh_o145 : List (Int × Int × Int) := (61, 0, 16) :: gh_o144
def gh_o146 : List (Int × Int × Int) := (61, 1, 23) :: gh_o145
def gh_o147 : List (Int × Int × Int) := (5, 9, 61) :: gh_o146
def gh_oR : List (Int × Int × Int) := [(0, 0, 6047), (0, 1, 66), (0, 4, 21), (0, 5, 11), (0, 6, 18), (0, 7, 5), (0, 8, 1), (0, 9, 240), (0, 10, 17), (0, 11, 9), (0, 12, 11), (0, 13, 7), (0, 14, 1), (0, 15, 8), (0, 16, 1), (0, 17, 20), (0, 18, 1), (0, 19, 20), (0, 20, 1), (0, 21, 80), (0, 22, 1), (0, 23, 4), (0, 24, 1), (0, 25, 16), (0, 26, 14), (0, 27, 9), (0, 28, 1), (0, 29, 8), (0, 30, 1), (0, 31, 8), (0, 32, 1), (0, 33, 20), (0, 34, 1), (0, 35, 20), (0, 36, 1), (0, 37, 8), (0, 38, 1), (0, 39, 80), (0, 40, 12), (0, 41, 11), (0, 42, 1), (0, 43, 8), (0, 44, 1), (0, 45, 8), (0, 46, 1), (0, 47, 8), (0, 48, 1), (0, 49, 8), (0, 50, 1), (0, 51, 20), (0, 52, 19), (0, 53, 9), (0, 54, 1), (0, 55, 8), (0, 56, 1), (0, 57, 8), (0, 58, 1), (0, 59, 241), (0, 60, 10), (0, 61, 9), (0, 62, 1), (0, 63, 72), (0, 64, 1), (0, 65, 9), (0, 66, 1), (0, 67, 9), (0, 68, 1), (0, 69, 9), (0, 70, 1), (0, 71, 9), (0, 72, 20), (0, 73, 10), (0, 74, 1), (0, 75, 9), (0, 76, 1), (0, 77, 72), (0, 78, 1), (0, 79, 648), (0, 80, 1), (0, 81, 9), (0, 82, 13), (0, 83, 12), (0, 84, 3), (0, 85, 648), (0, 86, 3), (0, 87, 360), (0, 88, 1), (0, 89, 32), (0, 90, 3), (0, 91, 0), (0, 92, 1), (0, 93, 0), (0, 94, 15), (0, 95, 17), (0, 96, 1), (0, 97, 300), (0, 98, 1), (0, 99, 300), (0, 100, 1), (0, 101, 289), (0, 102, 1), (0, 103, 289), (0, 104, 1), (0, 105, 289), (0, 106, 1), (0, 107, 289), (0, 108, 1), (0, 109, 289), (0, 110, 3), (0, 111, 289), (0, 112, 1), (0, 113, 4), (0, 114, 3), (0, 115, 4), (0, 116, 16), (0, 117, 12), (0, 118, 1), (0, 119, 80), (0, 120, 1), (0, 121, 320), (0, 122, 1), (0, 123, 320), (0, 124, 1), (0, 125, 8), (0, 126, 1), (0, 127, 1), (0, 128, 1), (0, 129, 64), (0, 130, 1), (0, 131, 64), (3, 0, 4), (2, 0, 3), (6, 0, 7), (6, 4, 8), (6, 5, 9), (6, 6, 10), (5, 0, 6), (5, 2, (-1)), (5, 7, 11), (5, 8, 12), (5, 3, 3), (2, 1, 5), (13, 3, 14), (13, 4, 15), (13, 5, 16), (13, 6, 17), (13, 7, 18), (13, 8, 19), (2, 2, 13), (20, 6, 21), (20, 7, 22), (20, 8, 23), (20, 9, 24), (20, 10, 25), (20, 0, 13), (2, 3, 20), (26, 2, 27), (26, 4, 28), (26, 5, 29), (26, 0, 13), (26, 1, 20), (2, 4, 26), (30, 4, 31), (30, 5, 32), (30, 6, 33), (30, 7, 34), (30, 8, 35), (30, 0, 13), (30, 1, 20), (30, 2, 26), (2, 5, 30), (36, 5, 37), (36, 6, 38), (36, 7, (-1)), (36, 8, 39), (36, 9, 40), (36, 0, 13), (36, 1, 20), (36, 2, 26), (36, 3, 30), (2, 6, 36), (41, 4, 42), (41, 5, 43), (41, 6, 44), (41, 7, 45), (41, 8, 46), (41, 11, (-1)), (41, 0, 13), (41, 1, 20), (41, 2, 26), (41, 3, 30), (2, 7, 41), (47, 3, 48), (47, 6, 49), (47, 8, 50), (47, 9, 51), (47, 10, 52), (47, 11, 53), (47, 12, 54), (47, 13, 55), (47, 15, 56), (47, 16, 57), (47, 0, 13), (47, 1, 26), (47, 2, 41), (2, 8, 47), (58, 6, 59), (58, 8, 60), (58, 9, 61), (58, 11, 62), (58, 0, 13), (58, 1, 20), (2, 9, 58)]
abbrev gh_oE : List (Int × Int × Int) := gh_o147
theorem gc_Tape_init {E : gh_E} {Ln : Nat} {xs : Nat → Int32} (d : Nat) : gh_C E gh_yTape_init prog_10_method_1_code 1 none 9 (d + 1) [(2, 6)] (gh_ov gh_o5 Ln xs) (fun _ m1 => m1 = gh_ov gh_o7 Ln xs) := by
  refine gh_enter (L := [(0, 2, 6)]) true (by decide +kernel) (fun _ => rfl) gh_rt9 (Nat.le_of_ble_eq_true rfl) rfl (fun h q hq => ?_) ?_
  · exact gh_oka (as := [(2, 6)]) (L := [(0, 2, 6)]) rfl h q hq
  refine gh_aload_n gd_Tape_init_0 0 rfl (by decide) ?_
  refine gh_obj0 gd_Tape_init_1 (by decide) gh_k84 gh_k77 gh_k78 (Nat.le_of_ble_eq_true rfl) ?_
  refine gh_aload_n gd_Tape_init_4 0 rfl (by decide) ?_
  refine gh_sipush gd_Tape_init_5 (by decide) (gh_r0 rfl) ?_
  refine gh_newarrO (ov := gh_o5) (ov2 := gh_o6) (κ := 1) (A := 7) (S := 145) gd_Tape_init_8 (by decide) gh_k104 (by decide) (by decide +kernel) (by decide +kernel) (by decide) (by decide +kernel) rfl ?_
  refine gh_putO (ov := gh_o6) (ov2 := gh_o7) (A := 8) (k := 0) gd_Tape_init_10 gh_ck8 (by decide +kernel) (by decide +kernel) (by decide) (by decide) gh_k85 rfl (fun z => by cases z) (Or.inr ⟨rfl, rfl⟩) rfl ?_
  exact gh_ret9 rfl gd_Tape_init_13 rfl
theorem gc_Draft_init {E : gh_E} {Ln : Nat} {xs : Nat → Int32} (d : Nat) : gh_C E gh_yDraft_init prog_3_method_1_code 1 none 9 (d + 1) [(2, 9)] (gh_ov gh_o10 Ln xs) (fun _ m1 => m1 = gh_ov gh_o18 Ln xs) := by
  refine gh_enter (L := [(0, 2, 9)]) true (by decide +kernel) (fun _ => rfl) gh_rt9 (Nat.le_of_ble_eq_true rfl) rfl (fun h q hq => ?_) ?_
  · exact gh_oka (as := [(2, 9)]) (L := [(0, 2, 9)]) rfl h q hq
  refine gh_aload_n gd_Draft_init_0 0 rfl (by decide) ?_
  refine gh_obj0 gd_Draft_init_1 (by decide) gh_k116 gh_k77 gh_k78 (Nat.le_of_ble_eq_true rfl) ?_
  refine gh_aload_n gd_Draft_init_4 0 rfl (by decide) ?_
  refine gh_bipush gd_Draft_init_5 (by decide) (gh_r0 rfl) ?_
  refine gh_newarrO (ov := gh_o10) (ov2 := gh_o11) (κ := 1) (A := 10) (S := 401) gd_Draft_init_7 (by decide) gh_k104 (by decide) (by decide +kernel) (by decide +kernel) (by decide) (by decide +kernel) rfl ?_
  refine gh_putO (ov := gh_o11) (ov2 := gh_o12) (A := 11) (k := 0) gd_Draft_init_9 gh_ck1 (by decide +kernel) (by decide +kernel) (by decide) (by decide) gh_k117 rfl (fun z => by cases z) (Or.inr ⟨rfl, rfl⟩) rfl ?_
  refine gh_aload_n gd_Draft_init_12 0 rfl (by decide) ?_
  refine gh_bipush gd_Draft_init_13 (by decide) (gh_r0 rfl) ?_
  refine gh_newarrO (ov := gh_o12) (ov2 := gh_o13) (κ := 1) (A := 11) (S := 409) gd_Draft_init_15 (by decide) gh_k104 (by decide) (by decide +kernel) (by decide +kernel) (by decide) (by decide +kernel) rfl ?_
  refine gh_putO (ov := gh_o13) (ov2 := gh_o14) (A := 12) (k := 4) gd_Draft_init_17 gh_ck1 (by decide +kernel) (by decide +kernel) (by decide) (by decide) gh_k123 rfl (fun z => by cases z) (Or.inr ⟨rfl, rfl⟩) rfl ?_
  refine gh_aload_n gd_Draft_init_20 0 rfl (by decide) ?_
  refine gh_bipush gd_Draft_init_21 (by decide) (gh_r0 rfl) ?_
  refine gh_newarrO (ov := gh_o14) (ov2 := gh_o15) (κ := 1) (A := 12) (S := 429) gd_Draft_init_23 (by decide) gh_k104 (by decide) (by decide +kernel) (by decide +kernel) (by decide) (by decide +kernel) rfl ?_
  refine gh_putO (ov := gh_o15) (ov2 := gh_o16) (A := 13) (k := 5) gd_Draft_init_25 gh_ck1 (by decide +kernel) (by decide +kernel) (by decide) (by decide) gh_k124 rfl (fun z => by cases z) (Or.inr ⟨rfl, rfl⟩) rfl ?_
  refine gh_aload_n gd_Draft_init_28 0 rfl (by decide) ?_
  refine gh_bipush gd_Draft_init_29 (by decide) (gh_r0 rfl) ?_
  refine gh_newarrO (ov := gh_o16) (ov2 := gh_o17) (κ := 1) (A := 13) (S := 449) gd_Draft_init_31 (by decide) gh_k104 (by decide) (by decide +kernel) (by decide +kernel) (by decide) (by decide +kernel) rfl ?_
  refine gh_putO (ov := gh_o17) (ov2 := gh_o18) (A := 14) (k := 6) gd_Draft_init_33 gh_ck1 (by decide +kernel) (by decide +kernel) (by decide) (by decide) gh_k125 rfl (fun z => by cases z) (Or.inr ⟨rfl, rfl⟩) rfl ?_
  exact gh_ret9 rfl gd_Draft_init_36 rfl
theorem gc_Reader_init {E : gh_E} {Ln : Nat} {xs : Nat → Int32} (d : Nat) : gh_C E gh_yReader_init prog_9_method_1_code 2 none 9 (d + 2) [(2, 8), (2, 6)] (gh_ov gh_o9 Ln xs) (fun _ m1 => m1 = gh_ov gh_o25 Ln xs) := by
  refine gh_enter (L := [(0, 2, 8), (1, 2, 6)]) true (by decide +kernel) (fun _ => rfl) gh_rt9 (Nat.le_of_ble_eq_true rfl) rfl (fun h q hq => ?_) ?_
  · exact gh_oka (as := [(2, 8), (2, 6)]) (L := [(0, 2, 8), (1, 2, 6)]) rfl h q hq
  refine gh_aload_n gd_Reader_init_0 0 rfl (by decide) ?_
  refine gh_obj0 gd_Reader_init_1 (by decide) gh_k110 gh_k77 gh_k78 (Nat.le_of_ble_eq_true rfl) ?_
  refine gh_aload_n gd_Reader_init_4 0 rfl (by decide) ?_
  refine gh_newO (ov := gh_o9) (ov2 := gh_o10) (A := 9) (S := 394) gd_Reader_init_5 gh_ck1 gh_k111 gh_k112 gh_k58 (by decide) (by decide +kernel) (by decide +kernel) (by decide) (by decide +kernel) rfl ?_
  refine gh_dup gd_Reader_init_8 (by decide) ?_
  refine gh_callIN (d := d + 1) (n := 0) (y := gh_yDraft_init) (as := []) gd_Reader_init_9 (by decide) gh_k115 gh_k58 (List.mem_cons_of_mem _ List.mem_cons_self) gh_k114 rfl ⟨by decide, by decide, by decide +kernel⟩ rfl (by decide) (Nat.le_of_ble_eq_true rfl) ((gc_Draft_init (d)).mono (fun r m1 hq => ?_))
  subst hq
  refine gh_putO (ov := gh_o18) (ov2 := gh_o19) (A := 14) (k := 0) gd_Reader_init_12 gh_ck7 (by decide +kernel) (by decide +kernel) (by decide) (by decide) gh_k141 rfl (fun z => by cases z) (Or.inr ⟨rfl, rfl⟩) rfl ?_
  refine gh_aload_n gd_Reader_init_15 0 rfl (by decide) ?_
  refine gh_iconst gd_Reader_init_16 (gh_r0 rfl) ?_
  refine gh_putO (ov := gh_o19) (ov2 := gh_o20) (A := 14) (k := 2) gd_Reader_init_17 gh_ck7 (by decide +kernel) (by decide +kernel) (by decide) (by decide) gh_k145 rfl (fun z => by cases z) (Or.inl rfl) rfl ?_
  refine gh_aload_n gd_Reader_init_20 0 rfl (by decide) ?_
  refine gh_iconst gd_Reader_init_21 (gh_r0 rfl) ?_
  refine gh_newarrO (ov := gh_o20) (ov2 := gh_o21) (κ := 1) (A := 14) (S := 529) gd_Reader_init_22 (by decide) gh_k104 (by decide) (by decide +kernel) (by decide +kernel) (by decide) (by decide +kernel) rfl ?_
  refine gh_putO (ov := gh_o21) (ov2 := gh_o22) (A := 15) (k := 7) gd_Reader_init_24 gh_ck7 (by decide +kernel) (by decide +kernel) (by decide) (by decide) gh_k151 rfl (fun z => by cases z) (Or.inr ⟨rfl, rfl⟩) rfl ?_
  refine gh_aload_n gd_Reader_init_27 0 rfl (by decide) ?_
  refine gh_bipush gd_Reader_init_28 (by decide) (gh_r0 rfl) ?_
  refine gh_newarrO (ov := gh_o22) (ov2 := gh_o23) (κ := 1) (A := 15) (S := 533) gd_Reader_init_30 (by decide) gh_k104 (by decide) (by decide +kernel) (by decide +kernel) (by decide) (by decide +kernel) rfl ?_
  refine gh_putO (ov := gh_o23) (ov2 := gh_o24) (A := 16) (k := 8) gd_Reader_init_32 gh_ck7 (by decide +kernel) (by decide +kernel) (by decide) (by decide) gh_k152 rfl (fun z => by cases z) (Or.inr ⟨rfl, rfl⟩) rfl ?_
  refine gh_aload_n gd_Reader_init_35 0 rfl (by decide) ?_
  refine gh_aload_n gd_Reader_init_36 1 rfl (by decide) ?_
  refine gh_putO (ov := gh_o24) (ov2 := gh_o25) (A := 16) (k := 3) gd_Reader_init_37 gh_ck7 (by decide +kernel) (by decide +kernel) (by decide) (by decide) gh_k147 rfl (fun z => by cases z) (Or.inr ⟨rfl, rfl⟩) rfl ?_
  exact gh_ret9 rfl gd_Reader_init_40 rfl
theorem gc_Grammar_init {E : gh_E} {Ln : Nat} {xs : Nat → Int32} (d : Nat) : gh_C E gh_yGrammar_init prog_6_method_1_code 1 none 9 (d + 1) [(2, 16)] (gh_ov gh_o27 Ln xs) (fun _ m1 => m1 = gh_ov gh_o39 Ln xs) := by
  refine gh_enter (L := [(0, 2, 16)]) true (by decide +kernel) (fun _ => rfl) gh_rt9 (Nat.le_of_ble_eq_true rfl) rfl (fun h q hq => ?_) ?_
  · exact gh_oka (as := [(2, 16)]) (L := [(0, 2, 16)]) rfl h q hq
  refine gh_aload_n gd_Grammar_init_0 0 rfl (by decide) ?_
  refine gh_obj0 gd_Grammar_init_1 (by decide) gh_k177 gh_k77 gh_k78 (Nat.le_of_ble_eq_true rfl) ?_
  refine gh_aload_n gd_Grammar_init_4 0 rfl (by decide) ?_
  refine gh_bipush gd_Grammar_init_5 (by decide) (gh_r0 rfl) ?_
  refine gh_newarrO (ov := gh_o27) (ov2 := gh_o28) (κ := 1) (A := 17) (S := 558) gd_Grammar_init_7 (by decide) gh_k104 (by decide) (by decide +kernel) (by decide +kernel) (by decide) (by decide +kernel) rfl ?_
  refine gh_putO (ov := gh_o28) (ov2 := gh_o29) (A := 18) (k := 3) gd_Grammar_init_9 gh_ck4 (by decide +kernel) (by decide +kernel) (by decide) (by decide) gh_k191 rfl (fun z => by cases z) (Or.inr ⟨rfl, rfl⟩) rfl ?_
  refine gh_aload_n gd_Grammar_init_12 0 rfl (by decide) ?_
  refine gh_bipush gd_Grammar_init_13 (by decide) (gh_r0 rfl) ?_
  refine gh_newarrO (ov := gh_o29) (ov2 := gh_o30) (κ := 1) (A := 18) (S := 566) gd_Grammar_init_15 (by decide) gh_k104 (by decide) (by decide +kernel) (by decide +kernel) (by decide) (by decide +kernel) rfl ?_
  refine gh_putO (ov := gh_o30) (ov2 := gh_o31) (A := 19) (k := 4) gd_Grammar_init_17 gh_ck4 (by decide +kernel) (by decide +kernel) (by decide) (by decide) gh_k197 rfl (fun z => by cases z) (Or.inr ⟨rfl, rfl⟩) rfl ?_
  refine gh_aload_n gd_Grammar_init_20 0 rfl (by decide) ?_
  refine gh_bipush gd_Grammar_init_21 (by decide) (gh_r0 rfl) ?_
  refine gh_newarrO (ov := gh_o31) (ov2 := gh_o32) (κ := 1) (A := 19) (S := 574) gd_Grammar_init_23 (by decide) gh_k104 (by decide) (by decide +kernel) (by decide +kernel) (by decide) (by decide +kernel) rfl ?_
  refine gh_putO (ov := gh_o32) (ov2 := gh_o33) (A := 20) (k := 5) gd_Grammar_init_25 gh_ck4 (by decide +kernel) (by decide +kernel) (by decide) (by decide) gh_k199 rfl (fun z => by cases z) (Or.inr ⟨rfl, rfl⟩) rfl ?_
  refine gh_aload_n gd_Grammar_init_28 0 rfl (by decide) ?_
  refine gh_bipush gd_Grammar_init_29 (by decide) (gh_r0 rfl) ?_
  refine gh_newarrO (ov := gh_o33) (ov2 := gh_o34) (κ := 1) (A := 20) (S := 594) gd_Grammar_init_31 (by decide) gh_k104 (by decide) (by decide +kernel) (by decide +kernel) (by decide) (by decide +kernel) rfl ?_
  refine gh_putO (ov := gh_o34) (ov2 := gh_o35) (A := 21) (k := 6) gd_Grammar_init_33 gh_ck4 (by decide +kernel) (by decide +kernel) (by decide) (by decide) gh_k204 rfl (fun z => by cases z) (Or.inr ⟨rfl, rfl⟩) rfl ?_
  refine gh_aload_n gd_Grammar_init_36 0 rfl (by decide) ?_
  refine gh_bipush gd_Grammar_init_37 (by decide) (gh_r0 rfl) ?_
  refine gh_newarrO (ov := gh_o35) (ov2 := gh_o36) (κ := 1) (A := 21) (S := 614) gd_Grammar_init_39 (by decide) gh_k104 (by decide) (by decide +kernel) (by decide +kernel) (by decide) (by decide +kernel) rfl ?_
  refine gh_putO (ov := gh_o36) (ov2 := gh_o37) (A := 22) (k := 7) gd_Grammar_init_41 gh_ck4 (by decide +kernel) (by decide +kernel) (by decide) (by decide) gh_k212 rfl (fun z => by cases z) (Or.inr ⟨rfl, rfl⟩) rfl ?_
  refine gh_aload_n gd_Grammar_init_44 0 rfl (by decide) ?_
  refine gh_bipush gd_Grammar_init_45 (by decide) (gh_r0 rfl) ?_
  refine gh_newarrO (ov := gh_o37) (ov2 := gh_o38) (κ := 1) (A := 22) (S := 622) gd_Grammar_init_47 (by decide) gh_k104 (by decide) (by decide +kernel) (by decide +kernel) (by decide) (by decide +kernel) rfl ?_
  refine gh_putO (ov := gh_o38) (ov2 := gh_o39) (A := 23) (k := 8) gd_Grammar_init_49 gh_ck4 (by decide +kernel) (by decide +kernel) (by decide) (by decide) gh_k213 rfl (fun z => by cases z) (Or.inr ⟨rfl, rfl⟩) rfl ?_
  exact gh_ret9 rfl gd_Grammar_init_52 rfl
theorem gc_Facts_init {E : gh_E} {Ln : Nat} {xs : Nat → Int32} (d : Nat) : gh_C E gh_yFacts_init prog_4_method_1_code 2 none 9 (d + 1) [(2, 23), (2, 16)] (gh_ov gh_o41 Ln xs) (fun _ m1 => m1 = gh_ov gh_o52 Ln xs) := by
  refine gh_enter (L := [(0, 2, 23), (1, 2, 16)]) true (by decide +kernel) (fun _ => rfl) gh_rt9 (Nat.le_of_ble_eq_true rfl) rfl (fun h q hq => ?_) ?_
  · exact gh_oka (as := [(2, 23), (2, 16)]) (L := [(0, 2, 23), (1, 2, 16)]) rfl h q hq
  refine gh_aload_n gd_Facts_init_0 0 rfl (by decide) ?_
  refine gh_obj0 gd_Facts_init_1 (by decide) gh_k238 gh_k77 gh_k78 (Nat.le_of_ble_eq_true rfl) ?_
  refine gh_aload_n gd_Facts_init_4 0 rfl (by decide) ?_
  refine gh_bipush gd_Facts_init_5 (by decide) (gh_r0 rfl) ?_
  refine gh_newarrO (ov := gh_o41) (ov2 := gh_o42) (κ := 1) (A := 24) (S := 713) gd_Facts_init_7 (by decide) gh_k104 (by decide) (by decide +kernel) (by decide +kernel) (by decide) (by decide +kernel) rfl ?_
  refine gh_putO (ov := gh_o42) (ov2 := gh_o43) (A := 25) (k := 6) gd_Facts_init_9 gh_ck2 (by decide +kernel) (by decide +kernel) (by decide) (by decide) gh_k252 rfl (fun z => by cases z) (Or.inr ⟨rfl, rfl⟩) rfl ?_
  refine gh_aload_n gd_Facts_init_12 0 rfl (by decide) ?_
  refine gh_bipush gd_Facts_init_13 (by decide) (gh_r0 rfl) ?_
  refine gh_newarrO (ov := gh_o43) (ov2 := gh_o44) (κ := 1) (A := 25) (S := 721) gd_Facts_init_15 (by decide) gh_k104 (by decide) (by decide +kernel) (by decide +kernel) (by decide) (by decide +kernel) rfl ?_
  refine gh_putO (ov := gh_o44) (ov2 := gh_o45) (A := 26) (k := 7) gd_Facts_init_17 gh_ck2 (by decide +kernel) (by decide +kernel) (by decide) (by decide) gh_k255 rfl (fun z => by cases z) (Or.inr ⟨rfl, rfl⟩) rfl ?_
  refine gh_aload_n gd_Facts_init_20 0 rfl (by decide) ?_
  refine gh_bipush gd_Facts_init_21 (by decide) (gh_r0 rfl) ?_
  refine gh_newarrO (ov := gh_o45) (ov2 := gh_o46) (κ := 1) (A := 26) (S := 729) gd_Facts_init_23 (by decide) gh_k104 (by decide) (by decide +kernel) (by decide +kernel) (by decide) (by decide +kernel) rfl ?_
  refine gh_putO (ov := gh_o46) (ov2 := gh_o47) (A := 27) (k := 8) gd_Facts_init_25 gh_ck2 (by decide +kernel) (by decide +kernel) (by decide) (by decide) gh_k256 rfl (fun z => by cases z) (Or.inr ⟨rfl, rfl⟩) rfl ?_
  refine gh_aload_n gd_Facts_init_28 0 rfl (by decide) ?_
  refine gh_bipush gd_Facts_init_29 (by decide) (gh_r0 rfl) ?_
  refine gh_newarrO (ov := gh_o47) (ov2 := gh_o48) (κ := 1) (A := 27) (S := 737) gd_Facts_init_31 (by decide) gh_k104 (by decide) (by decide +kernel) (by decide +kernel) (by decide) (by decide +kernel) rfl ?_
  refine gh_putO (ov := gh_o48) (ov2 := gh_o49) (A := 28) (k := 9) gd_Facts_init_33 gh_ck2 (by decide +kernel) (by decide +kernel) (by decide) (by decide) gh_k257 rfl (fun z => by cases z) (Or.inr ⟨rfl, rfl⟩) rfl ?_
  refine gh_aload_n gd_Facts_init_36 0 rfl (by decide) ?_
  refine gh_bipush gd_Facts_init_37 (by decide) (gh_r0 rfl) ?_
  refine gh_newarrO (ov := gh_o49) (ov2 := gh_o50) (κ := 1) (A := 28) (S := 745) gd_Facts_init_39 (by decide) gh_k104 (by decide) (by decide +kernel) (by decide +kernel) (by decide) (by decide +kernel) rfl ?_
  refine gh_putO (ov := gh_o50) (ov2 := gh_o51) (A := 29) (k := 10) gd_Facts_init_41 gh_ck2 (by decide +kernel) (by decide +kernel) (by decide) (by decide) gh_k260 rfl (fun z => by cases z) (Or.inr ⟨rfl, rfl⟩) rfl ?_
  refine gh_aload_n gd_Facts_init_44 0 rfl (by decide) ?_
  refine gh_aload_n gd_Facts_init_45 1 rfl (by decide) ?_
  refine gh_putO (ov := gh_o51) (ov2 := gh_o52) (A := 29) (k := 0) gd_Facts_init_46 gh_ck2 (by decide +kernel) (by decide +kernel) (by decide) (by decide) gh_k239 rfl (fun z => by cases z) (Or.inr ⟨rfl, rfl⟩) rfl ?_
  exact gh_ret9 rfl gd_Facts_init_49 rfl
theorem gc_Text_init {E : gh_E} {Ln : Nat} {xs : Nat → Int32} (d : Nat) : gh_C E gh_yText_init prog_11_method_1_code 3 none 9 (d + 1) [(2, 29), (2, 16), (2, 23)] (gh_ov gh_o54 Ln xs) (fun _ m1 => m1 = gh_ov gh_o62 Ln xs) := by
  refine gh_enter (L := [(0, 2, 29), (1, 2, 16), (2, 2, 23)]) true (by decide +kernel) (fun _ => rfl) gh_rt9 (Nat.le_of_ble_eq_true rfl) rfl (fun h q hq => ?_) ?_
  · exact gh_oka (as := [(2, 29), (2, 16), (2, 23)]) (L := [(0, 2, 29), (1, 2, 16), (2, 2, 23)]) rfl h q hq
  refine gh_aload_n gd_Text_init_0 0 rfl (by decide) ?_
  refine gh_obj0 gd_Text_init_1 (by decide) gh_k289 gh_k77 gh_k78 (Nat.le_of_ble_eq_true rfl) ?_
  refine gh_aload_n gd_Text_init_4 0 rfl (by decide) ?_
  refine gh_bipush gd_Text_init_5 (by decide) (gh_r0 rfl) ?_
  refine gh_newarrO (ov := gh_o54) (ov2 := gh_o55) (κ := 1) (A := 30) (S := 774) gd_Text_init_7 (by decide) gh_k104 (by decide) (by decide +kernel) (by decide +kernel) (by decide) (by decide +kernel) rfl ?_
  refine gh_putO (ov := gh_o55) (ov2 := gh_o56) (A := 31) (k := 2) gd_Text_init_9 gh_ck9 (by decide +kernel) (by decide +kernel) (by decide) (by decide) gh_k292 rfl (fun z => by cases z) (Or.inr ⟨rfl, rfl⟩) rfl ?_
  refine gh_aload_n gd_Text_init_12 0 rfl (by decide) ?_
  refine gh_bipush gd_Text_init_13 (by decide) (gh_r0 rfl) ?_
  refine gh_newarrO (ov := gh_o56) (ov2 := gh_o57) (κ := 1) (A := 31) (S := 782) gd_Text_init_15 (by decide) gh_k104 (by decide) (by decide +kernel) (by decide +kernel) (by decide) (by decide +kernel) rfl ?_
  refine gh_putO (ov := gh_o57) (ov2 := gh_o58) (A := 32) (k := 4) gd_Text_init_17 gh_ck9 (by decide +kernel) (by decide +kernel) (by decide) (by decide) gh_k299 rfl (fun z => by cases z) (Or.inr ⟨rfl, rfl⟩) rfl ?_
  refine gh_aload_n gd_Text_init_20 0 rfl (by decide) ?_
  refine gh_sipush gd_Text_init_21 (by decide) (gh_r0 rfl) ?_
  refine gh_newarrO (ov := gh_o58) (ov2 := gh_o59) (κ := 1) (A := 32) (S := 790) gd_Text_init_24 (by decide) gh_k104 (by decide) (by decide +kernel) (by decide +kernel) (by decide) (by decide +kernel) rfl ?_
  refine gh_putO (ov := gh_o59) (ov2 := gh_o60) (A := 33) (k := 5) gd_Text_init_26 gh_ck9 (by decide +kernel) (by decide +kernel) (by decide) (by decide) gh_k300 rfl (fun z => by cases z) (Or.inr ⟨rfl, rfl⟩) rfl ?_
  refine gh_aload_n gd_Text_init_29 0 rfl (by decide) ?_
  refine gh_aload_n gd_Text_init_30 1 rfl (by decide) ?_
  refine gh_putO (ov := gh_o60) (ov2 := gh_o61) (A := 33) (k := 0) gd_Text_init_31 gh_ck9 (by decide +kernel) (by decide +kernel) (by decide) (by decide) gh_k290 rfl (fun z => by cases z) (Or.inr ⟨rfl, rfl⟩) rfl ?_
  refine gh_aload_n gd_Text_init_34 0 rfl (by decide) ?_
  refine gh_aload_n gd_Text_init_35 2 rfl (by decide) ?_
  refine gh_putO (ov := gh_o61) (ov2 := gh_o62) (A := 33) (k := 1) gd_Text_init_36 gh_ck9 (by decide +kernel) (by decide +kernel) (by decide) (by decide) gh_k291 rfl (fun z => by cases z) (Or.inr ⟨rfl, rfl⟩) rfl ?_
  exact gh_ret9 rfl gd_Text_init_39 rfl
theorem gc_Chart_init {E : gh_E} {Ln : Nat} {xs : Nat → Int32} (d : Nat) : gh_C E gh_yChart_init prog_2_method_1_code 4 none 9 (d + 1) [(2, 33), (2, 16), (2, 23), (2, 29)] (gh_ov gh_o64 Ln xs) (fun _ m1 => m1 = gh_ov gh_o77 Ln xs) := by
  refine gh_enter (L := [(0, 2, 33), (1, 2, 16), (2, 2, 23), (3, 2, 29)]) true (by decide +kernel) (fun _ => rfl) gh_rt9 (Nat.le_of_ble_eq_true rfl) rfl (fun h q hq => ?_) ?_
  · exact gh_oka (as := [(2, 33), (2, 16), (2, 23), (2, 29)]) (L := [(0, 2, 33), (1, 2, 16), (2, 2, 23), (3, 2, 29)]) rfl h q hq
  refine gh_aload_n gd_Chart_init_0 0 rfl (by decide) ?_
  refine gh_obj0 gd_Chart_init_1 (by decide) gh_k328 gh_k77 gh_k78 (Nat.le_of_ble_eq_true rfl) ?_
  refine gh_aload_n gd_Chart_init_4 0 rfl (by decide) ?_
  refine gh_bipush gd_Chart_init_5 (by decide) (gh_r0 rfl) ?_
  refine gh_newarrO (ov := gh_o64) (ov2 := gh_o65) (κ := 1) (A := 34) (S := 1040) gd_Chart_init_7 (by decide) gh_k104 (by decide) (by decide +kernel) (by decide +kernel) (by decide) (by decide +kernel) rfl ?_
  refine gh_putO (ov := gh_o65) (ov2 := gh_o66) (A := 35) (k := 4) gd_Chart_init_9 gh_ck0 (by decide +kernel) (by decide +kernel) (by decide) (by decide) gh_k334 rfl (fun z => by cases z) (Or.inr ⟨rfl, rfl⟩) rfl ?_
  refine gh_aload_n gd_Chart_init_12 0 rfl (by decide) ?_
  refine gh_bipush gd_Chart_init_13 (by decide) (gh_r0 rfl) ?_
  refine gh_newarrO (ov := gh_o66) (ov2 := gh_o67) (κ := 1) (A := 35) (S := 1112) gd_Chart_init_15 (by decide) gh_k104 (by decide) (by decide +kernel) (by decide +kernel) (by decide) (by decide +kernel) rfl ?_
  refine gh_putO (ov := gh_o67) (ov2 := gh_o68) (A := 36) (k := 5) gd_Chart_init_17 gh_ck0 (by decide +kernel) (by decide +kernel) (by decide) (by decide) gh_k335 rfl (fun z => by cases z) (Or.inr ⟨rfl, rfl⟩) rfl ?_
  refine gh_aload_n gd_Chart_init_20 0 rfl (by decide) ?_
  refine gh_bipush gd_Chart_init_21 (by decide) (gh_r0 rfl) ?_
  refine gh_newarrO (ov := gh_o68) (ov2 := gh_o69) (κ := 1) (A := 36) (S := 1121) gd_Chart_init_23 (by decide) gh_k104 (by decide) (by decide +kernel) (by decide +kernel) (by decide) (by decide +kernel) rfl ?_
  refine gh_putO (ov := gh_o69) (ov2 := gh_o70) (A := 37) (k := 6) gd_Chart_init_25 gh_ck0 (by decide +kernel) (by decide +kernel) (by decide) (by decide) gh_k336 rfl (fun z => by cases z) (Or.inr ⟨rfl, rfl⟩) rfl ?_
  refine gh_aload_n gd_Chart_init_28 0 rfl (by decide) ?_
  refine gh_bipush gd_Chart_init_29 (by decide) (gh_r0 rfl) ?_
  refine gh_newarrO (ov := gh_o70) (ov2 := gh_o71) (κ := 1) (A := 37) (S := 1130) gd_Chart_init_31 (by decide) gh_k104 (by decide) (by decide +kernel) (by decide +kernel) (by decide) (by decide +kernel) rfl ?_
  refine gh_putO (ov := gh_o71) (ov2 := gh_o72) (A := 38) (k := 7) gd_Chart_init_33 gh_ck0 (by decide +kernel) (by decide +kernel) (by decide) (by decide) gh_k337 rfl (fun z => by cases z) (Or.inr ⟨rfl, rfl⟩) rfl ?_
  refine gh_aload_n gd_Chart_init_36 0 rfl (by decide) ?_
  refine gh_bipush gd_Chart_init_37 (by decide) (gh_r0 rfl) ?_
  refine gh_newarrO (ov := gh_o72) (ov2 := gh_o73) (κ := 1) (A := 38) (S := 1139) gd_Chart_init_39 (by decide) gh_k104 (by decide) (by decide +kernel) (by decide +kernel) (by decide) (by decide +kernel) rfl ?_
  refine gh_putO (ov := gh_o73) (ov2 := gh_o74) (A := 39) (k := 8) gd_Chart_init_41 gh_ck0 (by decide +kernel) (by decide +kernel) (by decide) (by decide) gh_k339 rfl (fun z => by cases z) (Or.inr ⟨rfl, rfl⟩) rfl ?_
  refine gh_aload_n gd_Chart_init_44 0 rfl (by decide) ?_
  refine gh_aload_n gd_Chart_init_45 1 rfl (by decide) ?_
  refine gh_putO (ov := gh_o74) (ov2 := gh_o75) (A := 39) (k := 0) gd_Chart_init_46 gh_ck0 (by decide +kernel) (by decide +kernel) (by decide) (by decide) gh_k329 rfl (fun z => by cases z) (Or.inr ⟨rfl, rfl⟩) rfl ?_
  refine gh_aload_n gd_Chart_init_49 0 rfl (by decide) ?_
  refine gh_aload_n gd_Chart_init_50 2 rfl (by decide) ?_
  refine gh_putO (ov := gh_o75) (ov2 := gh_o76) (A := 39) (k := 1) gd_Chart_init_51 gh_ck0 (by decide +kernel) (by decide +kernel) (by decide) (by decide) gh_k330 rfl (fun z => by cases z) (Or.inr ⟨rfl, rfl⟩) rfl ?_
  refine gh_aload_n gd_Chart_init_54 0 rfl (by decide) ?_
  refine gh_aload_n gd_Chart_init_55 3 rfl (by decide) ?_
  refine gh_putO (ov := gh_o76) (ov2 := gh_o77) (A := 39) (k := 2) gd_Chart_init_56 gh_ck0 (by decide +kernel) (by decide +kernel) (by decide) (by decide) gh_k331 rfl (fun z => by cases z) (Or.inr ⟨rfl, rfl⟩) rfl ?_
  exact gh_ret9 rfl gd_Chart_init_59 rfl
theorem gc_Wants_init {E : gh_E} {Ln : Nat} {xs : Nat → Int32} (d : Nat) : gh_C E gh_yWants_init prog_12_method_1_code 5 none 9 (d + 1) [(2, 39), (2, 16), (2, 23), (2, 29), (2, 33)] (gh_ov gh_o79 Ln xs) (fun _ m1 => m1 = gh_ov gh_o92 Ln xs) := by
  refine gh_enter (L := [(0, 2, 39), (1, 2, 16), (2, 2, 23), (3, 2, 29), (4, 2, 33)]) true (by decide +kernel) (fun _ => rfl) gh_rt9 (Nat.le_of_ble_eq_true rfl) rfl (fun h q hq => ?_) ?_
  · exact gh_oka (as := [(2, 39), (2, 16), (2, 23), (2, 29), (2, 33)]) (L := [(0, 2, 39), (1, 2, 16), (2, 2, 23), (3, 2, 29), (4, 2, 33)]) rfl h q hq
  refine gh_aload_n gd_Wants_init_0 0 rfl (by decide) ?_
  refine gh_obj0 gd_Wants_init_1 (by decide) gh_k365 gh_k77 gh_k78 (Nat.le_of_ble_eq_true rfl) ?_
  refine gh_aload_n gd_Wants_init_4 0 rfl (by decide) ?_
  refine gh_bipush gd_Wants_init_5 (by decide) (gh_r0 rfl) ?_
  refine gh_newarrO (ov := gh_o79) (ov2 := gh_o80) (κ := 1) (A := 40) (S := 1158) gd_Wants_init_7 (by decide) gh_k104 (by decide) (by decide +kernel) (by decide +kernel) (by decide) (by decide +kernel) rfl ?_
  refine gh_putO (ov := gh_o80) (ov2 := gh_o81) (A := 41) (k := 5) gd_Wants_init_9 gh_ck10 (by decide +kernel) (by decide +kernel) (by decide) (by decide) gh_k371 rfl (fun z => by cases z) (Or.inr ⟨rfl, rfl⟩) rfl ?_
  refine gh_aload_n gd_Wants_init_12 0 rfl (by decide) ?_
  refine gh_bipush gd_Wants_init_13 (by decide) (gh_r0 rfl) ?_
  refine gh_newarrO (ov := gh_o81) (ov2 := gh_o82) (κ := 1) (A := 41) (S := 1167) gd_Wants_init_15 (by decide) gh_k104 (by decide) (by decide +kernel) (by decide +kernel) (by decide) (by decide +kernel) rfl ?_
  refine gh_putO (ov := gh_o82) (ov2 := gh_o83) (A := 42) (k := 6) gd_Wants_init_17 gh_ck10 (by decide +kernel) (by decide +kernel) (by decide) (by decide) gh_k372 rfl (fun z => by cases z) (Or.inr ⟨rfl, rfl⟩) rfl ?_
  refine gh_aload_n gd_Wants_init_20 0 rfl (by decide) ?_
  refine gh_iconst gd_Wants_init_21 (gh_r0 rfl) ?_
  refine gh_putO (ov := gh_o83) (ov2 := gh_o84) (A := 42) (k := 7) gd_Wants_init_22 gh_ck10 (by decide +kernel) (by decide +kernel) (by decide) (by decide) gh_k373 rfl (fun z => by cases z) (Or.inl rfl) rfl ?_
  refine gh_aload_n gd_Wants_init_25 0 rfl (by decide) ?_
  refine gh_sipush gd_Wants_init_26 (by decide) (gh_r0 rfl) ?_
  refine gh_newarrO (ov := gh_o84) (ov2 := gh_o85) (κ := 1) (A := 42) (S := 1239) gd_Wants_init_29 (by decide) gh_k104 (by decide) (by decide +kernel) (by decide +kernel) (by decide) (by decide +kernel) rfl ?_
  refine gh_putO (ov := gh_o85) (ov2 := gh_o86) (A := 43) (k := 8) gd_Wants_init_31 gh_ck10 (by decide +kernel) (by decide +kernel) (by decide) (by decide) gh_k374 rfl (fun z => by cases z) (Or.inr ⟨rfl, rfl⟩) rfl ?_
  refine gh_aload_n gd_Wants_init_34 0 rfl (by decide) ?_
  refine gh_bipush gd_Wants_init_35 (by decide) (gh_r0 rfl) ?_
  refine gh_newarrO (ov := gh_o86) (ov2 := gh_o87) (κ := 1) (A := 43) (S := 1887) gd_Wants_init_37 (by decide) gh_k104 (by decide) (by decide +kernel) (by decide +kernel) (by decide) (by decide +kernel) rfl ?_
  refine gh_putO (ov := gh_o87) (ov2 := gh_o88) (A := 44) (k := 9) gd_Wants_init_39 gh_ck10 (by decide +kernel) (by decide +kernel) (by decide) (by decide) gh_k375 rfl (fun z => by cases z) (Or.inr ⟨rfl, rfl⟩) rfl ?_
  refine gh_aload_n gd_Wants_init_42 0 rfl (by decide) ?_
  refine gh_aload_n gd_Wants_init_43 1 rfl (by decide) ?_
  refine gh_putO (ov := gh_o88) (ov2 := gh_o89) (A := 44) (k := 0) gd_Wants_init_44 gh_ck10 (by decide +kernel) (by decide +kernel) (by decide) (by decide) gh_k366 rfl (fun z => by cases z) (Or.inr ⟨rfl, rfl⟩) rfl ?_
  refine gh_aload_n gd_Wants_init_47 0 rfl (by decide) ?_
  refine gh_aload_n gd_Wants_init_48 2 rfl (by decide) ?_
  refine gh_putO (ov := gh_o89) (ov2 := gh_o90) (A := 44) (k := 1) gd_Wants_init_49 gh_ck10 (by decide +kernel) (by decide +kernel) (by decide) (by decide) gh_k367 rfl (fun z => by cases z) (Or.inr ⟨rfl, rfl⟩) rfl ?_
  refine gh_aload_n gd_Wants_init_52 0 rfl (by decide) ?_
  refine gh_aload_n gd_Wants_init_53 3 rfl (by decide) ?_
  refine gh_putO (ov := gh_o90) (ov2 := gh_o91) (A := 44) (k := 2) gd_Wants_init_54 gh_ck10 (by decide +kernel) (by decide +kernel) (by decide) (by decide) gh_k368 rfl (fun z => by cases z) (Or.inr ⟨rfl, rfl⟩) rfl ?_
  refine gh_aload_n gd_Wants_init_57 0 rfl (by decide) ?_
  refine gh_aload gd_Wants_init_58 4 rfl (by decide) ?_
  refine gh_putO (ov := gh_o91) (ov2 := gh_o92) (A := 44) (k := 3) gd_Wants_init_60 gh_ck10 (by decide +kernel) (by decide +kernel) (by decide) (by decide) gh_k369 rfl (fun z => by cases z) (Or.inr ⟨rfl, rfl⟩) rfl ?_
  exact gh_ret9 rfl gd_Wants_init_63 rfl
theorem gc_Forest_init {E : gh_E} {Ln : Nat} {xs : Nat → Int32} (d : Nat) : gh_C E gh_yForest_init prog_5_method_1_code 5 none 9 (d + 1) [(2, 44), (2, 16), (2, 23), (2, 29), (2, 33)] (gh_ov gh_o94 Ln xs) (fun _ m1 => m1 = gh_ov gh_o109 Ln xs) := by
  refine gh_enter (L := [(0, 2, 44), (1, 2, 16), (2, 2, 23), (3, 2, 29), (4, 2, 33)]) true (by decide +kernel) (fun _ => rfl) gh_rt9 (Nat.le_of_ble_eq_true rfl) rfl (fun h q hq => ?_) ?_
  · exact gh_oka (as := [(2, 44), (2, 16), (2, 23), (2, 29), (2, 33)]) (L := [(0, 2, 44), (1, 2, 16), (2, 2, 23), (3, 2, 29), (4, 2, 33)]) rfl h q hq
  refine gh_aload_n gd_Forest_init_0 0 rfl (by decide) ?_
  refine gh_obj0 gd_Forest_init_1 (by decide) gh_k402 gh_k77 gh_k78 (Nat.le_of_ble_eq_true rfl) ?_
  refine gh_aload_n gd_Forest_init_4 0 rfl (by decide) ?_
  refine gh_sipush gd_Forest_init_5 (by decide) (gh_r0 rfl) ?_
  refine gh_newarrO (ov := gh_o94) (ov2 := gh_o95) (κ := 3) (A := 45) (S := 1908) gd_Forest_init_8 (by decide) gh_k440 (by decide) (by decide +kernel) (by decide +kernel) (by decide) (by decide +kernel) rfl ?_
  refine gh_putO (ov := gh_o95) (ov2 := gh_o96) (A := 46) (k := 4) gd_Forest_init_10 gh_ck3 (by decide +kernel) (by decide +kernel) (by decide) (by decide) gh_k407 rfl (fun z => by cases z) (Or.inr ⟨rfl, rfl⟩) rfl ?_
  refine gh_aload_n gd_Forest_init_13 0 rfl (by decide) ?_
  refine gh_sipush gd_Forest_init_14 (by decide) (gh_r0 rfl) ?_
  refine gh_newarrO (ov := gh_o96) (ov2 := gh_o97) (κ := 3) (A := 46) (S := 2556) gd_Forest_init_17 (by decide) gh_k440 (by decide) (by decide +kernel) (by decide +kernel) (by decide) (by decide +kernel) rfl ?_
  refine gh_putO (ov := gh_o97) (ov2 := gh_o98) (A := 47) (k := 5) gd_Forest_init_19 gh_ck3 (by decide +kernel) (by decide +kernel) (by decide) (by decide) gh_k408 rfl (fun z => by cases z) (Or.inr ⟨rfl, rfl⟩) rfl ?_
  refine gh_aload_n gd_Forest_init_22 0 rfl (by decide) ?_
  refine gh_bipush gd_Forest_init_23 (by decide) (gh_r0 rfl) ?_
  refine gh_newarrO (ov := gh_o98) (ov2 := gh_o99) (κ := 1) (A := 47) (S := 2916) gd_Forest_init_25 (by decide) gh_k104 (by decide) (by decide +kernel) (by decide +kernel) (by decide) (by decide +kernel) rfl ?_
  refine gh_putO (ov := gh_o99) (ov2 := gh_o100) (A := 48) (k := 6) gd_Forest_init_27 gh_ck3 (by decide +kernel) (by decide +kernel) (by decide) (by decide) gh_k409 rfl (fun z => by cases z) (Or.inr ⟨rfl, rfl⟩) rfl ?_
  refine gh_aload_n gd_Forest_init_30 0 rfl (by decide) ?_
  refine gh_iconst gd_Forest_init_31 (gh_r0 rfl) ?_
  refine gh_newarrO (ov := gh_o100) (ov2 := gh_o101) (κ := 3) (A := 48) (S := 2948) gd_Forest_init_32 (by decide) gh_k440 (by decide) (by decide +kernel) (by decide +kernel) (by decide) (by decide +kernel) rfl ?_
  refine gh_putO (ov := gh_o101) (ov2 := gh_o102) (A := 49) (k := 7) gd_Forest_init_34 gh_ck3 (by decide +kernel) (by decide +kernel) (by decide) (by decide) gh_k410 rfl (fun z => by cases z) (Or.inl rfl) rfl ?_
  refine gh_aload_n gd_Forest_init_37 0 rfl (by decide) ?_
  refine gh_iconst gd_Forest_init_38 (gh_r0 rfl) ?_
  refine gh_newarrO (ov := gh_o102) (ov2 := gh_o103) (κ := 1) (A := 49) (S := 2948) gd_Forest_init_39 (by decide) gh_k104 (by decide) (by decide +kernel) (by decide +kernel) (by decide) (by decide +kernel) rfl ?_
  refine gh_putO (ov := gh_o103) (ov2 := gh_o104) (A := 50) (k := 8) gd_Forest_init_41 gh_ck3 (by decide +kernel) (by decide +kernel) (by decide) (by decide) gh_k411 rfl (fun z => by cases z) (Or.inl rfl) rfl ?_
  refine gh_aload_n gd_Forest_init_44 0 rfl (by decide) ?_
  refine gh_iconst gd_Forest_init_45 (gh_r0 rfl) ?_
  refine gh_putO (ov := gh_o104) (ov2 := gh_o105) (A := 50) (k := 11) gd_Forest_init_46 gh_ck3 (by decide +kernel) (by decide +kernel) (by decide) (by decide) gh_k414 rfl (fun z => by cases z) (Or.inl rfl) rfl ?_
  refine gh_aload_n gd_Forest_init_49 0 rfl (by decide) ?_
  refine gh_aload_n gd_Forest_init_50 1 rfl (by decide) ?_
  refine gh_putO (ov := gh_o105) (ov2 := gh_o106) (A := 50) (k := 0) gd_Forest_init_51 gh_ck3 (by decide +kernel) (by decide +kernel) (by decide) (by decide) gh_k403 rfl (fun z => by cases z) (Or.inr ⟨rfl, rfl⟩) rfl ?_
  refine gh_aload_n gd_Forest_init_54 0 rfl (by decide) ?_
  refine gh_aload_n gd_Forest_init_55 2 rfl (by decide) ?_
  refine gh_putO (ov := gh_o106) (ov2 := gh_o107) (A := 50) (k := 1) gd_Forest_init_56 gh_ck3 (by decide +kernel) (by decide +kernel) (by decide) (by decide) gh_k404 rfl (fun z => by cases z) (Or.inr ⟨rfl, rfl⟩) rfl ?_
  refine gh_aload_n gd_Forest_init_59 0 rfl (by decide) ?_
  refine gh_aload_n gd_Forest_init_60 3 rfl (by decide) ?_
  refine gh_putO (ov := gh_o107) (ov2 := gh_o108) (A := 50) (k := 2) gd_Forest_init_61 gh_ck3 (by decide +kernel) (by decide +kernel) (by decide) (by decide) gh_k405 rfl (fun z => by cases z) (Or.inr ⟨rfl, rfl⟩) rfl ?_
  refine gh_aload_n gd_Forest_init_64 0 rfl (by decide) ?_
  refine gh_aload gd_Forest_init_65 4 rfl (by decide) ?_
  refine gh_putO (ov := gh_o108) (ov2 := gh_o109) (A := 50) (k := 3) gd_Forest_init_67 gh_ck3 (by decide +kernel) (by decide +kernel) (by decide) (by decide) gh_k406 rfl (fun z => by cases z) (Or.inr ⟨rfl, rfl⟩) rfl ?_
  exact gh_ret9 rfl gd_Forest_init_70 rfl
theorem gc_Picker_init {E : gh_E} {Ln : Nat} {xs : Nat → Int32} (d : Nat) : gh_C E gh_yPicker_init prog_7_method_1_code 4 none 9 (d + 1) [(2, 50), (2, 16), (2, 29), (2, 44)] (gh_ov gh_o111 Ln xs) (fun _ m1 => m1 = gh_ov gh_o134 Ln xs) := by
  refine gh_enter (L := [(0, 2, 50), (1, 2, 16), (2, 2, 29), (3, 2, 44)]) true (by decide +kernel) (fun _ => rfl) gh_rt9 (Nat.le_of_ble_eq_true rfl) rfl (fun h q hq => ?_) ?_
  · exact gh_oka (as := [(2, 50), (2, 16), (2, 29), (2, 44)]) (L := [(0, 2, 50), (1, 2, 16), (2, 2, 29), (3, 2, 44)]) rfl h q hq
  refine gh_aload_n gd_Picker_init_0 0 rfl (by decide) ?_
  refine gh_obj0 gd_Picker_init_1 (by decide) gh_k446 gh_k77 gh_k78 (Nat.le_of_ble_eq_true rfl) ?_
  refine gh_aload_n gd_Picker_init_4 0 rfl (by decide) ?_
  refine gh_sipush gd_Picker_init_5 (by decide) (gh_r0 rfl) ?_
  refine gh_newarrO (ov := gh_o111) (ov2 := gh_o112) (κ := 1) (A := 51) (S := 2965) gd_Picker_init_8 (by decide) gh_k104 (by decide) (by decide +kernel) (by decide +kernel) (by decide) (by decide +kernel) rfl ?_
  refine gh_putO (ov := gh_o112) (ov2 := gh_o113) (A := 52) (k := 3) gd_Picker_init_10 gh_ck5 (by decide +kernel) (by decide +kernel) (by decide) (by decide) gh_k450 rfl (fun z => by cases z) (Or.inr ⟨rfl, rfl⟩) rfl ?_
  refine gh_aload_n gd_Picker_init_13 0 rfl (by decide) ?_
  refine gh_sipush gd_Picker_init_14 (by decide) (gh_r0 rfl) ?_
  refine gh_newarrO (ov := gh_o113) (ov2 := gh_o114) (κ := 1) (A := 52) (S := 3265) gd_Picker_init_17 (by decide) gh_k104 (by decide) (by decide +kernel) (by decide +kernel) (by decide) (by decide +kernel) rfl ?_
  refine gh_putO (ov := gh_o114) (ov2 := gh_o115) (A := 53) (k := 6) gd_Picker_init_19 gh_ck5 (by decide +kernel) (by decide +kernel) (by decide) (by decide) gh_k456 rfl (fun z => by cases z) (Or.inr ⟨rfl, rfl⟩) rfl ?_
  refine gh_aload_n gd_Picker_init_22 0 rfl (by decide) ?_
  refine gh_sipush gd_Picker_init_23 (by decide) (gh_r0 rfl) ?_
  refine gh_newarrO (ov := gh_o115) (ov2 := gh_o116) (κ := 1) (A := 53) (S := 3565) gd_Picker_init_26 (by decide) gh_k104 (by decide) (by decide +kernel) (by decide +kernel) (by decide) (by decide +kernel) rfl ?_
  refine gh_putO (ov := gh_o116) (ov2 := gh_o117) (A := 54) (k := 8) gd_Picker_init_28 gh_ck5 (by decide +kernel) (by decide +kernel) (by decide) (by decide) gh_k458 rfl (fun z => by cases z) (Or.inr ⟨rfl, rfl⟩) rfl ?_
  refine gh_aload_n gd_Picker_init_31 0 rfl (by decide) ?_
  refine gh_sipush gd_Picker_init_32 (by decide) (gh_r0 rfl) ?_
  refine gh_newarrO (ov := gh_o117) (ov2 := gh_o118) (κ := 1) (A := 54) (S := 3854) gd_Picker_init_35 (by decide) gh_k104 (by decide) (by decide +kernel) (by decide +kernel) (by decide) (by decide +kernel) rfl ?_
  refine gh_putO (ov := gh_o118) (ov2 := gh_o119) (A := 55) (k := 9) gd_Picker_init_37 gh_ck5 (by decide +kernel) (by decide +kernel) (by decide) (by decide) gh_k459 rfl (fun z => by cases z) (Or.inr ⟨rfl, rfl⟩) rfl ?_
  refine gh_aload_n gd_Picker_init_40 0 rfl (by decide) ?_
  refine gh_sipush gd_Picker_init_41 (by decide) (gh_r0 rfl) ?_
  refine gh_newarrO (ov := gh_o119) (ov2 := gh_o120) (κ := 1) (A := 55) (S := 4143) gd_Picker_init_44 (by decide) gh_k104 (by decide) (by decide +kernel) (by decide +kernel) (by decide) (by decide +kernel) rfl ?_
  refine gh_putO (ov := gh_o120) (ov2 := gh_o121) (A := 56) (k := 10) gd_Picker_init_46 gh_ck5 (by decide +kernel) (by decide +kernel) (by decide) (by decide) gh_k460 rfl (fun z => by cases z) (Or.inr ⟨rfl, rfl⟩) rfl ?_
  refine gh_aload_n gd_Picker_init_49 0 rfl (by decide) ?_
  refine gh_sipush gd_Picker_init_50 (by decide) (gh_r0 rfl) ?_
  refine gh_newarrO (ov := gh_o121) (ov2 := gh_o122) (κ := 1) (A := 56) (S := 4432) gd_Picker_init_53 (by decide) gh_k104 (by decide) (by decide +kernel) (by decide +kernel) (by decide) (by decide +kernel) rfl ?_
  refine gh_putO (ov := gh_o122) (ov2 := gh_o123) (A := 57) (k := 11) gd_Picker_init_55 gh_ck5 (by decide +kernel) (by decide +kernel) (by decide) (by decide) gh_k461 rfl (fun z => by cases z) (Or.inr ⟨rfl, rfl⟩) rfl ?_
  refine gh_aload_n gd_Picker_init_58 0 rfl (by decide) ?_
  refine gh_sipush gd_Picker_init_59 (by decide) (gh_r0 rfl) ?_
  refine gh_newarrO (ov := gh_o123) (ov2 := gh_o124) (κ := 1) (A := 57) (S := 4721) gd_Picker_init_62 (by decide) gh_k104 (by decide) (by decide +kernel) (by decide +kernel) (by decide) (by decide +kernel) rfl ?_
  refine gh_putO (ov := gh_o124) (ov2 := gh_o125) (A := 58) (k := 12) gd_Picker_init_64 gh_ck5 (by decide +kernel) (by decide +kernel) (by decide) (by decide) gh_k462 rfl (fun z => by cases z) (Or.inr ⟨rfl, rfl⟩) rfl ?_
  refine gh_aload_n gd_Picker_init_67 0 rfl (by decide) ?_
  refine gh_sipush gd_Picker_init_68 (by decide) (gh_r0 rfl) ?_
  refine gh_newarrO (ov := gh_o125) (ov2 := gh_o126) (κ := 3) (A := 58) (S := 5010) gd_Picker_init_71 (by decide) gh_k440 (by decide) (by decide +kernel) (by decide +kernel) (by decide) (by decide +kernel) rfl ?_
  refine gh_putO (ov := gh_o126) (ov2 := gh_o127) (A := 59) (k := 13) gd_Picker_init_73 gh_ck5 (by decide +kernel) (by decide +kernel) (by decide) (by decide) gh_k463 rfl (fun z => by cases z) (Or.inr ⟨rfl, rfl⟩) rfl ?_
  refine gh_aload_n gd_Picker_init_76 0 rfl (by decide) ?_
  refine gh_iconst gd_Picker_init_77 (gh_r0 rfl) ?_
  refine gh_newarrO (ov := gh_o127) (ov2 := gh_o128) (κ := 1) (A := 59) (S := 5299) gd_Picker_init_78 (by decide) gh_k104 (by decide) (by decide +kernel) (by decide +kernel) (by decide) (by decide +kernel) rfl ?_
  refine gh_putO (ov := gh_o128) (ov2 := gh_o129) (A := 60) (k := 15) gd_Picker_init_80 gh_ck5 (by decide +kernel) (by decide +kernel) (by decide) (by decide) gh_k465 rfl (fun z => by cases z) (Or.inr ⟨rfl, rfl⟩) rfl ?_
  refine gh_aload_n gd_Picker_init_83 0 rfl (by decide) ?_
  refine gh_iconst gd_Picker_init_84 (gh_r0 rfl) ?_
  refine gh_newarrO (ov := gh_o129) (ov2 := gh_o130) (κ := 3) (A := 60) (S := 5303) gd_Picker_init_85 (by decide) gh_k440 (by decide) (by decide +kernel) (by decide +kernel) (by decide) (by decide +kernel) rfl ?_
  refine gh_putO (ov := gh_o130) (ov2 := gh_o131) (A := 61) (k := 16) gd_Picker_init_87 gh_ck5 (by decide +kernel) (by decide +kernel) (by decide) (by decide) gh_k466 rfl (fun z => by cases z) (Or.inr ⟨rfl, rfl⟩) rfl ?_
  refine gh_aload_n gd_Picker_init_90 0 rfl (by decide) ?_
  refine gh_aload_n gd_Picker_init_91 1 rfl (by decide) ?_
  refine gh_putO (ov := gh_o131) (ov2 := gh_o132) (A := 61) (k := 0) gd_Picker_init_92 gh_ck5 (by decide +kernel) (by decide +kernel) (by decide) (by decide) gh_k447 rfl (fun z => by cases z) (Or.inr ⟨rfl, rfl⟩) rfl ?_
  refine gh_aload_n gd_Picker_init_95 0 rfl (by decide) ?_
  refine gh_aload_n gd_Picker_init_96 2 rfl (by decide) ?_
  refine gh_putO (ov := gh_o132) (ov2 := gh_o133) (A := 61) (k := 1) gd_Picker_init_97 gh_ck5 (by decide +kernel) (by decide +kernel) (by decide) (by decide) gh_k448 rfl (fun z => by cases z) (Or.inr ⟨rfl, rfl⟩) rfl ?_
  refine gh_aload_n gd_Picker_init_100 0 rfl (by decide) ?_
  refine gh_aload_n gd_Picker_init_101 3 rfl (by decide) ?_
  refine gh_putO (ov := gh_o133) (ov2 := gh_o134) (A := 61) (k := 2) gd_Picker_init_102 gh_ck5 (by decide +kernel) (by decide +kernel) (by decide) (by decide) gh_k449 rfl (fun z => by cases z) (Or.inr ⟨rfl, rfl⟩) rfl ?_
  exact gh_ret9 rfl gd_Picker_init_105 rfl
theorem gc_Proper_init {E : gh_E} {Ln : Nat} {xs : Nat → Int32} (d : Nat) : gh_C E gh_yProper_init prog_8_method_1_code 3 none 9 (d + 1) [(2, 61), (2, 16), (2, 23)] (gh_ov gh_o136 Ln xs) (fun _ m1 => m1 = gh_ov gh_o146 Ln xs) := by
  refine gh_enter (L := [(0, 2, 61), (1, 2, 16), (2, 2, 23)]) true (by decide +kernel) (fun _ => rfl) gh_rt9 (Nat.le_of_ble_eq_true rfl) rfl (fun h q hq => ?_) ?_
  · exact gh_oka (as := [(2, 61), (2, 16), (2, 23)]) (L := [(0, 2, 61), (1, 2, 16), (2, 2, 23)]) rfl h q hq
  refine gh_aload_n gd_Proper_init_0 0 rfl (by decide) ?_
  refine gh_obj0 gd_Proper_init_1 (by decide) gh_k507 gh_k77 gh_k78 (Nat.le_of_ble_eq_true rfl) ?_
  refine gh_aload_n gd_Proper_init_4 0 rfl (by decide) ?_
  refine gh_bipush gd_Proper_init_5 (by decide) (gh_r0 rfl) ?_
  refine gh_newarrO (ov := gh_o136) (ov2 := gh_o137) (κ := 1) (A := 62) (S := 5319) gd_Proper_init_7 (by decide) gh_k104 (by decide) (by decide +kernel) (by decide +kernel) (by decide) (by decide +kernel) rfl ?_
  refine gh_putO (ov := gh_o137) (ov2 := gh_o138) (A := 63) (k := 6) gd_Proper_init_9 gh_ck6 (by decide +kernel) (by decide +kernel) (by decide) (by decide) gh_k511 rfl (fun z => by cases z) (Or.inr ⟨rfl, rfl⟩) rfl ?_
  refine gh_aload_n gd_Proper_init_12 0 rfl (by decide) ?_
  refine gh_sipush gd_Proper_init_13 (by decide) (gh_r0 rfl) ?_
  refine gh_newarrO (ov := gh_o138) (ov2 := gh_o139) (κ := 1) (A := 63) (S := 5399) gd_Proper_init_16 (by decide) gh_k104 (by decide) (by decide +kernel) (by decide +kernel) (by decide) (by decide +kernel) rfl ?_
  refine gh_putO (ov := gh_o139) (ov2 := gh_o140) (A := 64) (k := 8) gd_Proper_init_18 gh_ck6 (by decide +kernel) (by decide +kernel) (by decide) (by decide) gh_k512 rfl (fun z => by cases z) (Or.inr ⟨rfl, rfl⟩) rfl ?_
  refine gh_aload_n gd_Proper_init_21 0 rfl (by decide) ?_
  refine gh_sipush gd_Proper_init_22 (by decide) (gh_r0 rfl) ?_
  refine gh_newarrO (ov := gh_o140) (ov2 := gh_o141) (κ := 1) (A := 64) (S := 5719) gd_Proper_init_25 (by decide) gh_k104 (by decide) (by decide +kernel) (by decide +kernel) (by decide) (by decide +kernel) rfl ?_
  refine gh_putO (ov := gh_o141) (ov2 := gh_o142) (A := 65) (k := 9) gd_Proper_init_27 gh_ck6 (by decide +kernel) (by decide +kernel) (by decide) (by decide) gh_k513 rfl (fun z => by cases z) (Or.inr ⟨rfl, rfl⟩) rfl ?_
  refine gh_aload_n gd_Proper_init_30 0 rfl (by decide) ?_
  refine gh_bipush gd_Proper_init_31 (by decide) (gh_r0 rfl) ?_
  refine gh_newarrO (ov := gh_o142) (ov2 := gh_o143) (κ := 1) (A := 65) (S := 6039) gd_Proper_init_33 (by decide) gh_k104 (by decide) (by decide +kernel) (by decide +kernel) (by decide) (by decide +kernel) rfl ?_
  refine gh_putO (ov := gh_o143) (ov2 := gh_o144) (A := 66) (k := 11) gd_Proper_init_35 gh_ck6 (by decide +kernel) (by decide +kernel) (by decide) (by decide) gh_k514 rfl (fun z => by cases z) (Or.inr ⟨rfl, rfl⟩) rfl ?_
  refine gh_aload_n gd_Proper_init_38 0 rfl (by decide) ?_
  refine gh_aload_n gd_Proper_init_39 1 rfl (by decide) ?_
  refine gh_putO (ov := gh_o144) (ov2 := gh_o145) (A := 66) (k := 0) gd_Proper_init_40 gh_ck6 (by decide +kernel) (by decide +kernel) (by decide) (by decide) gh_k508 rfl (fun z => by cases z) (Or.inr ⟨rfl, rfl⟩) rfl ?_
  refine gh_aload_n gd_Proper_init_43 0 rfl (by decide) ?_
  refine gh_aload_n gd_Proper_init_44 2 rfl (by decide) ?_
  refine gh_putO (ov := gh_o145) (ov2 := gh_o146) (A := 66) (k := 1) gd_Proper_init_45 gh_ck6 (by decide +kernel) (by decide +kernel) (by decide) (by decide) gh_k509 rfl (fun z => by cases z) (Or.inr ⟨rfl, rfl⟩) rfl ?_
  exact gh_ret9 rfl gd_Proper_init_48 rfl
theorem gc_House_init {E : gh_E} {Ln : Nat} {xs : Nat → Int32} (d : Nat) : gh_C E gh_yHouse_init prog_1_method_1_code 1 none 9 (d + 3) [(2, 5)] (gh_ov gh_o4 Ln xs) (fun _ m1 => m1 = gh_ov gh_o147 Ln xs) := by
  refine gh_enter (L := [(0, 2, 5)]) true (by decide +kernel) (fun _ => rfl) gh_rt9 (Nat.le_of_ble_eq_true rfl) rfl (fun h q hq => ?_) ?_
  · exact gh_oka (as := [(2, 5)]) (L := [(0, 2, 5)]) rfl h q hq
  refine gh_aload_n gd_House_init_0 0 rfl (by decide) ?_
  refine gh_obj0 gd_House_init_1 (by decide) gh_k76 gh_k77 gh_k78 (Nat.le_of_ble_eq_true rfl) ?_
  refine gh_aload_n gd_House_init_4 0 rfl (by decide) ?_
  refine gh_newO (ov := gh_o4) (ov2 := gh_o5) (A := 6) (S := 140) gd_House_init_5 gh_ck8 gh_k79 gh_k80 gh_k56 (by decide) (by decide +kernel) (by decide +kernel) (by decide) (by decide +kernel) rfl ?_
  refine gh_dup gd_House_init_8 (by decide) ?_
  refine gh_callIN (d := d + 2) (n := 0) (y := gh_yTape_init) (as := []) gd_House_init_9 (by decide) gh_k83 gh_k56 List.mem_cons_self gh_k82 rfl ⟨by decide, by decide, by decide +kernel⟩ rfl (by decide) (Nat.le_of_ble_eq_true rfl) ((gc_Tape_init (d + 1)).mono (fun r m1 hq => ?_))
  subst hq
  refine gh_putO (ov := gh_o7) (ov2 := gh_o8) (A := 8) (k := 0) gd_House_init_12 gh_ck11 (by decide +kernel) (by decide +kernel) (by decide) (by decide) gh_k540 rfl (fun z => by cases z) (Or.inr ⟨rfl, rfl⟩) rfl ?_
  refine gh_aload_n gd_House_init_15 0 rfl (by decide) ?_
  refine gh_newO (ov := gh_o8) (ov2 := gh_o9) (A := 8) (S := 385) gd_House_init_16 gh_ck7 gh_k105 gh_k106 gh_k57 (by decide) (by decide +kernel) (by decide +kernel) (by decide) (by decide +kernel) rfl ?_
  refine gh_dup gd_House_init_19 (by decide) ?_
  refine gh_aload_n gd_House_init_20 0 rfl (by decide) ?_
  refine gh_getO (ov := gh_o9) (A := 9) (k := 0) (v := 6) gd_House_init_21 gh_ck11 (by decide +kernel) (by decide +kernel) (by decide) (by decide +kernel) (by decide) gh_k540 rfl (by decide +kernel) ?_
  refine gh_callI (d := d + 2) (n := 1) (y := gh_yReader_init) (as := [(2, 6)]) gd_House_init_24 (by decide) gh_k109 gh_k57 gh_k107 gh_k108 rfl ⟨by decide, by decide, by decide +kernel⟩ rfl (by decide) (Nat.le_of_ble_eq_true rfl) ((gc_Reader_init (d)).mono (fun r m1 hq => ?_))
  subst hq
  refine gh_putO (ov := gh_o25) (ov2 := gh_o26) (A := 16) (k := 1) gd_House_init_27 gh_ck11 (by decide +kernel) (by decide +kernel) (by decide) (by decide) gh_k541 rfl (fun z => by cases z) (Or.inr ⟨rfl, rfl⟩) rfl ?_
  refine gh_aload_n gd_House_init_30 0 rfl (by decide) ?_
  refine gh_newO (ov := gh_o26) (ov2 := gh_o27) (A := 16) (S := 549) gd_House_init_31 gh_ck4 gh_k172 gh_k173 gh_k59 (by decide) (by decide +kernel) (by decide +kernel) (by decide) (by decide +kernel) rfl ?_
  refine gh_dup gd_House_init_34 (by decide) ?_
  refine gh_callIN (d := d + 2) (n := 0) (y := gh_yGrammar_init) (as := []) gd_House_init_35 (by decide) gh_k176 gh_k59 (List.mem_cons_of_mem _ (List.mem_cons_of_mem _ List.mem_cons_self)) gh_k175 rfl ⟨by decide, by decide, by decide +kernel⟩ rfl (by decide) (Nat.le_of_ble_eq_true rfl) ((gc_Grammar_init (d + 1)).mono (fun r m1 hq => ?_))
  subst hq
  refine gh_putO (ov := gh_o39) (ov2 := gh_o40) (A := 23) (k := 2) gd_House_init_38 gh_ck11 (by decide +kernel) (by decide +kernel) (by decide) (by decide) gh_k542 rfl (fun z => by cases z) (Or.inr ⟨rfl, rfl⟩) rfl ?_
  refine gh_aload_n gd_House_init_41 0 rfl (by decide) ?_
  refine gh_newO (ov := gh_o40) (ov2 := gh_o41) (A := 23) (S := 702) gd_House_init_42 gh_ck2 gh_k233 gh_k234 gh_k60 (by decide) (by decide +kernel) (by decide +kernel) (by decide) (by decide +kernel) rfl ?_
  refine gh_dup gd_House_init_45 (by decide) ?_
  refine gh_aload_n gd_House_init_46 0 rfl (by decide) ?_
  refine gh_getO (ov := gh_o41) (A := 24) (k := 2) (v := 16) gd_House_init_47 gh_ck11 (by decide +kernel) (by decide +kernel) (by decide) (by decide +kernel) (by decide) gh_k542 rfl (by decide +kernel) ?_
  refine gh_callI (d := d + 2) (n := 1) (y := gh_yFacts_init) (as := [(2, 16)]) gd_House_init_50 (by decide) gh_k237 gh_k60 gh_k235 gh_k236 rfl ⟨by decide, by decide, by decide +kernel⟩ rfl (by decide) (Nat.le_of_ble_eq_true rfl) ((gc_Facts_init (d + 1)).mono (fun r m1 hq => ?_))
  subst hq
  refine gh_putO (ov := gh_o52) (ov2 := gh_o53) (A := 29) (k := 3) gd_House_init_53 gh_ck11 (by decide +kernel) (by decide +kernel) (by decide) (by decide) gh_k543 rfl (fun z => by cases z) (Or.inr ⟨rfl, rfl⟩) rfl ?_
  refine gh_aload_n gd_House_init_56 0 rfl (by decide) ?_
  refine gh_newO (ov := gh_o53) (ov2 := gh_o54) (A := 29) (S := 765) gd_House_init_57 gh_ck9 gh_k284 gh_k285 gh_k61 (by decide) (by decide +kernel) (by decide +kernel) (by decide) (by decide +kernel) rfl ?_
  refine gh_dup gd_House_init_60 (by decide) ?_
  refine gh_aload_n gd_House_init_61 0 rfl (by decide) ?_
  refine gh_getO (ov := gh_o54) (A := 30) (k := 2) (v := 16) gd_House_init_62 gh_ck11 (by decide +kernel) (by decide +kernel) (by decide) (by decide +kernel) (by decide) gh_k542 rfl (by decide +kernel) ?_
  refine gh_aload_n gd_House_init_65 0 rfl (by decide) ?_
  refine gh_getO (ov := gh_o54) (A := 30) (k := 3) (v := 23) gd_House_init_66 gh_ck11 (by decide +kernel) (by decide +kernel) (by decide) (by decide +kernel) (by decide) gh_k543 rfl (by decide +kernel) ?_
  refine gh_callI (d := d + 2) (n := 2) (y := gh_yText_init) (as := [(2, 16), (2, 23)]) gd_House_init_69 (by decide) gh_k288 gh_k61 gh_k286 gh_k287 rfl ⟨by decide, by decide, by decide +kernel⟩ rfl (by decide) (Nat.le_of_ble_eq_true rfl) ((gc_Text_init (d + 1)).mono (fun r m1 hq => ?_))
  subst hq
  refine gh_putO (ov := gh_o62) (ov2 := gh_o63) (A := 33) (k := 4) gd_House_init_72 gh_ck11 (by decide +kernel) (by decide +kernel) (by decide) (by decide) gh_k544 rfl (fun z => by cases z) (Or.inr ⟨rfl, rfl⟩) rfl ?_
  refine gh_aload_n gd_House_init_75 0 rfl (by decide) ?_
  refine gh_newO (ov := gh_o63) (ov2 := gh_o64) (A := 33) (S := 1031) gd_House_init_76 gh_ck0 gh_k323 gh_k324 gh_k62 (by decide) (by decide +kernel) (by decide +kernel) (by decide) (by decide +kernel) rfl ?_
  refine gh_dup gd_House_init_79 (by decide) ?_
  refine gh_aload_n gd_House_init_80 0 rfl (by decide) ?_
  refine gh_getO (ov := gh_o64) (A := 34) (k := 2) (v := 16) gd_House_init_81 gh_ck11 (by decide +kernel) (by decide +kernel) (by decide) (by decide +kernel) (by decide) gh_k542 rfl (by decide +kernel) ?_
  refine gh_aload_n gd_House_init_84 0 rfl (by decide) ?_
  refine gh_getO (ov := gh_o64) (A := 34) (k := 3) (v := 23) gd_House_init_85 gh_ck11 (by decide +kernel) (by decide +kernel) (by decide) (by decide +kernel) (by decide) gh_k543 rfl (by decide +kernel) ?_
  refine gh_aload_n gd_House_init_88 0 rfl (by decide) ?_
  refine gh_getO (ov := gh_o64) (A := 34) (k := 4) (v := 29) gd_House_init_89 gh_ck11 (by decide +kernel) (by decide +kernel) (by decide) (by decide +kernel) (by decide) gh_k544 rfl (by decide +kernel) ?_
  refine gh_callI (d := d + 2) (n := 3) (y := gh_yChart_init) (as := [(2, 16), (2, 23), (2, 29)]) gd_House_init_92 (by decide) gh_k327 gh_k62 gh_k325 gh_k326 rfl ⟨by decide, by decide, by decide +kernel⟩ rfl (by decide) (Nat.le_of_ble_eq_true rfl) ((gc_Chart_init (d + 1)).mono (fun r m1 hq => ?_))
  subst hq
  refine gh_putO (ov := gh_o77) (ov2 := gh_o78) (A := 39) (k := 5) gd_House_init_95 gh_ck11 (by decide +kernel) (by decide +kernel) (by decide) (by decide) gh_k545 rfl (fun z => by cases z) (Or.inr ⟨rfl, rfl⟩) rfl ?_
  refine gh_aload_n gd_House_init_98 0 rfl (by decide) ?_
  refine gh_newO (ov := gh_o78) (ov2 := gh_o79) (A := 39) (S := 1148) gd_House_init_99 gh_ck10 gh_k360 gh_k361 gh_k63 (by decide) (by decide +kernel) (by decide +kernel) (by decide) (by decide +kernel) rfl ?_
  refine gh_dup gd_House_init_102 (by decide) ?_
  refine gh_aload_n gd_House_init_103 0 rfl (by decide) ?_
  refine gh_getO (ov := gh_o79) (A := 40) (k := 2) (v := 16) gd_House_init_104 gh_ck11 (by decide +kernel) (by decide +kernel) (by decide) (by decide +kernel) (by decide) gh_k542 rfl (by decide +kernel) ?_
  refine gh_aload_n gd_House_init_107 0 rfl (by decide) ?_
  refine gh_getO (ov := gh_o79) (A := 40) (k := 3) (v := 23) gd_House_init_108 gh_ck11 (by decide +kernel) (by decide +kernel) (by decide) (by decide +kernel) (by decide) gh_k543 rfl (by decide +kernel) ?_
  refine gh_aload_n gd_House_init_111 0 rfl (by decide) ?_
  refine gh_getO (ov := gh_o79) (A := 40) (k := 4) (v := 29) gd_House_init_112 gh_ck11 (by decide +kernel) (by decide +kernel) (by decide) (by decide +kernel) (by decide) gh_k544 rfl (by decide +kernel) ?_
  refine gh_aload_n gd_House_init_115 0 rfl (by decide) ?_
  refine gh_getO (ov := gh_o79) (A := 40) (k := 5) (v := 33) gd_House_init_116 gh_ck11 (by decide +kernel) (by decide +kernel) (by decide) (by decide +kernel) (by decide) gh_k545 rfl (by decide +kernel) ?_
  refine gh_callI (d := d + 2) (n := 4) (y := gh_yWants_init) (as := [(2, 16), (2, 23), (2, 29), (2, 33)]) gd_House_init_119 (by decide) gh_k364 gh_k63 gh_k362 gh_k363 rfl ⟨by decide, by decide, by decide +kernel⟩ rfl (by decide) (Nat.le_of_ble_eq_true rfl) ((gc_Wants_init (d + 1)).mono (fun r m1 hq => ?_))
  subst hq
  refine gh_putO (ov := gh_o92) (ov2 := gh_o93) (A := 44) (k := 6) gd_House_init_122 gh_ck11 (by decide +kernel) (by decide +kernel) (by decide) (by decide) gh_k546 rfl (fun z => by cases z) (Or.inr ⟨rfl, rfl⟩) rfl ?_
  refine gh_aload_n gd_House_init_125 0 rfl (by decide) ?_
  refine gh_newO (ov := gh_o93) (ov2 := gh_o94) (A := 44) (S := 1896) gd_House_init_126 gh_ck3 gh_k397 gh_k398 gh_k64 (by decide) (by decide +kernel) (by decide +kernel) (by decide) (by decide +kernel) rfl ?_
  refine gh_dup gd_House_init_129 (by decide) ?_
  refine gh_aload_n gd_House_init_130 0 rfl (by decide) ?_
  refine gh_getO (ov := gh_o94) (A := 45) (k := 2) (v := 16) gd_House_init_131 gh_ck11 (by decide +kernel) (by decide +kernel) (by decide) (by decide +kernel) (by decide) gh_k542 rfl (by decide +kernel) ?_
  refine gh_aload_n gd_House_init_134 0 rfl (by decide) ?_
  refine gh_getO (ov := gh_o94) (A := 45) (k := 3) (v := 23) gd_House_init_135 gh_ck11 (by decide +kernel) (by decide +kernel) (by decide) (by decide +kernel) (by decide) gh_k543 rfl (by decide +kernel) ?_
  refine gh_aload_n gd_House_init_138 0 rfl (by decide) ?_
  refine gh_getO (ov := gh_o94) (A := 45) (k := 4) (v := 29) gd_House_init_139 gh_ck11 (by decide +kernel) (by decide +kernel) (by decide) (by decide +kernel) (by decide) gh_k544 rfl (by decide +kernel) ?_
  refine gh_aload_n gd_House_init_142 0 rfl (by decide) ?_
  refine gh_getO (ov := gh_o94) (A := 45) (k := 5) (v := 33) gd_House_init_143 gh_ck11 (by decide +kernel) (by decide +kernel) (by decide) (by decide +kernel) (by decide) gh_k545 rfl (by decide +kernel) ?_
  refine gh_callI (d := d + 2) (n := 4) (y := gh_yForest_init) (as := [(2, 16), (2, 23), (2, 29), (2, 33)]) gd_House_init_146 (by decide) gh_k401 gh_k64 gh_k399 gh_k400 rfl ⟨by decide, by decide, by decide +kernel⟩ rfl (by decide) (Nat.le_of_ble_eq_true rfl) ((gc_Forest_init (d + 1)).mono (fun r m1 hq => ?_))
  subst hq
  refine gh_putO (ov := gh_o109) (ov2 := gh_o110) (A := 50) (k := 7) gd_House_init_149 gh_ck11 (by decide +kernel) (by decide +kernel) (by decide) (by decide) gh_k547 rfl (fun z => by cases z) (Or.inr ⟨rfl, rfl⟩) rfl ?_
  refine gh_aload_n gd_House_init_152 0 rfl (by decide) ?_
  refine gh_newO (ov := gh_o110) (ov2 := gh_o111) (A := 50) (S := 2948) gd_House_init_153 gh_ck5 gh_k441 gh_k442 gh_k65 (by decide) (by decide +kernel) (by decide +kernel) (by decide) (by decide +kernel) rfl ?_
  refine gh_dup gd_House_init_156 (by decide) ?_
  refine gh_aload_n gd_House_init_157 0 rfl (by decide) ?_
  refine gh_getO (ov := gh_o111) (A := 51) (k := 2) (v := 16) gd_House_init_158 gh_ck11 (by decide +kernel) (by decide +kernel) (by decide) (by decide +kernel) (by decide) gh_k542 rfl (by decide +kernel) ?_
  refine gh_aload_n gd_House_init_161 0 rfl (by decide) ?_
  refine gh_getO (ov := gh_o111) (A := 51) (k := 4) (v := 29) gd_House_init_162 gh_ck11 (by decide +kernel) (by decide +kernel) (by decide) (by decide +kernel) (by decide) gh_k544 rfl (by decide +kernel) ?_
  refine gh_aload_n gd_House_init_165 0 rfl (by decide) ?_
  refine gh_getO (ov := gh_o111) (A := 51) (k := 7) (v := 44) gd_House_init_166 gh_ck11 (by decide +kernel) (by decide +kernel) (by decide) (by decide +kernel) (by decide) gh_k547 rfl (by decide +kernel) ?_
  refine gh_callI (d := d + 2) (n := 3) (y := gh_yPicker_init) (as := [(2, 16), (2, 29), (2, 44)]) gd_House_init_169 (by decide) gh_k445 gh_k65 gh_k443 gh_k444 rfl ⟨by decide, by decide, by decide +kernel⟩ rfl (by decide) (Nat.le_of_ble_eq_true rfl) ((gc_Picker_init (d + 1)).mono (fun r m1 hq => ?_))
  subst hq
  refine gh_putO (ov := gh_o134) (ov2 := gh_o135) (A := 61) (k := 8) gd_House_init_172 gh_ck11 (by decide +kernel) (by decide +kernel) (by decide) (by decide) gh_k548 rfl (fun z => by cases z) (Or.inr ⟨rfl, rfl⟩) rfl ?_
  refine gh_aload_n gd_House_init_175 0 rfl (by decide) ?_
  refine gh_newO (ov := gh_o135) (ov2 := gh_o136) (A := 61) (S := 5307) gd_House_init_176 gh_ck6 gh_k502 gh_k503 gh_k66 (by decide) (by decide +kernel) (by decide +kernel) (by decide) (by decide +kernel) rfl ?_
  refine gh_dup gd_House_init_179 (by decide) ?_
  refine gh_aload_n gd_House_init_180 0 rfl (by decide) ?_
  refine gh_getO (ov := gh_o136) (A := 62) (k := 2) (v := 16) gd_House_init_181 gh_ck11 (by decide +kernel) (by decide +kernel) (by decide) (by decide +kernel) (by decide) gh_k542 rfl (by decide +kernel) ?_
  refine gh_aload_n gd_House_init_184 0 rfl (by decide) ?_
  refine gh_getO (ov := gh_o136) (A := 62) (k := 3) (v := 23) gd_House_init_185 gh_ck11 (by decide +kernel) (by decide +kernel) (by decide) (by decide +kernel) (by decide) gh_k543 rfl (by decide +kernel) ?_
  refine gh_callI (d := d + 2) (n := 2) (y := gh_yProper_init) (as := [(2, 16), (2, 23)]) gd_House_init_188 (by decide) gh_k506 gh_k66 gh_k504 gh_k505 rfl ⟨by decide, by decide, by decide +kernel⟩ rfl (by decide) (Nat.le_of_ble_eq_true rfl) ((gc_Proper_init (d + 1)).mono (fun r m1 hq => ?_))
  subst hq
  refine gh_putO (ov := gh_o146) (ov2 := gh_o147) (A := 66) (k := 9) gd_House_init_191 gh_ck11 (by decide +kernel) (by decide +kernel) (by decide) (by decide) gh_k549 rfl (fun z => by cases z) (Or.inr ⟨rfl, rfl⟩) rfl ?_
  exact gh_ret9 rfl gd_House_init_194 rfl
theorem gc_law {E : gh_E} {Ln : Nat} {xs : Nat → Int32} {Q : Int → gh_M → Prop} (d : Nat) (kk : gh_T E gh_MLaw (d + 4) 23 [(4, 2, 5), (3, 2, 4), (2, 2, 3), (1, 2, 2), (0, 2, 1)] [] (gh_ov gh_o147 Ln xs) Q) : gh_T E gh_MLaw (d + 4) 0 [(0, 2, 1)] [] (gh_m0 Ln xs) Q := by
  have e0 : gh_m0 Ln xs = gh_ov gh_o0 Ln xs := by
    funext a i
    by_cases h : (0 : Int) = a ∧ (0 : Int) = i
    · rw [← h.1, ← h.2]; rfl
    · by_cases h2 : (0 : Int) = a ∧ (1 : Int) = i
      · rw [← h2.1, ← h2.2]; rfl
      · refine (gh_ov_n ?_).symm
        unfold gh_o0
        rw [gh_lk_f h, gh_lk_f h2]; rfl
  rw [e0]
  refine gh_iconst gd_Law_law_0 (gh_r0 rfl) ?_
  refine gh_newarrO (ov := gh_o0) (ov2 := gh_o1) (κ := 1) (A := 2) (S := 0) gd_Law_law_1 (by decide) gh_k104 (by decide) (by decide +kernel) (by decide +kernel) (by decide) (by decide +kernel) rfl ?_
  refine gh_astore_n (L2 := [(1, 2, 2), (0, 2, 1)]) gd_Law_law_3 (by decide) (by decide) rfl ?_
  refine gh_bipush gd_Law_law_4 (by decide) (gh_r0 rfl) ?_
  refine gh_newarrO (ov := gh_o1) (ov2 := gh_o2) (κ := 1) (A := 3) (S := 1) gd_Law_law_6 (by decide) gh_k104 (by decide) (by decide +kernel) (by decide +kernel) (by decide) (by decide +kernel) rfl ?_
  refine gh_astore_n (L2 := [(2, 2, 3), (1, 2, 2), (0, 2, 1)]) gd_Law_law_8 (by decide) (by decide) rfl ?_
  refine gh_bipush gd_Law_law_9 (by decide) (gh_r0 rfl) ?_
  refine gh_newarrO (ov := gh_o2) (ov2 := gh_o3) (κ := 1) (A := 4) (S := 65) gd_Law_law_11 (by decide) gh_k104 (by decide) (by decide +kernel) (by decide +kernel) (by decide) (by decide +kernel) rfl ?_
  refine gh_astore_n (L2 := [(3, 2, 4), (2, 2, 3), (1, 2, 2), (0, 2, 1)]) gd_Law_law_13 (by decide) (by decide) rfl ?_
  refine gh_newO (ov := gh_o3) (ov2 := gh_o4) (A := 5) (S := 129) gd_Law_law_14 gh_ck11 gh_k71 gh_k72 gh_k55 (by decide) (by decide +kernel) (by decide +kernel) (by decide) (by decide +kernel) rfl ?_
  refine gh_dup gd_Law_law_17 (by decide) ?_
  refine gh_callI (d := d + 3) (n := 0) (y := gh_yHouse_init) (as := []) gd_Law_law_18 (by decide) gh_k75 gh_k55 gh_k73 gh_k74 rfl ⟨by decide, by decide, by decide +kernel⟩ rfl (by decide) (Nat.le_of_ble_eq_true rfl) ((gc_House_init (d)).mono (fun r m1 hq => ?_))
  subst hq
  refine gh_astore (L2 := [(4, 2, 5), (3, 2, 4), (2, 2, 3), (1, 2, 2), (0, 2, 1)]) gd_Law_law_21 (by decide) (by decide) rfl ?_
  exact kk
theorem gh_oF {Ln : Nat} {xs : Nat → Int32} : gh_F (gh_ov gh_oR Ln xs) := by
  have h : gh_fix.all (fun e => gh_lk gh_oR e.1 e.2.1 == some e.2.2) = true := by decide +kernel
  refine ⟨fun e he => gh_ov_s (by simpa using List.all_eq_true.mp h e he), ?_⟩
  rw [gh_ov_s (show gh_lk gh_oR 0 1 = some 66 by decide +kernel)]
  omega
