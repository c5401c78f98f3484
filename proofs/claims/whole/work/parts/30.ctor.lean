/-! THE CONSTRUCTORS: each runs once, over a memory that is written out; the latest entry counts -/
def gh_lk (ov : List (Int × Int × Int)) (a i : Int) : Option Int := match ov with
  | [] => none
  | e :: l => if e.1 = a ∧ e.2.1 = i then some e.2.2 else gh_lk l a i
def gh_ov (ov : List (Int × Int × Int)) (L : Nat) (xs : Nat → Int32) : gh_M := fun a i => match gh_lk ov a i with
  | some v => v
  | none => gh_m0 L xs a i
theorem gh_ov_s {ov : List (Int × Int × Int)} {L : Nat} {xs : Nat → Int32} {a i v : Int} (h : gh_lk ov a i = some v) : gh_ov ov L xs a i = v := by
  unfold gh_ov
  rw [h]
theorem gh_lk_t {e : Int × Int × Int} {l : List (Int × Int × Int)} {a i : Int} (h : e.1 = a ∧ e.2.1 = i) : gh_lk (e :: l) a i = some e.2.2 := by
  show (if e.1 = a ∧ e.2.1 = i then some e.2.2 else gh_lk l a i) = _
  rw [if_pos h]
theorem gh_lk_f {e : Int × Int × Int} {l : List (Int × Int × Int)} {a i : Int} (h : ¬ (e.1 = a ∧ e.2.1 = i)) : gh_lk (e :: l) a i = gh_lk l a i := by
  show (if e.1 = a ∧ e.2.1 = i then some e.2.2 else gh_lk l a i) = _
  rw [if_neg h]
theorem gh_ov_c {ov ov2 : List (Int × Int × Int)} {L : Nat} {xs : Nat → Int32} {a i : Int} (h : gh_lk ov a i = gh_lk ov2 a i) : gh_ov ov L xs a i = gh_ov ov2 L xs a i := by
  unfold gh_ov
  rw [h]
theorem gh_ov_n {ov : List (Int × Int × Int)} {L : Nat} {xs : Nat → Int32} {a i : Int} (h : gh_lk ov a i = none) : gh_ov ov L xs a i = gh_m0 L xs a i := by
  unfold gh_ov
  rw [h]
theorem gh_ov_u {ov : List (Int × Int × Int)} {L : Nat} {xs : Nat → Int32} {a i v : Int} : gh_u (gh_ov ov L xs) a i v = gh_ov ((a, i, v) :: ov) L xs := by
  funext b j
  unfold gh_u
  by_cases h : b = a ∧ j = i
  · rw [if_pos h]
    exact (gh_ov_s (gh_lk_t (e := (a, i, v)) ⟨h.1.symm, h.2.symm⟩)).symm
  · rw [if_neg h]
    exact (gh_ov_c (gh_lk_f (fun z => h ⟨z.1.symm, z.2.symm⟩))).symm
theorem gh_lk_n {a : Int} : ∀ (ov : List (Int × Int × Int)), ov.all (fun e => !(e.1 == a)) = true → ∀ i, gh_lk ov a i = none
  | [], _, _ => rfl
  | e :: l, h, i => by
    rw [List.all_cons, Bool.and_eq_true] at h
    rw [gh_lk_f (fun z => by have := h.1; rw [z.1] at this; simp at this)]
    exact gh_lk_n l h.2 i
theorem gh_ov_al {ov : List (Int × Int × Int)} {L : Nat} {xs : Nat → Int32} {N T κ n : Int} (h1 : gh_lk ov 0 1 = some N) (h0 : gh_lk ov 0 0 = some T) (h2 : 2 ≤ N) (hz : ov.all (fun e => !(e.1 == N)) = true) :
    gh_al (gh_ov ov L xs) κ n = gh_ov ((0, 0, T + n) :: (0, 1, N + 1) :: (0, 2 * N, κ) :: (0, 2 * N + 1, n) :: ov) L xs := by
  have e1 : gh_ov ov L xs 0 1 = N := gh_ov_s h1
  have e0 : gh_ov ov L xs 0 0 = T := gh_ov_s h0
  have out : ∀ a i : Int, a ≠ 0 → gh_lk ((0, 0, T + n) :: (0, 1, N + 1) :: (0, 2 * N, κ) :: (0, 2 * N + 1, n) :: ov) a i = gh_lk ov a i := fun a i ha => by
    rw [gh_lk_f (fun z => ha z.1.symm), gh_lk_f (fun z => ha z.1.symm), gh_lk_f (fun z => ha z.1.symm), gh_lk_f (fun z => ha z.1.symm)]
  funext a i
  unfold gh_al
  rw [e1, e0]
  by_cases ha : a = N
  · rw [if_pos ha, gh_ov_n ((out a i (by omega)).trans (by rw [ha]; exact gh_lk_n ov hz i))]
    unfold gh_m0
    rw [if_neg (by omega), if_neg (by omega)]
  · rw [if_neg ha]
    by_cases h0' : a = 0
    · rw [if_pos h0', h0']
      by_cases i0 : i = 0
      · rw [if_pos i0]
        exact (gh_ov_s (gh_lk_t (e := (0, 0, T + n)) ⟨rfl, i0.symm⟩)).symm
      · rw [if_neg i0]
        by_cases i1 : i = 1
        · rw [if_pos i1]
          refine (gh_ov_s ?_).symm
          rw [gh_lk_f (fun z => i0 z.2.symm), gh_lk_t ⟨rfl, i1.symm⟩]
        · rw [if_neg i1]
          by_cases i2 : i = 2 * N
          · rw [if_pos i2]
            refine (gh_ov_s ?_).symm
            rw [gh_lk_f (fun z => i0 z.2.symm), gh_lk_f (fun z => i1 z.2.symm), gh_lk_t ⟨rfl, i2.symm⟩]
          · rw [if_neg i2]
            by_cases i3 : i = 2 * N + 1
            · rw [if_pos i3]
              refine (gh_ov_s ?_).symm
              rw [gh_lk_f (fun z => i0 z.2.symm), gh_lk_f (fun z => i1 z.2.symm), gh_lk_f (fun z => i2 z.2.symm), gh_lk_t ⟨rfl, i3.symm⟩]
            · rw [if_neg i3]
              refine (gh_ov_c ?_).symm
              rw [gh_lk_f (fun z => i0 z.2.symm), gh_lk_f (fun z => i1 z.2.symm), gh_lk_f (fun z => i2 z.2.symm), gh_lk_f (fun z => i3 z.2.symm)]
    · rw [if_neg h0']
      exact (gh_ov_c (out a i h0')).symm
theorem gh_ov_A {ov : List (Int × Int × Int)} {L : Nat} {xs : Nat → Int32} {a κ N : Int} (h1 : gh_lk ov 0 1 = some N) (h2 : gh_lk ov 0 (2 * a) = some κ) (h3 : 2 ≤ a ∧ a < N) : gh_isA (gh_ov ov L xs) a κ := ⟨h3.1, by rw [gh_ov_s h1]; exact h3.2, gh_ov_s h2⟩
section G10
variable {E : gh_E} {M : gh_I} {d pc : Nat} {L : gh_Ls} {st : gh_St} {Q : Int → gh_M → Prop} {Ln : Nat} {xs : Nat → Int32} {ov ov2 : List (Int × Int × Int)}
theorem gh_newO {ci idx : Nat} {C : String} {T : u_T} {N : Nat} {A S : Int} (hd : decode M.2.1 pc = .ok (.new idx, 3)) (hc : gh_ck ci C T N) (hw1 : Cond.classLink M.1 idx C ∈ gh_tb) (hw2 : Cond.instantiable C N ∈ gh_tb) (hw3 : Cond.initialized C ∈ gh_tb) (hN : N < 1000) (h1 : gh_lk ov 0 1 = some A) (h0 : gh_lk ov 0 0 = some S) (h2 : 2 ≤ A) (hz : ov.all (fun e => !(e.1 == A)) = true)
    (ho : ov2 = (0, 0, S + (N : Int)) :: (0, 1, A + 1) :: (0, 2 * A, 10 + (ci : Int)) :: (0, 2 * A + 1, (N : Int)) :: ov) (kk : gh_T E M d (pc + 3) L ((2, A) :: st) (gh_ov ov2 Ln xs) Q) : gh_T E M d pc L st (gh_ov ov Ln xs) Q := by
  refine gh_new hd hc hw1 hw2 hw3 hN ?_
  rw [gh_ov_al h1 h0 h2 hz, gh_ov_s h1, ← ho]
  exact kk
theorem gh_newarrO {κ n A S : Int} {at_ : ArrayType} (hd : decode M.2.1 pc = .ok (.newarray at_, 2)) (hκ : (at_ = .int ∧ κ = 1) ∨ (at_ = .boolean ∧ κ = 2) ∨ (at_ = .long ∧ κ = 3)) (hw : Cond.arrayClass (newarray.typeOf at_) ∈ gh_tb) (hn : 0 ≤ n ∧ n < 60000000) (h1 : gh_lk ov 0 1 = some A) (h0 : gh_lk ov 0 0 = some S) (h2 : 2 ≤ A) (hz : ov.all (fun e => !(e.1 == A)) = true)
    (ho : ov2 = (0, 0, S + n) :: (0, 1, A + 1) :: (0, 2 * A, κ) :: (0, 2 * A + 1, n) :: ov) (kk : gh_T E M d (pc + 2) L ((2, A) :: st) (gh_ov ov2 Ln xs) Q) : gh_T E M d pc L ((0, n) :: st) (gh_ov ov Ln xs) Q := by
  refine gh_newarr hd hκ hw hn.1 hn.2 ?_
  rw [gh_ov_al h1 h0 h2 hz, gh_ov_s h1, ← ho]
  exact kk
theorem gh_putO {a v A : Int} {ci idx k : Nat} {C : String} {T : u_T} {N : Nat} {t : Int} (hd : decode M.2.1 pc = .ok (.putfield idx, 3)) (hc : gh_ck ci C T N) (h1 : gh_lk ov 0 1 = some A) (h2 : gh_lk ov 0 (2 * a) = some (10 + (ci : Int))) (h3 : 2 ≤ a ∧ a < A) (hk : k < N) (hw : Cond.fieldLink M.1 idx (T k).1 (T k).2.1 (T k).2.2.1 ∈ gh_tb) (ht : gh_tg (10 + ci) k = t) (hfw : gh_fw ci k v) (hfin : (T k).2.2.2 = false ∨ (M.2.2.2.1 = true ∧ (T k).1 = M.1)) (ho : ov2 = (a, (k : Int), v) :: ov) (kk : gh_T E M d (pc + 3) L st (gh_ov ov2 Ln xs) Q) : gh_T E M d pc L ((t, v) :: (2, a) :: st) (gh_ov ov Ln xs) Q := by
  refine gh_put hd hc (gh_ov_A h1 h2 h3) hk hw ht hfw hfin ?_
  rw [gh_ov_u, ← ho]
  exact kk
theorem gh_getO {a v A : Int} {ci idx k : Nat} {C : String} {T : u_T} {N : Nat} {t : Int} (hd : decode M.2.1 pc = .ok (.getfield idx, 3)) (hc : gh_ck ci C T N) (h1 : gh_lk ov 0 1 = some A) (h2 : gh_lk ov 0 (2 * a) = some (10 + (ci : Int))) (h3 : 2 ≤ a ∧ a < A) (hl : gh_lk ov 0 (2 * a + 1) = some (N : Int)) (hk : k < N) (hw : Cond.fieldLink M.1 idx (T k).1 (T k).2.1 (T k).2.2.1 ∈ gh_tb) (ht : gh_tg (10 + ci) k = t) (hv : gh_lk ov a (k : Int) = some v) (kk : gh_T E M d (pc + 3) L ((t, v) :: st) (gh_ov ov Ln xs) Q) : gh_T E M d pc L ((2, a) :: st) (gh_ov ov Ln xs) Q := by
  refine gh_get hd hc (gh_ov_A h1 h2 h3) (gh_ov_s hl) hk hw ht ?_
  rw [gh_ov_s hv]
  exact kk
end G10
theorem gh_oka {as : gh_St} {L : gh_Ls} (hL : L.map (fun q => q.2) = as) (h : ∀ q ∈ as, gh_ok q.1 q.2) : ∀ q ∈ L, gh_ok q.2.1 q.2.2 := by
  intro q hq
  rw [← hL] at h
  exact h q.2 (List.mem_map.mpr ⟨q, hq, rfl⟩)
def gh_o0 : List (Int × Int × Int) := [(0, 0, 0), (0, 1, 2)]
def gh_o1 : List (Int × Int × Int) := (0, 0, 11) :: (0, 1, 3) :: (0, 4, 21) :: (0, 5, 11) :: gh_o0
def gh_o2 : List (Int × Int × Int) := (0, 0, 16) :: (0, 1, 4) :: (0, 6, 18) :: (0, 7, 5) :: gh_o1
def gh_o3 : List (Int × Int × Int) := (0, 0, 256) :: (0, 1, 5) :: (0, 8, 1) :: (0, 9, 240) :: gh_o2
def gh_o4 : List (Int × Int × Int) := (3, 0, 4) :: gh_o3
def gh_o5 : List (Int × Int × Int) := (2, 0, 3) :: gh_o4
def gh_o6 : List (Int × Int × Int) := (0, 0, 265) :: (0, 1, 6) :: (0, 10, 17) :: (0, 11, 9) :: gh_o5
def gh_o7 : List (Int × Int × Int) := (0, 0, 272) :: (0, 1, 7) :: (0, 12, 11) :: (0, 13, 7) :: gh_o6
def gh_o8 : List (Int × Int × Int) := (0, 0, 280) :: (0, 1, 8) :: (0, 14, 1) :: (0, 15, 8) :: gh_o7
def gh_o9 : List (Int × Int × Int) := (6, 0, 7) :: gh_o8
def gh_o10 : List (Int × Int × Int) := (0, 0, 300) :: (0, 1, 9) :: (0, 16, 1) :: (0, 17, 20) :: gh_o9
def gh_o11 : List (Int × Int × Int) := (6, 4, 8) :: gh_o10
def gh_o12 : List (Int × Int × Int) := (0, 0, 320) :: (0, 1, 10) :: (0, 18, 1) :: (0, 19, 20) :: gh_o11
def gh_o13 : List (Int × Int × Int) := (6, 5, 9) :: gh_o12
def gh_o14 : List (Int × Int × Int) := (0, 0, 400) :: (0, 1, 11) :: (0, 20, 1) :: (0, 21, 80) :: gh_o13
def gh_o15 : List (Int × Int × Int) := (6, 6, 10) :: gh_o14
def gh_o16 : List (Int × Int × Int) := (5, 0, 6) :: gh_o15
def gh_o17 : List (Int × Int × Int) := (5, 2, (-1)) :: gh_o16
def gh_o18 : List (Int × Int × Int) := (0, 0, 404) :: (0, 1, 12) :: (0, 22, 1) :: (0, 23, 4) :: gh_o17
def gh_o19 : List (Int × Int × Int) := (5, 7, 11) :: gh_o18
def gh_o20 : List (Int × Int × Int) := (0, 0, 420) :: (0, 1, 13) :: (0, 24, 1) :: (0, 25, 16) :: gh_o19
def gh_o21 : List (Int × Int × Int) := (5, 8, 12) :: gh_o20
def gh_o22 : List (Int × Int × Int) := (5, 3, 3) :: gh_o21
def gh_o23 : List (Int × Int × Int) := (2, 1, 5) :: gh_o22
def gh_o24 : List (Int × Int × Int) := (0, 0, 429) :: (0, 1, 14) :: (0, 26, 14) :: (0, 27, 9) :: gh_o23
def gh_o25 : List (Int × Int × Int) := (0, 0, 437) :: (0, 1, 15) :: (0, 28, 1) :: (0, 29, 8) :: gh_o24
def gh_o26 : List (Int × Int × Int) := (13, 3, 14) :: gh_o25
def gh_o27 : List (Int × Int × Int) := (0, 0, 445) :: (0, 1, 16) :: (0, 30, 1) :: (0, 31, 8) :: gh_o26
def gh_o28 : List (Int × Int × Int) := (13, 4, 15) :: gh_o27
def gh_o29 : List (Int × Int × Int) := (0, 0, 465) :: (0, 1, 17) :: (0, 32, 1) :: (0, 33, 20) :: gh_o28
def gh_o30 : List (Int × Int × Int) := (13, 5, 16) :: gh_o29
def gh_o31 : List (Int × Int × Int) := (0, 0, 485) :: (0, 1, 18) :: (0, 34, 1) :: (0, 35, 20) :: gh_o30
def gh_o32 : List (Int × Int × Int) := (13, 6, 17) :: gh_o31
def gh_o33 : List (Int × Int × Int) := (0, 0, 493) :: (0, 1, 19) :: (0, 36, 1) :: (0, 37, 8) :: gh_o32
def gh_o34 : List (Int × Int × Int) := (13, 7, 18) :: gh_o33
def gh_o35 : List (Int × Int × Int) := (0, 0, 573) :: (0, 1, 20) :: (0, 38, 1) :: (0, 39, 80) :: gh_o34
def gh_o36 : List (Int × Int × Int) := (13, 8, 19) :: gh_o35
def gh_o37 : List (Int × Int × Int) := (2, 2, 13) :: gh_o36
def gh_o38 : List (Int × Int × Int) := (0, 0, 584) :: (0, 1, 21) :: (0, 40, 12) :: (0, 41, 11) :: gh_o37
def gh_o39 : List (Int × Int × Int) := (0, 0, 592) :: (0, 1, 22) :: (0, 42, 1) :: (0, 43, 8) :: gh_o38
def gh_o40 : List (Int × Int × Int) := (20, 6, 21) :: gh_o39
def gh_o41 : List (Int × Int × Int) := (0, 0, 600) :: (0, 1, 23) :: (0, 44, 1) :: (0, 45, 8) :: gh_o40
def gh_o42 : List (Int × Int × Int) := (20, 7, 22) :: gh_o41
def gh_o43 : List (Int × Int × Int) := (0, 0, 608) :: (0, 1, 24) :: (0, 46, 1) :: (0, 47, 8) :: gh_o42
def gh_o44 : List (Int × Int × Int) := (20, 8, 23) :: gh_o43
def gh_o45 : List (Int × Int × Int) := (0, 0, 616) :: (0, 1, 25) :: (0, 48, 1) :: (0, 49, 8) :: gh_o44
def gh_o46 : List (Int × Int × Int) := (20, 9, 24) :: gh_o45
def gh_o47 : List (Int × Int × Int) := (0, 0, 636) :: (0, 1, 26) :: (0, 50, 1) :: (0, 51, 20) :: gh_o46
def gh_o48 : List (Int × Int × Int) := (20, 10, 25) :: gh_o47
def gh_o49 : List (Int × Int × Int) := (20, 0, 13) :: gh_o48
def gh_o50 : List (Int × Int × Int) := (2, 3, 20) :: gh_o49
def gh_o51 : List (Int × Int × Int) := (0, 0, 645) :: (0, 1, 27) :: (0, 52, 19) :: (0, 53, 9) :: gh_o50
def gh_o52 : List (Int × Int × Int) := (0, 0, 653) :: (0, 1, 28) :: (0, 54, 1) :: (0, 55, 8) :: gh_o51
def gh_o53 : List (Int × Int × Int) := (26, 2, 27) :: gh_o52
def gh_o54 : List (Int × Int × Int) := (0, 0, 661) :: (0, 1, 29) :: (0, 56, 1) :: (0, 57, 8) :: gh_o53
def gh_o55 : List (Int × Int × Int) := (26, 4, 28) :: gh_o54
def gh_o56 : List (Int × Int × Int) := (0, 0, 902) :: (0, 1, 30) :: (0, 58, 1) :: (0, 59, 241) :: gh_o55
def gh_o57 : List (Int × Int × Int) := (26, 5, 29) :: gh_o56
def gh_o58 : List (Int × Int × Int) := (26, 0, 13) :: gh_o57
def gh_o59 : List (Int × Int × Int) := (26, 1, 20) :: gh_o58
def gh_o60 : List (Int × Int × Int) := (2, 4, 26) :: gh_o59
def gh_o61 : List (Int × Int × Int) := (0, 0, 911) :: (0, 1, 31) :: (0, 60, 10) :: (0, 61, 9) :: gh_o60
def gh_o62 : List (Int × Int × Int) := (0, 0, 983) :: (0, 1, 32) :: (0, 62, 1) :: (0, 63, 72) :: gh_o61
def gh_o63 : List (Int × Int × Int) := (30, 4, 31) :: gh_o62
def gh_o64 : List (Int × Int × Int) := (0, 0, 992) :: (0, 1, 33) :: (0, 64, 1) :: (0, 65, 9) :: gh_o63
def gh_o65 : List (Int × Int × Int) := (30, 5, 32) :: gh_o64
def gh_o66 : List (Int × Int × Int) := (0, 0, 1001) :: (0, 1, 34) :: (0, 66, 1) :: (0, 67, 9) :: gh_o65
def gh_o67 : List (Int × Int × Int) := (30, 6, 33) :: gh_o66
def gh_o68 : List (Int × Int × Int) := (0, 0, 1010) :: (0, 1, 35) :: (0, 68, 1) :: (0, 69, 9) :: gh_o67
def gh_o69 : List (Int × Int × Int) := (30, 7, 34) :: gh_o68
def gh_o70 : List (Int × Int × Int) := (0, 0, 1019) :: (0, 1, 36) :: (0, 70, 1) :: (0, 71, 9) :: gh_o69
def gh_o71 : List (Int × Int × Int) := (30, 8, 35) :: gh_o70
def gh_o72 : List (Int × Int × Int) := (30, 0, 13) :: gh_o71
def gh_o73 : List (Int × Int × Int) := (30, 1, 20) :: gh_o72
def gh_o74 : List (Int × Int × Int) := (30, 2, 26) :: gh_o73
def gh_o75 : List (Int × Int × Int) := (2, 5, 30) :: gh_o74
def gh_o76 : List (Int × Int × Int) := (0, 0, 1029) :: (0, 1, 37) :: (0, 72, 20) :: (0, 73, 10) :: gh_o75
def gh_o77 : List (Int × Int × Int) := (0, 0, 1038) :: (0, 1, 38) :: (0, 74, 1) :: (0, 75, 9) :: gh_o76
def gh_o78 : List (Int × Int × Int) := (36, 5, 37) :: gh_o77
def gh_o79 : List (Int × Int × Int) := (0, 0, 1110) :: (0, 1, 39) :: (0, 76, 1) :: (0, 77, 72) :: gh_o78
def gh_o80 : List (Int × Int × Int) := (36, 6, 38) :: gh_o79
def gh_o81 : List (Int × Int × Int) := (36, 7, (-1)) :: gh_o80
def gh_o82 : List (Int × Int × Int) := (0, 0, 1758) :: (0, 1, 40) :: (0, 78, 1) :: (0, 79, 648) :: gh_o81
def gh_o83 : List (Int × Int × Int) := (36, 8, 39) :: gh_o82
def gh_o84 : List (Int × Int × Int) := (0, 0, 1767) :: (0, 1, 41) :: (0, 80, 1) :: (0, 81, 9) :: gh_o83
def gh_o85 : List (Int × Int × Int) := (36, 9, 40) :: gh_o84
def gh_o86 : List (Int × Int × Int) := (36, 0, 13) :: gh_o85
def gh_o87 : List (Int × Int × Int) := (36, 1, 20) :: gh_o86
def gh_o88 : List (Int × Int × Int) := (36, 2, 26) :: gh_o87
def gh_o89 : List (Int × Int × Int) := (36, 3, 30) :: gh_o88
def gh_o90 : List (Int × Int × Int) := (2, 6, 36) :: gh_o89
def gh_o91 : List (Int × Int × Int) := (0, 0, 1779) :: (0, 1, 42) :: (0, 82, 13) :: (0, 83, 12) :: gh_o90
def gh_o92 : List (Int × Int × Int) := (0, 0, 2427) :: (0, 1, 43) :: (0, 84, 3) :: (0, 85, 648) :: gh_o91
def gh_o93 : List (Int × Int × Int) := (41, 4, 42) :: gh_o92
def gh_o94 : List (Int × Int × Int) := (0, 0, 2787) :: (0, 1, 44) :: (0, 86, 3) :: (0, 87, 360) :: gh_o93
def gh_o95 : List (Int × Int × Int) := (41, 5, 43) :: gh_o94
def gh_o96 : List (Int × Int × Int) := (0, 0, 2819) :: (0, 1, 45) :: (0, 88, 1) :: (0, 89, 32) :: gh_o95
def gh_o97 : List (Int × Int × Int) := (41, 6, 44) :: gh_o96
def gh_o98 : List (Int × Int × Int) := (0, 0, 2819) :: (0, 1, 46) :: (0, 90, 3) :: (0, 91, 0) :: gh_o97
def gh_o99 : List (Int × Int × Int) := (41, 7, 45) :: gh_o98
def gh_o100 : List (Int × Int × Int) := (0, 0, 2819) :: (0, 1, 47) :: (0, 92, 1) :: (0, 93, 0) :: gh_o99
def gh_o101 : List (Int × Int × Int) := (41, 8, 46) :: gh_o100
def gh_o102 : List (Int × Int × Int) := (41, 11, (-1)) :: gh_o101
def gh_o103 : List (Int × Int × Int) := (41, 0, 13) :: gh_o102
def gh_o104 : List (Int × Int × Int) := (41, 1, 20) :: gh_o103
def gh_o105 : List (Int × Int × Int) := (41, 2, 26) :: gh_o104
def gh_o106 : List (Int × Int × Int) := (41, 3, 30) :: gh_o105
def gh_o107 : List (Int × Int × Int) := (2, 7, 41) :: gh_o106
def gh_o108 : List (Int × Int × Int) := (0, 0, 2836) :: (0, 1, 48) :: (0, 94, 15) :: (0, 95, 17) :: gh_o107
def gh_o109 : List (Int × Int × Int) := (0, 0, 3136) :: (0, 1, 49) :: (0, 96, 1) :: (0, 97, 300) :: gh_o108
def gh_o110 : List (Int × Int × Int) := (47, 3, 48) :: gh_o109
def gh_o111 : List (Int × Int × Int) := (0, 0, 3436) :: (0, 1, 50) :: (0, 98, 1) :: (0, 99, 300) :: gh_o110
def gh_o112 : List (Int × Int × Int) := (47, 6, 49) :: gh_o111
def gh_o113 : List (Int × Int × Int) := (0, 0, 3725) :: (0, 1, 51) :: (0, 100, 1) :: (0, 101, 289) :: gh_o112
def gh_o114 : List (Int × Int × Int) := (47, 8, 50) :: gh_o113
def gh_o115 : List (Int × Int × Int) := (0, 0, 4014) :: (0, 1, 52) :: (0, 102, 1) :: (0, 103, 289) :: gh_o114
def gh_o116 : List (Int × Int × Int) := (47, 9, 51) :: gh_o115
def gh_o117 : List (Int × Int × Int) := (0, 0, 4303) :: (0, 1, 53) :: (0, 104, 1) :: (0, 105, 289) :: gh_o116
def gh_o118 : List (Int × Int × Int) := (47, 10, 52) :: gh_o117
def gh_o119 : List (Int × Int × Int) := (0, 0, 4592) :: (0, 1, 54) :: (0, 106, 1) :: (0, 107, 289) :: gh_o118
def gh_o120 : List (Int × Int × Int) := (47, 11, 53) :: gh_o119
def gh_o121 : List (Int × Int × Int) := (0, 0, 4881) :: (0, 1, 55) :: (0, 108, 1) :: (0, 109, 289) :: gh_o120
def gh_o122 : List (Int × Int × Int) := (47, 12, 54) :: gh_o121
def gh_o123 : List (Int × Int × Int) := (0, 0, 5170) :: (0, 1, 56) :: (0, 110, 3) :: (0, 111, 289) :: gh_o122
def gh_o124 : List (Int × Int × Int) := (47, 13, 55) :: gh_o123
def gh_o125 : List (Int × Int × Int) := (0, 0, 5174) :: (0, 1, 57) :: (0, 112, 1) :: (0, 113, 4) :: gh_o124
def gh_o126 : List (Int × Int × Int) := (47, 15, 56) :: gh_o125
def gh_o127 : List (Int × Int × Int) := (0, 0, 5178) :: (0, 1, 58) :: (0, 114, 3) :: (0, 115, 4) :: gh_o126
def gh_o128 : List (Int × Int × Int) := (47, 16, 57) :: gh_o127
def gh_o129 : List (Int × Int × Int) := (47, 0, 13) :: gh_o128
def gh_o130 : List (Int × Int × Int) := (47, 1, 26) :: gh_o129
def gh_o131 : List (Int × Int × Int) := (47, 2, 41) :: gh_o130
def gh_o132 : List (Int × Int × Int) := (2, 8, 47) :: gh_o131
def gh_o133 : List (Int × Int × Int) := (0, 0, 5190) :: (0, 1, 59) :: (0, 116, 16) :: (0, 117, 12) :: gh_o132
def gh_o134 : List (Int × Int × Int) := (0, 0, 5270) :: (0, 1, 60) :: (0, 118, 1) :: (0, 119, 80) :: gh_o133
def gh_o135 : List (Int × Int × Int) := (58, 6, 59) :: gh_o134
def gh_o136 : List (Int × Int × Int) := (0, 0, 5590) :: (0, 1, 61) :: (0, 120, 1) :: (0, 121, 320) :: gh_o135
def gh_o137 : List (Int × Int × Int) := (58, 8, 60) :: gh_o136
def gh_o138 : List (Int × Int × Int) := (0, 0, 5910) :: (0, 1, 62) :: (0, 122, 1) :: (0, 123, 320) :: gh_o137
def gh_o139 : List (Int × Int × Int) := (58, 9, 61) :: gh_o138
def gh_o140 : List (Int × Int × Int) := (0, 0, 5918) :: (0, 1, 63) :: (0, 124, 1) :: (0, 125, 8) :: gh_o139
def gh_o141 : List (Int × Int × Int) := (58, 11, 62) :: gh_o140
def gh_o142 : List (Int × Int × Int) := (58, 0, 13) :: gh_o141
def gh_o143 : List (Int × Int × Int) := (58, 1, 20) :: gh_o142
def gh_o144 : List (Int × Int × Int) := (2, 9, 58) :: gh_o143
def gh_o145 : List (Int × Int × Int) := (0, 0, 6002) :: (0, 1, 64) :: (0, 126, 22) :: (0, 127, 84) :: gh_o144
def gh_o146 : List (Int × Int × Int) := (0, 0, 6242) :: (0, 1, 65) :: (0, 128, 1) :: (0, 129, 240) :: gh_o145
def gh_o147 : List (Int × Int × Int) := (63, 0, 64) :: gh_o146
def gh_o148 : List (Int × Int × Int) := (63, 3, (-1)) :: gh_o147
def gh_o149 : List (Int × Int × Int) := (0, 0, 6250) :: (0, 1, 66) :: (0, 130, 1) :: (0, 131, 8) :: gh_o148
def gh_o150 : List (Int × Int × Int) := (63, 10, 65) :: gh_o149
def gh_o151 : List (Int × Int × Int) := (0, 0, 6270) :: (0, 1, 67) :: (0, 132, 1) :: (0, 133, 20) :: gh_o150
def gh_o152 : List (Int × Int × Int) := (63, 12, 66) :: gh_o151
def gh_o153 : List (Int × Int × Int) := (0, 0, 6290) :: (0, 1, 68) :: (0, 134, 1) :: (0, 135, 20) :: gh_o152
def gh_o154 : List (Int × Int × Int) := (63, 13, 67) :: gh_o153
def gh_o155 : List (Int × Int × Int) := (0, 0, 6370) :: (0, 1, 69) :: (0, 136, 1) :: (0, 137, 80) :: gh_o154
def gh_o156 : List (Int × Int × Int) := (63, 14, 68) :: gh_o155
def gh_o157 : List (Int × Int × Int) := (0, 0, 6374) :: (0, 1, 70) :: (0, 138, 1) :: (0, 139, 4) :: gh_o156
def gh_o158 : List (Int × Int × Int) := (63, 17, 69) :: gh_o157
def gh_o159 : List (Int × Int × Int) := (0, 0, 6674) :: (0, 1, 71) :: (0, 140, 1) :: (0, 141, 300) :: gh_o158
def gh_o160 : List (Int × Int × Int) := (63, 18, 70) :: gh_o159
def gh_o161 : List (Int × Int × Int) := (0, 0, 6678) :: (0, 1, 72) :: (0, 142, 1) :: (0, 143, 4) :: gh_o160
def gh_o162 : List (Int × Int × Int) := (63, 19, 71) :: gh_o161
def gh_o163 : List (Int × Int × Int) := (0, 0, 6694) :: (0, 1, 73) :: (0, 144, 1) :: (0, 145, 16) :: gh_o162
def gh_o164 : List (Int × Int × Int) := (63, 20, 72) :: gh_o163
def gh_o165 : List (Int × Int × Int) := (0, 0, 6698) :: (0, 1, 74) :: (0, 146, 1) :: (0, 147, 4) :: gh_o164
def gh_o166 : List (Int × Int × Int) := (63, 21, 73) :: gh_o165
def gh_o167 : List (Int × Int × Int) := (0, 0, 6938) :: (0, 1, 75) :: (0, 148, 1) :: (0, 149, 240) :: gh_o166
def gh_o168 : List (Int × Int × Int) := (63, 23, 74) :: gh_o167
def gh_o169 : List (Int × Int × Int) := (0, 0, 6946) :: (0, 1, 76) :: (0, 150, 1) :: (0, 151, 8) :: gh_o168
def gh_o170 : List (Int × Int × Int) := (63, 28, 75) :: gh_o169
def gh_o171 : List (Int × Int × Int) := (0, 0, 6970) :: (0, 1, 77) :: (0, 152, 1) :: (0, 153, 24) :: gh_o170
def gh_o172 : List (Int × Int × Int) := (63, 29, 76) :: gh_o171
def gh_o173 : List (Int × Int × Int) := (0, 0, 6978) :: (0, 1, 78) :: (0, 154, 1) :: (0, 155, 8) :: gh_o172
def gh_o174 : List (Int × Int × Int) := (63, 30, 77) :: gh_o173
def gh_o175 : List (Int × Int × Int) := (0, 0, 6986) :: (0, 1, 79) :: (0, 156, 1) :: (0, 157, 8) :: gh_o174
def gh_o176 : List (Int × Int × Int) := (63, 31, 78) :: gh_o175
def gh_o177 : List (Int × Int × Int) := (0, 0, 7006) :: (0, 1, 80) :: (0, 158, 1) :: (0, 159, 20) :: gh_o176
def gh_o178 : List (Int × Int × Int) := (63, 32, 79) :: gh_o177
def gh_o179 : List (Int × Int × Int) := (0, 0, 7026) :: (0, 1, 81) :: (0, 160, 1) :: (0, 161, 20) :: gh_o178
def gh_o180 : List (Int × Int × Int) := (63, 33, 80) :: gh_o179
def gh_o181 : List (Int × Int × Int) := (0, 0, 7106) :: (0, 1, 82) :: (0, 162, 1) :: (0, 163, 80) :: gh_o180
def gh_o182 : List (Int × Int × Int) := (63, 34, 81) :: gh_o181
def gh_o183 : List (Int × Int × Int) := (0, 0, 7114) :: (0, 1, 83) :: (0, 164, 1) :: (0, 165, 8) :: gh_o182
def gh_o184 : List (Int × Int × Int) := (63, 35, 82) :: gh_o183
def gh_o185 : List (Int × Int × Int) := (0, 0, 7134) :: (0, 1, 84) :: (0, 166, 2) :: (0, 167, 20) :: gh_o184
def gh_o186 : List (Int × Int × Int) := (63, 36, 83) :: gh_o185
def gh_o187 : List (Int × Int × Int) := (0, 0, 7142) :: (0, 1, 85) :: (0, 168, 2) :: (0, 169, 8) :: gh_o186
def gh_o188 : List (Int × Int × Int) := (63, 37, 84) :: gh_o187
def gh_o189 : List (Int × Int × Int) := (0, 0, 7150) :: (0, 1, 86) :: (0, 170, 2) :: (0, 171, 8) :: gh_o188
def gh_o190 : List (Int × Int × Int) := (63, 38, 85) :: gh_o189
def gh_o191 : List (Int × Int × Int) := (0, 0, 7158) :: (0, 1, 87) :: (0, 172, 1) :: (0, 173, 8) :: gh_o190
def gh_o192 : List (Int × Int × Int) := (63, 39, 86) :: gh_o191
def gh_o193 : List (Int × Int × Int) := (0, 0, 7166) :: (0, 1, 88) :: (0, 174, 1) :: (0, 175, 8) :: gh_o192
def gh_o194 : List (Int × Int × Int) := (63, 40, 87) :: gh_o193
def gh_o195 : List (Int × Int × Int) := (0, 0, 7230) :: (0, 1, 89) :: (0, 176, 2) :: (0, 177, 64) :: gh_o194
def gh_o196 : List (Int × Int × Int) := (63, 41, 88) :: gh_o195
def gh_o197 : List (Int × Int × Int) := (0, 0, 7550) :: (0, 1, 90) :: (0, 178, 1) :: (0, 179, 320) :: gh_o196
def gh_o198 : List (Int × Int × Int) := (63, 43, 89) :: gh_o197
def gh_o199 : List (Int × Int × Int) := (0, 0, 8830) :: (0, 1, 91) :: (0, 180, 1) :: (0, 181, 1280) :: gh_o198
def gh_o200 : List (Int × Int × Int) := (63, 44, 90) :: gh_o199
def gh_o201 : List (Int × Int × Int) := (0, 0, 11390) :: (0, 1, 92) :: (0, 182, 2) :: (0, 183, 2560) :: gh_o200
def gh_o202 : List (Int × Int × Int) := (63, 45, 91) :: gh_o201
def gh_o203 : List (Int × Int × Int) := (0, 0, 13950) :: (0, 1, 93) :: (0, 184, 2) :: (0, 185, 2560) :: gh_o202
def gh_o204 : List (Int × Int × Int) := (63, 46, 92) :: gh_o203
def gh_o205 : List (Int × Int × Int) := (0, 0, 14014) :: (0, 1, 94) :: (0, 186, 2) :: (0, 187, 64) :: gh_o204
def gh_o206 : List (Int × Int × Int) := (63, 47, 93) :: gh_o205
def gh_o207 : List (Int × Int × Int) := (0, 0, 14022) :: (0, 1, 95) :: (0, 188, 2) :: (0, 189, 8) :: gh_o206
def gh_o208 : List (Int × Int × Int) := (63, 48, 94) :: gh_o207
def gh_o209 : List (Int × Int × Int) := (0, 0, 14030) :: (0, 1, 96) :: (0, 190, 2) :: (0, 191, 8) :: gh_o208
def gh_o210 : List (Int × Int × Int) := (63, 49, 95) :: gh_o209
def gh_o211 : List (Int × Int × Int) := (0, 0, 14038) :: (0, 1, 97) :: (0, 192, 1) :: (0, 193, 8) :: gh_o210
def gh_o212 : List (Int × Int × Int) := (63, 51, 96) :: gh_o211
def gh_o213 : List (Int × Int × Int) := (0, 0, 14686) :: (0, 1, 98) :: (0, 194, 2) :: (0, 195, 648) :: gh_o212
def gh_o214 : List (Int × Int × Int) := (63, 53, 97) :: gh_o213
def gh_o215 : List (Int × Int × Int) := (0, 0, 22786) :: (0, 1, 99) :: (0, 196, 2) :: (0, 197, 8100) :: gh_o214
def gh_o216 : List (Int × Int × Int) := (63, 54, 98) :: gh_o215
def gh_o217 : List (Int × Int × Int) := (0, 0, 22858) :: (0, 1, 100) :: (0, 198, 2) :: (0, 199, 72) :: gh_o216
def gh_o218 : List (Int × Int × Int) := (63, 55, 99) :: gh_o217
def gh_o219 : List (Int × Int × Int) := (0, 0, 22930) :: (0, 1, 101) :: (0, 200, 2) :: (0, 201, 72) :: gh_o218
def gh_o220 : List (Int × Int × Int) := (63, 56, 100) :: gh_o219
def gh_o221 : List (Int × Int × Int) := (0, 0, 23002) :: (0, 1, 102) :: (0, 202, 1) :: (0, 203, 72) :: gh_o220
def gh_o222 : List (Int × Int × Int) := (63, 57, 101) :: gh_o221
def gh_o223 : List (Int × Int × Int) := (0, 0, 23650) :: (0, 1, 103) :: (0, 204, 1) :: (0, 205, 648) :: gh_o222
def gh_o224 : List (Int × Int × Int) := (63, 58, 102) :: gh_o223
def gh_o225 : List (Int × Int × Int) := (0, 0, 31750) :: (0, 1, 104) :: (0, 206, 1) :: (0, 207, 8100) :: gh_o224
def gh_o226 : List (Int × Int × Int) := (63, 59, 103) :: gh_o225
def gh_o227 : List (Int × Int × Int) := (0, 0, 32398) :: (0, 1, 105) :: (0, 208, 2) :: (0, 209, 648) :: gh_o226
def gh_o228 : List (Int × Int × Int) := (63, 60, 104) :: gh_o227
def gh_o229 : List (Int × Int × Int) := (0, 0, 198286) :: (0, 1, 106) :: (0, 210, 3) :: (0, 211, 165888) :: gh_o228
def gh_o230 : List (Int × Int × Int) := (63, 62, 105) :: gh_o229
def gh_o231 : List (Int × Int × Int) := (0, 0, 364174) :: (0, 1, 107) :: (0, 212, 1) :: (0, 213, 165888) :: gh_o230
def gh_o232 : List (Int × Int × Int) := (63, 63, 106) :: gh_o231
def gh_o233 : List (Int × Int × Int) := (0, 0, 424174) :: (0, 1, 108) :: (0, 214, 1) :: (0, 215, 60000) :: gh_o232
def gh_o234 : List (Int × Int × Int) := (63, 65, 107) :: gh_o233
def gh_o235 : List (Int × Int × Int) := (0, 0, 424219) :: (0, 1, 109) :: (0, 216, 3) :: (0, 217, 45) :: gh_o234
def gh_o236 : List (Int × Int × Int) := (63, 67, 108) :: gh_o235
def gh_o237 : List (Int × Int × Int) := (0, 0, 424519) :: (0, 1, 110) :: (0, 218, 1) :: (0, 219, 300) :: gh_o236
def gh_o238 : List (Int × Int × Int) := (63, 69, 109) :: gh_o237
def gh_o239 : List (Int × Int × Int) := (0, 0, 424819) :: (0, 1, 111) :: (0, 220, 1) :: (0, 221, 300) :: gh_o238
def gh_o240 : List (Int × Int × Int) := (63, 72, 110) :: gh_o239
def gh_o241 : List (Int × Int × Int) := (0, 0, 426119) :: (0, 1, 112) :: (0, 222, 1) :: (0, 223, 1300) :: gh_o240
def gh_o242 : List (Int × Int × Int) := (63, 74, 111) :: gh_o241
def gh_o243 : List (Int × Int × Int) := (0, 0, 427419) :: (0, 1, 113) :: (0, 224, 1) :: (0, 225, 1300) :: gh_o242
def gh_o244 : List (Int × Int × Int) := (63, 75, 112) :: gh_o243
def gh_o245 : List (Int × Int × Int) := (0, 0, 428719) :: (0, 1, 114) :: (0, 226, 1) :: (0, 227, 1300) :: gh_o244
def gh_o246 : List (Int × Int × Int) := (63, 76, 113) :: gh_o245
def gh_o247 : List (Int × Int × Int) := (0, 0, 430019) :: (0, 1, 115) :: (0, 228, 1) :: (0, 229, 1300) :: gh_o246
def gh_o248 : List (Int × Int × Int) := (63, 77, 114) :: gh_o247
def gh_o249 : List (Int × Int × Int) := (0, 0, 431319) :: (0, 1, 116) :: (0, 230, 1) :: (0, 231, 1300) :: gh_o248
def gh_o250 : List (Int × Int × Int) := (63, 78, 115) :: gh_o249
def gh_o251 : List (Int × Int × Int) := (0, 0, 432619) :: (0, 1, 117) :: (0, 232, 3) :: (0, 233, 1300) :: gh_o250
def gh_o252 : List (Int × Int × Int) := (63, 79, 116) :: gh_o251
def gh_o253 : List (Int × Int × Int) := (0, 0, 432919) :: (0, 1, 118) :: (0, 234, 1) :: (0, 235, 300) :: gh_o252
def gh_o254 : List (Int × Int × Int) := (63, 81, 117) :: gh_o253
theorem gc_Tape_init {E : gh_E} {Ln : Nat} {xs : Nat → Int32} (d : Nat) : gh_C E gh_yTape_init prog_10_method_1_code 1 none 9 (d + 1) [(2, 3)] (gh_ov gh_o2 Ln xs) (fun _ m1 => m1 = gh_ov gh_o4 Ln xs) := by
  refine gh_enter (L := [(0, 2, 3)]) true (by decide +kernel) (fun _ => rfl) gh_rt9 (Nat.le_of_ble_eq_true rfl) rfl (fun h q hq => ?_) ?_
  · exact gh_oka (as := [(2, 3)]) (L := [(0, 2, 3)]) rfl h q hq
  refine gh_aload_n gd_Tape_init_0 0 rfl (by decide) ?_
  refine gh_obj0 gd_Tape_init_1 (by decide) gh_k160 gh_k153 gh_k154 (Nat.le_of_ble_eq_true rfl) ?_
  refine gh_aload_n gd_Tape_init_4 0 rfl (by decide) ?_
  refine gh_sipush gd_Tape_init_5 (by decide) (gh_r0 rfl) ?_
  refine gh_newarrO (ov := gh_o2) (ov2 := gh_o3) (κ := 1) (A := 4) (S := 16) gd_Tape_init_8 (by decide) gh_k180 (by decide) (by decide +kernel) (by decide +kernel) (by decide) (by decide +kernel) rfl ?_
  refine gh_putO (ov := gh_o3) (ov2 := gh_o4) (A := 5) (k := 0) gd_Tape_init_10 gh_ck8 (by decide +kernel) (by decide +kernel) (by decide) (by decide) gh_k161 rfl (fun z => by cases z) (Or.inr ⟨rfl, rfl⟩) rfl ?_
  exact gh_ret9 rfl gd_Tape_init_13 rfl
theorem gc_Draft_init {E : gh_E} {Ln : Nat} {xs : Nat → Int32} (d : Nat) : gh_C E gh_yDraft_init prog_3_method_1_code 1 none 9 (d + 1) [(2, 6)] (gh_ov gh_o7 Ln xs) (fun _ m1 => m1 = gh_ov gh_o15 Ln xs) := by
  refine gh_enter (L := [(0, 2, 6)]) true (by decide +kernel) (fun _ => rfl) gh_rt9 (Nat.le_of_ble_eq_true rfl) rfl (fun h q hq => ?_) ?_
  · exact gh_oka (as := [(2, 6)]) (L := [(0, 2, 6)]) rfl h q hq
  refine gh_aload_n gd_Draft_init_0 0 rfl (by decide) ?_
  refine gh_obj0 gd_Draft_init_1 (by decide) gh_k192 gh_k153 gh_k154 (Nat.le_of_ble_eq_true rfl) ?_
  refine gh_aload_n gd_Draft_init_4 0 rfl (by decide) ?_
  refine gh_bipush gd_Draft_init_5 (by decide) (gh_r0 rfl) ?_
  refine gh_newarrO (ov := gh_o7) (ov2 := gh_o8) (κ := 1) (A := 7) (S := 272) gd_Draft_init_7 (by decide) gh_k180 (by decide) (by decide +kernel) (by decide +kernel) (by decide) (by decide +kernel) rfl ?_
  refine gh_putO (ov := gh_o8) (ov2 := gh_o9) (A := 8) (k := 0) gd_Draft_init_9 gh_ck1 (by decide +kernel) (by decide +kernel) (by decide) (by decide) gh_k193 rfl (fun z => by cases z) (Or.inr ⟨rfl, rfl⟩) rfl ?_
  refine gh_aload_n gd_Draft_init_12 0 rfl (by decide) ?_
  refine gh_bipush gd_Draft_init_13 (by decide) (gh_r0 rfl) ?_
  refine gh_newarrO (ov := gh_o9) (ov2 := gh_o10) (κ := 1) (A := 8) (S := 280) gd_Draft_init_15 (by decide) gh_k180 (by decide) (by decide +kernel) (by decide +kernel) (by decide) (by decide +kernel) rfl ?_
  refine gh_putO (ov := gh_o10) (ov2 := gh_o11) (A := 9) (k := 4) gd_Draft_init_17 gh_ck1 (by decide +kernel) (by decide +kernel) (by decide) (by decide) gh_k199 rfl (fun z => by cases z) (Or.inr ⟨rfl, rfl⟩) rfl ?_
  refine gh_aload_n gd_Draft_init_20 0 rfl (by decide) ?_
  refine gh_bipush gd_Draft_init_21 (by decide) (gh_r0 rfl) ?_
  refine gh_newarrO (ov := gh_o11) (ov2 := gh_o12) (κ := 1) (A := 9) (S := 300) gd_Draft_init_23 (by decide) gh_k180 (by decide) (by decide +kernel) (by decide +kernel) (by decide) (by decide +kernel) rfl ?_
  refine gh_putO (ov := gh_o12) (ov2 := gh_o13) (A := 10) (k := 5) gd_Draft_init_25 gh_ck1 (by decide +kernel) (by decide +kernel) (by decide) (by decide) gh_k200 rfl (fun z => by cases z) (Or.inr ⟨rfl, rfl⟩) rfl ?_
  refine gh_aload_n gd_Draft_init_28 0 rfl (by decide) ?_
  refine gh_bipush gd_Draft_init_29 (by decide) (gh_r0 rfl) ?_
  refine gh_newarrO (ov := gh_o13) (ov2 := gh_o14) (κ := 1) (A := 10) (S := 320) gd_Draft_init_31 (by decide) gh_k180 (by decide) (by decide +kernel) (by decide +kernel) (by decide) (by decide +kernel) rfl ?_
  refine gh_putO (ov := gh_o14) (ov2 := gh_o15) (A := 11) (k := 6) gd_Draft_init_33 gh_ck1 (by decide +kernel) (by decide +kernel) (by decide) (by decide) gh_k201 rfl (fun z => by cases z) (Or.inr ⟨rfl, rfl⟩) rfl ?_
  exact gh_ret9 rfl gd_Draft_init_36 rfl
theorem gc_Reader_init {E : gh_E} {Ln : Nat} {xs : Nat → Int32} (d : Nat) : gh_C E gh_yReader_init prog_9_method_1_code 2 none 9 (d + 2) [(2, 5), (2, 3)] (gh_ov gh_o6 Ln xs) (fun _ m1 => m1 = gh_ov gh_o22 Ln xs) := by
  refine gh_enter (L := [(0, 2, 5), (1, 2, 3)]) true (by decide +kernel) (fun _ => rfl) gh_rt9 (Nat.le_of_ble_eq_true rfl) rfl (fun h q hq => ?_) ?_
  · exact gh_oka (as := [(2, 5), (2, 3)]) (L := [(0, 2, 5), (1, 2, 3)]) rfl h q hq
  refine gh_aload_n gd_Reader_init_0 0 rfl (by decide) ?_
  refine gh_obj0 gd_Reader_init_1 (by decide) gh_k186 gh_k153 gh_k154 (Nat.le_of_ble_eq_true rfl) ?_
  refine gh_aload_n gd_Reader_init_4 0 rfl (by decide) ?_
  refine gh_newO (ov := gh_o6) (ov2 := gh_o7) (A := 6) (S := 265) gd_Reader_init_5 gh_ck1 gh_k187 gh_k188 gh_k133 (by decide) (by decide +kernel) (by decide +kernel) (by decide) (by decide +kernel) rfl ?_
  refine gh_dup gd_Reader_init_8 (by decide) ?_
  refine gh_callIN (d := d + 1) (n := 0) (y := gh_yDraft_init) (as := []) gd_Reader_init_9 (by decide) gh_k191 gh_k133 (List.mem_cons_of_mem _ List.mem_cons_self) gh_k190 rfl ⟨by decide, by decide, by decide +kernel⟩ rfl (by decide) (Nat.le_of_ble_eq_true rfl) ((gc_Draft_init (d)).mono (fun r m1 hq => ?_))
  subst hq
  refine gh_putO (ov := gh_o15) (ov2 := gh_o16) (A := 11) (k := 0) gd_Reader_init_12 gh_ck7 (by decide +kernel) (by decide +kernel) (by decide) (by decide) gh_k217 rfl (fun z => by cases z) (Or.inr ⟨rfl, rfl⟩) rfl ?_
  refine gh_aload_n gd_Reader_init_15 0 rfl (by decide) ?_
  refine gh_iconst gd_Reader_init_16 (gh_r0 rfl) ?_
  refine gh_putO (ov := gh_o16) (ov2 := gh_o17) (A := 11) (k := 2) gd_Reader_init_17 gh_ck7 (by decide +kernel) (by decide +kernel) (by decide) (by decide) gh_k221 rfl (fun z => by cases z) (Or.inl rfl) rfl ?_
  refine gh_aload_n gd_Reader_init_20 0 rfl (by decide) ?_
  refine gh_iconst gd_Reader_init_21 (gh_r0 rfl) ?_
  refine gh_newarrO (ov := gh_o17) (ov2 := gh_o18) (κ := 1) (A := 11) (S := 400) gd_Reader_init_22 (by decide) gh_k180 (by decide) (by decide +kernel) (by decide +kernel) (by decide) (by decide +kernel) rfl ?_
  refine gh_putO (ov := gh_o18) (ov2 := gh_o19) (A := 12) (k := 7) gd_Reader_init_24 gh_ck7 (by decide +kernel) (by decide +kernel) (by decide) (by decide) gh_k227 rfl (fun z => by cases z) (Or.inr ⟨rfl, rfl⟩) rfl ?_
  refine gh_aload_n gd_Reader_init_27 0 rfl (by decide) ?_
  refine gh_bipush gd_Reader_init_28 (by decide) (gh_r0 rfl) ?_
  refine gh_newarrO (ov := gh_o19) (ov2 := gh_o20) (κ := 1) (A := 12) (S := 404) gd_Reader_init_30 (by decide) gh_k180 (by decide) (by decide +kernel) (by decide +kernel) (by decide) (by decide +kernel) rfl ?_
  refine gh_putO (ov := gh_o20) (ov2 := gh_o21) (A := 13) (k := 8) gd_Reader_init_32 gh_ck7 (by decide +kernel) (by decide +kernel) (by decide) (by decide) gh_k228 rfl (fun z => by cases z) (Or.inr ⟨rfl, rfl⟩) rfl ?_
  refine gh_aload_n gd_Reader_init_35 0 rfl (by decide) ?_
  refine gh_aload_n gd_Reader_init_36 1 rfl (by decide) ?_
  refine gh_putO (ov := gh_o21) (ov2 := gh_o22) (A := 13) (k := 3) gd_Reader_init_37 gh_ck7 (by decide +kernel) (by decide +kernel) (by decide) (by decide) gh_k223 rfl (fun z => by cases z) (Or.inr ⟨rfl, rfl⟩) rfl ?_
  exact gh_ret9 rfl gd_Reader_init_40 rfl
theorem gc_Grammar_init {E : gh_E} {Ln : Nat} {xs : Nat → Int32} (d : Nat) : gh_C E gh_yGrammar_init prog_6_method_1_code 1 none 9 (d + 1) [(2, 13)] (gh_ov gh_o24 Ln xs) (fun _ m1 => m1 = gh_ov gh_o36 Ln xs) := by
  refine gh_enter (L := [(0, 2, 13)]) true (by decide +kernel) (fun _ => rfl) gh_rt9 (Nat.le_of_ble_eq_true rfl) rfl (fun h q hq => ?_) ?_
  · exact gh_oka (as := [(2, 13)]) (L := [(0, 2, 13)]) rfl h q hq
  refine gh_aload_n gd_Grammar_init_0 0 rfl (by decide) ?_
  refine gh_obj0 gd_Grammar_init_1 (by decide) gh_k253 gh_k153 gh_k154 (Nat.le_of_ble_eq_true rfl) ?_
  refine gh_aload_n gd_Grammar_init_4 0 rfl (by decide) ?_
  refine gh_bipush gd_Grammar_init_5 (by decide) (gh_r0 rfl) ?_
  refine gh_newarrO (ov := gh_o24) (ov2 := gh_o25) (κ := 1) (A := 14) (S := 429) gd_Grammar_init_7 (by decide) gh_k180 (by decide) (by decide +kernel) (by decide +kernel) (by decide) (by decide +kernel) rfl ?_
  refine gh_putO (ov := gh_o25) (ov2 := gh_o26) (A := 15) (k := 3) gd_Grammar_init_9 gh_ck4 (by decide +kernel) (by decide +kernel) (by decide) (by decide) gh_k269 rfl (fun z => by cases z) (Or.inr ⟨rfl, rfl⟩) rfl ?_
  refine gh_aload_n gd_Grammar_init_12 0 rfl (by decide) ?_
  refine gh_bipush gd_Grammar_init_13 (by decide) (gh_r0 rfl) ?_
  refine gh_newarrO (ov := gh_o26) (ov2 := gh_o27) (κ := 1) (A := 15) (S := 437) gd_Grammar_init_15 (by decide) gh_k180 (by decide) (by decide +kernel) (by decide +kernel) (by decide) (by decide +kernel) rfl ?_
  refine gh_putO (ov := gh_o27) (ov2 := gh_o28) (A := 16) (k := 4) gd_Grammar_init_17 gh_ck4 (by decide +kernel) (by decide +kernel) (by decide) (by decide) gh_k275 rfl (fun z => by cases z) (Or.inr ⟨rfl, rfl⟩) rfl ?_
  refine gh_aload_n gd_Grammar_init_20 0 rfl (by decide) ?_
  refine gh_bipush gd_Grammar_init_21 (by decide) (gh_r0 rfl) ?_
  refine gh_newarrO (ov := gh_o28) (ov2 := gh_o29) (κ := 1) (A := 16) (S := 445) gd_Grammar_init_23 (by decide) gh_k180 (by decide) (by decide +kernel) (by decide +kernel) (by decide) (by decide +kernel) rfl ?_
  refine gh_putO (ov := gh_o29) (ov2 := gh_o30) (A := 17) (k := 5) gd_Grammar_init_25 gh_ck4 (by decide +kernel) (by decide +kernel) (by decide) (by decide) gh_k277 rfl (fun z => by cases z) (Or.inr ⟨rfl, rfl⟩) rfl ?_
  refine gh_aload_n gd_Grammar_init_28 0 rfl (by decide) ?_
  refine gh_bipush gd_Grammar_init_29 (by decide) (gh_r0 rfl) ?_
  refine gh_newarrO (ov := gh_o30) (ov2 := gh_o31) (κ := 1) (A := 17) (S := 465) gd_Grammar_init_31 (by decide) gh_k180 (by decide) (by decide +kernel) (by decide +kernel) (by decide) (by decide +kernel) rfl ?_
  refine gh_putO (ov := gh_o31) (ov2 := gh_o32) (A := 18) (k := 6) gd_Grammar_init_33 gh_ck4 (by decide +kernel) (by decide +kernel) (by decide) (by decide) gh_k283 rfl (fun z => by cases z) (Or.inr ⟨rfl, rfl⟩) rfl ?_
  refine gh_aload_n gd_Grammar_init_36 0 rfl (by decide) ?_
  refine gh_bipush gd_Grammar_init_37 (by decide) (gh_r0 rfl) ?_
  refine gh_newarrO (ov := gh_o32) (ov2 := gh_o33) (κ := 1) (A := 18) (S := 485) gd_Grammar_init_39 (by decide) gh_k180 (by decide) (by decide +kernel) (by decide +kernel) (by decide) (by decide +kernel) rfl ?_
  refine gh_putO (ov := gh_o33) (ov2 := gh_o34) (A := 19) (k := 7) gd_Grammar_init_41 gh_ck4 (by decide +kernel) (by decide +kernel) (by decide) (by decide) gh_k292 rfl (fun z => by cases z) (Or.inr ⟨rfl, rfl⟩) rfl ?_
  refine gh_aload_n gd_Grammar_init_44 0 rfl (by decide) ?_
  refine gh_bipush gd_Grammar_init_45 (by decide) (gh_r0 rfl) ?_
  refine gh_newarrO (ov := gh_o34) (ov2 := gh_o35) (κ := 1) (A := 19) (S := 493) gd_Grammar_init_47 (by decide) gh_k180 (by decide) (by decide +kernel) (by decide +kernel) (by decide) (by decide +kernel) rfl ?_
  refine gh_putO (ov := gh_o35) (ov2 := gh_o36) (A := 20) (k := 8) gd_Grammar_init_49 gh_ck4 (by decide +kernel) (by decide +kernel) (by decide) (by decide) gh_k293 rfl (fun z => by cases z) (Or.inr ⟨rfl, rfl⟩) rfl ?_
  exact gh_ret9 rfl gd_Grammar_init_52 rfl
theorem gc_Facts_init {E : gh_E} {Ln : Nat} {xs : Nat → Int32} (d : Nat) : gh_C E gh_yFacts_init prog_4_method_1_code 2 none 9 (d + 1) [(2, 20), (2, 13)] (gh_ov gh_o38 Ln xs) (fun _ m1 => m1 = gh_ov gh_o49 Ln xs) := by
  refine gh_enter (L := [(0, 2, 20), (1, 2, 13)]) true (by decide +kernel) (fun _ => rfl) gh_rt9 (Nat.le_of_ble_eq_true rfl) rfl (fun h q hq => ?_) ?_
  · exact gh_oka (as := [(2, 20), (2, 13)]) (L := [(0, 2, 20), (1, 2, 13)]) rfl h q hq
  refine gh_aload_n gd_Facts_init_0 0 rfl (by decide) ?_
  refine gh_obj0 gd_Facts_init_1 (by decide) gh_k318 gh_k153 gh_k154 (Nat.le_of_ble_eq_true rfl) ?_
  refine gh_aload_n gd_Facts_init_4 0 rfl (by decide) ?_
  refine gh_bipush gd_Facts_init_5 (by decide) (gh_r0 rfl) ?_
  refine gh_newarrO (ov := gh_o38) (ov2 := gh_o39) (κ := 1) (A := 21) (S := 584) gd_Facts_init_7 (by decide) gh_k180 (by decide) (by decide +kernel) (by decide +kernel) (by decide) (by decide +kernel) rfl ?_
  refine gh_putO (ov := gh_o39) (ov2 := gh_o40) (A := 22) (k := 6) gd_Facts_init_9 gh_ck2 (by decide +kernel) (by decide +kernel) (by decide) (by decide) gh_k334 rfl (fun z => by cases z) (Or.inr ⟨rfl, rfl⟩) rfl ?_
  refine gh_aload_n gd_Facts_init_12 0 rfl (by decide) ?_
  refine gh_bipush gd_Facts_init_13 (by decide) (gh_r0 rfl) ?_
  refine gh_newarrO (ov := gh_o40) (ov2 := gh_o41) (κ := 1) (A := 22) (S := 592) gd_Facts_init_15 (by decide) gh_k180 (by decide) (by decide +kernel) (by decide +kernel) (by decide) (by decide +kernel) rfl ?_
  refine gh_putO (ov := gh_o41) (ov2 := gh_o42) (A := 23) (k := 7) gd_Facts_init_17 gh_ck2 (by decide +kernel) (by decide +kernel) (by decide) (by decide) gh_k337 rfl (fun z => by cases z) (Or.inr ⟨rfl, rfl⟩) rfl ?_
  refine gh_aload_n gd_Facts_init_20 0 rfl (by decide) ?_
  refine gh_bipush gd_Facts_init_21 (by decide) (gh_r0 rfl) ?_
  refine gh_newarrO (ov := gh_o42) (ov2 := gh_o43) (κ := 1) (A := 23) (S := 600) gd_Facts_init_23 (by decide) gh_k180 (by decide) (by decide +kernel) (by decide +kernel) (by decide) (by decide +kernel) rfl ?_
  refine gh_putO (ov := gh_o43) (ov2 := gh_o44) (A := 24) (k := 8) gd_Facts_init_25 gh_ck2 (by decide +kernel) (by decide +kernel) (by decide) (by decide) gh_k339 rfl (fun z => by cases z) (Or.inr ⟨rfl, rfl⟩) rfl ?_
  refine gh_aload_n gd_Facts_init_28 0 rfl (by decide) ?_
  refine gh_bipush gd_Facts_init_29 (by decide) (gh_r0 rfl) ?_
  refine gh_newarrO (ov := gh_o44) (ov2 := gh_o45) (κ := 1) (A := 24) (S := 608) gd_Facts_init_31 (by decide) gh_k180 (by decide) (by decide +kernel) (by decide +kernel) (by decide) (by decide +kernel) rfl ?_
  refine gh_putO (ov := gh_o45) (ov2 := gh_o46) (A := 25) (k := 9) gd_Facts_init_33 gh_ck2 (by decide +kernel) (by decide +kernel) (by decide) (by decide) gh_k341 rfl (fun z => by cases z) (Or.inr ⟨rfl, rfl⟩) rfl ?_
  refine gh_aload_n gd_Facts_init_36 0 rfl (by decide) ?_
  refine gh_bipush gd_Facts_init_37 (by decide) (gh_r0 rfl) ?_
  refine gh_newarrO (ov := gh_o46) (ov2 := gh_o47) (κ := 1) (A := 25) (S := 616) gd_Facts_init_39 (by decide) gh_k180 (by decide) (by decide +kernel) (by decide +kernel) (by decide) (by decide +kernel) rfl ?_
  refine gh_putO (ov := gh_o47) (ov2 := gh_o48) (A := 26) (k := 10) gd_Facts_init_41 gh_ck2 (by decide +kernel) (by decide +kernel) (by decide) (by decide) gh_k344 rfl (fun z => by cases z) (Or.inr ⟨rfl, rfl⟩) rfl ?_
  refine gh_aload_n gd_Facts_init_44 0 rfl (by decide) ?_
  refine gh_aload_n gd_Facts_init_45 1 rfl (by decide) ?_
  refine gh_putO (ov := gh_o48) (ov2 := gh_o49) (A := 26) (k := 0) gd_Facts_init_46 gh_ck2 (by decide +kernel) (by decide +kernel) (by decide) (by decide) gh_k319 rfl (fun z => by cases z) (Or.inr ⟨rfl, rfl⟩) rfl ?_
  exact gh_ret9 rfl gd_Facts_init_49 rfl
theorem gc_Text_init {E : gh_E} {Ln : Nat} {xs : Nat → Int32} (d : Nat) : gh_C E gh_yText_init prog_11_method_1_code 3 none 9 (d + 1) [(2, 26), (2, 13), (2, 20)] (gh_ov gh_o51 Ln xs) (fun _ m1 => m1 = gh_ov gh_o59 Ln xs) := by
  refine gh_enter (L := [(0, 2, 26), (1, 2, 13), (2, 2, 20)]) true (by decide +kernel) (fun _ => rfl) gh_rt9 (Nat.le_of_ble_eq_true rfl) rfl (fun h q hq => ?_) ?_
  · exact gh_oka (as := [(2, 26), (2, 13), (2, 20)]) (L := [(0, 2, 26), (1, 2, 13), (2, 2, 20)]) rfl h q hq
  refine gh_aload_n gd_Text_init_0 0 rfl (by decide) ?_
  refine gh_obj0 gd_Text_init_1 (by decide) gh_k373 gh_k153 gh_k154 (Nat.le_of_ble_eq_true rfl) ?_
  refine gh_aload_n gd_Text_init_4 0 rfl (by decide) ?_
  refine gh_bipush gd_Text_init_5 (by decide) (gh_r0 rfl) ?_
  refine gh_newarrO (ov := gh_o51) (ov2 := gh_o52) (κ := 1) (A := 27) (S := 645) gd_Text_init_7 (by decide) gh_k180 (by decide) (by decide +kernel) (by decide +kernel) (by decide) (by decide +kernel) rfl ?_
  refine gh_putO (ov := gh_o52) (ov2 := gh_o53) (A := 28) (k := 2) gd_Text_init_9 gh_ck9 (by decide +kernel) (by decide +kernel) (by decide) (by decide) gh_k376 rfl (fun z => by cases z) (Or.inr ⟨rfl, rfl⟩) rfl ?_
  refine gh_aload_n gd_Text_init_12 0 rfl (by decide) ?_
  refine gh_bipush gd_Text_init_13 (by decide) (gh_r0 rfl) ?_
  refine gh_newarrO (ov := gh_o53) (ov2 := gh_o54) (κ := 1) (A := 28) (S := 653) gd_Text_init_15 (by decide) gh_k180 (by decide) (by decide +kernel) (by decide +kernel) (by decide) (by decide +kernel) rfl ?_
  refine gh_putO (ov := gh_o54) (ov2 := gh_o55) (A := 29) (k := 4) gd_Text_init_17 gh_ck9 (by decide +kernel) (by decide +kernel) (by decide) (by decide) gh_k383 rfl (fun z => by cases z) (Or.inr ⟨rfl, rfl⟩) rfl ?_
  refine gh_aload_n gd_Text_init_20 0 rfl (by decide) ?_
  refine gh_sipush gd_Text_init_21 (by decide) (gh_r0 rfl) ?_
  refine gh_newarrO (ov := gh_o55) (ov2 := gh_o56) (κ := 1) (A := 29) (S := 661) gd_Text_init_24 (by decide) gh_k180 (by decide) (by decide +kernel) (by decide +kernel) (by decide) (by decide +kernel) rfl ?_
  refine gh_putO (ov := gh_o56) (ov2 := gh_o57) (A := 30) (k := 5) gd_Text_init_26 gh_ck9 (by decide +kernel) (by decide +kernel) (by decide) (by decide) gh_k384 rfl (fun z => by cases z) (Or.inr ⟨rfl, rfl⟩) rfl ?_
  refine gh_aload_n gd_Text_init_29 0 rfl (by decide) ?_
  refine gh_aload_n gd_Text_init_30 1 rfl (by decide) ?_
  refine gh_putO (ov := gh_o57) (ov2 := gh_o58) (A := 30) (k := 0) gd_Text_init_31 gh_ck9 (by decide +kernel) (by decide +kernel) (by decide) (by decide) gh_k374 rfl (fun z => by cases z) (Or.inr ⟨rfl, rfl⟩) rfl ?_
  refine gh_aload_n gd_Text_init_34 0 rfl (by decide) ?_
  refine gh_aload_n gd_Text_init_35 2 rfl (by decide) ?_
  refine gh_putO (ov := gh_o58) (ov2 := gh_o59) (A := 30) (k := 1) gd_Text_init_36 gh_ck9 (by decide +kernel) (by decide +kernel) (by decide) (by decide) gh_k375 rfl (fun z => by cases z) (Or.inr ⟨rfl, rfl⟩) rfl ?_
  exact gh_ret9 rfl gd_Text_init_39 rfl
theorem gc_Chart_init {E : gh_E} {Ln : Nat} {xs : Nat → Int32} (d : Nat) : gh_C E gh_yChart_init prog_2_method_1_code 4 none 9 (d + 1) [(2, 30), (2, 13), (2, 20), (2, 26)] (gh_ov gh_o61 Ln xs) (fun _ m1 => m1 = gh_ov gh_o74 Ln xs) := by
  refine gh_enter (L := [(0, 2, 30), (1, 2, 13), (2, 2, 20), (3, 2, 26)]) true (by decide +kernel) (fun _ => rfl) gh_rt9 (Nat.le_of_ble_eq_true rfl) rfl (fun h q hq => ?_) ?_
  · exact gh_oka (as := [(2, 30), (2, 13), (2, 20), (2, 26)]) (L := [(0, 2, 30), (1, 2, 13), (2, 2, 20), (3, 2, 26)]) rfl h q hq
  refine gh_aload_n gd_Chart_init_0 0 rfl (by decide) ?_
  refine gh_obj0 gd_Chart_init_1 (by decide) gh_k412 gh_k153 gh_k154 (Nat.le_of_ble_eq_true rfl) ?_
  refine gh_aload_n gd_Chart_init_4 0 rfl (by decide) ?_
  refine gh_bipush gd_Chart_init_5 (by decide) (gh_r0 rfl) ?_
  refine gh_newarrO (ov := gh_o61) (ov2 := gh_o62) (κ := 1) (A := 31) (S := 911) gd_Chart_init_7 (by decide) gh_k180 (by decide) (by decide +kernel) (by decide +kernel) (by decide) (by decide +kernel) rfl ?_
  refine gh_putO (ov := gh_o62) (ov2 := gh_o63) (A := 32) (k := 4) gd_Chart_init_9 gh_ck0 (by decide +kernel) (by decide +kernel) (by decide) (by decide) gh_k418 rfl (fun z => by cases z) (Or.inr ⟨rfl, rfl⟩) rfl ?_
  refine gh_aload_n gd_Chart_init_12 0 rfl (by decide) ?_
  refine gh_bipush gd_Chart_init_13 (by decide) (gh_r0 rfl) ?_
  refine gh_newarrO (ov := gh_o63) (ov2 := gh_o64) (κ := 1) (A := 32) (S := 983) gd_Chart_init_15 (by decide) gh_k180 (by decide) (by decide +kernel) (by decide +kernel) (by decide) (by decide +kernel) rfl ?_
  refine gh_putO (ov := gh_o64) (ov2 := gh_o65) (A := 33) (k := 5) gd_Chart_init_17 gh_ck0 (by decide +kernel) (by decide +kernel) (by decide) (by decide) gh_k419 rfl (fun z => by cases z) (Or.inr ⟨rfl, rfl⟩) rfl ?_
  refine gh_aload_n gd_Chart_init_20 0 rfl (by decide) ?_
  refine gh_bipush gd_Chart_init_21 (by decide) (gh_r0 rfl) ?_
  refine gh_newarrO (ov := gh_o65) (ov2 := gh_o66) (κ := 1) (A := 33) (S := 992) gd_Chart_init_23 (by decide) gh_k180 (by decide) (by decide +kernel) (by decide +kernel) (by decide) (by decide +kernel) rfl ?_
  refine gh_putO (ov := gh_o66) (ov2 := gh_o67) (A := 34) (k := 6) gd_Chart_init_25 gh_ck0 (by decide +kernel) (by decide +kernel) (by decide) (by decide) gh_k420 rfl (fun z => by cases z) (Or.inr ⟨rfl, rfl⟩) rfl ?_
  refine gh_aload_n gd_Chart_init_28 0 rfl (by decide) ?_
  refine gh_bipush gd_Chart_init_29 (by decide) (gh_r0 rfl) ?_
  refine gh_newarrO (ov := gh_o67) (ov2 := gh_o68) (κ := 1) (A := 34) (S := 1001) gd_Chart_init_31 (by decide) gh_k180 (by decide) (by decide +kernel) (by decide +kernel) (by decide) (by decide +kernel) rfl ?_
  refine gh_putO (ov := gh_o68) (ov2 := gh_o69) (A := 35) (k := 7) gd_Chart_init_33 gh_ck0 (by decide +kernel) (by decide +kernel) (by decide) (by decide) gh_k421 rfl (fun z => by cases z) (Or.inr ⟨rfl, rfl⟩) rfl ?_
  refine gh_aload_n gd_Chart_init_36 0 rfl (by decide) ?_
  refine gh_bipush gd_Chart_init_37 (by decide) (gh_r0 rfl) ?_
  refine gh_newarrO (ov := gh_o69) (ov2 := gh_o70) (κ := 1) (A := 35) (S := 1010) gd_Chart_init_39 (by decide) gh_k180 (by decide) (by decide +kernel) (by decide +kernel) (by decide) (by decide +kernel) rfl ?_
  refine gh_putO (ov := gh_o70) (ov2 := gh_o71) (A := 36) (k := 8) gd_Chart_init_41 gh_ck0 (by decide +kernel) (by decide +kernel) (by decide) (by decide) gh_k423 rfl (fun z => by cases z) (Or.inr ⟨rfl, rfl⟩) rfl ?_
  refine gh_aload_n gd_Chart_init_44 0 rfl (by decide) ?_
  refine gh_aload_n gd_Chart_init_45 1 rfl (by decide) ?_
  refine gh_putO (ov := gh_o71) (ov2 := gh_o72) (A := 36) (k := 0) gd_Chart_init_46 gh_ck0 (by decide +kernel) (by decide +kernel) (by decide) (by decide) gh_k413 rfl (fun z => by cases z) (Or.inr ⟨rfl, rfl⟩) rfl ?_
  refine gh_aload_n gd_Chart_init_49 0 rfl (by decide) ?_
  refine gh_aload_n gd_Chart_init_50 2 rfl (by decide) ?_
  refine gh_putO (ov := gh_o72) (ov2 := gh_o73) (A := 36) (k := 1) gd_Chart_init_51 gh_ck0 (by decide +kernel) (by decide +kernel) (by decide) (by decide) gh_k414 rfl (fun z => by cases z) (Or.inr ⟨rfl, rfl⟩) rfl ?_
  refine gh_aload_n gd_Chart_init_54 0 rfl (by decide) ?_
  refine gh_aload_n gd_Chart_init_55 3 rfl (by decide) ?_
  refine gh_putO (ov := gh_o73) (ov2 := gh_o74) (A := 36) (k := 2) gd_Chart_init_56 gh_ck0 (by decide +kernel) (by decide +kernel) (by decide) (by decide) gh_k415 rfl (fun z => by cases z) (Or.inr ⟨rfl, rfl⟩) rfl ?_
  exact gh_ret9 rfl gd_Chart_init_59 rfl
theorem gc_Wants_init {E : gh_E} {Ln : Nat} {xs : Nat → Int32} (d : Nat) : gh_C E gh_yWants_init prog_12_method_1_code 5 none 9 (d + 1) [(2, 36), (2, 13), (2, 20), (2, 26), (2, 30)] (gh_ov gh_o76 Ln xs) (fun _ m1 => m1 = gh_ov gh_o89 Ln xs) := by
  refine gh_enter (L := [(0, 2, 36), (1, 2, 13), (2, 2, 20), (3, 2, 26), (4, 2, 30)]) true (by decide +kernel) (fun _ => rfl) gh_rt9 (Nat.le_of_ble_eq_true rfl) rfl (fun h q hq => ?_) ?_
  · exact gh_oka (as := [(2, 36), (2, 13), (2, 20), (2, 26), (2, 30)]) (L := [(0, 2, 36), (1, 2, 13), (2, 2, 20), (3, 2, 26), (4, 2, 30)]) rfl h q hq
  refine gh_aload_n gd_Wants_init_0 0 rfl (by decide) ?_
  refine gh_obj0 gd_Wants_init_1 (by decide) gh_k449 gh_k153 gh_k154 (Nat.le_of_ble_eq_true rfl) ?_
  refine gh_aload_n gd_Wants_init_4 0 rfl (by decide) ?_
  refine gh_bipush gd_Wants_init_5 (by decide) (gh_r0 rfl) ?_
  refine gh_newarrO (ov := gh_o76) (ov2 := gh_o77) (κ := 1) (A := 37) (S := 1029) gd_Wants_init_7 (by decide) gh_k180 (by decide) (by decide +kernel) (by decide +kernel) (by decide) (by decide +kernel) rfl ?_
  refine gh_putO (ov := gh_o77) (ov2 := gh_o78) (A := 38) (k := 5) gd_Wants_init_9 gh_ck10 (by decide +kernel) (by decide +kernel) (by decide) (by decide) gh_k455 rfl (fun z => by cases z) (Or.inr ⟨rfl, rfl⟩) rfl ?_
  refine gh_aload_n gd_Wants_init_12 0 rfl (by decide) ?_
  refine gh_bipush gd_Wants_init_13 (by decide) (gh_r0 rfl) ?_
  refine gh_newarrO (ov := gh_o78) (ov2 := gh_o79) (κ := 1) (A := 38) (S := 1038) gd_Wants_init_15 (by decide) gh_k180 (by decide) (by decide +kernel) (by decide +kernel) (by decide) (by decide +kernel) rfl ?_
  refine gh_putO (ov := gh_o79) (ov2 := gh_o80) (A := 39) (k := 6) gd_Wants_init_17 gh_ck10 (by decide +kernel) (by decide +kernel) (by decide) (by decide) gh_k456 rfl (fun z => by cases z) (Or.inr ⟨rfl, rfl⟩) rfl ?_
  refine gh_aload_n gd_Wants_init_20 0 rfl (by decide) ?_
  refine gh_iconst gd_Wants_init_21 (gh_r0 rfl) ?_
  refine gh_putO (ov := gh_o80) (ov2 := gh_o81) (A := 39) (k := 7) gd_Wants_init_22 gh_ck10 (by decide +kernel) (by decide +kernel) (by decide) (by decide) gh_k457 rfl (fun z => by cases z) (Or.inl rfl) rfl ?_
  refine gh_aload_n gd_Wants_init_25 0 rfl (by decide) ?_
  refine gh_sipush gd_Wants_init_26 (by decide) (gh_r0 rfl) ?_
  refine gh_newarrO (ov := gh_o81) (ov2 := gh_o82) (κ := 1) (A := 39) (S := 1110) gd_Wants_init_29 (by decide) gh_k180 (by decide) (by decide +kernel) (by decide +kernel) (by decide) (by decide +kernel) rfl ?_
  refine gh_putO (ov := gh_o82) (ov2 := gh_o83) (A := 40) (k := 8) gd_Wants_init_31 gh_ck10 (by decide +kernel) (by decide +kernel) (by decide) (by decide) gh_k458 rfl (fun z => by cases z) (Or.inr ⟨rfl, rfl⟩) rfl ?_
  refine gh_aload_n gd_Wants_init_34 0 rfl (by decide) ?_
  refine gh_bipush gd_Wants_init_35 (by decide) (gh_r0 rfl) ?_
  refine gh_newarrO (ov := gh_o83) (ov2 := gh_o84) (κ := 1) (A := 40) (S := 1758) gd_Wants_init_37 (by decide) gh_k180 (by decide) (by decide +kernel) (by decide +kernel) (by decide) (by decide +kernel) rfl ?_
  refine gh_putO (ov := gh_o84) (ov2 := gh_o85) (A := 41) (k := 9) gd_Wants_init_39 gh_ck10 (by decide +kernel) (by decide +kernel) (by decide) (by decide) gh_k459 rfl (fun z => by cases z) (Or.inr ⟨rfl, rfl⟩) rfl ?_
  refine gh_aload_n gd_Wants_init_42 0 rfl (by decide) ?_
  refine gh_aload_n gd_Wants_init_43 1 rfl (by decide) ?_
  refine gh_putO (ov := gh_o85) (ov2 := gh_o86) (A := 41) (k := 0) gd_Wants_init_44 gh_ck10 (by decide +kernel) (by decide +kernel) (by decide) (by decide) gh_k450 rfl (fun z => by cases z) (Or.inr ⟨rfl, rfl⟩) rfl ?_
  refine gh_aload_n gd_Wants_init_47 0 rfl (by decide) ?_
  refine gh_aload_n gd_Wants_init_48 2 rfl (by decide) ?_
  refine gh_putO (ov := gh_o86) (ov2 := gh_o87) (A := 41) (k := 1) gd_Wants_init_49 gh_ck10 (by decide +kernel) (by decide +kernel) (by decide) (by decide) gh_k451 rfl (fun z => by cases z) (Or.inr ⟨rfl, rfl⟩) rfl ?_
  refine gh_aload_n gd_Wants_init_52 0 rfl (by decide) ?_
  refine gh_aload_n gd_Wants_init_53 3 rfl (by decide) ?_
  refine gh_putO (ov := gh_o87) (ov2 := gh_o88) (A := 41) (k := 2) gd_Wants_init_54 gh_ck10 (by decide +kernel) (by decide +kernel) (by decide) (by decide) gh_k452 rfl (fun z => by cases z) (Or.inr ⟨rfl, rfl⟩) rfl ?_
  refine gh_aload_n gd_Wants_init_57 0 rfl (by decide) ?_
  refine gh_aload gd_Wants_init_58 4 rfl (by decide) ?_
  refine gh_putO (ov := gh_o88) (ov2 := gh_o89) (A := 41) (k := 3) gd_Wants_init_60 gh_ck10 (by decide +kernel) (by decide +kernel) (by decide) (by decide) gh_k453 rfl (fun z => by cases z) (Or.inr ⟨rfl, rfl⟩) rfl ?_
  exact gh_ret9 rfl gd_Wants_init_63 rfl
theorem gc_Forest_init {E : gh_E} {Ln : Nat} {xs : Nat → Int32} (d : Nat) : gh_C E gh_yForest_init prog_5_method_1_code 5 none 9 (d + 1) [(2, 41), (2, 13), (2, 20), (2, 26), (2, 30)] (gh_ov gh_o91 Ln xs) (fun _ m1 => m1 = gh_ov gh_o106 Ln xs) := by
  refine gh_enter (L := [(0, 2, 41), (1, 2, 13), (2, 2, 20), (3, 2, 26), (4, 2, 30)]) true (by decide +kernel) (fun _ => rfl) gh_rt9 (Nat.le_of_ble_eq_true rfl) rfl (fun h q hq => ?_) ?_
  · exact gh_oka (as := [(2, 41), (2, 13), (2, 20), (2, 26), (2, 30)]) (L := [(0, 2, 41), (1, 2, 13), (2, 2, 20), (3, 2, 26), (4, 2, 30)]) rfl h q hq
  refine gh_aload_n gd_Forest_init_0 0 rfl (by decide) ?_
  refine gh_obj0 gd_Forest_init_1 (by decide) gh_k486 gh_k153 gh_k154 (Nat.le_of_ble_eq_true rfl) ?_
  refine gh_aload_n gd_Forest_init_4 0 rfl (by decide) ?_
  refine gh_sipush gd_Forest_init_5 (by decide) (gh_r0 rfl) ?_
  refine gh_newarrO (ov := gh_o91) (ov2 := gh_o92) (κ := 3) (A := 42) (S := 1779) gd_Forest_init_8 (by decide) gh_k524 (by decide) (by decide +kernel) (by decide +kernel) (by decide) (by decide +kernel) rfl ?_
  refine gh_putO (ov := gh_o92) (ov2 := gh_o93) (A := 43) (k := 4) gd_Forest_init_10 gh_ck3 (by decide +kernel) (by decide +kernel) (by decide) (by decide) gh_k491 rfl (fun z => by cases z) (Or.inr ⟨rfl, rfl⟩) rfl ?_
  refine gh_aload_n gd_Forest_init_13 0 rfl (by decide) ?_
  refine gh_sipush gd_Forest_init_14 (by decide) (gh_r0 rfl) ?_
  refine gh_newarrO (ov := gh_o93) (ov2 := gh_o94) (κ := 3) (A := 43) (S := 2427) gd_Forest_init_17 (by decide) gh_k524 (by decide) (by decide +kernel) (by decide +kernel) (by decide) (by decide +kernel) rfl ?_
  refine gh_putO (ov := gh_o94) (ov2 := gh_o95) (A := 44) (k := 5) gd_Forest_init_19 gh_ck3 (by decide +kernel) (by decide +kernel) (by decide) (by decide) gh_k492 rfl (fun z => by cases z) (Or.inr ⟨rfl, rfl⟩) rfl ?_
  refine gh_aload_n gd_Forest_init_22 0 rfl (by decide) ?_
  refine gh_bipush gd_Forest_init_23 (by decide) (gh_r0 rfl) ?_
  refine gh_newarrO (ov := gh_o95) (ov2 := gh_o96) (κ := 1) (A := 44) (S := 2787) gd_Forest_init_25 (by decide) gh_k180 (by decide) (by decide +kernel) (by decide +kernel) (by decide) (by decide +kernel) rfl ?_
  refine gh_putO (ov := gh_o96) (ov2 := gh_o97) (A := 45) (k := 6) gd_Forest_init_27 gh_ck3 (by decide +kernel) (by decide +kernel) (by decide) (by decide) gh_k493 rfl (fun z => by cases z) (Or.inr ⟨rfl, rfl⟩) rfl ?_
  refine gh_aload_n gd_Forest_init_30 0 rfl (by decide) ?_
  refine gh_iconst gd_Forest_init_31 (gh_r0 rfl) ?_
  refine gh_newarrO (ov := gh_o97) (ov2 := gh_o98) (κ := 3) (A := 45) (S := 2819) gd_Forest_init_32 (by decide) gh_k524 (by decide) (by decide +kernel) (by decide +kernel) (by decide) (by decide +kernel) rfl ?_
  refine gh_putO (ov := gh_o98) (ov2 := gh_o99) (A := 46) (k := 7) gd_Forest_init_34 gh_ck3 (by decide +kernel) (by decide +kernel) (by decide) (by decide) gh_k494 rfl (fun z => by cases z) (Or.inl rfl) rfl ?_
  refine gh_aload_n gd_Forest_init_37 0 rfl (by decide) ?_
  refine gh_iconst gd_Forest_init_38 (gh_r0 rfl) ?_
  refine gh_newarrO (ov := gh_o99) (ov2 := gh_o100) (κ := 1) (A := 46) (S := 2819) gd_Forest_init_39 (by decide) gh_k180 (by decide) (by decide +kernel) (by decide +kernel) (by decide) (by decide +kernel) rfl ?_
  refine gh_putO (ov := gh_o100) (ov2 := gh_o101) (A := 47) (k := 8) gd_Forest_init_41 gh_ck3 (by decide +kernel) (by decide +kernel) (by decide) (by decide) gh_k495 rfl (fun z => by cases z) (Or.inl rfl) rfl ?_
  refine gh_aload_n gd_Forest_init_44 0 rfl (by decide) ?_
  refine gh_iconst gd_Forest_init_45 (gh_r0 rfl) ?_
  refine gh_putO (ov := gh_o101) (ov2 := gh_o102) (A := 47) (k := 11) gd_Forest_init_46 gh_ck3 (by decide +kernel) (by decide +kernel) (by decide) (by decide) gh_k498 rfl (fun z => by cases z) (Or.inl rfl) rfl ?_
  refine gh_aload_n gd_Forest_init_49 0 rfl (by decide) ?_
  refine gh_aload_n gd_Forest_init_50 1 rfl (by decide) ?_
  refine gh_putO (ov := gh_o102) (ov2 := gh_o103) (A := 47) (k := 0) gd_Forest_init_51 gh_ck3 (by decide +kernel) (by decide +kernel) (by decide) (by decide) gh_k487 rfl (fun z => by cases z) (Or.inr ⟨rfl, rfl⟩) rfl ?_
  refine gh_aload_n gd_Forest_init_54 0 rfl (by decide) ?_
  refine gh_aload_n gd_Forest_init_55 2 rfl (by decide) ?_
  refine gh_putO (ov := gh_o103) (ov2 := gh_o104) (A := 47) (k := 1) gd_Forest_init_56 gh_ck3 (by decide +kernel) (by decide +kernel) (by decide) (by decide) gh_k488 rfl (fun z => by cases z) (Or.inr ⟨rfl, rfl⟩) rfl ?_
  refine gh_aload_n gd_Forest_init_59 0 rfl (by decide) ?_
  refine gh_aload_n gd_Forest_init_60 3 rfl (by decide) ?_
  refine gh_putO (ov := gh_o104) (ov2 := gh_o105) (A := 47) (k := 2) gd_Forest_init_61 gh_ck3 (by decide +kernel) (by decide +kernel) (by decide) (by decide) gh_k489 rfl (fun z => by cases z) (Or.inr ⟨rfl, rfl⟩) rfl ?_
  refine gh_aload_n gd_Forest_init_64 0 rfl (by decide) ?_
  refine gh_aload gd_Forest_init_65 4 rfl (by decide) ?_
  refine gh_putO (ov := gh_o105) (ov2 := gh_o106) (A := 47) (k := 3) gd_Forest_init_67 gh_ck3 (by decide +kernel) (by decide +kernel) (by decide) (by decide) gh_k490 rfl (fun z => by cases z) (Or.inr ⟨rfl, rfl⟩) rfl ?_
  exact gh_ret9 rfl gd_Forest_init_70 rfl
theorem gc_Picker_init {E : gh_E} {Ln : Nat} {xs : Nat → Int32} (d : Nat) : gh_C E gh_yPicker_init prog_7_method_1_code 4 none 9 (d + 1) [(2, 47), (2, 13), (2, 26), (2, 41)] (gh_ov gh_o108 Ln xs) (fun _ m1 => m1 = gh_ov gh_o131 Ln xs) := by
  refine gh_enter (L := [(0, 2, 47), (1, 2, 13), (2, 2, 26), (3, 2, 41)]) true (by decide +kernel) (fun _ => rfl) gh_rt9 (Nat.le_of_ble_eq_true rfl) rfl (fun h q hq => ?_) ?_
  · exact gh_oka (as := [(2, 47), (2, 13), (2, 26), (2, 41)]) (L := [(0, 2, 47), (1, 2, 13), (2, 2, 26), (3, 2, 41)]) rfl h q hq
  refine gh_aload_n gd_Picker_init_0 0 rfl (by decide) ?_
  refine gh_obj0 gd_Picker_init_1 (by decide) gh_k530 gh_k153 gh_k154 (Nat.le_of_ble_eq_true rfl) ?_
  refine gh_aload_n gd_Picker_init_4 0 rfl (by decide) ?_
  refine gh_sipush gd_Picker_init_5 (by decide) (gh_r0 rfl) ?_
  refine gh_newarrO (ov := gh_o108) (ov2 := gh_o109) (κ := 1) (A := 48) (S := 2836) gd_Picker_init_8 (by decide) gh_k180 (by decide) (by decide +kernel) (by decide +kernel) (by decide) (by decide +kernel) rfl ?_
  refine gh_putO (ov := gh_o109) (ov2 := gh_o110) (A := 49) (k := 3) gd_Picker_init_10 gh_ck5 (by decide +kernel) (by decide +kernel) (by decide) (by decide) gh_k534 rfl (fun z => by cases z) (Or.inr ⟨rfl, rfl⟩) rfl ?_
  refine gh_aload_n gd_Picker_init_13 0 rfl (by decide) ?_
  refine gh_sipush gd_Picker_init_14 (by decide) (gh_r0 rfl) ?_
  refine gh_newarrO (ov := gh_o110) (ov2 := gh_o111) (κ := 1) (A := 49) (S := 3136) gd_Picker_init_17 (by decide) gh_k180 (by decide) (by decide +kernel) (by decide +kernel) (by decide) (by decide +kernel) rfl ?_
  refine gh_putO (ov := gh_o111) (ov2 := gh_o112) (A := 50) (k := 6) gd_Picker_init_19 gh_ck5 (by decide +kernel) (by decide +kernel) (by decide) (by decide) gh_k540 rfl (fun z => by cases z) (Or.inr ⟨rfl, rfl⟩) rfl ?_
  refine gh_aload_n gd_Picker_init_22 0 rfl (by decide) ?_
  refine gh_sipush gd_Picker_init_23 (by decide) (gh_r0 rfl) ?_
  refine gh_newarrO (ov := gh_o112) (ov2 := gh_o113) (κ := 1) (A := 50) (S := 3436) gd_Picker_init_26 (by decide) gh_k180 (by decide) (by decide +kernel) (by decide +kernel) (by decide) (by decide +kernel) rfl ?_
  refine gh_putO (ov := gh_o113) (ov2 := gh_o114) (A := 51) (k := 8) gd_Picker_init_28 gh_ck5 (by decide +kernel) (by decide +kernel) (by decide) (by decide) gh_k542 rfl (fun z => by cases z) (Or.inr ⟨rfl, rfl⟩) rfl ?_
  refine gh_aload_n gd_Picker_init_31 0 rfl (by decide) ?_
  refine gh_sipush gd_Picker_init_32 (by decide) (gh_r0 rfl) ?_
  refine gh_newarrO (ov := gh_o114) (ov2 := gh_o115) (κ := 1) (A := 51) (S := 3725) gd_Picker_init_35 (by decide) gh_k180 (by decide) (by decide +kernel) (by decide +kernel) (by decide) (by decide +kernel) rfl ?_
  refine gh_putO (ov := gh_o115) (ov2 := gh_o116) (A := 52) (k := 9) gd_Picker_init_37 gh_ck5 (by decide +kernel) (by decide +kernel) (by decide) (by decide) gh_k543 rfl (fun z => by cases z) (Or.inr ⟨rfl, rfl⟩) rfl ?_
  refine gh_aload_n gd_Picker_init_40 0 rfl (by decide) ?_
  refine gh_sipush gd_Picker_init_41 (by decide) (gh_r0 rfl) ?_
  refine gh_newarrO (ov := gh_o116) (ov2 := gh_o117) (κ := 1) (A := 52) (S := 4014) gd_Picker_init_44 (by decide) gh_k180 (by decide) (by decide +kernel) (by decide +kernel) (by decide) (by decide +kernel) rfl ?_
  refine gh_putO (ov := gh_o117) (ov2 := gh_o118) (A := 53) (k := 10) gd_Picker_init_46 gh_ck5 (by decide +kernel) (by decide +kernel) (by decide) (by decide) gh_k544 rfl (fun z => by cases z) (Or.inr ⟨rfl, rfl⟩) rfl ?_
  refine gh_aload_n gd_Picker_init_49 0 rfl (by decide) ?_
  refine gh_sipush gd_Picker_init_50 (by decide) (gh_r0 rfl) ?_
  refine gh_newarrO (ov := gh_o118) (ov2 := gh_o119) (κ := 1) (A := 53) (S := 4303) gd_Picker_init_53 (by decide) gh_k180 (by decide) (by decide +kernel) (by decide +kernel) (by decide) (by decide +kernel) rfl ?_
  refine gh_putO (ov := gh_o119) (ov2 := gh_o120) (A := 54) (k := 11) gd_Picker_init_55 gh_ck5 (by decide +kernel) (by decide +kernel) (by decide) (by decide) gh_k545 rfl (fun z => by cases z) (Or.inr ⟨rfl, rfl⟩) rfl ?_
  refine gh_aload_n gd_Picker_init_58 0 rfl (by decide) ?_
  refine gh_sipush gd_Picker_init_59 (by decide) (gh_r0 rfl) ?_
  refine gh_newarrO (ov := gh_o120) (ov2 := gh_o121) (κ := 1) (A := 54) (S := 4592) gd_Picker_init_62 (by decide) gh_k180 (by decide) (by decide +kernel) (by decide +kernel) (by decide) (by decide +kernel) rfl ?_
  refine gh_putO (ov := gh_o121) (ov2 := gh_o122) (A := 55) (k := 12) gd_Picker_init_64 gh_ck5 (by decide +kernel) (by decide +kernel) (by decide) (by decide) gh_k546 rfl (fun z => by cases z) (Or.inr ⟨rfl, rfl⟩) rfl ?_
  refine gh_aload_n gd_Picker_init_67 0 rfl (by decide) ?_
  refine gh_sipush gd_Picker_init_68 (by decide) (gh_r0 rfl) ?_
  refine gh_newarrO (ov := gh_o122) (ov2 := gh_o123) (κ := 3) (A := 55) (S := 4881) gd_Picker_init_71 (by decide) gh_k524 (by decide) (by decide +kernel) (by decide +kernel) (by decide) (by decide +kernel) rfl ?_
  refine gh_putO (ov := gh_o123) (ov2 := gh_o124) (A := 56) (k := 13) gd_Picker_init_73 gh_ck5 (by decide +kernel) (by decide +kernel) (by decide) (by decide) gh_k547 rfl (fun z => by cases z) (Or.inr ⟨rfl, rfl⟩) rfl ?_
  refine gh_aload_n gd_Picker_init_76 0 rfl (by decide) ?_
  refine gh_iconst gd_Picker_init_77 (gh_r0 rfl) ?_
  refine gh_newarrO (ov := gh_o124) (ov2 := gh_o125) (κ := 1) (A := 56) (S := 5170) gd_Picker_init_78 (by decide) gh_k180 (by decide) (by decide +kernel) (by decide +kernel) (by decide) (by decide +kernel) rfl ?_
  refine gh_putO (ov := gh_o125) (ov2 := gh_o126) (A := 57) (k := 15) gd_Picker_init_80 gh_ck5 (by decide +kernel) (by decide +kernel) (by decide) (by decide) gh_k549 rfl (fun z => by cases z) (Or.inr ⟨rfl, rfl⟩) rfl ?_
  refine gh_aload_n gd_Picker_init_83 0 rfl (by decide) ?_
  refine gh_iconst gd_Picker_init_84 (gh_r0 rfl) ?_
  refine gh_newarrO (ov := gh_o126) (ov2 := gh_o127) (κ := 3) (A := 57) (S := 5174) gd_Picker_init_85 (by decide) gh_k524 (by decide) (by decide +kernel) (by decide +kernel) (by decide) (by decide +kernel) rfl ?_
  refine gh_putO (ov := gh_o127) (ov2 := gh_o128) (A := 58) (k := 16) gd_Picker_init_87 gh_ck5 (by decide +kernel) (by decide +kernel) (by decide) (by decide) gh_k550 rfl (fun z => by cases z) (Or.inr ⟨rfl, rfl⟩) rfl ?_
  refine gh_aload_n gd_Picker_init_90 0 rfl (by decide) ?_
  refine gh_aload_n gd_Picker_init_91 1 rfl (by decide) ?_
  refine gh_putO (ov := gh_o128) (ov2 := gh_o129) (A := 58) (k := 0) gd_Picker_init_92 gh_ck5 (by decide +kernel) (by decide +kernel) (by decide) (by decide) gh_k531 rfl (fun z => by cases z) (Or.inr ⟨rfl, rfl⟩) rfl ?_
  refine gh_aload_n gd_Picker_init_95 0 rfl (by decide) ?_
  refine gh_aload_n gd_Picker_init_96 2 rfl (by decide) ?_
  refine gh_putO (ov := gh_o129) (ov2 := gh_o130) (A := 58) (k := 1) gd_Picker_init_97 gh_ck5 (by decide +kernel) (by decide +kernel) (by decide) (by decide) gh_k532 rfl (fun z => by cases z) (Or.inr ⟨rfl, rfl⟩) rfl ?_
  refine gh_aload_n gd_Picker_init_100 0 rfl (by decide) ?_
  refine gh_aload_n gd_Picker_init_101 3 rfl (by decide) ?_
  refine gh_putO (ov := gh_o130) (ov2 := gh_o131) (A := 58) (k := 2) gd_Picker_init_102 gh_ck5 (by decide +kernel) (by decide +kernel) (by decide) (by decide) gh_k533 rfl (fun z => by cases z) (Or.inr ⟨rfl, rfl⟩) rfl ?_
  exact gh_ret9 rfl gd_Picker_init_105 rfl
theorem gc_Proper_init {E : gh_E} {Ln : Nat} {xs : Nat → Int32} (d : Nat) : gh_C E gh_yProper_init prog_8_method_1_code 3 none 9 (d + 1) [(2, 58), (2, 13), (2, 20)] (gh_ov gh_o133 Ln xs) (fun _ m1 => m1 = gh_ov gh_o143 Ln xs) := by
  refine gh_enter (L := [(0, 2, 58), (1, 2, 13), (2, 2, 20)]) true (by decide +kernel) (fun _ => rfl) gh_rt9 (Nat.le_of_ble_eq_true rfl) rfl (fun h q hq => ?_) ?_
  · exact gh_oka (as := [(2, 58), (2, 13), (2, 20)]) (L := [(0, 2, 58), (1, 2, 13), (2, 2, 20)]) rfl h q hq
  refine gh_aload_n gd_Proper_init_0 0 rfl (by decide) ?_
  refine gh_obj0 gd_Proper_init_1 (by decide) gh_k591 gh_k153 gh_k154 (Nat.le_of_ble_eq_true rfl) ?_
  refine gh_aload_n gd_Proper_init_4 0 rfl (by decide) ?_
  refine gh_bipush gd_Proper_init_5 (by decide) (gh_r0 rfl) ?_
  refine gh_newarrO (ov := gh_o133) (ov2 := gh_o134) (κ := 1) (A := 59) (S := 5190) gd_Proper_init_7 (by decide) gh_k180 (by decide) (by decide +kernel) (by decide +kernel) (by decide) (by decide +kernel) rfl ?_
  refine gh_putO (ov := gh_o134) (ov2 := gh_o135) (A := 60) (k := 6) gd_Proper_init_9 gh_ck6 (by decide +kernel) (by decide +kernel) (by decide) (by decide) gh_k602 rfl (fun z => by cases z) (Or.inr ⟨rfl, rfl⟩) rfl ?_
  refine gh_aload_n gd_Proper_init_12 0 rfl (by decide) ?_
  refine gh_sipush gd_Proper_init_13 (by decide) (gh_r0 rfl) ?_
  refine gh_newarrO (ov := gh_o135) (ov2 := gh_o136) (κ := 1) (A := 60) (S := 5270) gd_Proper_init_16 (by decide) gh_k180 (by decide) (by decide +kernel) (by decide +kernel) (by decide) (by decide +kernel) rfl ?_
  refine gh_putO (ov := gh_o136) (ov2 := gh_o137) (A := 61) (k := 8) gd_Proper_init_18 gh_ck6 (by decide +kernel) (by decide +kernel) (by decide) (by decide) gh_k604 rfl (fun z => by cases z) (Or.inr ⟨rfl, rfl⟩) rfl ?_
  refine gh_aload_n gd_Proper_init_21 0 rfl (by decide) ?_
  refine gh_sipush gd_Proper_init_22 (by decide) (gh_r0 rfl) ?_
  refine gh_newarrO (ov := gh_o137) (ov2 := gh_o138) (κ := 1) (A := 61) (S := 5590) gd_Proper_init_25 (by decide) gh_k180 (by decide) (by decide +kernel) (by decide +kernel) (by decide) (by decide +kernel) rfl ?_
  refine gh_putO (ov := gh_o138) (ov2 := gh_o139) (A := 62) (k := 9) gd_Proper_init_27 gh_ck6 (by decide +kernel) (by decide +kernel) (by decide) (by decide) gh_k605 rfl (fun z => by cases z) (Or.inr ⟨rfl, rfl⟩) rfl ?_
  refine gh_aload_n gd_Proper_init_30 0 rfl (by decide) ?_
  refine gh_bipush gd_Proper_init_31 (by decide) (gh_r0 rfl) ?_
  refine gh_newarrO (ov := gh_o139) (ov2 := gh_o140) (κ := 1) (A := 62) (S := 5910) gd_Proper_init_33 (by decide) gh_k180 (by decide) (by decide +kernel) (by decide +kernel) (by decide) (by decide +kernel) rfl ?_
  refine gh_putO (ov := gh_o140) (ov2 := gh_o141) (A := 63) (k := 11) gd_Proper_init_35 gh_ck6 (by decide +kernel) (by decide +kernel) (by decide) (by decide) gh_k607 rfl (fun z => by cases z) (Or.inr ⟨rfl, rfl⟩) rfl ?_
  refine gh_aload_n gd_Proper_init_38 0 rfl (by decide) ?_
  refine gh_aload_n gd_Proper_init_39 1 rfl (by decide) ?_
  refine gh_putO (ov := gh_o141) (ov2 := gh_o142) (A := 63) (k := 0) gd_Proper_init_40 gh_ck6 (by decide +kernel) (by decide +kernel) (by decide) (by decide) gh_k592 rfl (fun z => by cases z) (Or.inr ⟨rfl, rfl⟩) rfl ?_
  refine gh_aload_n gd_Proper_init_43 0 rfl (by decide) ?_
  refine gh_aload_n gd_Proper_init_44 2 rfl (by decide) ?_
  refine gh_putO (ov := gh_o142) (ov2 := gh_o143) (A := 63) (k := 1) gd_Proper_init_45 gh_ck6 (by decide +kernel) (by decide +kernel) (by decide) (by decide) gh_k593 rfl (fun z => by cases z) (Or.inr ⟨rfl, rfl⟩) rfl ?_
  exact gh_ret9 rfl gd_Proper_init_48 rfl
theorem gc_House_init {E : gh_E} {Ln : Nat} {xs : Nat → Int32} (d : Nat) : gh_C E gh_yHouse_init prog_1_method_1_code 1 none 9 (d + 3) [(2, 2)] (gh_ov gh_o1 Ln xs) (fun _ m1 => m1 = gh_ov gh_o144 Ln xs) := by
  refine gh_enter (L := [(0, 2, 2)]) true (by decide +kernel) (fun _ => rfl) gh_rt9 (Nat.le_of_ble_eq_true rfl) rfl (fun h q hq => ?_) ?_
  · exact gh_oka (as := [(2, 2)]) (L := [(0, 2, 2)]) rfl h q hq
  refine gh_aload_n gd_House_init_0 0 rfl (by decide) ?_
  refine gh_obj0 gd_House_init_1 (by decide) gh_k152 gh_k153 gh_k154 (Nat.le_of_ble_eq_true rfl) ?_
  refine gh_aload_n gd_House_init_4 0 rfl (by decide) ?_
  refine gh_newO (ov := gh_o1) (ov2 := gh_o2) (A := 3) (S := 11) gd_House_init_5 gh_ck8 gh_k155 gh_k156 gh_k131 (by decide) (by decide +kernel) (by decide +kernel) (by decide) (by decide +kernel) rfl ?_
  refine gh_dup gd_House_init_8 (by decide) ?_
  refine gh_callIN (d := d + 2) (n := 0) (y := gh_yTape_init) (as := []) gd_House_init_9 (by decide) gh_k159 gh_k131 List.mem_cons_self gh_k158 rfl ⟨by decide, by decide, by decide +kernel⟩ rfl (by decide) (Nat.le_of_ble_eq_true rfl) ((gc_Tape_init (d + 1)).mono (fun r m1 hq => ?_))
  subst hq
  refine gh_putO (ov := gh_o4) (ov2 := gh_o5) (A := 5) (k := 0) gd_House_init_12 gh_ck11 (by decide +kernel) (by decide +kernel) (by decide) (by decide) gh_k633 rfl (fun z => by cases z) (Or.inr ⟨rfl, rfl⟩) rfl ?_
  refine gh_aload_n gd_House_init_15 0 rfl (by decide) ?_
  refine gh_newO (ov := gh_o5) (ov2 := gh_o6) (A := 5) (S := 256) gd_House_init_16 gh_ck7 gh_k181 gh_k182 gh_k132 (by decide) (by decide +kernel) (by decide +kernel) (by decide) (by decide +kernel) rfl ?_
  refine gh_dup gd_House_init_19 (by decide) ?_
  refine gh_aload_n gd_House_init_20 0 rfl (by decide) ?_
  refine gh_getO (ov := gh_o6) (A := 6) (k := 0) (v := 3) gd_House_init_21 gh_ck11 (by decide +kernel) (by decide +kernel) (by decide) (by decide +kernel) (by decide) gh_k633 rfl (by decide +kernel) ?_
  refine gh_callI (d := d + 2) (n := 1) (y := gh_yReader_init) (as := [(2, 3)]) gd_House_init_24 (by decide) gh_k185 gh_k132 gh_k183 gh_k184 rfl ⟨by decide, by decide, by decide +kernel⟩ rfl (by decide) (Nat.le_of_ble_eq_true rfl) ((gc_Reader_init (d)).mono (fun r m1 hq => ?_))
  subst hq
  refine gh_putO (ov := gh_o22) (ov2 := gh_o23) (A := 13) (k := 1) gd_House_init_27 gh_ck11 (by decide +kernel) (by decide +kernel) (by decide) (by decide) gh_k634 rfl (fun z => by cases z) (Or.inr ⟨rfl, rfl⟩) rfl ?_
  refine gh_aload_n gd_House_init_30 0 rfl (by decide) ?_
  refine gh_newO (ov := gh_o23) (ov2 := gh_o24) (A := 13) (S := 420) gd_House_init_31 gh_ck4 gh_k248 gh_k249 gh_k134 (by decide) (by decide +kernel) (by decide +kernel) (by decide) (by decide +kernel) rfl ?_
  refine gh_dup gd_House_init_34 (by decide) ?_
  refine gh_callIN (d := d + 2) (n := 0) (y := gh_yGrammar_init) (as := []) gd_House_init_35 (by decide) gh_k252 gh_k134 (List.mem_cons_of_mem _ (List.mem_cons_of_mem _ List.mem_cons_self)) gh_k251 rfl ⟨by decide, by decide, by decide +kernel⟩ rfl (by decide) (Nat.le_of_ble_eq_true rfl) ((gc_Grammar_init (d + 1)).mono (fun r m1 hq => ?_))
  subst hq
  refine gh_putO (ov := gh_o36) (ov2 := gh_o37) (A := 20) (k := 2) gd_House_init_38 gh_ck11 (by decide +kernel) (by decide +kernel) (by decide) (by decide) gh_k635 rfl (fun z => by cases z) (Or.inr ⟨rfl, rfl⟩) rfl ?_
  refine gh_aload_n gd_House_init_41 0 rfl (by decide) ?_
  refine gh_newO (ov := gh_o37) (ov2 := gh_o38) (A := 20) (S := 573) gd_House_init_42 gh_ck2 gh_k313 gh_k314 gh_k135 (by decide) (by decide +kernel) (by decide +kernel) (by decide) (by decide +kernel) rfl ?_
  refine gh_dup gd_House_init_45 (by decide) ?_
  refine gh_aload_n gd_House_init_46 0 rfl (by decide) ?_
  refine gh_getO (ov := gh_o38) (A := 21) (k := 2) (v := 13) gd_House_init_47 gh_ck11 (by decide +kernel) (by decide +kernel) (by decide) (by decide +kernel) (by decide) gh_k635 rfl (by decide +kernel) ?_
  refine gh_callI (d := d + 2) (n := 1) (y := gh_yFacts_init) (as := [(2, 13)]) gd_House_init_50 (by decide) gh_k317 gh_k135 gh_k315 gh_k316 rfl ⟨by decide, by decide, by decide +kernel⟩ rfl (by decide) (Nat.le_of_ble_eq_true rfl) ((gc_Facts_init (d + 1)).mono (fun r m1 hq => ?_))
  subst hq
  refine gh_putO (ov := gh_o49) (ov2 := gh_o50) (A := 26) (k := 3) gd_House_init_53 gh_ck11 (by decide +kernel) (by decide +kernel) (by decide) (by decide) gh_k636 rfl (fun z => by cases z) (Or.inr ⟨rfl, rfl⟩) rfl ?_
  refine gh_aload_n gd_House_init_56 0 rfl (by decide) ?_
  refine gh_newO (ov := gh_o50) (ov2 := gh_o51) (A := 26) (S := 636) gd_House_init_57 gh_ck9 gh_k368 gh_k369 gh_k136 (by decide) (by decide +kernel) (by decide +kernel) (by decide) (by decide +kernel) rfl ?_
  refine gh_dup gd_House_init_60 (by decide) ?_
  refine gh_aload_n gd_House_init_61 0 rfl (by decide) ?_
  refine gh_getO (ov := gh_o51) (A := 27) (k := 2) (v := 13) gd_House_init_62 gh_ck11 (by decide +kernel) (by decide +kernel) (by decide) (by decide +kernel) (by decide) gh_k635 rfl (by decide +kernel) ?_
  refine gh_aload_n gd_House_init_65 0 rfl (by decide) ?_
  refine gh_getO (ov := gh_o51) (A := 27) (k := 3) (v := 20) gd_House_init_66 gh_ck11 (by decide +kernel) (by decide +kernel) (by decide) (by decide +kernel) (by decide) gh_k636 rfl (by decide +kernel) ?_
  refine gh_callI (d := d + 2) (n := 2) (y := gh_yText_init) (as := [(2, 13), (2, 20)]) gd_House_init_69 (by decide) gh_k372 gh_k136 gh_k370 gh_k371 rfl ⟨by decide, by decide, by decide +kernel⟩ rfl (by decide) (Nat.le_of_ble_eq_true rfl) ((gc_Text_init (d + 1)).mono (fun r m1 hq => ?_))
  subst hq
  refine gh_putO (ov := gh_o59) (ov2 := gh_o60) (A := 30) (k := 4) gd_House_init_72 gh_ck11 (by decide +kernel) (by decide +kernel) (by decide) (by decide) gh_k637 rfl (fun z => by cases z) (Or.inr ⟨rfl, rfl⟩) rfl ?_
  refine gh_aload_n gd_House_init_75 0 rfl (by decide) ?_
  refine gh_newO (ov := gh_o60) (ov2 := gh_o61) (A := 30) (S := 902) gd_House_init_76 gh_ck0 gh_k407 gh_k408 gh_k137 (by decide) (by decide +kernel) (by decide +kernel) (by decide) (by decide +kernel) rfl ?_
  refine gh_dup gd_House_init_79 (by decide) ?_
  refine gh_aload_n gd_House_init_80 0 rfl (by decide) ?_
  refine gh_getO (ov := gh_o61) (A := 31) (k := 2) (v := 13) gd_House_init_81 gh_ck11 (by decide +kernel) (by decide +kernel) (by decide) (by decide +kernel) (by decide) gh_k635 rfl (by decide +kernel) ?_
  refine gh_aload_n gd_House_init_84 0 rfl (by decide) ?_
  refine gh_getO (ov := gh_o61) (A := 31) (k := 3) (v := 20) gd_House_init_85 gh_ck11 (by decide +kernel) (by decide +kernel) (by decide) (by decide +kernel) (by decide) gh_k636 rfl (by decide +kernel) ?_
  refine gh_aload_n gd_House_init_88 0 rfl (by decide) ?_
  refine gh_getO (ov := gh_o61) (A := 31) (k := 4) (v := 26) gd_House_init_89 gh_ck11 (by decide +kernel) (by decide +kernel) (by decide) (by decide +kernel) (by decide) gh_k637 rfl (by decide +kernel) ?_
  refine gh_callI (d := d + 2) (n := 3) (y := gh_yChart_init) (as := [(2, 13), (2, 20), (2, 26)]) gd_House_init_92 (by decide) gh_k411 gh_k137 gh_k409 gh_k410 rfl ⟨by decide, by decide, by decide +kernel⟩ rfl (by decide) (Nat.le_of_ble_eq_true rfl) ((gc_Chart_init (d + 1)).mono (fun r m1 hq => ?_))
  subst hq
  refine gh_putO (ov := gh_o74) (ov2 := gh_o75) (A := 36) (k := 5) gd_House_init_95 gh_ck11 (by decide +kernel) (by decide +kernel) (by decide) (by decide) gh_k638 rfl (fun z => by cases z) (Or.inr ⟨rfl, rfl⟩) rfl ?_
  refine gh_aload_n gd_House_init_98 0 rfl (by decide) ?_
  refine gh_newO (ov := gh_o75) (ov2 := gh_o76) (A := 36) (S := 1019) gd_House_init_99 gh_ck10 gh_k444 gh_k445 gh_k138 (by decide) (by decide +kernel) (by decide +kernel) (by decide) (by decide +kernel) rfl ?_
  refine gh_dup gd_House_init_102 (by decide) ?_
  refine gh_aload_n gd_House_init_103 0 rfl (by decide) ?_
  refine gh_getO (ov := gh_o76) (A := 37) (k := 2) (v := 13) gd_House_init_104 gh_ck11 (by decide +kernel) (by decide +kernel) (by decide) (by decide +kernel) (by decide) gh_k635 rfl (by decide +kernel) ?_
  refine gh_aload_n gd_House_init_107 0 rfl (by decide) ?_
  refine gh_getO (ov := gh_o76) (A := 37) (k := 3) (v := 20) gd_House_init_108 gh_ck11 (by decide +kernel) (by decide +kernel) (by decide) (by decide +kernel) (by decide) gh_k636 rfl (by decide +kernel) ?_
  refine gh_aload_n gd_House_init_111 0 rfl (by decide) ?_
  refine gh_getO (ov := gh_o76) (A := 37) (k := 4) (v := 26) gd_House_init_112 gh_ck11 (by decide +kernel) (by decide +kernel) (by decide) (by decide +kernel) (by decide) gh_k637 rfl (by decide +kernel) ?_
  refine gh_aload_n gd_House_init_115 0 rfl (by decide) ?_
  refine gh_getO (ov := gh_o76) (A := 37) (k := 5) (v := 30) gd_House_init_116 gh_ck11 (by decide +kernel) (by decide +kernel) (by decide) (by decide +kernel) (by decide) gh_k638 rfl (by decide +kernel) ?_
  refine gh_callI (d := d + 2) (n := 4) (y := gh_yWants_init) (as := [(2, 13), (2, 20), (2, 26), (2, 30)]) gd_House_init_119 (by decide) gh_k448 gh_k138 gh_k446 gh_k447 rfl ⟨by decide, by decide, by decide +kernel⟩ rfl (by decide) (Nat.le_of_ble_eq_true rfl) ((gc_Wants_init (d + 1)).mono (fun r m1 hq => ?_))
  subst hq
  refine gh_putO (ov := gh_o89) (ov2 := gh_o90) (A := 41) (k := 6) gd_House_init_122 gh_ck11 (by decide +kernel) (by decide +kernel) (by decide) (by decide) gh_k639 rfl (fun z => by cases z) (Or.inr ⟨rfl, rfl⟩) rfl ?_
  refine gh_aload_n gd_House_init_125 0 rfl (by decide) ?_
  refine gh_newO (ov := gh_o90) (ov2 := gh_o91) (A := 41) (S := 1767) gd_House_init_126 gh_ck3 gh_k481 gh_k482 gh_k139 (by decide) (by decide +kernel) (by decide +kernel) (by decide) (by decide +kernel) rfl ?_
  refine gh_dup gd_House_init_129 (by decide) ?_
  refine gh_aload_n gd_House_init_130 0 rfl (by decide) ?_
  refine gh_getO (ov := gh_o91) (A := 42) (k := 2) (v := 13) gd_House_init_131 gh_ck11 (by decide +kernel) (by decide +kernel) (by decide) (by decide +kernel) (by decide) gh_k635 rfl (by decide +kernel) ?_
  refine gh_aload_n gd_House_init_134 0 rfl (by decide) ?_
  refine gh_getO (ov := gh_o91) (A := 42) (k := 3) (v := 20) gd_House_init_135 gh_ck11 (by decide +kernel) (by decide +kernel) (by decide) (by decide +kernel) (by decide) gh_k636 rfl (by decide +kernel) ?_
  refine gh_aload_n gd_House_init_138 0 rfl (by decide) ?_
  refine gh_getO (ov := gh_o91) (A := 42) (k := 4) (v := 26) gd_House_init_139 gh_ck11 (by decide +kernel) (by decide +kernel) (by decide) (by decide +kernel) (by decide) gh_k637 rfl (by decide +kernel) ?_
  refine gh_aload_n gd_House_init_142 0 rfl (by decide) ?_
  refine gh_getO (ov := gh_o91) (A := 42) (k := 5) (v := 30) gd_House_init_143 gh_ck11 (by decide +kernel) (by decide +kernel) (by decide) (by decide +kernel) (by decide) gh_k638 rfl (by decide +kernel) ?_
  refine gh_callI (d := d + 2) (n := 4) (y := gh_yForest_init) (as := [(2, 13), (2, 20), (2, 26), (2, 30)]) gd_House_init_146 (by decide) gh_k485 gh_k139 gh_k483 gh_k484 rfl ⟨by decide, by decide, by decide +kernel⟩ rfl (by decide) (Nat.le_of_ble_eq_true rfl) ((gc_Forest_init (d + 1)).mono (fun r m1 hq => ?_))
  subst hq
  refine gh_putO (ov := gh_o106) (ov2 := gh_o107) (A := 47) (k := 7) gd_House_init_149 gh_ck11 (by decide +kernel) (by decide +kernel) (by decide) (by decide) gh_k640 rfl (fun z => by cases z) (Or.inr ⟨rfl, rfl⟩) rfl ?_
  refine gh_aload_n gd_House_init_152 0 rfl (by decide) ?_
  refine gh_newO (ov := gh_o107) (ov2 := gh_o108) (A := 47) (S := 2819) gd_House_init_153 gh_ck5 gh_k525 gh_k526 gh_k140 (by decide) (by decide +kernel) (by decide +kernel) (by decide) (by decide +kernel) rfl ?_
  refine gh_dup gd_House_init_156 (by decide) ?_
  refine gh_aload_n gd_House_init_157 0 rfl (by decide) ?_
  refine gh_getO (ov := gh_o108) (A := 48) (k := 2) (v := 13) gd_House_init_158 gh_ck11 (by decide +kernel) (by decide +kernel) (by decide) (by decide +kernel) (by decide) gh_k635 rfl (by decide +kernel) ?_
  refine gh_aload_n gd_House_init_161 0 rfl (by decide) ?_
  refine gh_getO (ov := gh_o108) (A := 48) (k := 4) (v := 26) gd_House_init_162 gh_ck11 (by decide +kernel) (by decide +kernel) (by decide) (by decide +kernel) (by decide) gh_k637 rfl (by decide +kernel) ?_
  refine gh_aload_n gd_House_init_165 0 rfl (by decide) ?_
  refine gh_getO (ov := gh_o108) (A := 48) (k := 7) (v := 41) gd_House_init_166 gh_ck11 (by decide +kernel) (by decide +kernel) (by decide) (by decide +kernel) (by decide) gh_k640 rfl (by decide +kernel) ?_
  refine gh_callI (d := d + 2) (n := 3) (y := gh_yPicker_init) (as := [(2, 13), (2, 26), (2, 41)]) gd_House_init_169 (by decide) gh_k529 gh_k140 gh_k527 gh_k528 rfl ⟨by decide, by decide, by decide +kernel⟩ rfl (by decide) (Nat.le_of_ble_eq_true rfl) ((gc_Picker_init (d + 1)).mono (fun r m1 hq => ?_))
  subst hq
  refine gh_putO (ov := gh_o131) (ov2 := gh_o132) (A := 58) (k := 8) gd_House_init_172 gh_ck11 (by decide +kernel) (by decide +kernel) (by decide) (by decide) gh_k641 rfl (fun z => by cases z) (Or.inr ⟨rfl, rfl⟩) rfl ?_
  refine gh_aload_n gd_House_init_175 0 rfl (by decide) ?_
  refine gh_newO (ov := gh_o132) (ov2 := gh_o133) (A := 58) (S := 5178) gd_House_init_176 gh_ck6 gh_k586 gh_k587 gh_k141 (by decide) (by decide +kernel) (by decide +kernel) (by decide) (by decide +kernel) rfl ?_
  refine gh_dup gd_House_init_179 (by decide) ?_
  refine gh_aload_n gd_House_init_180 0 rfl (by decide) ?_
  refine gh_getO (ov := gh_o133) (A := 59) (k := 2) (v := 13) gd_House_init_181 gh_ck11 (by decide +kernel) (by decide +kernel) (by decide) (by decide +kernel) (by decide) gh_k635 rfl (by decide +kernel) ?_
  refine gh_aload_n gd_House_init_184 0 rfl (by decide) ?_
  refine gh_getO (ov := gh_o133) (A := 59) (k := 3) (v := 20) gd_House_init_185 gh_ck11 (by decide +kernel) (by decide +kernel) (by decide) (by decide +kernel) (by decide) gh_k636 rfl (by decide +kernel) ?_
  refine gh_callI (d := d + 2) (n := 2) (y := gh_yProper_init) (as := [(2, 13), (2, 20)]) gd_House_init_188 (by decide) gh_k590 gh_k141 gh_k588 gh_k589 rfl ⟨by decide, by decide, by decide +kernel⟩ rfl (by decide) (Nat.le_of_ble_eq_true rfl) ((gc_Proper_init (d + 1)).mono (fun r m1 hq => ?_))
  subst hq
  refine gh_putO (ov := gh_o143) (ov2 := gh_o144) (A := 63) (k := 9) gd_House_init_191 gh_ck11 (by decide +kernel) (by decide +kernel) (by decide) (by decide) gh_k642 rfl (fun z => by cases z) (Or.inr ⟨rfl, rfl⟩) rfl ?_
  exact gh_ret9 rfl gd_House_init_194 rfl
theorem gc_Model_init {E : gh_E} {Ln : Nat} {xs : Nat → Int32} (d : Nat) : gh_C E gh_yModel_init prog_14_method_1_code 1 none 9 (d + 1) [(2, 63)] (gh_ov gh_o145 Ln xs) (fun _ m1 => m1 = gh_ov gh_o254 Ln xs) := by
  refine gh_enter (L := [(0, 2, 63)]) true (by decide +kernel) (fun _ => rfl) gh_rt9 (Nat.le_of_ble_eq_true rfl) rfl (fun h q hq => ?_) ?_
  · exact gh_oka (as := [(2, 63)]) (L := [(0, 2, 63)]) rfl h q hq
  refine gh_aload_n gd_Model_init_0 0 rfl (by decide) ?_
  refine gh_obj0 gd_Model_init_1 (by decide) gh_k1364 gh_k153 gh_k154 (Nat.le_of_ble_eq_true rfl) ?_
  refine gh_aload_n gd_Model_init_4 0 rfl (by decide) ?_
  refine gh_sipush gd_Model_init_5 (by decide) (gh_r0 rfl) ?_
  refine gh_newarrO (ov := gh_o145) (ov2 := gh_o146) (κ := 1) (A := 64) (S := 6002) gd_Model_init_8 (by decide) gh_k180 (by decide) (by decide +kernel) (by decide +kernel) (by decide) (by decide +kernel) rfl ?_
  refine gh_putO (ov := gh_o146) (ov2 := gh_o147) (A := 65) (k := 0) gd_Model_init_10 gh_ck12 (by decide +kernel) (by decide +kernel) (by decide) (by decide) gh_k1367 rfl (fun z => by cases z) (Or.inr ⟨rfl, rfl⟩) rfl ?_
  refine gh_aload_n gd_Model_init_13 0 rfl (by decide) ?_
  refine gh_iconst gd_Model_init_14 (gh_r0 rfl) ?_
  refine gh_putO (ov := gh_o147) (ov2 := gh_o148) (A := 65) (k := 3) gd_Model_init_15 gh_ck12 (by decide +kernel) (by decide +kernel) (by decide) (by decide) gh_k1370 rfl (fun z => by cases z) (Or.inl rfl) rfl ?_
  refine gh_aload_n gd_Model_init_18 0 rfl (by decide) ?_
  refine gh_bipush gd_Model_init_19 (by decide) (gh_r0 rfl) ?_
  refine gh_newarrO (ov := gh_o148) (ov2 := gh_o149) (κ := 1) (A := 65) (S := 6242) gd_Model_init_21 (by decide) gh_k180 (by decide) (by decide +kernel) (by decide +kernel) (by decide) (by decide +kernel) rfl ?_
  refine gh_putO (ov := gh_o149) (ov2 := gh_o150) (A := 66) (k := 10) gd_Model_init_23 gh_ck12 (by decide +kernel) (by decide +kernel) (by decide) (by decide) gh_k1377 rfl (fun z => by cases z) (Or.inr ⟨rfl, rfl⟩) rfl ?_
  refine gh_aload_n gd_Model_init_26 0 rfl (by decide) ?_
  refine gh_bipush gd_Model_init_27 (by decide) (gh_r0 rfl) ?_
  refine gh_newarrO (ov := gh_o150) (ov2 := gh_o151) (κ := 1) (A := 66) (S := 6250) gd_Model_init_29 (by decide) gh_k180 (by decide) (by decide +kernel) (by decide +kernel) (by decide) (by decide +kernel) rfl ?_
  refine gh_putO (ov := gh_o151) (ov2 := gh_o152) (A := 67) (k := 12) gd_Model_init_31 gh_ck12 (by decide +kernel) (by decide +kernel) (by decide) (by decide) gh_k1379 rfl (fun z => by cases z) (Or.inr ⟨rfl, rfl⟩) rfl ?_
  refine gh_aload_n gd_Model_init_34 0 rfl (by decide) ?_
  refine gh_bipush gd_Model_init_35 (by decide) (gh_r0 rfl) ?_
  refine gh_newarrO (ov := gh_o152) (ov2 := gh_o153) (κ := 1) (A := 67) (S := 6270) gd_Model_init_37 (by decide) gh_k180 (by decide) (by decide +kernel) (by decide +kernel) (by decide) (by decide +kernel) rfl ?_
  refine gh_putO (ov := gh_o153) (ov2 := gh_o154) (A := 68) (k := 13) gd_Model_init_39 gh_ck12 (by decide +kernel) (by decide +kernel) (by decide) (by decide) gh_k1380 rfl (fun z => by cases z) (Or.inr ⟨rfl, rfl⟩) rfl ?_
  refine gh_aload_n gd_Model_init_42 0 rfl (by decide) ?_
  refine gh_bipush gd_Model_init_43 (by decide) (gh_r0 rfl) ?_
  refine gh_newarrO (ov := gh_o154) (ov2 := gh_o155) (κ := 1) (A := 68) (S := 6290) gd_Model_init_45 (by decide) gh_k180 (by decide) (by decide +kernel) (by decide +kernel) (by decide) (by decide +kernel) rfl ?_
  refine gh_putO (ov := gh_o155) (ov2 := gh_o156) (A := 69) (k := 14) gd_Model_init_47 gh_ck12 (by decide +kernel) (by decide +kernel) (by decide) (by decide) gh_k1381 rfl (fun z => by cases z) (Or.inr ⟨rfl, rfl⟩) rfl ?_
  refine gh_aload_n gd_Model_init_50 0 rfl (by decide) ?_
  refine gh_iconst gd_Model_init_51 (gh_r0 rfl) ?_
  refine gh_newarrO (ov := gh_o156) (ov2 := gh_o157) (κ := 1) (A := 69) (S := 6370) gd_Model_init_52 (by decide) gh_k180 (by decide) (by decide +kernel) (by decide +kernel) (by decide) (by decide +kernel) rfl ?_
  refine gh_putO (ov := gh_o157) (ov2 := gh_o158) (A := 70) (k := 17) gd_Model_init_54 gh_ck12 (by decide +kernel) (by decide +kernel) (by decide) (by decide) gh_k1384 rfl (fun z => by cases z) (Or.inr ⟨rfl, rfl⟩) rfl ?_
  refine gh_aload_n gd_Model_init_57 0 rfl (by decide) ?_
  refine gh_sipush gd_Model_init_58 (by decide) (gh_r0 rfl) ?_
  refine gh_newarrO (ov := gh_o158) (ov2 := gh_o159) (κ := 1) (A := 70) (S := 6374) gd_Model_init_61 (by decide) gh_k180 (by decide) (by decide +kernel) (by decide +kernel) (by decide) (by decide +kernel) rfl ?_
  refine gh_putO (ov := gh_o159) (ov2 := gh_o160) (A := 71) (k := 18) gd_Model_init_63 gh_ck12 (by decide +kernel) (by decide +kernel) (by decide) (by decide) gh_k1385 rfl (fun z => by cases z) (Or.inr ⟨rfl, rfl⟩) rfl ?_
  refine gh_aload_n gd_Model_init_66 0 rfl (by decide) ?_
  refine gh_iconst gd_Model_init_67 (gh_r0 rfl) ?_
  refine gh_newarrO (ov := gh_o160) (ov2 := gh_o161) (κ := 1) (A := 71) (S := 6674) gd_Model_init_68 (by decide) gh_k180 (by decide) (by decide +kernel) (by decide +kernel) (by decide) (by decide +kernel) rfl ?_
  refine gh_putO (ov := gh_o161) (ov2 := gh_o162) (A := 72) (k := 19) gd_Model_init_70 gh_ck12 (by decide +kernel) (by decide +kernel) (by decide) (by decide) gh_k1386 rfl (fun z => by cases z) (Or.inr ⟨rfl, rfl⟩) rfl ?_
  refine gh_aload_n gd_Model_init_73 0 rfl (by decide) ?_
  refine gh_bipush gd_Model_init_74 (by decide) (gh_r0 rfl) ?_
  refine gh_newarrO (ov := gh_o162) (ov2 := gh_o163) (κ := 1) (A := 72) (S := 6678) gd_Model_init_76 (by decide) gh_k180 (by decide) (by decide +kernel) (by decide +kernel) (by decide) (by decide +kernel) rfl ?_
  refine gh_putO (ov := gh_o163) (ov2 := gh_o164) (A := 73) (k := 20) gd_Model_init_78 gh_ck12 (by decide +kernel) (by decide +kernel) (by decide) (by decide) gh_k1387 rfl (fun z => by cases z) (Or.inr ⟨rfl, rfl⟩) rfl ?_
  refine gh_aload_n gd_Model_init_81 0 rfl (by decide) ?_
  refine gh_iconst gd_Model_init_82 (gh_r0 rfl) ?_
  refine gh_newarrO (ov := gh_o164) (ov2 := gh_o165) (κ := 1) (A := 73) (S := 6694) gd_Model_init_83 (by decide) gh_k180 (by decide) (by decide +kernel) (by decide +kernel) (by decide) (by decide +kernel) rfl ?_
  refine gh_putO (ov := gh_o165) (ov2 := gh_o166) (A := 74) (k := 21) gd_Model_init_85 gh_ck12 (by decide +kernel) (by decide +kernel) (by decide) (by decide) gh_k1388 rfl (fun z => by cases z) (Or.inr ⟨rfl, rfl⟩) rfl ?_
  refine gh_aload_n gd_Model_init_88 0 rfl (by decide) ?_
  refine gh_sipush gd_Model_init_89 (by decide) (gh_r0 rfl) ?_
  refine gh_newarrO (ov := gh_o166) (ov2 := gh_o167) (κ := 1) (A := 74) (S := 6698) gd_Model_init_92 (by decide) gh_k180 (by decide) (by decide +kernel) (by decide +kernel) (by decide) (by decide +kernel) rfl ?_
  refine gh_putO (ov := gh_o167) (ov2 := gh_o168) (A := 75) (k := 23) gd_Model_init_94 gh_ck12 (by decide +kernel) (by decide +kernel) (by decide) (by decide) gh_k1390 rfl (fun z => by cases z) (Or.inr ⟨rfl, rfl⟩) rfl ?_
  refine gh_aload_n gd_Model_init_97 0 rfl (by decide) ?_
  refine gh_bipush gd_Model_init_98 (by decide) (gh_r0 rfl) ?_
  refine gh_newarrO (ov := gh_o168) (ov2 := gh_o169) (κ := 1) (A := 75) (S := 6938) gd_Model_init_100 (by decide) gh_k180 (by decide) (by decide +kernel) (by decide +kernel) (by decide) (by decide +kernel) rfl ?_
  refine gh_putO (ov := gh_o169) (ov2 := gh_o170) (A := 76) (k := 28) gd_Model_init_102 gh_ck12 (by decide +kernel) (by decide +kernel) (by decide) (by decide) gh_k1395 rfl (fun z => by cases z) (Or.inr ⟨rfl, rfl⟩) rfl ?_
  refine gh_aload_n gd_Model_init_105 0 rfl (by decide) ?_
  refine gh_bipush gd_Model_init_106 (by decide) (gh_r0 rfl) ?_
  refine gh_newarrO (ov := gh_o170) (ov2 := gh_o171) (κ := 1) (A := 76) (S := 6946) gd_Model_init_108 (by decide) gh_k180 (by decide) (by decide +kernel) (by decide +kernel) (by decide) (by decide +kernel) rfl ?_
  refine gh_putO (ov := gh_o171) (ov2 := gh_o172) (A := 77) (k := 29) gd_Model_init_110 gh_ck12 (by decide +kernel) (by decide +kernel) (by decide) (by decide) gh_k1396 rfl (fun z => by cases z) (Or.inr ⟨rfl, rfl⟩) rfl ?_
  refine gh_aload_n gd_Model_init_113 0 rfl (by decide) ?_
  refine gh_bipush gd_Model_init_114 (by decide) (gh_r0 rfl) ?_
  refine gh_newarrO (ov := gh_o172) (ov2 := gh_o173) (κ := 1) (A := 77) (S := 6970) gd_Model_init_116 (by decide) gh_k180 (by decide) (by decide +kernel) (by decide +kernel) (by decide) (by decide +kernel) rfl ?_
  refine gh_putO (ov := gh_o173) (ov2 := gh_o174) (A := 78) (k := 30) gd_Model_init_118 gh_ck12 (by decide +kernel) (by decide +kernel) (by decide) (by decide) gh_k1397 rfl (fun z => by cases z) (Or.inr ⟨rfl, rfl⟩) rfl ?_
  refine gh_aload_n gd_Model_init_121 0 rfl (by decide) ?_
  refine gh_bipush gd_Model_init_122 (by decide) (gh_r0 rfl) ?_
  refine gh_newarrO (ov := gh_o174) (ov2 := gh_o175) (κ := 1) (A := 78) (S := 6978) gd_Model_init_124 (by decide) gh_k180 (by decide) (by decide +kernel) (by decide +kernel) (by decide) (by decide +kernel) rfl ?_
  refine gh_putO (ov := gh_o175) (ov2 := gh_o176) (A := 79) (k := 31) gd_Model_init_126 gh_ck12 (by decide +kernel) (by decide +kernel) (by decide) (by decide) gh_k1398 rfl (fun z => by cases z) (Or.inr ⟨rfl, rfl⟩) rfl ?_
  refine gh_aload_n gd_Model_init_129 0 rfl (by decide) ?_
  refine gh_bipush gd_Model_init_130 (by decide) (gh_r0 rfl) ?_
  refine gh_newarrO (ov := gh_o176) (ov2 := gh_o177) (κ := 1) (A := 79) (S := 6986) gd_Model_init_132 (by decide) gh_k180 (by decide) (by decide +kernel) (by decide +kernel) (by decide) (by decide +kernel) rfl ?_
  refine gh_putO (ov := gh_o177) (ov2 := gh_o178) (A := 80) (k := 32) gd_Model_init_134 gh_ck12 (by decide +kernel) (by decide +kernel) (by decide) (by decide) gh_k1399 rfl (fun z => by cases z) (Or.inr ⟨rfl, rfl⟩) rfl ?_
  refine gh_aload_n gd_Model_init_137 0 rfl (by decide) ?_
  refine gh_bipush gd_Model_init_138 (by decide) (gh_r0 rfl) ?_
  refine gh_newarrO (ov := gh_o178) (ov2 := gh_o179) (κ := 1) (A := 80) (S := 7006) gd_Model_init_140 (by decide) gh_k180 (by decide) (by decide +kernel) (by decide +kernel) (by decide) (by decide +kernel) rfl ?_
  refine gh_putO (ov := gh_o179) (ov2 := gh_o180) (A := 81) (k := 33) gd_Model_init_142 gh_ck12 (by decide +kernel) (by decide +kernel) (by decide) (by decide) gh_k1400 rfl (fun z => by cases z) (Or.inr ⟨rfl, rfl⟩) rfl ?_
  refine gh_aload_n gd_Model_init_145 0 rfl (by decide) ?_
  refine gh_bipush gd_Model_init_146 (by decide) (gh_r0 rfl) ?_
  refine gh_newarrO (ov := gh_o180) (ov2 := gh_o181) (κ := 1) (A := 81) (S := 7026) gd_Model_init_148 (by decide) gh_k180 (by decide) (by decide +kernel) (by decide +kernel) (by decide) (by decide +kernel) rfl ?_
  refine gh_putO (ov := gh_o181) (ov2 := gh_o182) (A := 82) (k := 34) gd_Model_init_150 gh_ck12 (by decide +kernel) (by decide +kernel) (by decide) (by decide) gh_k1401 rfl (fun z => by cases z) (Or.inr ⟨rfl, rfl⟩) rfl ?_
  refine gh_aload_n gd_Model_init_153 0 rfl (by decide) ?_
  refine gh_bipush gd_Model_init_154 (by decide) (gh_r0 rfl) ?_
  refine gh_newarrO (ov := gh_o182) (ov2 := gh_o183) (κ := 1) (A := 82) (S := 7106) gd_Model_init_156 (by decide) gh_k180 (by decide) (by decide +kernel) (by decide +kernel) (by decide) (by decide +kernel) rfl ?_
  refine gh_putO (ov := gh_o183) (ov2 := gh_o184) (A := 83) (k := 35) gd_Model_init_158 gh_ck12 (by decide +kernel) (by decide +kernel) (by decide) (by decide) gh_k1402 rfl (fun z => by cases z) (Or.inr ⟨rfl, rfl⟩) rfl ?_
  refine gh_aload_n gd_Model_init_161 0 rfl (by decide) ?_
  refine gh_bipush gd_Model_init_162 (by decide) (gh_r0 rfl) ?_
  refine gh_newarrO (ov := gh_o184) (ov2 := gh_o185) (κ := 2) (A := 83) (S := 7114) gd_Model_init_164 (by decide) gh_k1620 (by decide) (by decide +kernel) (by decide +kernel) (by decide) (by decide +kernel) rfl ?_
  refine gh_putO (ov := gh_o185) (ov2 := gh_o186) (A := 84) (k := 36) gd_Model_init_166 gh_ck12 (by decide +kernel) (by decide +kernel) (by decide) (by decide) gh_k1403 rfl (fun z => by cases z) (Or.inr ⟨rfl, rfl⟩) rfl ?_
  refine gh_aload_n gd_Model_init_169 0 rfl (by decide) ?_
  refine gh_bipush gd_Model_init_170 (by decide) (gh_r0 rfl) ?_
  refine gh_newarrO (ov := gh_o186) (ov2 := gh_o187) (κ := 2) (A := 84) (S := 7134) gd_Model_init_172 (by decide) gh_k1620 (by decide) (by decide +kernel) (by decide +kernel) (by decide) (by decide +kernel) rfl ?_
  refine gh_putO (ov := gh_o187) (ov2 := gh_o188) (A := 85) (k := 37) gd_Model_init_174 gh_ck12 (by decide +kernel) (by decide +kernel) (by decide) (by decide) gh_k1404 rfl (fun z => by cases z) (Or.inr ⟨rfl, rfl⟩) rfl ?_
  refine gh_aload_n gd_Model_init_177 0 rfl (by decide) ?_
  refine gh_bipush gd_Model_init_178 (by decide) (gh_r0 rfl) ?_
  refine gh_newarrO (ov := gh_o188) (ov2 := gh_o189) (κ := 2) (A := 85) (S := 7142) gd_Model_init_180 (by decide) gh_k1620 (by decide) (by decide +kernel) (by decide +kernel) (by decide) (by decide +kernel) rfl ?_
  refine gh_putO (ov := gh_o189) (ov2 := gh_o190) (A := 86) (k := 38) gd_Model_init_182 gh_ck12 (by decide +kernel) (by decide +kernel) (by decide) (by decide) gh_k1405 rfl (fun z => by cases z) (Or.inr ⟨rfl, rfl⟩) rfl ?_
  refine gh_aload_n gd_Model_init_185 0 rfl (by decide) ?_
  refine gh_bipush gd_Model_init_186 (by decide) (gh_r0 rfl) ?_
  refine gh_newarrO (ov := gh_o190) (ov2 := gh_o191) (κ := 1) (A := 86) (S := 7150) gd_Model_init_188 (by decide) gh_k180 (by decide) (by decide +kernel) (by decide +kernel) (by decide) (by decide +kernel) rfl ?_
  refine gh_putO (ov := gh_o191) (ov2 := gh_o192) (A := 87) (k := 39) gd_Model_init_190 gh_ck12 (by decide +kernel) (by decide +kernel) (by decide) (by decide) gh_k1406 rfl (fun z => by cases z) (Or.inr ⟨rfl, rfl⟩) rfl ?_
  refine gh_aload_n gd_Model_init_193 0 rfl (by decide) ?_
  refine gh_bipush gd_Model_init_194 (by decide) (gh_r0 rfl) ?_
  refine gh_newarrO (ov := gh_o192) (ov2 := gh_o193) (κ := 1) (A := 87) (S := 7158) gd_Model_init_196 (by decide) gh_k180 (by decide) (by decide +kernel) (by decide +kernel) (by decide) (by decide +kernel) rfl ?_
  refine gh_putO (ov := gh_o193) (ov2 := gh_o194) (A := 88) (k := 40) gd_Model_init_198 gh_ck12 (by decide +kernel) (by decide +kernel) (by decide) (by decide) gh_k1407 rfl (fun z => by cases z) (Or.inr ⟨rfl, rfl⟩) rfl ?_
  refine gh_aload_n gd_Model_init_201 0 rfl (by decide) ?_
  refine gh_bipush gd_Model_init_202 (by decide) (gh_r0 rfl) ?_
  refine gh_newarrO (ov := gh_o194) (ov2 := gh_o195) (κ := 2) (A := 88) (S := 7166) gd_Model_init_204 (by decide) gh_k1620 (by decide) (by decide +kernel) (by decide +kernel) (by decide) (by decide +kernel) rfl ?_
  refine gh_putO (ov := gh_o195) (ov2 := gh_o196) (A := 89) (k := 41) gd_Model_init_206 gh_ck12 (by decide +kernel) (by decide +kernel) (by decide) (by decide) gh_k1408 rfl (fun z => by cases z) (Or.inr ⟨rfl, rfl⟩) rfl ?_
  refine gh_aload_n gd_Model_init_209 0 rfl (by decide) ?_
  refine gh_sipush gd_Model_init_210 (by decide) (gh_r0 rfl) ?_
  refine gh_newarrO (ov := gh_o196) (ov2 := gh_o197) (κ := 1) (A := 89) (S := 7230) gd_Model_init_213 (by decide) gh_k180 (by decide) (by decide +kernel) (by decide +kernel) (by decide) (by decide +kernel) rfl ?_
  refine gh_putO (ov := gh_o197) (ov2 := gh_o198) (A := 90) (k := 43) gd_Model_init_215 gh_ck12 (by decide +kernel) (by decide +kernel) (by decide) (by decide) gh_k1410 rfl (fun z => by cases z) (Or.inr ⟨rfl, rfl⟩) rfl ?_
  refine gh_aload_n gd_Model_init_218 0 rfl (by decide) ?_
  refine gh_sipush gd_Model_init_219 (by decide) (gh_r0 rfl) ?_
  refine gh_newarrO (ov := gh_o198) (ov2 := gh_o199) (κ := 1) (A := 90) (S := 7550) gd_Model_init_222 (by decide) gh_k180 (by decide) (by decide +kernel) (by decide +kernel) (by decide) (by decide +kernel) rfl ?_
  refine gh_putO (ov := gh_o199) (ov2 := gh_o200) (A := 91) (k := 44) gd_Model_init_224 gh_ck12 (by decide +kernel) (by decide +kernel) (by decide) (by decide) gh_k1411 rfl (fun z => by cases z) (Or.inr ⟨rfl, rfl⟩) rfl ?_
  refine gh_aload_n gd_Model_init_227 0 rfl (by decide) ?_
  refine gh_sipush gd_Model_init_228 (by decide) (gh_r0 rfl) ?_
  refine gh_newarrO (ov := gh_o200) (ov2 := gh_o201) (κ := 2) (A := 91) (S := 8830) gd_Model_init_231 (by decide) gh_k1620 (by decide) (by decide +kernel) (by decide +kernel) (by decide) (by decide +kernel) rfl ?_
  refine gh_putO (ov := gh_o201) (ov2 := gh_o202) (A := 92) (k := 45) gd_Model_init_233 gh_ck12 (by decide +kernel) (by decide +kernel) (by decide) (by decide) gh_k1412 rfl (fun z => by cases z) (Or.inr ⟨rfl, rfl⟩) rfl ?_
  refine gh_aload_n gd_Model_init_236 0 rfl (by decide) ?_
  refine gh_sipush gd_Model_init_237 (by decide) (gh_r0 rfl) ?_
  refine gh_newarrO (ov := gh_o202) (ov2 := gh_o203) (κ := 2) (A := 92) (S := 11390) gd_Model_init_240 (by decide) gh_k1620 (by decide) (by decide +kernel) (by decide +kernel) (by decide) (by decide +kernel) rfl ?_
  refine gh_putO (ov := gh_o203) (ov2 := gh_o204) (A := 93) (k := 46) gd_Model_init_242 gh_ck12 (by decide +kernel) (by decide +kernel) (by decide) (by decide) gh_k1413 rfl (fun z => by cases z) (Or.inr ⟨rfl, rfl⟩) rfl ?_
  refine gh_aload_n gd_Model_init_245 0 rfl (by decide) ?_
  refine gh_bipush gd_Model_init_246 (by decide) (gh_r0 rfl) ?_
  refine gh_newarrO (ov := gh_o204) (ov2 := gh_o205) (κ := 2) (A := 93) (S := 13950) gd_Model_init_248 (by decide) gh_k1620 (by decide) (by decide +kernel) (by decide +kernel) (by decide) (by decide +kernel) rfl ?_
  refine gh_putO (ov := gh_o205) (ov2 := gh_o206) (A := 94) (k := 47) gd_Model_init_250 gh_ck12 (by decide +kernel) (by decide +kernel) (by decide) (by decide) gh_k1414 rfl (fun z => by cases z) (Or.inr ⟨rfl, rfl⟩) rfl ?_
  refine gh_aload_n gd_Model_init_253 0 rfl (by decide) ?_
  refine gh_bipush gd_Model_init_254 (by decide) (gh_r0 rfl) ?_
  refine gh_newarrO (ov := gh_o206) (ov2 := gh_o207) (κ := 2) (A := 94) (S := 14014) gd_Model_init_256 (by decide) gh_k1620 (by decide) (by decide +kernel) (by decide +kernel) (by decide) (by decide +kernel) rfl ?_
  refine gh_putO (ov := gh_o207) (ov2 := gh_o208) (A := 95) (k := 48) gd_Model_init_258 gh_ck12 (by decide +kernel) (by decide +kernel) (by decide) (by decide) gh_k1415 rfl (fun z => by cases z) (Or.inr ⟨rfl, rfl⟩) rfl ?_
  refine gh_aload_n gd_Model_init_261 0 rfl (by decide) ?_
  refine gh_bipush gd_Model_init_262 (by decide) (gh_r0 rfl) ?_
  refine gh_newarrO (ov := gh_o208) (ov2 := gh_o209) (κ := 2) (A := 95) (S := 14022) gd_Model_init_264 (by decide) gh_k1620 (by decide) (by decide +kernel) (by decide +kernel) (by decide) (by decide +kernel) rfl ?_
  refine gh_putO (ov := gh_o209) (ov2 := gh_o210) (A := 96) (k := 49) gd_Model_init_266 gh_ck12 (by decide +kernel) (by decide +kernel) (by decide) (by decide) gh_k1416 rfl (fun z => by cases z) (Or.inr ⟨rfl, rfl⟩) rfl ?_
  refine gh_aload_n gd_Model_init_269 0 rfl (by decide) ?_
  refine gh_bipush gd_Model_init_270 (by decide) (gh_r0 rfl) ?_
  refine gh_newarrO (ov := gh_o210) (ov2 := gh_o211) (κ := 1) (A := 96) (S := 14030) gd_Model_init_272 (by decide) gh_k180 (by decide) (by decide +kernel) (by decide +kernel) (by decide) (by decide +kernel) rfl ?_
  refine gh_putO (ov := gh_o211) (ov2 := gh_o212) (A := 97) (k := 51) gd_Model_init_274 gh_ck12 (by decide +kernel) (by decide +kernel) (by decide) (by decide) gh_k1418 rfl (fun z => by cases z) (Or.inr ⟨rfl, rfl⟩) rfl ?_
  refine gh_aload_n gd_Model_init_277 0 rfl (by decide) ?_
  refine gh_sipush gd_Model_init_278 (by decide) (gh_r0 rfl) ?_
  refine gh_newarrO (ov := gh_o212) (ov2 := gh_o213) (κ := 2) (A := 97) (S := 14038) gd_Model_init_281 (by decide) gh_k1620 (by decide) (by decide +kernel) (by decide +kernel) (by decide) (by decide +kernel) rfl ?_
  refine gh_putO (ov := gh_o213) (ov2 := gh_o214) (A := 98) (k := 53) gd_Model_init_283 gh_ck12 (by decide +kernel) (by decide +kernel) (by decide) (by decide) gh_k1420 rfl (fun z => by cases z) (Or.inr ⟨rfl, rfl⟩) rfl ?_
  refine gh_aload_n gd_Model_init_286 0 rfl (by decide) ?_
  refine gh_sipush gd_Model_init_287 (by decide) (gh_r0 rfl) ?_
  refine gh_newarrO (ov := gh_o214) (ov2 := gh_o215) (κ := 2) (A := 98) (S := 14686) gd_Model_init_290 (by decide) gh_k1620 (by decide) (by decide +kernel) (by decide +kernel) (by decide) (by decide +kernel) rfl ?_
  refine gh_putO (ov := gh_o215) (ov2 := gh_o216) (A := 99) (k := 54) gd_Model_init_292 gh_ck12 (by decide +kernel) (by decide +kernel) (by decide) (by decide) gh_k1421 rfl (fun z => by cases z) (Or.inr ⟨rfl, rfl⟩) rfl ?_
  refine gh_aload_n gd_Model_init_295 0 rfl (by decide) ?_
  refine gh_bipush gd_Model_init_296 (by decide) (gh_r0 rfl) ?_
  refine gh_newarrO (ov := gh_o216) (ov2 := gh_o217) (κ := 2) (A := 99) (S := 22786) gd_Model_init_298 (by decide) gh_k1620 (by decide) (by decide +kernel) (by decide +kernel) (by decide) (by decide +kernel) rfl ?_
  refine gh_putO (ov := gh_o217) (ov2 := gh_o218) (A := 100) (k := 55) gd_Model_init_300 gh_ck12 (by decide +kernel) (by decide +kernel) (by decide) (by decide) gh_k1422 rfl (fun z => by cases z) (Or.inr ⟨rfl, rfl⟩) rfl ?_
  refine gh_aload_n gd_Model_init_303 0 rfl (by decide) ?_
  refine gh_bipush gd_Model_init_304 (by decide) (gh_r0 rfl) ?_
  refine gh_newarrO (ov := gh_o218) (ov2 := gh_o219) (κ := 2) (A := 100) (S := 22858) gd_Model_init_306 (by decide) gh_k1620 (by decide) (by decide +kernel) (by decide +kernel) (by decide) (by decide +kernel) rfl ?_
  refine gh_putO (ov := gh_o219) (ov2 := gh_o220) (A := 101) (k := 56) gd_Model_init_308 gh_ck12 (by decide +kernel) (by decide +kernel) (by decide) (by decide) gh_k1423 rfl (fun z => by cases z) (Or.inr ⟨rfl, rfl⟩) rfl ?_
  refine gh_aload_n gd_Model_init_311 0 rfl (by decide) ?_
  refine gh_bipush gd_Model_init_312 (by decide) (gh_r0 rfl) ?_
  refine gh_newarrO (ov := gh_o220) (ov2 := gh_o221) (κ := 1) (A := 101) (S := 22930) gd_Model_init_314 (by decide) gh_k180 (by decide) (by decide +kernel) (by decide +kernel) (by decide) (by decide +kernel) rfl ?_
  refine gh_putO (ov := gh_o221) (ov2 := gh_o222) (A := 102) (k := 57) gd_Model_init_316 gh_ck12 (by decide +kernel) (by decide +kernel) (by decide) (by decide) gh_k1424 rfl (fun z => by cases z) (Or.inr ⟨rfl, rfl⟩) rfl ?_
  refine gh_aload_n gd_Model_init_319 0 rfl (by decide) ?_
  refine gh_sipush gd_Model_init_320 (by decide) (gh_r0 rfl) ?_
  refine gh_newarrO (ov := gh_o222) (ov2 := gh_o223) (κ := 1) (A := 102) (S := 23002) gd_Model_init_323 (by decide) gh_k180 (by decide) (by decide +kernel) (by decide +kernel) (by decide) (by decide +kernel) rfl ?_
  refine gh_putO (ov := gh_o223) (ov2 := gh_o224) (A := 103) (k := 58) gd_Model_init_325 gh_ck12 (by decide +kernel) (by decide +kernel) (by decide) (by decide) gh_k1425 rfl (fun z => by cases z) (Or.inr ⟨rfl, rfl⟩) rfl ?_
  refine gh_aload_n gd_Model_init_328 0 rfl (by decide) ?_
  refine gh_sipush gd_Model_init_329 (by decide) (gh_r0 rfl) ?_
  refine gh_newarrO (ov := gh_o224) (ov2 := gh_o225) (κ := 1) (A := 103) (S := 23650) gd_Model_init_332 (by decide) gh_k180 (by decide) (by decide +kernel) (by decide +kernel) (by decide) (by decide +kernel) rfl ?_
  refine gh_putO (ov := gh_o225) (ov2 := gh_o226) (A := 104) (k := 59) gd_Model_init_334 gh_ck12 (by decide +kernel) (by decide +kernel) (by decide) (by decide) gh_k1426 rfl (fun z => by cases z) (Or.inr ⟨rfl, rfl⟩) rfl ?_
  refine gh_aload_n gd_Model_init_337 0 rfl (by decide) ?_
  refine gh_sipush gd_Model_init_338 (by decide) (gh_r0 rfl) ?_
  refine gh_newarrO (ov := gh_o226) (ov2 := gh_o227) (κ := 2) (A := 104) (S := 31750) gd_Model_init_341 (by decide) gh_k1620 (by decide) (by decide +kernel) (by decide +kernel) (by decide) (by decide +kernel) rfl ?_
  refine gh_putO (ov := gh_o227) (ov2 := gh_o228) (A := 105) (k := 60) gd_Model_init_343 gh_ck12 (by decide +kernel) (by decide +kernel) (by decide) (by decide) gh_k1427 rfl (fun z => by cases z) (Or.inr ⟨rfl, rfl⟩) rfl ?_
  refine gh_aload_n gd_Model_init_346 0 rfl (by decide) ?_
  refine gh_ldc (n := 165888) gd_Model_init_347 gh_k1365 (by decide) (gh_r0 rfl) ?_
  refine gh_newarrO (ov := gh_o228) (ov2 := gh_o229) (κ := 3) (A := 105) (S := 32398) gd_Model_init_349 (by decide) gh_k524 (by decide) (by decide +kernel) (by decide +kernel) (by decide) (by decide +kernel) rfl ?_
  refine gh_putO (ov := gh_o229) (ov2 := gh_o230) (A := 106) (k := 62) gd_Model_init_351 gh_ck12 (by decide +kernel) (by decide +kernel) (by decide) (by decide) gh_k1429 rfl (fun z => by cases z) (Or.inr ⟨rfl, rfl⟩) rfl ?_
  refine gh_aload_n gd_Model_init_354 0 rfl (by decide) ?_
  refine gh_ldc (n := 165888) gd_Model_init_355 gh_k1365 (by decide) (gh_r0 rfl) ?_
  refine gh_newarrO (ov := gh_o230) (ov2 := gh_o231) (κ := 1) (A := 106) (S := 198286) gd_Model_init_357 (by decide) gh_k180 (by decide) (by decide +kernel) (by decide +kernel) (by decide) (by decide +kernel) rfl ?_
  refine gh_putO (ov := gh_o231) (ov2 := gh_o232) (A := 107) (k := 63) gd_Model_init_359 gh_ck12 (by decide +kernel) (by decide +kernel) (by decide) (by decide) gh_k1430 rfl (fun z => by cases z) (Or.inr ⟨rfl, rfl⟩) rfl ?_
  refine gh_aload_n gd_Model_init_362 0 rfl (by decide) ?_
  refine gh_ldc (n := 60000) gd_Model_init_363 gh_k1366 (by decide) (gh_r0 rfl) ?_
  refine gh_newarrO (ov := gh_o232) (ov2 := gh_o233) (κ := 1) (A := 107) (S := 364174) gd_Model_init_365 (by decide) gh_k180 (by decide) (by decide +kernel) (by decide +kernel) (by decide) (by decide +kernel) rfl ?_
  refine gh_putO (ov := gh_o233) (ov2 := gh_o234) (A := 108) (k := 65) gd_Model_init_367 gh_ck12 (by decide +kernel) (by decide +kernel) (by decide) (by decide) gh_k1432 rfl (fun z => by cases z) (Or.inr ⟨rfl, rfl⟩) rfl ?_
  refine gh_aload_n gd_Model_init_370 0 rfl (by decide) ?_
  refine gh_bipush gd_Model_init_371 (by decide) (gh_r0 rfl) ?_
  refine gh_newarrO (ov := gh_o234) (ov2 := gh_o235) (κ := 3) (A := 108) (S := 424174) gd_Model_init_373 (by decide) gh_k524 (by decide) (by decide +kernel) (by decide +kernel) (by decide) (by decide +kernel) rfl ?_
  refine gh_putO (ov := gh_o235) (ov2 := gh_o236) (A := 109) (k := 67) gd_Model_init_375 gh_ck12 (by decide +kernel) (by decide +kernel) (by decide) (by decide) gh_k1434 rfl (fun z => by cases z) (Or.inr ⟨rfl, rfl⟩) rfl ?_
  refine gh_aload_n gd_Model_init_378 0 rfl (by decide) ?_
  refine gh_sipush gd_Model_init_379 (by decide) (gh_r0 rfl) ?_
  refine gh_newarrO (ov := gh_o236) (ov2 := gh_o237) (κ := 1) (A := 109) (S := 424219) gd_Model_init_382 (by decide) gh_k180 (by decide) (by decide +kernel) (by decide +kernel) (by decide) (by decide +kernel) rfl ?_
  refine gh_putO (ov := gh_o237) (ov2 := gh_o238) (A := 110) (k := 69) gd_Model_init_384 gh_ck12 (by decide +kernel) (by decide +kernel) (by decide) (by decide) gh_k1436 rfl (fun z => by cases z) (Or.inr ⟨rfl, rfl⟩) rfl ?_
  refine gh_aload_n gd_Model_init_387 0 rfl (by decide) ?_
  refine gh_sipush gd_Model_init_388 (by decide) (gh_r0 rfl) ?_
  refine gh_newarrO (ov := gh_o238) (ov2 := gh_o239) (κ := 1) (A := 110) (S := 424519) gd_Model_init_391 (by decide) gh_k180 (by decide) (by decide +kernel) (by decide +kernel) (by decide) (by decide +kernel) rfl ?_
  refine gh_putO (ov := gh_o239) (ov2 := gh_o240) (A := 111) (k := 72) gd_Model_init_393 gh_ck12 (by decide +kernel) (by decide +kernel) (by decide) (by decide) gh_k1439 rfl (fun z => by cases z) (Or.inr ⟨rfl, rfl⟩) rfl ?_
  refine gh_aload_n gd_Model_init_396 0 rfl (by decide) ?_
  refine gh_sipush gd_Model_init_397 (by decide) (gh_r0 rfl) ?_
  refine gh_newarrO (ov := gh_o240) (ov2 := gh_o241) (κ := 1) (A := 111) (S := 424819) gd_Model_init_400 (by decide) gh_k180 (by decide) (by decide +kernel) (by decide +kernel) (by decide) (by decide +kernel) rfl ?_
  refine gh_putO (ov := gh_o241) (ov2 := gh_o242) (A := 112) (k := 74) gd_Model_init_402 gh_ck12 (by decide +kernel) (by decide +kernel) (by decide) (by decide) gh_k1441 rfl (fun z => by cases z) (Or.inr ⟨rfl, rfl⟩) rfl ?_
  refine gh_aload_n gd_Model_init_405 0 rfl (by decide) ?_
  refine gh_sipush gd_Model_init_406 (by decide) (gh_r0 rfl) ?_
  refine gh_newarrO (ov := gh_o242) (ov2 := gh_o243) (κ := 1) (A := 112) (S := 426119) gd_Model_init_409 (by decide) gh_k180 (by decide) (by decide +kernel) (by decide +kernel) (by decide) (by decide +kernel) rfl ?_
  refine gh_putO (ov := gh_o243) (ov2 := gh_o244) (A := 113) (k := 75) gd_Model_init_411 gh_ck12 (by decide +kernel) (by decide +kernel) (by decide) (by decide) gh_k1442 rfl (fun z => by cases z) (Or.inr ⟨rfl, rfl⟩) rfl ?_
  refine gh_aload_n gd_Model_init_414 0 rfl (by decide) ?_
  refine gh_sipush gd_Model_init_415 (by decide) (gh_r0 rfl) ?_
  refine gh_newarrO (ov := gh_o244) (ov2 := gh_o245) (κ := 1) (A := 113) (S := 427419) gd_Model_init_418 (by decide) gh_k180 (by decide) (by decide +kernel) (by decide +kernel) (by decide) (by decide +kernel) rfl ?_
  refine gh_putO (ov := gh_o245) (ov2 := gh_o246) (A := 114) (k := 76) gd_Model_init_420 gh_ck12 (by decide +kernel) (by decide +kernel) (by decide) (by decide) gh_k1443 rfl (fun z => by cases z) (Or.inr ⟨rfl, rfl⟩) rfl ?_
  refine gh_aload_n gd_Model_init_423 0 rfl (by decide) ?_
  refine gh_sipush gd_Model_init_424 (by decide) (gh_r0 rfl) ?_
  refine gh_newarrO (ov := gh_o246) (ov2 := gh_o247) (κ := 1) (A := 114) (S := 428719) gd_Model_init_427 (by decide) gh_k180 (by decide) (by decide +kernel) (by decide +kernel) (by decide) (by decide +kernel) rfl ?_
  refine gh_putO (ov := gh_o247) (ov2 := gh_o248) (A := 115) (k := 77) gd_Model_init_429 gh_ck12 (by decide +kernel) (by decide +kernel) (by decide) (by decide) gh_k1444 rfl (fun z => by cases z) (Or.inr ⟨rfl, rfl⟩) rfl ?_
  refine gh_aload_n gd_Model_init_432 0 rfl (by decide) ?_
  refine gh_sipush gd_Model_init_433 (by decide) (gh_r0 rfl) ?_
  refine gh_newarrO (ov := gh_o248) (ov2 := gh_o249) (κ := 1) (A := 115) (S := 430019) gd_Model_init_436 (by decide) gh_k180 (by decide) (by decide +kernel) (by decide +kernel) (by decide) (by decide +kernel) rfl ?_
  refine gh_putO (ov := gh_o249) (ov2 := gh_o250) (A := 116) (k := 78) gd_Model_init_438 gh_ck12 (by decide +kernel) (by decide +kernel) (by decide) (by decide) gh_k1445 rfl (fun z => by cases z) (Or.inr ⟨rfl, rfl⟩) rfl ?_
  refine gh_aload_n gd_Model_init_441 0 rfl (by decide) ?_
  refine gh_sipush gd_Model_init_442 (by decide) (gh_r0 rfl) ?_
  refine gh_newarrO (ov := gh_o250) (ov2 := gh_o251) (κ := 3) (A := 116) (S := 431319) gd_Model_init_445 (by decide) gh_k524 (by decide) (by decide +kernel) (by decide +kernel) (by decide) (by decide +kernel) rfl ?_
  refine gh_putO (ov := gh_o251) (ov2 := gh_o252) (A := 117) (k := 79) gd_Model_init_447 gh_ck12 (by decide +kernel) (by decide +kernel) (by decide) (by decide) gh_k1446 rfl (fun z => by cases z) (Or.inr ⟨rfl, rfl⟩) rfl ?_
  refine gh_aload_n gd_Model_init_450 0 rfl (by decide) ?_
  refine gh_sipush gd_Model_init_451 (by decide) (gh_r0 rfl) ?_
  refine gh_newarrO (ov := gh_o252) (ov2 := gh_o253) (κ := 1) (A := 117) (S := 432619) gd_Model_init_454 (by decide) gh_k180 (by decide) (by decide +kernel) (by decide +kernel) (by decide) (by decide +kernel) rfl ?_
  refine gh_putO (ov := gh_o253) (ov2 := gh_o254) (A := 118) (k := 81) gd_Model_init_456 gh_ck12 (by decide +kernel) (by decide +kernel) (by decide) (by decide) gh_k1448 rfl (fun z => by cases z) (Or.inr ⟨rfl, rfl⟩) rfl ?_
  exact gh_ret9 rfl gd_Model_init_459 rfl
theorem gc_law {E : gh_E} {Ln : Nat} {xs : Nat → Int32} {Q : Int → gh_M → Prop} (d : Nat) (kk : gh_T E gh_MLaw (d + 4) 16 [(2, 2, 63), (1, 2, 2), (0, 2, 1)] [] (gh_ov gh_o254 Ln xs) Q) : gh_T E gh_MLaw (d + 4) 0 [(0, 2, 1)] [] (gh_m0 Ln xs) Q := by
  have e0 : gh_m0 Ln xs = gh_ov gh_o0 Ln xs := by
    funext a i
    by_cases h : (0 : Int) = a ∧ (0 : Int) = i
    · rw [← h.1, ← h.2]; rfl
    · by_cases h2 : (0 : Int) = a ∧ (1 : Int) = i
      · rw [← h2.1, ← h2.2]; rfl
      · refine (gh_ov_n ?_).symm
        unfold gh_o0
        rw [gh_lk_f h, gh_lk_f h2]; rfl
  rw [e0]
  refine gh_newO (ov := gh_o0) (ov2 := gh_o1) (A := 2) (S := 0) gd_Law_law_0 gh_ck11 gh_k147 gh_k148 gh_k130 (by decide) (by decide +kernel) (by decide +kernel) (by decide) (by decide +kernel) rfl ?_
  refine gh_dup gd_Law_law_3 (by decide) ?_
  refine gh_callI (d := d + 3) (n := 0) (y := gh_yHouse_init) (as := []) gd_Law_law_4 (by decide) gh_k151 gh_k130 gh_k149 gh_k150 rfl ⟨by decide, by decide, by decide +kernel⟩ rfl (by decide) (Nat.le_of_ble_eq_true rfl) ((gc_House_init (d)).mono (fun r m1 hq => ?_))
  subst hq
  refine gh_astore_n (L2 := [(1, 2, 2), (0, 2, 1)]) gd_Law_law_7 (by decide) (by decide) rfl ?_
  refine gh_newO (ov := gh_o144) (ov2 := gh_o145) (A := 63) (S := 5918) gd_Law_law_8 gh_ck12 gh_k1359 gh_k1360 gh_k142 (by decide) (by decide +kernel) (by decide +kernel) (by decide) (by decide +kernel) rfl ?_
  refine gh_dup gd_Law_law_11 (by decide) ?_
  refine gh_callI (d := d + 3) (n := 0) (y := gh_yModel_init) (as := []) gd_Law_law_12 (by decide) gh_k1363 gh_k142 gh_k1361 gh_k1362 rfl ⟨by decide, by decide, by decide +kernel⟩ rfl (by decide) (Nat.le_of_ble_eq_true rfl) ((gc_Model_init (d + 2)).mono (fun r m1 hq => ?_))
  subst hq
  refine gh_astore_n (L2 := [(2, 2, 63), (1, 2, 2), (0, 2, 1)]) gd_Law_law_15 (by decide) (by decide) rfl ?_
  exact kk
theorem gh_oF {Ln : Nat} {xs : Nat → Int32} : gh_F (gh_ov gh_o254 Ln xs) := by
  have h : gh_fix.all (fun e => gh_lk gh_o254 e.1 e.2.1 == some e.2.2) = true := by decide +kernel
  refine ⟨fun e he => gh_ov_s (by simpa using List.all_eq_true.mp h e he), ?_⟩
  rw [gh_ov_s (show gh_lk gh_o254 0 1 = some 118 by decide +kernel)]
  omega
