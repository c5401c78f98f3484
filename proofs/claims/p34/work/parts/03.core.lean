/-! THE MEMORY AS NUMBERS. A memory is a function of two numbers: the cell, the place in it. Cell 0 tells the shapes: at 2k the kind of cell k, at 2k+1 its length; at 1 how many cells there are, at 0 how many places in all. Cell 1 is the script. Kinds: 1 int[], 2 boolean[], 3 long[], 10+c an object. A reference is the number of its cell, 0: none. -/
def gh_tb : List Cond := lw_tbl.filter goodWord
theorem gh_tb_good {y : MethodName} {cc : ByteArray} {n : Nat} {ret : Option FieldType} (h : Cond.code y cc n ret ∈ gh_tb) : GoodIn gh_tb (Cond.code y cc n ret :: gh_tb) := by
  intro w hw
  have hm : w ∈ gh_tb := by
    rcases List.mem_cons.mp hw with h2 | h2
    · rw [h2]; exact h
    · exact h2
  exact ⟨hm, good_of_word (List.mem_filter.mp hm).2⟩
def gh_nw : List Cond := [.methodLinkNest "GrammarHouse" 11 ⟨"GrammarHouse$Tape", "<init>", "()V"⟩ "GrammarHouse", .methodLinkNest "GrammarHouse$Reader" 11 ⟨"GrammarHouse$Draft", "<init>", "()V"⟩ "GrammarHouse", .methodLinkNest "GrammarHouse" 27 ⟨"GrammarHouse$Grammar", "<init>", "()V"⟩ "GrammarHouse", .methodLinkNest "GrammarHouse$Picker" 111 ⟨"GrammarHouse$Forest", "countByRule", "(IIIII)J"⟩ "GrammarHouse", .methodLinkNest "GrammarHouse$Picker" 125 ⟨"GrammarHouse$Forest", "countOfPart", "(IIIIIII)J"⟩ "GrammarHouse"]
theorem gh_nw_is {w : Cond} (hw : w ∈ gh_nw) : ∃ (a : String) (i : Nat) (x : MethodName) (h : String), w = .methodLinkNest a i x h := by
  unfold gh_nw at hw
  simp only [List.mem_cons, List.not_mem_nil, or_false] at hw
  rcases hw with h | h | h | h | h <;> exact ⟨_, _, _, _, h⟩
abbrev gh_M : Type := Int → Int → Int
abbrev gh_E : Type := Launch × va_G × (Int → ClassId) × Nat × Nat × Bool
/-- behind the constructors the cells are numbered anew: the class 2 .. 62, the law's own arrays 63 .. 65 -/
def gh_pi (v : Int) : Int := if v < 63 then v + 1 else if v < 66 then v - 63 else v - 2
/-- then there are these cells already -/
def gh_fl (E : gh_E) (n : Int) : Prop := E.2.2.2.2.2 = true → 66 ≤ n
def gh_ad (E : gh_E) (v : Int) : Nat := if v = 1 then E.2.2.2.1 else E.2.2.2.2.1 + (if E.2.2.2.2.2 = true then gh_pi v else v - 2).toNat
def gh_cv (E : gh_E) (t v : Int) : Value := if t = 0 then .int (Int32.ofInt v) else if t = 1 then .long (Int64.ofInt v) else if v = 0 then .null else .ref (gh_ad E v)
def gh_ok (t v : Int) : Prop := if t = 0 then -2147483648 ≤ v ∧ v < 2147483648 else if t = 1 then -9223372036854775808 ≤ v ∧ v < 9223372036854775808 else True
def gh_tF (t : FieldType) : Int := match t with | .long => 1 | .object _ => 2 | .array _ => 2 | _ => 0
def gh_tg (κ j : Int) : Int := if κ = 1 then 0 else if κ = 2 then 0 else if κ = 3 then 1 else gh_tF (gh_ft (κ - 10).toNat j.toNat)
def gh_cell (E : gh_E) (m : gh_M) (k : Int) (H : Heap) : Prop :=
  if m 0 (2 * k) < 10 then H[gh_ad E k]? = some (arrV (E.2.2.1 (m 0 (2 * k))) (m 0 (2 * k + 1)).toNat (fun j => gh_cv E (gh_tg (m 0 (2 * k)) 0) (m k j)))
  else ∃ q : vw_C, gh_cl[(m 0 (2 * k) - 10).toNat]? = some q ∧ t_OB (gh_ad E k) (E.2.1.1 (m 0 (2 * k) - 10).toNat) q.2.2 (E.2.1.2 (m 0 (2 * k) - 10).toNat) H (fun j => gh_cv E (gh_tg (m 0 (2 * k)) j) (m k j))
def gh_R (E : gh_E) (m : gh_M) (U : State) (H : Heap) : Prop :=
  (∀ k, 2 ≤ k → k < m 0 1 → gh_cell E m k H) ∧ H.size = E.2.2.2.2.1 + (m 0 1 - 2).toNat ∧
  (E.2.2.2.1 < E.2.2.2.2.1 ∧ gh_fl E (m 0 1)) ∧ va_X E.2.2.2.1 (m 0 3).toNat (fun j => Int32.ofInt (m 1 j)) U H
def gh_tys (E : gh_E) : List (ClassId × FieldType) := [(E.2.2.1 1, .int), (E.2.2.1 3, .long)]
def gh_K (E : gh_E) (U : State) : Prop := va_K E.2.1 gh_cl (gh_tys E) U ∧ ∀ w ∈ gh_nw, va_Nw w U
abbrev gh_Ls : Type := List (Nat × Int × Int)
abbrev gh_St : Type := List (Int × Int)
def gh_lc (E : gh_E) (L : gh_Ls) : List (Nat × Value) := L.map fun q => (q.1, gh_cv E q.2.1 q.2.2)
def gh_sc (E : gh_E) (st : gh_St) : List Value := st.map fun q => gh_cv E q.1 q.2
/-- a memory's numbers are in their ranges -/
def gh_Mok (m : gh_M) : Prop :=
  (∀ k j, 1 ≤ k → k < m 0 1 → 0 ≤ j → j < m 0 (2 * k + 1) → gh_ok (gh_tg (m 0 (2 * k)) j) (m k j)) ∧
  (∀ k, 1 ≤ k → k < m 0 1 → 0 ≤ m 0 (2 * k + 1) ∧ m 0 (2 * k + 1) < 2147483648) ∧ 2 ≤ m 0 1 ∧ 0 ≤ m 0 0 ∧ m 0 2 = 1
def gh_P (m : gh_M) (L : gh_Ls) (st : gh_St) : Prop := gh_Mok m ∧ (∀ q ∈ L, gh_ok q.2.1 q.2.2) ∧ ∀ q ∈ st, gh_ok q.1 q.2
def gh_At (E : gh_E) (nL : Nat) (m : gh_M) (s : State) (H : Heap) (locs : List Loc) (ls : Array Slot) (L : gh_Ls) : Prop :=
  gh_R E m s H ∧ va_S (fun q => E.2.2.2.2.1 ≤ q) s.heap H locs ∧ lv_has ls nL (gh_lc E L)
/-- a method's own: its holder, its code, how many locals, whether it is a constructor, what it answers (0 int, 1 long, 8 boolean, 9 nothing) -/
abbrev gh_I : Type := String × ByteArray × Nat × Bool × Int
def gh_En (E : gh_E) (M : gh_I) (d : Nat) (p : Program) (R : Room) (s : State) (mt : MethodId) (args : Array Value) (meth : Method) (c : Code) : Prop :=
  p.tables.exec = Jvm.exec ∧ c.code = M.2.1 ∧ c.maxLocals = M.2.2.1 ∧ s.vm.findClass M.1 = some mt.cls ∧ (∀ w ∈ gh_tb, w.before args s = true) ∧ (M.2.2.2.1 = true → meth.name = "<init>") ∧ d ≤ R.frames ∧ 60 * d ≤ R.locals ∧ gh_K E s
def gh_rs (M : gh_I) (r : Int) : gh_St := if M.2.2.2.2 = 9 then [] else if M.2.2.2.2 = 1 then [(1, r)] else [(0, r)]
def gh_rd (M : gh_I) (pc : Nat) : Prop := decode M.2.1 pc = .ok (if M.2.2.2.2 = 9 then .return_ else if M.2.2.2.2 = 1 then .lreturn else .ireturn, 1)
/-- from this place in the method, with d calls left, it comes to its end with an answer and a memory of which Q holds -/
def gh_T (E : gh_E) (M : gh_I) (d : Nat) (pc : Nat) (L : gh_Ls) (st : gh_St) (m : gh_M) (Q : Int → gh_M → Prop) : Prop :=
  gh_P m L st → ∃ (r : Int) (m' : gh_M), Q r m' ∧ m 0 0 ≤ m' 0 0 ∧ m 0 1 ≤ m' 0 1 ∧ (M.2.2.2.2 = 8 → r = 0 ∨ r = 1) ∧ gh_P m' [] (gh_rs M r) ∧
    ∀ (p : Program) (e : Env) (R : Room) (s : State) (mt : MethodId) (args : Array Value) (below : List Frame) (meth : Method) (c : Code), gh_En E M d p R s mt args meth c →
    ∀ (H : Heap) (locs : List Loc) (cells slots : Nat) (ls : Array Slot) (Qs : State → Prop), gh_At E M.2.2.1 m s H locs ls L →
      cells + (m' 0 1 - m 0 1).toNat ≤ R.cells → slots + (m' 0 0 - m 0 0).toNat ≤ R.slots →
      (∀ (H' : Heap) (locs' : List Loc) (ls' : Array Slot) (pc' : Nat), gh_At E M.2.2.1 m' s H' locs' ls' [] → gh_rd M pc' →
        W p E.1 e R s mt args below meth c H' locs' (cells + (m' 0 1 - m 0 1).toNat) (slots + (m' 0 0 - m 0 0).toNat) Qs (F0 mt pc' ls' (gh_sc E (gh_rs M r)))) →
      W p E.1 e R s mt args below meth c H locs cells slots Qs (F0 mt pc ls (gh_sc E st))
theorem gh_T.mono {E : gh_E} {M : gh_I} {d pc : Nat} {L : gh_Ls} {st : gh_St} {m : gh_M} {Q Q' : Int → gh_M → Prop} (h : gh_T E M d pc L st m Q) (hq : ∀ r m', Q r m' → Q' r m') : gh_T E M d pc L st m Q' := by
  intro hp
  obtain ⟨r, m', h1, h2⟩ := h hp
  exact ⟨r, m', hq _ _ h1, h2⟩
section G1
variable {E : gh_E} {M : gh_I} {d pc pc2 : Nat} {L L2 : gh_Ls} {st st2 : gh_St} {m : gh_M} {Q : Int → gh_M → Prop}
/-- one instruction that leaves the memory as it is -/
theorem gh_pure (k : gh_T E M d pc2 L2 st2 m Q) (hp2 : gh_P m L st → gh_P m L2 st2) (h : gh_P m L st → ∀ (p : Program) (e : Env) (R : Room) (s : State) (mt : MethodId) (args : Array Value) (below : List Frame) (meth : Method) (c : Code), gh_En E M d p R s mt args meth c →
    ∀ (H : Heap) (locs : List Loc) (cells slots : Nat) (ls : Array Slot) (Qs : State → Prop), gh_At E M.2.2.1 m s H locs ls L →
      (∀ ls2 : Array Slot, gh_At E M.2.2.1 m s H locs ls2 L2 → W p E.1 e R s mt args below meth c H locs cells slots Qs (F0 mt pc2 ls2 (gh_sc E st2))) → W p E.1 e R s mt args below meth c H locs cells slots Qs (F0 mt pc ls (gh_sc E st))) : gh_T E M d pc L st m Q := by
  intro hp
  obtain ⟨r, m', h1, h2, h3, h4, h6, h5⟩ := k (hp2 hp)
  refine ⟨r, m', h1, h2, h3, h4, h6, fun p e R s mt args below meth c hE H locs cells slots ls Qs hA hc hs K => ?_⟩
  exact h hp p e R s mt args below meth c hE H locs cells slots ls Qs hA (fun ls2 hA2 => h5 p e R s mt args below meth c hE H locs cells slots ls2 Qs hA2 hc hs K)
/-- one instruction that goes one of two ways -/
theorem gh_fork {c0 : Prop} {pcA pcB : Nat} (kt : c0 → gh_T E M d pcA L st2 m Q) (kf : ¬ c0 → gh_T E M d pcB L st2 m Q) (hp2 : gh_P m L st → gh_P m L st2) (h : gh_P m L st → ∀ (p : Program) (e : Env) (R : Room) (s : State) (mt : MethodId) (args : Array Value) (below : List Frame) (meth : Method) (c : Code), gh_En E M d p R s mt args meth c →
    ∀ (H : Heap) (locs : List Loc) (cells slots : Nat) (ls : Array Slot) (Qs : State → Prop), gh_At E M.2.2.1 m s H locs ls L → gh_At E M.2.2.1 m s H locs ls L ∧
      ((c0 → W p E.1 e R s mt args below meth c H locs cells slots Qs (F0 mt pcA ls (gh_sc E st2))) → (¬ c0 → W p E.1 e R s mt args below meth c H locs cells slots Qs (F0 mt pcB ls (gh_sc E st2))) → W p E.1 e R s mt args below meth c H locs cells slots Qs (F0 mt pc ls (gh_sc E st)))) : gh_T E M d pc L st m Q := by
  by_cases q : c0
  · exact gh_pure (kt q) hp2 (fun hp p e R s mt args below meth c hE H locs cells slots ls Qs hA k => (h hp p e R s mt args below meth c hE H locs cells slots ls Qs hA).2 (fun _ => k ls hA) (fun n => absurd q n))
  · exact gh_pure (kf q) hp2 (fun hp p e R s mt args below meth c hE H locs cells slots ls Qs hA k => (h hp p e R s mt args below meth c hE H locs cells slots ls Qs hA).2 (fun n => absurd n q) (fun _ => k ls hA))
end G1
theorem gh_i32 {v : Int} (h : gh_ok 0 v) : (Int32.ofInt v).toInt = v := by
  obtain ⟨h1, h2⟩ := (h : -2147483648 ≤ v ∧ v < 2147483648)
  have e : v.bmod (2 ^ 32) = v := Int.bmod_eq_of_le (by omega) (by omega)
  rw [Int32.toInt_ofInt]
  exact e
theorem gh_i64 {v : Int} (h : gh_ok 1 v) : (Int64.ofInt v).toInt = v := by
  obtain ⟨h1, h2⟩ := (h : -9223372036854775808 ≤ v ∧ v < 9223372036854775808)
  have e : v.bmod (2 ^ 64) = v := Int.bmod_eq_of_le (by omega) (by omega)
  rw [Int64.toInt_ofInt]
  exact e
theorem gh_ok32 (x : Int32) : gh_ok 0 x.toInt := by
  have h1 := Int32.le_toInt x
  have h2 := Int32.toInt_lt x
  exact ⟨by omega, by omega⟩
theorem gh_ok64 (x : Int64) : gh_ok 1 x.toInt := by
  have h1 := Int64.le_toInt x
  have h2 := Int64.toInt_lt x
  exact ⟨by omega, by omega⟩
theorem gh_cv0 (E : gh_E) (v : Int) : gh_cv E 0 v = .int (Int32.ofInt v) := rfl
theorem gh_cv1 (E : gh_E) (v : Int) : gh_cv E 1 v = .long (Int64.ofInt v) := rfl
theorem gh_cv2 (E : gh_E) {v : Int} (h : v ≠ 0) : gh_cv E 2 v = .ref (gh_ad E v) := by
  simp [gh_cv, h]
theorem gh_cat (E : gh_E) (t v : Int) : ((gh_cv E t v).category == 2) = (t == 1) := by
  unfold gh_cv
  by_cases h0 : t = 0
  · subst h0; rfl
  · by_cases h1 : t = 1
    · subst h1; rfl
    · rw [if_neg h0, if_neg h1]
      have e : (t == 1) = false := by simp [h1]
      rw [e]
      by_cases hv : v = 0
      · rw [if_pos hv]; rfl
      · rw [if_neg hv]; rfl
theorem gh_idx {i : Int} {n : Int} (h0 : 0 ≤ i) (h1 : i < n) (h2 : n < 2147483648) : (Int32.ofInt i).toNatClampNeg = i.toNat ∧ ¬ (Int32.ofInt i < 0 ∨ n.toNat ≤ (Int32.ofInt i).toNatClampNeg) ∧ ((i.toNat : Nat) : Int) = i := by
  have e : (Int32.ofInt i).toInt = i := gh_i32 ⟨by omega, by omega⟩
  have e2 : (Int32.ofInt i).toNatClampNeg = i.toNat := by
    show (Int32.ofInt i).toInt.toNat = i.toNat
    rw [e]
  refine ⟨e2, ?_, by omega⟩
  rintro (h | h)
  · have := Int32.lt_iff_toInt_lt.mp h
    rw [e] at this
    have z : (0 : Int32).toInt = 0 := rfl
    rw [z] at this
    omega
  · rw [e2] at h
    omega
