/-! CALLS: a method's contract by its run, and the rows that call -/
def gh_rv (E : gh_E) (tag r : Int) : Option Value := if tag = 9 then none else if tag = 1 then some (gh_cv E 1 r) else some (gh_cv E 0 r)
def gh_rt (tag r : Int) : gh_St := if tag = 9 then [] else if tag = 1 then [(1, r)] else [(0, r)]
def gh_Qc (E : gh_E) (tag r : Int) (m' : gh_M) : Array Value → State → Outcome → State → Prop := fun _ st o t => o = .returned (gh_rv E tag r) ∧ gh_R E m' t t.heap ∧ va_F (fun q => E.2.2.2.2.1 ≤ q) st t
def gh_Pc (E : gh_E) (as : gh_St) (m : gh_M) : Array Value → State → Prop := va_Pc (gh_sc E as) (fun U => gh_R E m U U.heap ∧ gh_K E U)
/-- a call of this method comes back with an answer and a memory of which Q holds -/
def gh_C (E : gh_E) (y : MethodName) (cc : ByteArray) (nL : Nat) (ret : Option FieldType) (tag : Int) (d : Nat) (as : gh_St) (m : gh_M) (Q : Int → gh_M → Prop) : Prop :=
  gh_P m [] as → ∃ (r : Int) (m' : gh_M), Q r m' ∧ m 0 0 ≤ m' 0 0 ∧ m 0 1 ≤ m' 0 1 ∧ gh_P m' [] (gh_rt tag r) ∧
    Met E.1 y (Cond.code y cc nL ret :: gh_tb) { frames := d, cells := (m' 0 1 - m 0 1).toNat, slots := (m' 0 0 - m 0 0).toNat, locals := 60 * d } (gh_Pc E as m) (gh_Qc E tag r m') (m' 0 1 - m 0 1).toNat (m' 0 0 - m 0 0).toNat (fun q => E.2.2.2.2.1 ≤ q)
theorem gh_K_moved {E : gh_E} {s U : State} (hW : s.WarmedH U.vm) (h : gh_K E s) : gh_K E U := by
  refine ⟨va_K.moved hW.alike h.1, fun w hw => ?_⟩
  have h2 := h.2 w hw
  obtain ⟨a, i, x, y, e⟩ := gh_nw_is hw
  subst e
  exact va_Nw.warmM hW h2
theorem gh_blind {E : gh_E} {as : gh_St} {m : gh_M} : FrameBlind (gh_Pc E as m) := by
  intro a U g mk h
  obtain ⟨h1, h2, h3, h4⟩ := h
  refine ⟨h1, ?_, ?_, fun w hw => ?_⟩
  · exact gh_X_moved (u := U) (U := U.calling g mk a) (Vm.Alike.refl U.vm) h2
  · exact va_K.moved (u := U) (U := U.calling g mk a) (Vm.Alike.refl U.vm) h3
  · have ho : w.onTables = true := by
      obtain ⟨a, i, x, y, e⟩ := gh_nw_is hw
      subst e
      rfl
    exact va_Nw.same ho (show U.vm = (U.calling g mk a).vm from rfl) (h4 w hw)
/-- the entry: a run of the body from its first instruction is the method's contract -/
theorem gh_enter {E : gh_E} {y : MethodName} {cc : ByteArray} {nL d : Nat} {ret : Option FieldType} {tag : Int} {as : gh_St} {m : gh_M} {Q : Int → gh_M → Prop} {L : gh_Ls} (ini : Bool) (hy : plainName y.cls = true) (hini : ini = true → y.name = "<init>")
    (hret : (tag = 9 ∧ ret = none) ∨ (tag = 0 ∧ ret = some .int) ∨ (tag = 1 ∧ ret = some .long) ∨ (tag = 8 ∧ ret = some .boolean))
    (hlen : (lg_sl (gh_sc E as)).length ≤ nL) (hL : lv_args 0 (gh_sc E as) = gh_lc E L) (hok : (∀ q ∈ as, gh_ok q.1 q.2) → ∀ q ∈ L, gh_ok q.2.1 q.2.2)
    (kk : gh_T E (y.cls, cc, nL, ini, tag) d 0 L [] m Q) : gh_C E y cc nL ret tag d as m Q := by
  intro hp
  obtain ⟨r, m', h1, h2, h3, h4, h6, h5⟩ := kk ⟨hp.1, hok hp.2.2, fun q hq => by cases hq⟩
  refine ⟨r, m', h1, h2, h3, h6, ?_⟩
  refine Met.ofW (cc := cc) (maxL := nL) (ret := ret) hy rfl ?_
  intro p e s mt args below meth c s₁ B hml hv
  obtain ⟨rfl, hR, hK⟩ := hv
  have hx := B.exec
  have hb := B.bytes
  have hr := B.returns
  have hts0 := atoms_spec (ws := Cond.code y cc nL ret :: gh_tb) B.pre
  have hown : s.vm.findClass y.cls = some mt.cls := findClass_of_methodNamed B.named
  have hname : meth.name = y.name := (name_of_methodNamed B.named B.method).1
  have hlocks := B.notSynchronized
  have hl := lv_entry (gh_sc E as) (n := nL) hlen
  rw [lg_entry_eq]
  rw [hL] at hl
  refine h5 p e _ s mt _ below meth c ⟨hx, hb, hml, hown, fun w hw => hts0 w (List.mem_cons_of_mem _ hw), fun hi => by rw [hname]; exact hini hi, Nat.le_refl _, Nat.le_refl _, hK⟩ s.heap [] 0 0 _ _ ⟨hR, va_S.rf, hl⟩ (by show 0 + _ ≤ _; rw [Nat.zero_add]; exact Nat.le_refl _) (by show 0 + _ ≤ _; rw [Nat.zero_add]; exact Nat.le_refl _) (fun H' locs' ls' pc' hA' hrd => ?_)
  rw [Nat.zero_add, Nat.zero_add]
  have fin : ∀ t : State, t.heap = H' → s.WarmedH t.vm → gh_Qc E tag r m' (gh_sc E as).toArray s (.returned (gh_rv E tag r)) t := fun t ht hW => by
    subst ht
    exact ⟨rfl, gh_X_moved hW.alike hA'.1, hA'.2.1.F rfl⟩
  unfold gh_rd at hrd
  unfold gh_rs
  unfold gh_rv at fin
  rcases hret with ⟨rfl, rfl⟩ | ⟨rfl, rfl⟩ | ⟨rfl, rfl⟩ | ⟨rfl, rfl⟩
  · exact W.vret hx hb hr (fun t ht hW => fin t ht hW) hA'.2.1.2.2 hrd
  · exact W.iret (v := Int32.ofInt r) hx hb hr (fun t ht hW => fin t ht hW) hA'.2.1.2.2 hrd
  · exact W.lret (v := Int64.ofInt r) hx hb hr (fun t ht hW => fin t ht hW) hA'.2.1.2.2 hrd
  · exact W.zret (v := Int32.ofInt r) (ty := .boolean) hx hb hr (gh_nz (h4 rfl)) (fun t ht hW => fin t ht hW) hA'.2.1.2.2 hrd
section G5
variable {E : gh_E} {M : gh_I} {d pc : Nat} {L L2 : gh_Ls} {st : gh_St} {m : gh_M} {Q : Int → gh_M → Prop}
theorem gh_okL0 {as : gh_St} : (∀ q ∈ ([] : gh_Ls), gh_ok q.2.1 q.2.2) := fun _ h => by cases h
/-- the end of a method -/
theorem gh_ret {r : Int} (hst : st = gh_rs M r) (hd : gh_rd M pc) (h8 : M.2.2.2.2 = 8 → r = 0 ∨ r = 1) (hq : Q r m) : gh_T E M d pc L st m Q := by
  subst hst
  intro hp
  refine ⟨r, m, hq, Int.le_refl _, Int.le_refl _, h8, ⟨hp.1, (fun q hq => by cases hq), hp.2.2⟩, fun p e R s mt args below meth c hE H locs cells slots ls Qs hA hc hs K => ?_⟩
  rw [Int.sub_self, Int.sub_self] at K
  exact K H locs ls pc ⟨hA.1, hA.2.1, hA.2.2.1, hA.2.2.2.1, fun q hq => by cases hq⟩ hd
theorem gh_ret9 (h9 : M.2.2.2.2 = 9) (hd : decode M.2.1 pc = .ok (.return_, 1)) (hq : Q 0 m) : gh_T E M d pc L [] m Q :=
  gh_ret (r := 0) (by unfold gh_rs; rw [if_pos h9]) (by unfold gh_rd; rw [if_pos h9]; exact hd) (fun h => by rw [h9] at h; cases h) hq
theorem gh_ret0 {r : Int} (h9 : M.2.2.2.2 = 0) (hd : decode M.2.1 pc = .ok (.ireturn, 1)) (hq : Q r m) : gh_T E M d pc L [(0, r)] m Q :=
  gh_ret (r := r) (by unfold gh_rs; rw [h9]; rfl) (by unfold gh_rd; rw [h9]; exact hd) (fun h => by rw [h9] at h; cases h) hq
theorem gh_ret1 {r : Int} (h9 : M.2.2.2.2 = 1) (hd : decode M.2.1 pc = .ok (.lreturn, 1)) (hq : Q r m) : gh_T E M d pc L [(1, r)] m Q :=
  gh_ret (r := r) (by unfold gh_rs; rw [h9]; rfl) (by unfold gh_rd; rw [h9]; exact hd) (fun h => by rw [h9] at h; cases h) hq
theorem gh_ret8 {r : Int} (h9 : M.2.2.2.2 = 8) (hd : decode M.2.1 pc = .ok (.ireturn, 1)) (h8 : r = 0 ∨ r = 1) (hq : Q r m) : gh_T E M d pc L [(0, r)] m Q :=
  gh_ret (r := r) (by unfold gh_rs; rw [h9]; rfl) (by unfold gh_rd; rw [h9]; exact hd) (fun _ => h8) hq
theorem gh_sc_app (a b : gh_St) : gh_sc E (a ++ b) = gh_sc E a ++ gh_sc E b := List.map_append ..
theorem gh_sc_rev (a : gh_St) : gh_sc E a.reverse = (gh_sc E a).reverse := List.map_reverse ..
/-- how many words a stack has -/
def gh_wd (st : gh_St) : Nat := (st.map fun q => if q.1 = 1 then 2 else 1).sum
theorem gh_wd_le (st : gh_St) : ((gh_sc E st).map fun v => v.category).sum = gh_wd st := by
  unfold gh_sc gh_wd
  rw [List.map_map]
  congr 1
  apply List.map_congr_left
  intro q _
  simp only [Function.comp]
  by_cases h : q.1 = 1
  · rw [if_pos h, h]; rfl
  · rw [if_neg h]
    unfold gh_cv
    by_cases h0 : q.1 = 0
    · rw [if_pos h0]; rfl
    · rw [if_neg h0, if_neg h]
      by_cases hv : q.2 = 0
      · rw [if_pos hv]; rfl
      · rw [if_neg hv]; rfl
/-- behind a call -/
theorem gh_back {tag : Int} {as rest st0 : gh_St} {y : MethodName} {cc : ByteArray} {nL : Nat} {ret : Option FieldType}
    (hC : gh_C E y cc nL ret tag d as m (fun r m1 => gh_T E M (d + 1) (pc + 3) L (gh_rt tag r ++ rest) m1 Q)) (hPas : gh_P m L st0 → gh_P m [] as) (hPr : gh_P m L st0 → ∀ q ∈ rest, gh_ok q.1 q.2)
    (run : ∀ (r : Int) (m1 : gh_M) (mc ms : Nat), gh_P m L st0 → Met E.1 y (Cond.code y cc nL ret :: gh_tb) { frames := d, cells := mc, slots := ms, locals := 60 * d } (gh_Pc E as m) (gh_Qc E tag r m1) mc ms (fun q => E.2.2.2.2.1 ≤ q) →
      ∀ (p : Program) (e : Env) (R : Room) (s : State) (mt : MethodId) (args : Array Value) (below : List Frame) (meth : Method) (c : Code), gh_En E M (d + 1) p R s mt args meth c → ∀ (H : Heap) (locs : List Loc) (cells slots : Nat) (ls : Array Slot), gh_At E M.2.2.1 m s H locs ls L → cells + mc ≤ R.cells → slots + ms ≤ R.slots →
        ∃ a : Array Value, va_Run p E.1 e R s mt args below meth c H locs cells slots mc ms (F0 mt pc ls (gh_sc E st0)) (gh_sc E rest) (gh_Qc E tag r m1 a) (fun q => E.2.2.2.2.1 ≤ q)) : gh_T E M (d + 1) pc L st0 m Q := by
  intro hp
  obtain ⟨r, m1, hT, g2, g3, g4, hMet⟩ := hC (hPas hp)
  have hok1 : ∀ q ∈ gh_rt tag r ++ rest, gh_ok q.1 q.2 := fun q hq => by
    rcases List.mem_append.mp hq with h | h
    · exact g4.2.2 q h
    · exact hPr hp q h
  obtain ⟨r2, m2, h1, h2, h3, h4, h6, h5⟩ := hT ⟨g4.1, hp.2.1, hok1⟩
  refine ⟨r2, m2, h1, by omega, by omega, h4, h6, fun p e R s mt args below meth c hE H locs cells slots ls Qs hA hc hs K => ?_⟩
  have e1 : (m2 0 1 - m 0 1).toNat = (m1 0 1 - m 0 1).toNat + (m2 0 1 - m1 0 1).toNat := by omega
  have e2 : (m2 0 0 - m 0 0).toNat = (m1 0 0 - m 0 0).toNat + (m2 0 0 - m1 0 0).toNat := by omega
  obtain ⟨a, hrun⟩ := run r m1 _ _ hp hMet p e R s mt args below meth c hE H locs cells slots ls hA (by omega) (by omega)
  intro T hT0 X
  obtain ⟨v, st₀, t, T', L', k0, X', kL, k1, k2, ⟨kv, kR, kF⟩, kst⟩ := hrun T hT0 X
  have hv : v.toList ++ gh_sc E rest = gh_sc E (gh_rt tag r ++ rest) := by
    have hv2 : v = gh_rv E tag r := Outcome.returned.inj kv
    rw [hv2, gh_sc_app]
    congr 1
    unfold gh_rv gh_rt
    split
    · rfl
    · split <;> rfl
  have hS2 : va_S (fun q => E.2.2.2.2.1 ≤ q) s.heap T'.heap (locs ++ L') := by
    obtain ⟨z1, z2⟩ := kF
    rw [k0] at z1 z2
    refine ⟨Nat.le_trans hA.2.1.1 (by rw [k1]; exact z1), fun q q1 q2 => ?_, fun q hq => ?_⟩
    · rw [k1, z2 q (Nat.lt_of_lt_of_le q1 hA.2.1.1) q2]
      exact hA.2.1.2.1 q q1 q2
    · rcases List.mem_append.mp hq with h | h
      · exact hA.2.1.2.2 q h
      · exact kL q h
  have hR2 : gh_R E m1 s T'.heap := by
    rw [k1]
    refine gh_X_moved ?_ kR
    rw [← k2]
    exact X'.warmed.alike.symm
  obtain ⟨t2, a1, b1⟩ := h5 p e R s mt args below meth c hE T'.heap (locs ++ L') _ _ ls Qs ⟨hR2, hS2, hA.2.2⟩ (by omega) (by omega) (fun H' locs' ls' pc' hA' hr' => by
    have := K H' locs' ls' pc' hA' hr'
    rw [e1, e2, ← Nat.add_assoc, ← Nat.add_assoc] at this
    exact this) T' rfl X'
  refine ⟨t2, kst t2 ?_, b1⟩
  rw [← hv] at a1
  exact a1
theorem gh_CallB {y : MethodName} {cc : ByteArray} {nL n idx mc ms : Nat} {ret : Option FieldType} {p : Program} {R : Room} {s : State} {mt : MethodId} {args : Array Value} {meth : Method} {c : Code} (hE : gh_En E M (d + 1) p R s mt args meth c) (hcode : Cond.code y cc nL ret ∈ gh_tb) (hini : Cond.initialized y.cls ∈ gh_tb) (hlink : Cond.methodLink M.1 idx y ∈ gh_tb)
    (hn : y.cls ≠ "java/lang/invoke/MethodHandle" ∧ y.cls ≠ "java/lang/invoke/VarHandle" ∧ (parseMethodDescriptor y.desc).map (fun d => d.parameters.length) = some n) (hnL : nL ≤ 40) : CallB R s args M.1 idx y cc nL ret (Cond.code y cc nL ret :: gh_tb) { frames := d, cells := mc, slots := ms, locals := 60 * d } mc ms n := by
  obtain ⟨hx, hb, hml, hown, hts, -, hf, hlo, -⟩ := hE
  exact callB_of n hts (gh_tb_good hcode) rfl rfl rfl (hts _ hini) (hts _ hlink) hn ⟨hf, by show 8 + (nL + 11) + 60 * d ≤ _; omega⟩
theorem gh_Pc_of {as : gh_St} {p : Program} {R : Room} {s : State} {mt : MethodId} {args : Array Value} {meth : Method} {c : Code} {H : Heap} (hE : gh_En E M (d + 1) p R s mt args meth c) (hR : gh_R E m s H) : ∀ U : State, U.heap = H → s.WarmedH U.vm → gh_Pc E as m (gh_sc E as).toArray U := by
  intro U hU hW
  refine ⟨rfl, ?_, gh_K_moved hW hE.2.2.2.2.2.2.2.2⟩
  rw [hU]
  exact gh_X_moved hW.alike hR
theorem gh_callV {y : MethodName} {cc : ByteArray} {nL n idx ci : Nat} {C : String} {T : u_T} {N : Nat} {ret : Option FieldType} {tag a : Int} {as rest : gh_St} (hd : decode M.2.1 pc = .ok (.invokevirtual idx, 3)) (hck : gh_cl[ci]? = some (C, T, N)) (hA : gh_isA m a (10 + ci))
    (hcode : Cond.code y cc nL ret ∈ gh_tb) (hini : Cond.initialized y.cls ∈ gh_tb) (hlink : Cond.methodLink M.1 idx y ∈ gh_tb) (hins : Cond.instanceMethod y ∈ gh_tb) (hsel : Cond.selects C y y ∈ gh_tb)
    (hn : y.cls ≠ "java/lang/invoke/MethodHandle" ∧ y.cls ≠ "java/lang/invoke/VarHandle" ∧ (parseMethodDescriptor y.desc).map (fun d => d.parameters.length) = some n) (has : as.length = n) (hnL : nL ≤ 40) (hwd : gh_wd rest ≤ 8)
    (hC : gh_C E y cc nL ret tag d ((2, a) :: as) m (fun r m1 => gh_T E M (d + 1) (pc + 3) L (gh_rt tag r ++ rest) m1 Q)) : gh_T E M (d + 1) pc L (as.reverse ++ (2, a) :: rest) m Q := by
  have ha : a ≠ 0 := by have := hA.1; omega
  refine gh_back hC (fun hp => ⟨hp.1, fun q hq => (by cases hq), fun q hq => ?_⟩) (fun hp q hq => hp.2.2 q (by simp [hq])) (fun r m1 mc ms hp hMet p e R s mt args below meth c hE H locs cells slots ls hAt hc hs => ?_)
  · refine hp.2.2 q ?_
    rcases List.mem_cons.mp hq with h | h
    · rw [h]; simp
    · simp [h]
  · refine ⟨(Value.ref (gh_ad E a) :: gh_sc E as).toArray, ?_⟩
    have hE2 := hE
    obtain ⟨hx, hb, hml, hown, hts, -, hf, hlo, hK⟩ := hE
    obtain ⟨cell, q1, q2, q3, -⟩ := gh_obj hAt.1 hA hck
    have hPc := gh_Pc_of (as := (2, a) :: as) hE2 hAt.1
    rw [gh_sc1 ha] at hPc
    exact va_runV (As := gh_sc E as) (C := C) (b := gh_ad E a) (n := n) ⟨hx, hb, hml, hown, hts⟩ hMet ⟨gh_CallB hE2 hcode hini hlink hn hnL, hts _ hins, hts _ hsel⟩ ⟨gh_blind, ⟨cell, q1, by rw [q3]; rfl, by rw [q2]; exact (hK.1.1 ci _ hck).2.1⟩, hPc⟩ rfl (by unfold gh_sc; rw [List.length_map]; exact has) hAt.2.2.1 (by show gh_sc E _ = _; rw [gh_sc_app, gh_sc_rev, gh_sc1 ha]) (lv_room (rest := gh_sc E (as.reverse ++ (2, a) :: rest)) (by rw [gh_wd_le]; exact hwd)) hd ⟨hc, hs⟩
theorem gh_callVN {y : MethodName} {cc : ByteArray} {nL n idx ci : Nat} {C : String} {T : u_T} {N : Nat} {ret : Option FieldType} {tag a : Int} {as rest : gh_St} (hd : decode M.2.1 pc = .ok (.invokevirtual idx, 3)) (hck : gh_cl[ci]? = some (C, T, N)) (hA : gh_isA m a (10 + ci))
    (hcode : Cond.code y cc nL ret ∈ gh_tb) (hini : Cond.initialized y.cls ∈ gh_tb) (hlink : Cond.methodLinkNest M.1 idx y "GrammarHouse" ∈ gh_nw) (hins : Cond.instanceMethod y ∈ gh_tb) (hsel : Cond.selects C y y ∈ gh_tb)
    (hn : y.cls ≠ "java/lang/invoke/MethodHandle" ∧ y.cls ≠ "java/lang/invoke/VarHandle" ∧ (parseMethodDescriptor y.desc).map (fun d => d.parameters.length) = some n) (has : as.length = n) (hnL : nL ≤ 40) (hwd : gh_wd rest ≤ 8)
    (hC : gh_C E y cc nL ret tag d ((2, a) :: as) m (fun r m1 => gh_T E M (d + 1) (pc + 3) L (gh_rt tag r ++ rest) m1 Q)) : gh_T E M (d + 1) pc L (as.reverse ++ (2, a) :: rest) m Q := by
  have ha : a ≠ 0 := by have := hA.1; omega
  refine gh_back hC (fun hp => ⟨hp.1, fun q hq => (by cases hq), fun q hq => ?_⟩) (fun hp q hq => hp.2.2 q (by simp [hq])) (fun r m1 mc ms hp hMet p e R s mt args below meth c hE H locs cells slots ls hAt hc hs => ?_)
  · refine hp.2.2 q ?_
    rcases List.mem_cons.mp hq with h | h
    · rw [h]; simp
    · simp [h]
  · refine ⟨(Value.ref (gh_ad E a) :: gh_sc E as).toArray, ?_⟩
    have hE2 := hE
    obtain ⟨hx, hb, hml, hown, hts, -, hf, hlo, hK⟩ := hE
    obtain ⟨cell, q1, q2, q3, -⟩ := gh_obj hAt.1 hA hck
    have hPc := gh_Pc_of (as := (2, a) :: as) hE2 hAt.1
    rw [gh_sc1 ha] at hPc
    exact va_runVN (As := gh_sc E as) (C := C) (b := gh_ad E a) (n := n) ⟨hx, hb, hml, hown, hts⟩ hMet ⟨va_cnB n hts (gh_tb_good hcode) rfl rfl rfl (hK.2 _ hlink) (hts _ hini) hn ⟨hf, by show 8 + (nL + 11) + 60 * d ≤ _; omega⟩, hts _ hins, hts _ hsel⟩ ⟨gh_blind, ⟨cell, q1, by rw [q3]; rfl, by rw [q2]; exact (hK.1.1 ci _ hck).2.1⟩, hPc⟩ rfl (by unfold gh_sc; rw [List.length_map]; exact has) hAt.2.2.1 (by show gh_sc E _ = _; rw [gh_sc_app, gh_sc_rev, gh_sc1 ha]) (lv_room (rest := gh_sc E (as.reverse ++ (2, a) :: rest)) (by rw [gh_wd_le]; exact hwd)) hd ⟨hc, hs⟩
theorem gh_callS {y : MethodName} {cc : ByteArray} {nL n idx : Nat} {ret : Option FieldType} {tag : Int} {as rest : gh_St} (hd : decode M.2.1 pc = .ok (.invokestatic idx, 3))
    (hcode : Cond.code y cc nL ret ∈ gh_tb) (hini : Cond.initialized y.cls ∈ gh_tb) (hlink : Cond.methodLink M.1 idx y ∈ gh_tb) (hsta : Cond.static y ∈ gh_tb)
    (hn : y.cls ≠ "java/lang/invoke/MethodHandle" ∧ y.cls ≠ "java/lang/invoke/VarHandle" ∧ (parseMethodDescriptor y.desc).map (fun d => d.parameters.length) = some n) (has : as.length = n) (hnL : nL ≤ 40) (hwd : gh_wd rest ≤ 8)
    (hC : gh_C E y cc nL ret tag d as m (fun r m1 => gh_T E M (d + 1) (pc + 3) L (gh_rt tag r ++ rest) m1 Q)) : gh_T E M (d + 1) pc L (as.reverse ++ rest) m Q := by
  refine gh_back hC (fun hp => ⟨hp.1, fun q hq => (by cases hq), fun q hq => hp.2.2 q (by simp [hq])⟩) (fun hp q hq => hp.2.2 q (by simp [hq])) (fun r m1 mc ms hp hMet p e R s mt args below meth c hE H locs cells slots ls hAt hc hs => ?_)
  refine ⟨(gh_sc E as).toArray, ?_⟩
  have hE2 := hE
  obtain ⟨hx, hb, hml, hown, hts, -, hf, hlo, hK⟩ := hE
  exact va_runS (As := gh_sc E as) (n := n) ⟨hx, hb, hml, hown, hts⟩ hMet ⟨gh_CallB hE2 hcode hini hlink hn hnL, hts _ hsta⟩ ⟨gh_blind, gh_Pc_of hE2 hAt.1⟩ rfl (by unfold gh_sc; rw [List.length_map]; exact has) hAt.2.2.1 (by show gh_sc E _ = _; rw [gh_sc_app, gh_sc_rev]) (lv_room (rest := gh_sc E (as.reverse ++ rest)) (by rw [gh_wd_le]; exact hwd)) hd ⟨hc, hs⟩
theorem gh_callI {y : MethodName} {cc : ByteArray} {nL n idx : Nat} {a : Int} {as rest : gh_St} (hd : decode M.2.1 pc = .ok (.invokespecial idx, 3)) (ha : a ≠ 0)
    (hcode : Cond.code y cc nL none ∈ gh_tb) (hini : Cond.initialized y.cls ∈ gh_tb) (hlink : Cond.methodLink M.1 idx y ∈ gh_tb) (hins : Cond.instanceMethod y ∈ gh_tb) (hy1 : y.name = "<init>")
    (hn : y.cls ≠ "java/lang/invoke/MethodHandle" ∧ y.cls ≠ "java/lang/invoke/VarHandle" ∧ (parseMethodDescriptor y.desc).map (fun d => d.parameters.length) = some n) (has : as.length = n) (hnL : nL ≤ 40) (hwd : gh_wd rest ≤ 8)
    (hC : gh_C E y cc nL none 9 d ((2, a) :: as) m (fun r m1 => gh_T E M (d + 1) (pc + 3) L rest m1 Q)) : gh_T E M (d + 1) pc L (as.reverse ++ (2, a) :: rest) m Q := by
  refine gh_back (tag := 9) (rest := rest) hC (fun hp => ⟨hp.1, fun q hq => (by cases hq), fun q hq => ?_⟩) (fun hp q hq => hp.2.2 q (by simp [hq])) (fun r m1 mc ms hp hMet p e R s mt args below meth c hE H locs cells slots ls hAt hc hs => ?_)
  · refine hp.2.2 q ?_
    rcases List.mem_cons.mp hq with h | h
    · rw [h]; simp
    · simp [h]
  · refine ⟨(Value.ref (gh_ad E a) :: gh_sc E as).toArray, ?_⟩
    have hE2 := hE
    obtain ⟨hx, hb, hml, hown, hts, -, hf, hlo, hK⟩ := hE
    have hPc := gh_Pc_of (as := (2, a) :: as) hE2 hAt.1
    rw [gh_sc1 ha] at hPc
    exact va_runI (As := gh_sc E as) (b := gh_ad E a) (n := n) ⟨hx, hb, hml, hown, hts⟩ hMet ⟨gh_CallB hE2 hcode hini hlink hn hnL, hy1, hts _ hins⟩ ⟨gh_blind, hPc⟩ rfl (by unfold gh_sc; rw [List.length_map]; exact has) hAt.2.2.1 (by show gh_sc E _ = _; rw [gh_sc_app, gh_sc_rev, gh_sc1 ha]) (lv_room (rest := gh_sc E (as.reverse ++ (2, a) :: rest)) (by rw [gh_wd_le]; exact hwd)) hd ⟨hc, hs⟩
theorem gh_callIN {y : MethodName} {cc : ByteArray} {nL n idx : Nat} {a : Int} {as rest : gh_St} (hd : decode M.2.1 pc = .ok (.invokespecial idx, 3)) (ha : a ≠ 0)
    (hcode : Cond.code y cc nL none ∈ gh_tb) (hini : Cond.initialized y.cls ∈ gh_tb) (hlink : Cond.methodLinkNest M.1 idx y "GrammarHouse" ∈ gh_nw) (hins : Cond.instanceMethod y ∈ gh_tb) (hy1 : y.name = "<init>")
    (hn : y.cls ≠ "java/lang/invoke/MethodHandle" ∧ y.cls ≠ "java/lang/invoke/VarHandle" ∧ (parseMethodDescriptor y.desc).map (fun d => d.parameters.length) = some n) (has : as.length = n) (hnL : nL ≤ 40) (hwd : gh_wd rest ≤ 8)
    (hC : gh_C E y cc nL none 9 d ((2, a) :: as) m (fun r m1 => gh_T E M (d + 1) (pc + 3) L rest m1 Q)) : gh_T E M (d + 1) pc L (as.reverse ++ (2, a) :: rest) m Q := by
  refine gh_back (tag := 9) (rest := rest) hC (fun hp => ⟨hp.1, fun q hq => (by cases hq), fun q hq => ?_⟩) (fun hp q hq => hp.2.2 q (by simp [hq])) (fun r m1 mc ms hp hMet p e R s mt args below meth c hE H locs cells slots ls hAt hc hs => ?_)
  · refine hp.2.2 q ?_
    rcases List.mem_cons.mp hq with h | h
    · rw [h]; simp
    · simp [h]
  · refine ⟨(Value.ref (gh_ad E a) :: gh_sc E as).toArray, ?_⟩
    have hE2 := hE
    obtain ⟨hx, hb, hml, hown, hts, -, hf, hlo, hK⟩ := hE
    have hPc := gh_Pc_of (as := (2, a) :: as) hE2 hAt.1
    rw [gh_sc1 ha] at hPc
    exact va_runIN (As := gh_sc E as) (b := gh_ad E a) (n := n) ⟨hx, hb, hml, hown, hts⟩ hMet ⟨va_cnB n hts (gh_tb_good hcode) rfl rfl rfl (hK.2 _ hlink) (hts _ hini) hn ⟨hf, by show 8 + (nL + 11) + 60 * d ≤ _; omega⟩, hy1, hts _ hins⟩ ⟨gh_blind, hPc⟩ rfl (by unfold gh_sc; rw [List.length_map]; exact has) hAt.2.2.1 (by show gh_sc E _ = _; rw [gh_sc_app, gh_sc_rev, gh_sc1 ha]) (lv_room (rest := gh_sc E (as.reverse ++ (2, a) :: rest)) (by rw [gh_wd_le]; exact hwd)) hd ⟨hc, hs⟩
/-- Object's own constructor -/
theorem gh_obj0 {idx : Nat} {a : Int} (hd : decode M.2.1 pc = .ok (.invokespecial idx, 3)) (ha : a ≠ 0) (hlink : Cond.methodLink M.1 idx Lib.objectInit ∈ gh_tb) (hins : Cond.instanceMethod Lib.objectInit ∈ gh_tb) (hcode : Cond.code Lib.objectInit ⟨#[0xb1]⟩ 1 none ∈ gh_tb) (hwd : gh_wd st ≤ 8) (kk : gh_T E M (d + 1) (pc + 3) L st m Q) : gh_T E M (d + 1) pc L ((2, a) :: st) m Q := by
  refine gh_pure kk (fun hp => ⟨hp.1, hp.2.1, gh_okt hp.2.2⟩) (fun hp p e R s mt args below meth c hE H locs cells slots ls Qs hA k => ?_)
  obtain ⟨hx, hb, hml, hown, hts, -, hf, hlo, hK⟩ := hE
  rw [gh_sc1 ha]
  have hw := gh_wd_le (E := E) st
  refine W.objInit hx hb hown (hts _ hlink) (hts _ hins) (hts _ hcode) rfl (by rw [hml]; exact hA.2.2.1) rfl hd (by omega) ?_ (k ls hA)
  have : 2 * (F0 mt pc ls (Value.ref (gh_ad E a) :: gh_sc E st)).monitorRoom + ((gh_sc E st).map fun v => v.category).sum ≤ 8 := lv_room (by rw [hw]; exact hwd)
  omega
end G5
