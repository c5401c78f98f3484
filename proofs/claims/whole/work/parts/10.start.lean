/-! the classes' own facts; the claim's start -/
theorem gh_ck0 : gh_ck 0 gh_S0 gh_F0 9 := ⟨rfl, gh_lay_good gh_in0, gh_tk0, gh_nm0, by decide +kernel⟩
theorem gh_ck1 : gh_ck 1 gh_S1 gh_F1 7 := ⟨rfl, gh_lay_good gh_in1, gh_tk1, gh_nm1, by decide +kernel⟩
theorem gh_ck2 : gh_ck 2 gh_S2 gh_F2 11 := ⟨rfl, gh_lay_good gh_in2, gh_tk2, gh_nm2, by decide +kernel⟩
theorem gh_ck3 : gh_ck 3 gh_S3 gh_F3 12 := ⟨rfl, gh_lay_good gh_in3, gh_tk3, gh_nm3, by decide +kernel⟩
theorem gh_ck4 : gh_ck 4 gh_S4 gh_F4 9 := ⟨rfl, gh_lay_good gh_in4, gh_tk4, gh_nm4, by decide +kernel⟩
theorem gh_ck5 : gh_ck 5 gh_S5 gh_F5 17 := ⟨rfl, gh_lay_good gh_in5, gh_tk5, gh_nm5, by decide +kernel⟩
theorem gh_ck6 : gh_ck 6 gh_S6 gh_F6 12 := ⟨rfl, gh_lay_good gh_in6, gh_tk6, gh_nm6, by decide +kernel⟩
theorem gh_ck7 : gh_ck 7 gh_S7 gh_F7 9 := ⟨rfl, gh_lay_good gh_in7, gh_tk7, gh_nm7, by decide +kernel⟩
theorem gh_ck8 : gh_ck 8 gh_S8 gh_F8 5 := ⟨rfl, gh_lay_good gh_in8, gh_tk8, gh_nm8, by decide +kernel⟩
theorem gh_ck9 : gh_ck 9 gh_S9 gh_F9 9 := ⟨rfl, gh_lay_good gh_in9, gh_tk9, gh_nm9, by decide +kernel⟩
theorem gh_ck10 : gh_ck 10 gh_S10 gh_F10 10 := ⟨rfl, gh_lay_good gh_in10, gh_tk10, gh_nm10, by decide +kernel⟩
theorem gh_ck11 : gh_ck 11 gh_S11 gh_F11 11 := ⟨rfl, gh_lay_good gh_in11, gh_tk11, gh_nm11, by decide +kernel⟩
theorem gh_ck12 : gh_ck 12 gh_S12 gh_F12 84 := ⟨rfl, gh_lay_good gh_in12, gh_tk12, gh_nm12, by decide +kernel⟩
def gh_m0 (L : Nat) (xs : Nat → Int32) : gh_M := fun a i => if a = 1 then (xs i.toNat).toInt else if a = 0 then (if i = 1 then 2 else if i = 2 then 1 else if i = 3 then L else 0) else 0
theorem gh_m0_ok {L : Nat} {xs : Nat → Int32} (hL : L ≤ 3072) : gh_Mok (gh_m0 L xs) := by
  refine ⟨fun k j k1 k2 j1 j2 => ?_, fun k k1 k2 => ?_, (by show (2 : Int) ≤ 2; omega), (by show (0 : Int) ≤ 0; omega), rfl⟩
  · have e : gh_m0 L xs 0 1 = 2 := rfl
    rw [e] at k2
    have : k = 1 := by omega
    subst this
    exact gh_ok32 (xs j.toNat)
  · have e : gh_m0 L xs 0 1 = 2 := rfl
    rw [e] at k2
    have : k = 1 := by omega
    subst this
    have e : gh_m0 L xs 0 (2 * 1 + 1) = L := rfl
    rw [e]
    omega
theorem gh_tys_of {s : State} {args : Array Value} {ty : FieldType} (h : (Cond.arrayClass ty).before args s = true) : ∃ cA : ClassId, ArrOfT s cA ty ∧ s.vm.findClass ("[" ++ ty.toString) = some cA := by
  obtain ⟨cA, kA, comp, h1, h2, h3⟩ := Cond.arrayClass_spec h
  exact ⟨cA, fun n z => ⟨fun k h => (by cases h), kA, h2, comp, h3⟩, h1⟩
abbrev gh_MLaw : gh_I := (R_law, code, 4, false, 8)
/-- the claim's start, from a run of the law over the memory -/
theorem gh_start {p : Program} {e : Env} {s : State} {m : MethodId} {below : List Frame} {meth : Method} {c : Code} (l : Launch) {b L : Nat} {xs : Nat → Int32} (hL : L ≤ 3072) (C0 : lw_At p s m meth c b L xs)
    (hT : ∀ E : gh_E, gh_T E gh_MLaw 1000 0 [(0, 2, 1)] [] (gh_m0 L xs) (fun r m' => r = 1 ∧ m' 0 1 ≤ 600002 ∧ m' 0 0 ≤ 7302250)) :
    W p l e room_1 s m #[Value.ref b] below meth c s.heap [] 0 0 (lw_Z below #[Value.ref b] s) (entryFrame m ([Value.ref b] : List Value).toArray 4) := by
  obtain ⟨hx, hb, hr, hml, hown, hts, hX, hbl, hlocks, hgv⟩ := id C0
  have hts2 : ∀ w ∈ gh_tb, w.before #[Value.ref b] s = true := fun w hw => hts w (List.mem_filter.mp hw).1
  obtain ⟨c0, i0, k0⟩ := u_known (C := gh_S0) (T := gh_F0) (N := 9) (n := 9) hts gh_in0 (hts (.instantiable gh_S0 9) (List.mem_of_getElem? (i := 408) (by decide +kernel)))
  obtain ⟨c1, i1, k1⟩ := u_known (C := gh_S1) (T := gh_F1) (N := 7) (n := 7) hts gh_in1 (hts (.instantiable gh_S1 7) (List.mem_of_getElem? (i := 188) (by decide +kernel)))
  obtain ⟨c2, i2, k2⟩ := u_known (C := gh_S2) (T := gh_F2) (N := 11) (n := 11) hts gh_in2 (hts (.instantiable gh_S2 11) (List.mem_of_getElem? (i := 314) (by decide +kernel)))
  obtain ⟨c3, i3, k3⟩ := u_known (C := gh_S3) (T := gh_F3) (N := 12) (n := 12) hts gh_in3 (hts (.instantiable gh_S3 12) (List.mem_of_getElem? (i := 482) (by decide +kernel)))
  obtain ⟨c4, i4, k4⟩ := u_known (C := gh_S4) (T := gh_F4) (N := 9) (n := 9) hts gh_in4 (hts (.instantiable gh_S4 9) (List.mem_of_getElem? (i := 249) (by decide +kernel)))
  obtain ⟨c5, i5, k5⟩ := u_known (C := gh_S5) (T := gh_F5) (N := 17) (n := 17) hts gh_in5 (hts (.instantiable gh_S5 17) (List.mem_of_getElem? (i := 526) (by decide +kernel)))
  obtain ⟨c6, i6, k6⟩ := u_known (C := gh_S6) (T := gh_F6) (N := 12) (n := 12) hts gh_in6 (hts (.instantiable gh_S6 12) (List.mem_of_getElem? (i := 587) (by decide +kernel)))
  obtain ⟨c7, i7, k7⟩ := u_known (C := gh_S7) (T := gh_F7) (N := 9) (n := 9) hts gh_in7 (hts (.instantiable gh_S7 9) (List.mem_of_getElem? (i := 182) (by decide +kernel)))
  obtain ⟨c8, i8, k8⟩ := u_known (C := gh_S8) (T := gh_F8) (N := 5) (n := 5) hts gh_in8 (hts (.instantiable gh_S8 5) (List.mem_of_getElem? (i := 156) (by decide +kernel)))
  obtain ⟨c9, i9, k9⟩ := u_known (C := gh_S9) (T := gh_F9) (N := 9) (n := 9) hts gh_in9 (hts (.instantiable gh_S9 9) (List.mem_of_getElem? (i := 369) (by decide +kernel)))
  obtain ⟨c10, i10, k10⟩ := u_known (C := gh_S10) (T := gh_F10) (N := 10) (n := 10) hts gh_in10 (hts (.instantiable gh_S10 10) (List.mem_of_getElem? (i := 445) (by decide +kernel)))
  obtain ⟨c11, i11, k11⟩ := u_known (C := gh_S11) (T := gh_F11) (N := 11) (n := 11) hts gh_in11 (hts (.instantiable gh_S11 11) (List.mem_of_getElem? (i := 148) (by decide +kernel)))
  obtain ⟨c12, i12, k12⟩ := u_known (C := gh_S12) (T := gh_F12) (N := 84) (n := 84) hts gh_in12 (hts (.instantiable gh_S12 84) (List.mem_of_getElem? (i := 1360) (by decide +kernel)))
  obtain ⟨dC, dI, hKc⟩ : ∃ (dC : Nat → ClassId) (dI : Nat → Nat → Nat), ∀ (k : Nat) (q : vw_C), gh_cl[k]? = some q → u_Kn s q.1 q.2.1 q.2.2 (dC k) (dI k) := by
    refine ⟨fun k => ([c0, c1, c2, c3, c4, c5, c6, c7, c8, c9, c10, c11, c12] : List ClassId).getD k c0, fun k => ([i0, i1, i2, i3, i4, i5, i6, i7, i8, i9, i10, i11, i12] : List (Nat → Nat)).getD k i0, ?_⟩
    intro k q hq
    match k, hq with
    | 0, hq => cases hq; exact k0
    | 1, hq => cases hq; exact k1
    | 2, hq => cases hq; exact k2
    | 3, hq => cases hq; exact k3
    | 4, hq => cases hq; exact k4
    | 5, hq => cases hq; exact k5
    | 6, hq => cases hq; exact k6
    | 7, hq => cases hq; exact k7
    | 8, hq => cases hq; exact k8
    | 9, hq => cases hq; exact k9
    | 10, hq => cases hq; exact k10
    | 11, hq => cases hq; exact k11
    | 12, hq => cases hq; exact k12
    | k + 13, hq => simp [gh_cl] at hq
  obtain ⟨a1, h1, g1⟩ := gh_tys_of (hts (.arrayClass .int) (List.mem_of_getElem? (i := 180) (by decide +kernel)))
  obtain ⟨a2, h2, g2⟩ := gh_tys_of (hts (.arrayClass .boolean) (List.mem_of_getElem? (i := 1620) (by decide +kernel)))
  obtain ⟨a3, h3, g3⟩ := gh_tys_of (hts (.arrayClass .long) (List.mem_of_getElem? (i := 524) (by decide +kernel)))
  have hnw : ∀ w ∈ gh_nw, va_Nw w s := by
    intro w hw
    unfold gh_nw at hw
    rcases List.mem_cons.mp hw with rfl | hw
    · exact va_Nw.of rfl (hts _ (List.mem_of_getElem? (i := 157) (by decide +kernel)))
    rcases List.mem_cons.mp hw with rfl | hw
    · exact va_Nw.of rfl (hts _ (List.mem_of_getElem? (i := 189) (by decide +kernel)))
    rcases List.mem_cons.mp hw with rfl | hw
    · exact va_Nw.of rfl (hts _ (List.mem_of_getElem? (i := 250) (by decide +kernel)))
    rcases List.mem_cons.mp hw with rfl | hw
    · exact va_Nw.of rfl (hts _ (List.mem_of_getElem? (i := 1271) (by decide +kernel)))
    rcases List.mem_cons.mp hw with rfl | hw
    · exact va_Nw.of rfl (hts _ (List.mem_of_getElem? (i := 1282) (by decide +kernel)))
    cases hw
  have hT2 := hT (l, (dC, dI), (fun k => if k = 1 then a1 else if k = 2 then a2 else a3), b, s.heap.size) ⟨gh_m0_ok hL, fun q hq => (by rw [List.mem_singleton.mp hq]; trivial), fun q hq => (by cases hq)⟩
  obtain ⟨r, m', ⟨rfl, h2, h3⟩, h4, h5, h6, h7, h8⟩ := hT2
  have hl := lv_entry ([.ref b]) (n := 4) (Nat.le_of_ble_eq_true rfl)
  rw [lg_entry_eq]
  have e1 : (m' 0 1 - gh_m0 L xs 0 1).toNat ≤ 600000 := by
    have e : gh_m0 L xs 0 1 = 2 := rfl
    rw [e]; omega
  have e0 : (m' 0 0 - gh_m0 L xs 0 0).toNat ≤ 7302250 := by
    have e : gh_m0 L xs 0 0 = 0 := rfl
    rw [e]; omega
  refine h8 p e room_1 s m #[Value.ref b] below meth c ⟨hx, hb, hml, hown, hts2, fun h => (by cases h), Nat.le_of_ble_eq_true rfl, Nat.le_of_ble_eq_true rfl, ⟨hKc, fun k q h => ?_⟩, hnw⟩ s.heap [] 0 0 _ _ ⟨⟨fun k k1 k2 => ?_, ?_, hbl, ?_⟩, va_S.rf, hl⟩ ?_ ?_ (fun H' locs' ls' pc' hA' hrd => ?_)
  · match k, h with
    | 0, h => cases h; exact ⟨h1, g1⟩
    | 1, h => cases h; exact ⟨‹ArrOfT s a2 .boolean›, g2⟩
    | 2, h => cases h; exact ⟨‹ArrOfT s a3 .long›, g3⟩
    | k + 3, h => simp [gh_tys] at h
  · have e : gh_m0 L xs 0 1 = 2 := rfl
    rw [e] at k2
    omega
  · rfl
  · have e : (gh_m0 L xs 0 3).toNat = L := by
      show (L : Int).toNat = L
      omega
    rw [e]
    obtain ⟨scr, x1, x2, x3, x4, x5⟩ := hX
    refine ⟨scr, x1, x2, x3, x4, fun j hj => ?_⟩
    rw [x5 j hj]
    show some (Value.int (xs j)) = some (Value.int (Int32.ofInt (xs ((j : Int)).toNat).toInt))
    have e : ((j : Int)).toNat = j := by omega
    rw [e, Int32.ofInt_toInt]
  · show 0 + _ ≤ 600000
    omega
  · show 0 + _ ≤ 7302250
    omega
  · refine va_forget (fun q hq => hA'.2.1.2.2 q hq) ?_
    refine W.widen (by rw [Nat.zero_add]; exact e1) (by rw [Nat.zero_add]; exact e0) ?_
    exact lw_ret hx hb hr hlocks hrd
