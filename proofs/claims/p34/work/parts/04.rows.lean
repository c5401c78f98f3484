/-! ROWS, AN INSTRUCTION EACH -/
def gh_f1 (i : Nat) (L : gh_Ls) : gh_Ls := L.filter (fun q => !(q.1 == i) && !(q.1 + 1 == i && q.2.1 == 1))
def gh_f2 (i : Nat) (L : gh_Ls) : gh_Ls := L.filter (fun q => !(q.1 == i) && (!(q.1 == i + 1) && !(q.1 + 1 == i && q.2.1 == 1)))
theorem gh_lc_f1 (E : gh_E) (i : Nat) (L : gh_Ls) : (gh_lc E L).filter (fun q => !(q.1 == i) && !(q.1 + 1 == i && q.2.category == 2)) = gh_lc E (gh_f1 i L) := by
  unfold gh_lc gh_f1
  rw [List.filter_map]
  congr 1
  apply List.filter_congr
  intro q _
  simp only [Function.comp, gh_cat]
theorem gh_lc_f2 (E : gh_E) (i : Nat) (L : gh_Ls) : (gh_lc E L).filter (fun q => !(q.1 == i) && (!(q.1 == i + 1) && !(q.1 + 1 == i && q.2.category == 2))) = gh_lc E (gh_f2 i L) := by
  unfold gh_lc gh_f2
  rw [List.filter_map]
  congr 1
  apply List.filter_congr
  intro q _
  simp only [Function.comp, gh_cat]
theorem gh_lc_at {E : gh_E} {L : gh_Ls} {j i : Nat} {t v : Int} (h : L[j]? = some (i, t, v)) : (gh_lc E L)[j]? = some (i, gh_cv E t v) := by
  unfold gh_lc
  rw [List.getElem?_map, h]
  rfl
theorem gh_okc {t v : Int} {st : gh_St} (h : gh_ok t v) (hs : ∀ q ∈ st, gh_ok q.1 q.2) : ∀ q ∈ (t, v) :: st, gh_ok q.1 q.2 := List.forall_mem_cons.mpr ⟨h, hs⟩
theorem gh_okt {q0 : Int × Int} {st : gh_St} (hs : ∀ q ∈ q0 :: st, gh_ok q.1 q.2) : ∀ q ∈ st, gh_ok q.1 q.2 := (List.forall_mem_cons.mp hs).2
theorem gh_okh {t v : Int} {st : gh_St} (hs : ∀ q ∈ (t, v) :: st, gh_ok q.1 q.2) : gh_ok t v := (List.forall_mem_cons.mp hs).1
theorem gh_okL {L L2 : gh_Ls} {i : Nat} {t v : Int} (h : gh_ok t v) (hs : ∀ q ∈ L, gh_ok q.2.1 q.2.2) (hsub : ∀ q ∈ L2, q ∈ L) : ∀ q ∈ (i, t, v) :: L2, gh_ok q.2.1 q.2.2 := List.forall_mem_cons.mpr ⟨h, fun q hq => hs q (hsub q hq)⟩
theorem gh_f1s {i : Nat} {L : gh_Ls} : ∀ q ∈ gh_f1 i L, q ∈ L := fun _ h => (List.mem_filter.mp h).1
theorem gh_f2s {i : Nat} {L : gh_Ls} : ∀ q ∈ gh_f2 i L, q ∈ L := fun _ h => (List.mem_filter.mp h).1
section G2
variable {E : gh_E} {M : gh_I} {d pc : Nat} {L L2 : gh_Ls} {st : gh_St} {m : gh_M} {Q : Int → gh_M → Prop}
/-- fewer locals, or in another order -/
theorem gh_pick (ks : List Nat) (hl : ks.filterMap (fun k => L[k]?) = L2) (kk : gh_T E M d pc L2 st m Q) : gh_T E M d pc L st m Q := by
  subst hl
  refine gh_pure kk (fun hp => ⟨hp.1, fun q hq => ?_, hp.2.2⟩) (fun hp p e R s mt args below meth c hE H locs cells slots ls Qs hA k => ?_)
  · obtain ⟨i, -, hi⟩ := List.mem_filterMap.mp hq
    exact hp.2.1 q (List.mem_of_getElem? hi)
  · obtain ⟨hR, hS, hl1⟩ := hA
    refine k ls ⟨hR, hS, lv_sub hl1 ks ?_⟩
    unfold lv_pick gh_lc
    rw [List.map_filterMap]
    congr 1
    funext k
    rw [List.getElem?_map]
theorem gh_iconst {n : Int} (hd : decode M.2.1 pc = .ok (.iconst n, 1)) (h : gh_ok 0 n) (kk : gh_T E M d (pc + 1) L ((0, n) :: st) m Q) : gh_T E M d pc L st m Q := by
  refine gh_pure kk (fun hp => ?_) (fun hp p e R s mt args below meth c hE H locs cells slots ls Qs hA k => ?_)
  · obtain ⟨hM, hL, hst⟩ := hp
    exact ⟨hM, hL, gh_okc h hst⟩
  · obtain ⟨hx, hb, hml, hown, hts, -⟩ := hE
    obtain ⟨hM, hL, hst⟩ := hp
    obtain ⟨hR, hS, hl⟩ := hA
    exact lv_iconst hx hb hd rfl (k ls ⟨hR, hS, hl⟩)
theorem gh_bipush {n : Int} (hd : decode M.2.1 pc = .ok (.bipush n, 2)) (hv : (Int8.ofInt n).toInt32 = Int32.ofInt n) (h : gh_ok 0 n) (kk : gh_T E M d (pc + 2) L ((0, n) :: st) m Q) : gh_T E M d pc L st m Q := by
  refine gh_pure kk (fun hp => ?_) (fun hp p e R s mt args below meth c hE H locs cells slots ls Qs hA k => ?_)
  · obtain ⟨hM, hL, hst⟩ := hp
    exact ⟨hM, hL, gh_okc h hst⟩
  · obtain ⟨hx, hb, hml, hown, hts, -⟩ := hE
    obtain ⟨hM, hL, hst⟩ := hp
    obtain ⟨hR, hS, hl⟩ := hA
    exact lv_bipush hx hb hd hv (k ls ⟨hR, hS, hl⟩)
theorem gh_sipush {n : Int} (hd : decode M.2.1 pc = .ok (.sipush n, 3)) (hv : (Int16.ofInt n).toInt32 = Int32.ofInt n) (h : gh_ok 0 n) (kk : gh_T E M d (pc + 3) L ((0, n) :: st) m Q) : gh_T E M d pc L st m Q := by
  refine gh_pure kk (fun hp => ?_) (fun hp p e R s mt args below meth c hE H locs cells slots ls Qs hA k => ?_)
  · obtain ⟨hM, hL, hst⟩ := hp
    exact ⟨hM, hL, gh_okc h hst⟩
  · obtain ⟨hx, hb, hml, hown, hts, -⟩ := hE
    obtain ⟨hM, hL, hst⟩ := hp
    obtain ⟨hR, hS, hl⟩ := hA
    exact lv_sipush hx hb hd hv (k ls ⟨hR, hS, hl⟩)
theorem gh_ldc {i : Nat} {n : Int} {v : Int32} (hd : decode M.2.1 pc = .ok (.ldc i, 2)) (hw : Cond.constant M.1 i v ∈ gh_tb) (hv : v = Int32.ofInt n) (h : gh_ok 0 n) (kk : gh_T E M d (pc + 2) L ((0, n) :: st) m Q) : gh_T E M d pc L st m Q := by
  refine gh_pure kk (fun hp => ?_) (fun hp p e R s mt args below meth c hE H locs cells slots ls Qs hA k => ?_)
  · obtain ⟨hM, hL, hst⟩ := hp
    exact ⟨hM, hL, gh_okc h hst⟩
  · obtain ⟨hx, hb, hml, hown, hts, -⟩ := hE
    obtain ⟨hM, hL, hst⟩ := hp
    obtain ⟨hR, hS, hl⟩ := hA
    exact lv_ldc hx hb hown (hts _ hw) hd (hv ▸ k ls ⟨hR, hS, hl⟩)
theorem gh_ldcw {i : Nat} {n : Int} {v : Int32} (hd : decode M.2.1 pc = .ok (.ldc_w i, 3)) (hw : Cond.constant M.1 i v ∈ gh_tb) (hv : v = Int32.ofInt n) (h : gh_ok 0 n) (kk : gh_T E M d (pc + 3) L ((0, n) :: st) m Q) : gh_T E M d pc L st m Q := by
  refine gh_pure kk (fun hp => ?_) (fun hp p e R s mt args below meth c hE H locs cells slots ls Qs hA k => ?_)
  · obtain ⟨hM, hL, hst⟩ := hp
    exact ⟨hM, hL, gh_okc h hst⟩
  · obtain ⟨hx, hb, hml, hown, hts, -⟩ := hE
    obtain ⟨hM, hL, hst⟩ := hp
    obtain ⟨hR, hS, hl⟩ := hA
    exact lv_ldcw hx hb hown (hts _ hw) hd (hv ▸ k ls ⟨hR, hS, hl⟩)
theorem gh_ldc2 {i : Nat} {n : Int} {v : Int64} (hd : decode M.2.1 pc = .ok (.ldc2_w i, 3)) (hw : Cond.constantLong M.1 i v ∈ gh_tb) (hv : v = Int64.ofInt n) (h : gh_ok 1 n) (kk : gh_T E M d (pc + 3) L ((1, n) :: st) m Q) : gh_T E M d pc L st m Q := by
  refine gh_pure kk (fun hp => ?_) (fun hp p e R s mt args below meth c hE H locs cells slots ls Qs hA k => ?_)
  · obtain ⟨hM, hL, hst⟩ := hp
    exact ⟨hM, hL, gh_okc h hst⟩
  · obtain ⟨hx, hb, hml, hown, hts, -⟩ := hE
    obtain ⟨hM, hL, hst⟩ := hp
    obtain ⟨hR, hS, hl⟩ := hA
    exact lv_ldc2 hx hb hown (hts _ hw) hd (hv ▸ k ls ⟨hR, hS, hl⟩)
theorem gh_lconst {j : Fin 2} {n : Int} (hd : decode M.2.1 pc = .ok (.lconst j, 1)) (hv : Int64.ofNat (j : Nat) = Int64.ofInt n) (h : gh_ok 1 n) (kk : gh_T E M d (pc + 1) L ((1, n) :: st) m Q) : gh_T E M d pc L st m Q := by
  refine gh_pure kk (fun hp => ?_) (fun hp p e R s mt args below meth c hE H locs cells slots ls Qs hA k => ?_)
  · obtain ⟨hM, hL, hst⟩ := hp
    exact ⟨hM, hL, gh_okc h hst⟩
  · obtain ⟨hx, hb, hml, hown, hts, -⟩ := hE
    obtain ⟨hM, hL, hst⟩ := hp
    obtain ⟨hR, hS, hl⟩ := hA
    exact lv_lconst hx hb hd hv (k ls ⟨hR, hS, hl⟩)
theorem gh_iload_n {f : Fin 4} {v : Int} (hd : decode M.2.1 pc = .ok (.iload_n f, 1)) (j : Nat) (hj : L[j]? = some ((f : Nat), 0, v)) (kk : gh_T E M d (pc + 1) L ((0, v) :: st) m Q) : gh_T E M d pc L st m Q := by
  refine gh_pure kk (fun hp => ?_) (fun hp p e R s mt args below meth c hE H locs cells slots ls Qs hA k => ?_)
  · obtain ⟨hM, hL, hst⟩ := hp
    exact ⟨hM, hL, gh_okc (hL _ (List.mem_of_getElem? hj)) hst⟩
  · obtain ⟨hx, hb, hml, hown, hts, -⟩ := hE
    obtain ⟨hM, hL, hst⟩ := hp
    obtain ⟨hR, hS, hl⟩ := hA
    exact lv_iload_n hx hb hd rfl (lv_at hl j (gh_lc_at (E := E) hj)) (k ls ⟨hR, hS, hl⟩)
theorem gh_iload {i : Nat} {v : Int} (hd : decode M.2.1 pc = .ok (.iload i, 2)) (j : Nat) (hj : L[j]? = some (i, 0, v)) (kk : gh_T E M d (pc + 2) L ((0, v) :: st) m Q) : gh_T E M d pc L st m Q := by
  refine gh_pure kk (fun hp => ?_) (fun hp p e R s mt args below meth c hE H locs cells slots ls Qs hA k => ?_)
  · obtain ⟨hM, hL, hst⟩ := hp
    exact ⟨hM, hL, gh_okc (hL _ (List.mem_of_getElem? hj)) hst⟩
  · obtain ⟨hx, hb, hml, hown, hts, -⟩ := hE
    obtain ⟨hM, hL, hst⟩ := hp
    obtain ⟨hR, hS, hl⟩ := hA
    exact lv_iload hx hb hd (lv_at hl j (gh_lc_at (E := E) hj)) (k ls ⟨hR, hS, hl⟩)
theorem gh_lload_n {f : Fin 4} {v : Int} (hd : decode M.2.1 pc = .ok (.lload_n f, 1)) (j : Nat) (hj : L[j]? = some ((f : Nat), 1, v)) (kk : gh_T E M d (pc + 1) L ((1, v) :: st) m Q) : gh_T E M d pc L st m Q := by
  refine gh_pure kk (fun hp => ?_) (fun hp p e R s mt args below meth c hE H locs cells slots ls Qs hA k => ?_)
  · obtain ⟨hM, hL, hst⟩ := hp
    exact ⟨hM, hL, gh_okc (hL _ (List.mem_of_getElem? hj)) hst⟩
  · obtain ⟨hx, hb, hml, hown, hts, -⟩ := hE
    obtain ⟨hM, hL, hst⟩ := hp
    obtain ⟨hR, hS, hl⟩ := hA
    exact lv_lload_n hx hb hd rfl (lv_at hl j (gh_lc_at (E := E) hj)) (k ls ⟨hR, hS, hl⟩)
theorem gh_lload {i : Nat} {v : Int} (hd : decode M.2.1 pc = .ok (.lload i, 2)) (j : Nat) (hj : L[j]? = some (i, 1, v)) (kk : gh_T E M d (pc + 2) L ((1, v) :: st) m Q) : gh_T E M d pc L st m Q := by
  refine gh_pure kk (fun hp => ?_) (fun hp p e R s mt args below meth c hE H locs cells slots ls Qs hA k => ?_)
  · obtain ⟨hM, hL, hst⟩ := hp
    exact ⟨hM, hL, gh_okc (hL _ (List.mem_of_getElem? hj)) hst⟩
  · obtain ⟨hx, hb, hml, hown, hts, -⟩ := hE
    obtain ⟨hM, hL, hst⟩ := hp
    obtain ⟨hR, hS, hl⟩ := hA
    exact lv_lload hx hb hd (lv_at hl j (gh_lc_at (E := E) hj)) (k ls ⟨hR, hS, hl⟩)
theorem gh_aload_n {f : Fin 4} {v : Int} (hd : decode M.2.1 pc = .ok (.aload_n f, 1)) (j : Nat) (hj : L[j]? = some ((f : Nat), 2, v)) (hv : v ≠ 0) (kk : gh_T E M d (pc + 1) L ((2, v) :: st) m Q) : gh_T E M d pc L st m Q := by
  refine gh_pure kk (fun hp => ?_) (fun hp p e R s mt args below meth c hE H locs cells slots ls Qs hA k => ?_)
  · obtain ⟨hM, hL, hst⟩ := hp
    exact ⟨hM, hL, gh_okc (hL _ (List.mem_of_getElem? hj)) hst⟩
  · obtain ⟨hx, hb, hml, hown, hts, -⟩ := hE
    obtain ⟨hM, hL, hst⟩ := hp
    obtain ⟨hR, hS, hl⟩ := hA
    have e2 := gh_cv2 E hv
    have h1 := lv_at hl j (gh_lc_at (E := E) hj)
    rw [e2] at h1
    have K := k ls ⟨hR, hS, hl⟩
    have K2 : gh_sc E ((2, v) :: st) = .ref (gh_ad E v) :: gh_sc E st := by
      show gh_cv E 2 v :: gh_sc E st = _
      rw [e2]
    rw [K2] at K
    exact lv_aload_n hx hb hd rfl h1 K
theorem gh_aload {i : Nat} {v : Int} (hd : decode M.2.1 pc = .ok (.aload i, 2)) (j : Nat) (hj : L[j]? = some (i, 2, v)) (hv : v ≠ 0) (kk : gh_T E M d (pc + 2) L ((2, v) :: st) m Q) : gh_T E M d pc L st m Q := by
  refine gh_pure kk (fun hp => ?_) (fun hp p e R s mt args below meth c hE H locs cells slots ls Qs hA k => ?_)
  · obtain ⟨hM, hL, hst⟩ := hp
    exact ⟨hM, hL, gh_okc (hL _ (List.mem_of_getElem? hj)) hst⟩
  · obtain ⟨hx, hb, hml, hown, hts, -⟩ := hE
    obtain ⟨hM, hL, hst⟩ := hp
    obtain ⟨hR, hS, hl⟩ := hA
    have e2 := gh_cv2 E hv
    have h1 := lv_at hl j (gh_lc_at (E := E) hj)
    rw [e2] at h1
    have K := k ls ⟨hR, hS, hl⟩
    have K2 : gh_sc E ((2, v) :: st) = .ref (gh_ad E v) :: gh_sc E st := by
      show gh_cv E 2 v :: gh_sc E st = _
      rw [e2]
    rw [K2] at K
    exact lv_aload hx hb hd h1 K
theorem gh_istore_n {f : Fin 4} {v : Int} (hd : decode M.2.1 pc = .ok (.istore_n f, 1)) (hn : (f : Nat) < M.2.2.1) (hl2 : ((f : Nat), 0, v) :: gh_f1 (f : Nat) L = L2) (kk : gh_T E M d (pc + 1) L2 st m Q) : gh_T E M d pc L ((0, v) :: st) m Q := by
  subst hl2
  refine gh_pure kk (fun hp => ?_) (fun hp p e R s mt args below meth c hE H locs cells slots ls Qs hA k => ?_)
  · obtain ⟨hM, hL, hst⟩ := hp
    exact ⟨hM, gh_okL (gh_okh hst) hL gh_f1s, gh_okt hst⟩
  · obtain ⟨hx, hb, hml, hown, hts, -⟩ := hE
    obtain ⟨hM, hL, hst⟩ := hp
    obtain ⟨hR, hS, hl⟩ := hA
    exact lv_istore_n hx hb hd rfl hl hn rfl (fun ls2 h2 => k ls2 ⟨hR, hS, by rw [gh_lc_f1] at h2; exact h2⟩)
theorem gh_istore {i : Nat} {v : Int} (hd : decode M.2.1 pc = .ok (.istore i, 2)) (hn : i < M.2.2.1) (hl2 : (i, 0, v) :: gh_f1 i L = L2) (kk : gh_T E M d (pc + 2) L2 st m Q) : gh_T E M d pc L ((0, v) :: st) m Q := by
  subst hl2
  refine gh_pure kk (fun hp => ?_) (fun hp p e R s mt args below meth c hE H locs cells slots ls Qs hA k => ?_)
  · obtain ⟨hM, hL, hst⟩ := hp
    exact ⟨hM, gh_okL (gh_okh hst) hL gh_f1s, gh_okt hst⟩
  · obtain ⟨hx, hb, hml, hown, hts, -⟩ := hE
    obtain ⟨hM, hL, hst⟩ := hp
    obtain ⟨hR, hS, hl⟩ := hA
    exact lv_istore hx hb hd hl hn rfl (fun ls2 h2 => k ls2 ⟨hR, hS, by rw [gh_lc_f1] at h2; exact h2⟩)
theorem gh_lstore_n {f : Fin 4} {v : Int} (hd : decode M.2.1 pc = .ok (.lstore_n f, 1)) (hn : (f : Nat) + 1 < M.2.2.1) (hl2 : ((f : Nat), 1, v) :: gh_f2 (f : Nat) L = L2) (kk : gh_T E M d (pc + 1) L2 st m Q) : gh_T E M d pc L ((1, v) :: st) m Q := by
  subst hl2
  refine gh_pure kk (fun hp => ?_) (fun hp p e R s mt args below meth c hE H locs cells slots ls Qs hA k => ?_)
  · obtain ⟨hM, hL, hst⟩ := hp
    exact ⟨hM, gh_okL (gh_okh hst) hL gh_f2s, gh_okt hst⟩
  · obtain ⟨hx, hb, hml, hown, hts, -⟩ := hE
    obtain ⟨hM, hL, hst⟩ := hp
    obtain ⟨hR, hS, hl⟩ := hA
    exact lv_lstore_n hx hb hd rfl hl hn rfl (fun ls2 h2 => k ls2 ⟨hR, hS, by rw [gh_lc_f2] at h2; exact h2⟩)
theorem gh_lstore {i : Nat} {v : Int} (hd : decode M.2.1 pc = .ok (.lstore i, 2)) (hn : i + 1 < M.2.2.1) (hl2 : (i, 1, v) :: gh_f2 i L = L2) (kk : gh_T E M d (pc + 2) L2 st m Q) : gh_T E M d pc L ((1, v) :: st) m Q := by
  subst hl2
  refine gh_pure kk (fun hp => ?_) (fun hp p e R s mt args below meth c hE H locs cells slots ls Qs hA k => ?_)
  · obtain ⟨hM, hL, hst⟩ := hp
    exact ⟨hM, gh_okL (gh_okh hst) hL gh_f2s, gh_okt hst⟩
  · obtain ⟨hx, hb, hml, hown, hts, -⟩ := hE
    obtain ⟨hM, hL, hst⟩ := hp
    obtain ⟨hR, hS, hl⟩ := hA
    exact lv_lstore hx hb hd hl hn rfl (fun ls2 h2 => k ls2 ⟨hR, hS, by rw [gh_lc_f2] at h2; exact h2⟩)
theorem gh_astore_n {f : Fin 4} {v : Int} (hd : decode M.2.1 pc = .ok (.astore_n f, 1)) (hv : v ≠ 0) (hn : (f : Nat) < M.2.2.1) (hl2 : ((f : Nat), 2, v) :: gh_f1 (f : Nat) L = L2) (kk : gh_T E M d (pc + 1) L2 st m Q) : gh_T E M d pc L ((2, v) :: st) m Q := by
  subst hl2
  refine gh_pure kk (fun hp => ?_) (fun hp p e R s mt args below meth c hE H locs cells slots ls Qs hA k => ?_)
  · obtain ⟨hM, hL, hst⟩ := hp
    exact ⟨hM, gh_okL (gh_okh hst) hL gh_f1s, gh_okt hst⟩
  · obtain ⟨hx, hb, hml, hown, hts, -⟩ := hE
    obtain ⟨hM, hL, hst⟩ := hp
    obtain ⟨hR, hS, hl⟩ := hA
    have e2 := gh_cv2 E hv
    have K2 : gh_sc E ((2, v) :: st) = .ref (gh_ad E v) :: gh_sc E st := by
      show gh_cv E 2 v :: gh_sc E st = _
      rw [e2]
    rw [K2]
    exact lv_astore_n hx hb hd rfl hl hn rfl (fun ls2 h2 => k ls2 ⟨hR, hS, by rw [gh_lc_f1, ← e2] at h2; exact h2⟩)
theorem gh_astore {i : Nat} {v : Int} (hd : decode M.2.1 pc = .ok (.astore i, 2)) (hv : v ≠ 0) (hn : i < M.2.2.1) (hl2 : (i, 2, v) :: gh_f1 i L = L2) (kk : gh_T E M d (pc + 2) L2 st m Q) : gh_T E M d pc L ((2, v) :: st) m Q := by
  subst hl2
  refine gh_pure kk (fun hp => ?_) (fun hp p e R s mt args below meth c hE H locs cells slots ls Qs hA k => ?_)
  · obtain ⟨hM, hL, hst⟩ := hp
    exact ⟨hM, gh_okL (gh_okh hst) hL gh_f1s, gh_okt hst⟩
  · obtain ⟨hx, hb, hml, hown, hts, -⟩ := hE
    obtain ⟨hM, hL, hst⟩ := hp
    obtain ⟨hR, hS, hl⟩ := hA
    have e2 := gh_cv2 E hv
    have K2 : gh_sc E ((2, v) :: st) = .ref (gh_ad E v) :: gh_sc E st := by
      show gh_cv E 2 v :: gh_sc E st = _
      rw [e2]
    rw [K2]
    exact lv_astore hx hb hd hl hn rfl (fun ls2 h2 => k ls2 ⟨hR, hS, by rw [gh_lc_f1, ← e2] at h2; exact h2⟩)
theorem gh_iinc {i : Nat} {n v : Int} (hd : decode M.2.1 pc = .ok (.iinc i n, 3)) (j : Nat) (hj : L[j]? = some (i, 0, v)) (h : gh_ok 0 (v + n)) (hn : i < M.2.2.1) (hl2 : (i, 0, v + n) :: gh_f1 i L = L2) (kk : gh_T E M d (pc + 3) L2 st m Q) : gh_T E M d pc L st m Q := by
  subst hl2
  refine gh_pure kk (fun hp => ?_) (fun hp p e R s mt args below meth c hE H locs cells slots ls Qs hA k => ?_)
  · obtain ⟨hM, hL, hst⟩ := hp
    exact ⟨hM, gh_okL h hL gh_f1s, hst⟩
  · obtain ⟨hx, hb, hml, hown, hts, -⟩ := hE
    obtain ⟨hM, hL, hst⟩ := hp
    obtain ⟨hR, hS, hl⟩ := hA
    exact lv_iinc (k := j) hx hb hd hl (gh_lc_at (E := E) hj) (v := Int32.ofInt (v + n)) (by rw [Int32.ofInt_add]) hn rfl (fun ls2 h2 => k ls2 ⟨hR, hS, by rw [gh_lc_f1] at h2; exact h2⟩)
theorem gh_iadd {x y : Int} (hd : decode M.2.1 pc = .ok (.iadd, 1)) (h : gh_ok 0 (x + y)) (kk : gh_T E M d (pc + 1) L ((0, x + y) :: st) m Q) : gh_T E M d pc L ((0, y) :: (0, x) :: st) m Q := by
  refine gh_pure kk (fun hp => ?_) (fun hp p e R s mt args below meth c hE H locs cells slots ls Qs hA k => ?_)
  · obtain ⟨hM, hL, hst⟩ := hp
    exact ⟨hM, hL, gh_okc h (gh_okt (gh_okt hst))⟩
  · obtain ⟨hx, hb, hml, hown, hts, -⟩ := hE
    obtain ⟨hM, hL, hst⟩ := hp
    obtain ⟨hR, hS, hl⟩ := hA
    exact lv_iadd hx hb hd (Int32.ofInt_add x y ▸ k ls ⟨hR, hS, hl⟩)
theorem gh_isub {x y : Int} (hd : decode M.2.1 pc = .ok (.isub, 1)) (h : gh_ok 0 (x - y)) (kk : gh_T E M d (pc + 1) L ((0, x - y) :: st) m Q) : gh_T E M d pc L ((0, y) :: (0, x) :: st) m Q := by
  refine gh_pure kk (fun hp => ?_) (fun hp p e R s mt args below meth c hE H locs cells slots ls Qs hA k => ?_)
  · obtain ⟨hM, hL, hst⟩ := hp
    exact ⟨hM, hL, gh_okc h (gh_okt (gh_okt hst))⟩
  · obtain ⟨hx, hb, hml, hown, hts, -⟩ := hE
    obtain ⟨hM, hL, hst⟩ := hp
    obtain ⟨hR, hS, hl⟩ := hA
    exact lv_isub hx hb hd (Int32.ofInt_sub x y ▸ k ls ⟨hR, hS, hl⟩)
theorem gh_imul {x y : Int} (hd : decode M.2.1 pc = .ok (.imul, 1)) (h : gh_ok 0 (x * y)) (kk : gh_T E M d (pc + 1) L ((0, x * y) :: st) m Q) : gh_T E M d pc L ((0, y) :: (0, x) :: st) m Q := by
  refine gh_pure kk (fun hp => ?_) (fun hp p e R s mt args below meth c hE H locs cells slots ls Qs hA k => ?_)
  · obtain ⟨hM, hL, hst⟩ := hp
    exact ⟨hM, hL, gh_okc h (gh_okt (gh_okt hst))⟩
  · obtain ⟨hx, hb, hml, hown, hts, -⟩ := hE
    obtain ⟨hM, hL, hst⟩ := hp
    obtain ⟨hR, hS, hl⟩ := hA
    exact lv_imul hx hb hd (Int32.ofInt_mul x y ▸ k ls ⟨hR, hS, hl⟩)
theorem gh_ladd {x y : Int} (hd : decode M.2.1 pc = .ok (.ladd, 1)) (h : gh_ok 1 (x + y)) (kk : gh_T E M d (pc + 1) L ((1, x + y) :: st) m Q) : gh_T E M d pc L ((1, y) :: (1, x) :: st) m Q := by
  refine gh_pure kk (fun hp => ?_) (fun hp p e R s mt args below meth c hE H locs cells slots ls Qs hA k => ?_)
  · obtain ⟨hM, hL, hst⟩ := hp
    exact ⟨hM, hL, gh_okc h (gh_okt (gh_okt hst))⟩
  · obtain ⟨hx, hb, hml, hown, hts, -⟩ := hE
    obtain ⟨hM, hL, hst⟩ := hp
    obtain ⟨hR, hS, hl⟩ := hA
    exact lv_ladd hx hb hd (Int64.ofInt_add x y ▸ k ls ⟨hR, hS, hl⟩)
theorem gh_lsub {x y : Int} (hd : decode M.2.1 pc = .ok (.lsub, 1)) (h : gh_ok 1 (x - y)) (kk : gh_T E M d (pc + 1) L ((1, x - y) :: st) m Q) : gh_T E M d pc L ((1, y) :: (1, x) :: st) m Q := by
  refine gh_pure kk (fun hp => ?_) (fun hp p e R s mt args below meth c hE H locs cells slots ls Qs hA k => ?_)
  · obtain ⟨hM, hL, hst⟩ := hp
    exact ⟨hM, hL, gh_okc h (gh_okt (gh_okt hst))⟩
  · obtain ⟨hx, hb, hml, hown, hts, -⟩ := hE
    obtain ⟨hM, hL, hst⟩ := hp
    obtain ⟨hR, hS, hl⟩ := hA
    exact lv_lsub hx hb hd (Int64.ofInt_sub x y ▸ k ls ⟨hR, hS, hl⟩)
theorem gh_lmul {x y : Int} (hd : decode M.2.1 pc = .ok (.lmul, 1)) (h : gh_ok 1 (x * y)) (kk : gh_T E M d (pc + 1) L ((1, x * y) :: st) m Q) : gh_T E M d pc L ((1, y) :: (1, x) :: st) m Q := by
  refine gh_pure kk (fun hp => ?_) (fun hp p e R s mt args below meth c hE H locs cells slots ls Qs hA k => ?_)
  · obtain ⟨hM, hL, hst⟩ := hp
    exact ⟨hM, hL, gh_okc h (gh_okt (gh_okt hst))⟩
  · obtain ⟨hx, hb, hml, hown, hts, -⟩ := hE
    obtain ⟨hM, hL, hst⟩ := hp
    obtain ⟨hR, hS, hl⟩ := hA
    exact lv_lmul hx hb hd (Int64.ofInt_mul x y ▸ k ls ⟨hR, hS, hl⟩)
theorem gh_wladd_e (x y : Int) : Int64.ofInt (Int64.ofInt x + Int64.ofInt y).toInt = Int64.ofInt x + Int64.ofInt y := Int64.ofInt_toInt _
theorem gh_wladd {x y : Int} (hd : decode M.2.1 pc = .ok (.ladd, 1)) (kk : gh_T E M d (pc + 1) L ((1, (Int64.ofInt x + Int64.ofInt y).toInt) :: st) m Q) : gh_T E M d pc L ((1, y) :: (1, x) :: st) m Q := by
  refine gh_pure kk (fun hp => ?_) (fun hp p e R s mt args below meth c hE H locs cells slots ls Qs hA k => ?_)
  · obtain ⟨hM, hL, hst⟩ := hp
    exact ⟨hM, hL, gh_okc (gh_ok64 _) (gh_okt (gh_okt hst))⟩
  · obtain ⟨hx, hb, hml, hown, hts, -⟩ := hE
    obtain ⟨hM, hL, hst⟩ := hp
    obtain ⟨hR, hS, hl⟩ := hA
    exact lv_ladd hx hb hd (gh_wladd_e x y ▸ k ls ⟨hR, hS, hl⟩)
theorem gh_wlmul_e (x y : Int) : Int64.ofInt (Int64.ofInt x * Int64.ofInt y).toInt = Int64.ofInt x * Int64.ofInt y := Int64.ofInt_toInt _
theorem gh_wlmul {x y : Int} (hd : decode M.2.1 pc = .ok (.lmul, 1)) (kk : gh_T E M d (pc + 1) L ((1, (Int64.ofInt x * Int64.ofInt y).toInt) :: st) m Q) : gh_T E M d pc L ((1, y) :: (1, x) :: st) m Q := by
  refine gh_pure kk (fun hp => ?_) (fun hp p e R s mt args below meth c hE H locs cells slots ls Qs hA k => ?_)
  · obtain ⟨hM, hL, hst⟩ := hp
    exact ⟨hM, hL, gh_okc (gh_ok64 _) (gh_okt (gh_okt hst))⟩
  · obtain ⟨hx, hb, hml, hown, hts, -⟩ := hE
    obtain ⟨hM, hL, hst⟩ := hp
    obtain ⟨hR, hS, hl⟩ := hA
    exact lv_lmul hx hb hd (gh_wlmul_e x y ▸ k ls ⟨hR, hS, hl⟩)
theorem gh_wiadd {x y : Int} (hd : decode M.2.1 pc = .ok (.iadd, 1)) (kk : gh_T E M d (pc + 1) L ((0, (Int32.ofInt x + Int32.ofInt y).toInt) :: st) m Q) : gh_T E M d pc L ((0, y) :: (0, x) :: st) m Q := by
  refine gh_pure kk (fun hp => ?_) (fun hp p e R s mt args below meth c hE H locs cells slots ls Qs hA k => ?_)
  · obtain ⟨hM, hL, hst⟩ := hp
    exact ⟨hM, hL, gh_okc (gh_ok32 _) (gh_okt (gh_okt hst))⟩
  · obtain ⟨hx, hb, hml, hown, hts, -⟩ := hE
    obtain ⟨hM, hL, hst⟩ := hp
    obtain ⟨hR, hS, hl⟩ := hA
    exact lv_iadd hx hb hd ((Int32.ofInt_toInt (Int32.ofInt x + Int32.ofInt y)) ▸ k ls ⟨hR, hS, hl⟩)
theorem gh_wisub {x y : Int} (hd : decode M.2.1 pc = .ok (.isub, 1)) (kk : gh_T E M d (pc + 1) L ((0, (Int32.ofInt x - Int32.ofInt y).toInt) :: st) m Q) : gh_T E M d pc L ((0, y) :: (0, x) :: st) m Q := by
  refine gh_pure kk (fun hp => ?_) (fun hp p e R s mt args below meth c hE H locs cells slots ls Qs hA k => ?_)
  · obtain ⟨hM, hL, hst⟩ := hp
    exact ⟨hM, hL, gh_okc (gh_ok32 _) (gh_okt (gh_okt hst))⟩
  · obtain ⟨hx, hb, hml, hown, hts, -⟩ := hE
    obtain ⟨hM, hL, hst⟩ := hp
    obtain ⟨hR, hS, hl⟩ := hA
    exact lv_isub hx hb hd ((Int32.ofInt_toInt (Int32.ofInt x - Int32.ofInt y)) ▸ k ls ⟨hR, hS, hl⟩)
def gh_iand_f (x y : Int) : Int := (Int32.ofInt x &&& Int32.ofInt y).toInt
theorem gh_iand_e (x y : Int) : Int32.ofInt (gh_iand_f x y) = Int32.ofInt x &&& Int32.ofInt y := Int32.ofInt_toInt _
theorem gh_iand {x y : Int} (hd : decode M.2.1 pc = .ok (.iand, 1)) (kk : gh_T E M d (pc + 1) L ((0, gh_iand_f x y) :: st) m Q) : gh_T E M d pc L ((0, y) :: (0, x) :: st) m Q := by
  refine gh_pure kk (fun hp => ?_) (fun hp p e R s mt args below meth c hE H locs cells slots ls Qs hA k => ?_)
  · obtain ⟨hM, hL, hst⟩ := hp
    exact ⟨hM, hL, gh_okc (gh_ok32 _) (gh_okt (gh_okt hst))⟩
  · obtain ⟨hx, hb, hml, hown, hts, -⟩ := hE
    obtain ⟨hM, hL, hst⟩ := hp
    obtain ⟨hR, hS, hl⟩ := hA
    exact lv_iand hx hb hd (gh_iand_e x y ▸ k ls ⟨hR, hS, hl⟩)
def gh_ior_f (x y : Int) : Int := (Int32.ofInt x ||| Int32.ofInt y).toInt
theorem gh_ior_e (x y : Int) : Int32.ofInt (gh_ior_f x y) = Int32.ofInt x ||| Int32.ofInt y := Int32.ofInt_toInt _
theorem gh_ior {x y : Int} (hd : decode M.2.1 pc = .ok (.ior, 1)) (kk : gh_T E M d (pc + 1) L ((0, gh_ior_f x y) :: st) m Q) : gh_T E M d pc L ((0, y) :: (0, x) :: st) m Q := by
  refine gh_pure kk (fun hp => ?_) (fun hp p e R s mt args below meth c hE H locs cells slots ls Qs hA k => ?_)
  · obtain ⟨hM, hL, hst⟩ := hp
    exact ⟨hM, hL, gh_okc (gh_ok32 _) (gh_okt (gh_okt hst))⟩
  · obtain ⟨hx, hb, hml, hown, hts, -⟩ := hE
    obtain ⟨hM, hL, hst⟩ := hp
    obtain ⟨hR, hS, hl⟩ := hA
    exact lv_ior hx hb hd (gh_ior_e x y ▸ k ls ⟨hR, hS, hl⟩)
def gh_ixor_f (x y : Int) : Int := (Int32.ofInt x ^^^ Int32.ofInt y).toInt
theorem gh_ixor_e (x y : Int) : Int32.ofInt (gh_ixor_f x y) = Int32.ofInt x ^^^ Int32.ofInt y := Int32.ofInt_toInt _
theorem gh_ixor {x y : Int} (hd : decode M.2.1 pc = .ok (.ixor, 1)) (kk : gh_T E M d (pc + 1) L ((0, gh_ixor_f x y) :: st) m Q) : gh_T E M d pc L ((0, y) :: (0, x) :: st) m Q := by
  refine gh_pure kk (fun hp => ?_) (fun hp p e R s mt args below meth c hE H locs cells slots ls Qs hA k => ?_)
  · obtain ⟨hM, hL, hst⟩ := hp
    exact ⟨hM, hL, gh_okc (gh_ok32 _) (gh_okt (gh_okt hst))⟩
  · obtain ⟨hx, hb, hml, hown, hts, -⟩ := hE
    obtain ⟨hM, hL, hst⟩ := hp
    obtain ⟨hR, hS, hl⟩ := hA
    exact lv_ixor hx hb hd (gh_ixor_e x y ▸ k ls ⟨hR, hS, hl⟩)
def gh_land_f (x y : Int) : Int := (Int64.ofInt x &&& Int64.ofInt y).toInt
theorem gh_land_e (x y : Int) : Int64.ofInt (gh_land_f x y) = Int64.ofInt x &&& Int64.ofInt y := Int64.ofInt_toInt _
theorem gh_land {x y : Int} (hd : decode M.2.1 pc = .ok (.land, 1)) (kk : gh_T E M d (pc + 1) L ((1, gh_land_f x y) :: st) m Q) : gh_T E M d pc L ((1, y) :: (1, x) :: st) m Q := by
  refine gh_pure kk (fun hp => ?_) (fun hp p e R s mt args below meth c hE H locs cells slots ls Qs hA k => ?_)
  · obtain ⟨hM, hL, hst⟩ := hp
    exact ⟨hM, hL, gh_okc (gh_ok64 _) (gh_okt (gh_okt hst))⟩
  · obtain ⟨hx, hb, hml, hown, hts, -⟩ := hE
    obtain ⟨hM, hL, hst⟩ := hp
    obtain ⟨hR, hS, hl⟩ := hA
    exact lv_land hx hb hd (gh_land_e x y ▸ k ls ⟨hR, hS, hl⟩)
def gh_lor_f (x y : Int) : Int := (Int64.ofInt x ||| Int64.ofInt y).toInt
theorem gh_lor_e (x y : Int) : Int64.ofInt (gh_lor_f x y) = Int64.ofInt x ||| Int64.ofInt y := Int64.ofInt_toInt _
theorem gh_lor {x y : Int} (hd : decode M.2.1 pc = .ok (.lor, 1)) (kk : gh_T E M d (pc + 1) L ((1, gh_lor_f x y) :: st) m Q) : gh_T E M d pc L ((1, y) :: (1, x) :: st) m Q := by
  refine gh_pure kk (fun hp => ?_) (fun hp p e R s mt args below meth c hE H locs cells slots ls Qs hA k => ?_)
  · obtain ⟨hM, hL, hst⟩ := hp
    exact ⟨hM, hL, gh_okc (gh_ok64 _) (gh_okt (gh_okt hst))⟩
  · obtain ⟨hx, hb, hml, hown, hts, -⟩ := hE
    obtain ⟨hM, hL, hst⟩ := hp
    obtain ⟨hR, hS, hl⟩ := hA
    exact lv_lor hx hb hd (gh_lor_e x y ▸ k ls ⟨hR, hS, hl⟩)
def gh_ishl_f (x y : Int) : Int := (Int32.ofInt x <<< (Int32.ofInt y &&& 31)).toInt
theorem gh_ishl_e (x y : Int) : Int32.ofInt (gh_ishl_f x y) = Int32.ofInt x <<< (Int32.ofInt y &&& 31) := Int32.ofInt_toInt _
theorem gh_ishl {x y : Int} (hd : decode M.2.1 pc = .ok (.ishl, 1)) (kk : gh_T E M d (pc + 1) L ((0, gh_ishl_f x y) :: st) m Q) : gh_T E M d pc L ((0, y) :: (0, x) :: st) m Q := by
  refine gh_pure kk (fun hp => ?_) (fun hp p e R s mt args below meth c hE H locs cells slots ls Qs hA k => ?_)
  · obtain ⟨hM, hL, hst⟩ := hp
    exact ⟨hM, hL, gh_okc (gh_ok32 _) (gh_okt (gh_okt hst))⟩
  · obtain ⟨hx, hb, hml, hown, hts, -⟩ := hE
    obtain ⟨hM, hL, hst⟩ := hp
    obtain ⟨hR, hS, hl⟩ := hA
    exact lv_ishl hx hb hd (gh_ishl_e x y ▸ k ls ⟨hR, hS, hl⟩)
def gh_ishr_f (x y : Int) : Int := (Int32.ofInt x >>> (Int32.ofInt y &&& 31)).toInt
theorem gh_ishr_e (x y : Int) : Int32.ofInt (gh_ishr_f x y) = Int32.ofInt x >>> (Int32.ofInt y &&& 31) := Int32.ofInt_toInt _
theorem gh_ishr {x y : Int} (hd : decode M.2.1 pc = .ok (.ishr, 1)) (kk : gh_T E M d (pc + 1) L ((0, gh_ishr_f x y) :: st) m Q) : gh_T E M d pc L ((0, y) :: (0, x) :: st) m Q := by
  refine gh_pure kk (fun hp => ?_) (fun hp p e R s mt args below meth c hE H locs cells slots ls Qs hA k => ?_)
  · obtain ⟨hM, hL, hst⟩ := hp
    exact ⟨hM, hL, gh_okc (gh_ok32 _) (gh_okt (gh_okt hst))⟩
  · obtain ⟨hx, hb, hml, hown, hts, -⟩ := hE
    obtain ⟨hM, hL, hst⟩ := hp
    obtain ⟨hR, hS, hl⟩ := hA
    exact lv_ishr hx hb hd (gh_ishr_e x y ▸ k ls ⟨hR, hS, hl⟩)
def gh_iushr_f (x y : Int) : Int := (((Int32.ofInt x).toUInt32 >>> ((Int32.ofInt y).toUInt32 &&& Int32.toUInt32 31)).toInt32).toInt
theorem gh_iushr_e (x y : Int) : ((Int32.ofInt x).toUInt32 >>> ((Int32.ofInt y).toUInt32 &&& Int32.toUInt32 31)).toInt32 = Int32.ofInt (gh_iushr_f x y) := (Int32.ofInt_toInt _).symm
theorem gh_iushr {x y : Int} (hd : decode M.2.1 pc = .ok (.iushr, 1)) (kk : gh_T E M d (pc + 1) L ((0, gh_iushr_f x y) :: st) m Q) : gh_T E M d pc L ((0, y) :: (0, x) :: st) m Q := by
  refine gh_pure kk (fun hp => ?_) (fun hp p e R s mt args below meth c hE H locs cells slots ls Qs hA k => ?_)
  · obtain ⟨hM, hL, hst⟩ := hp
    exact ⟨hM, hL, gh_okc (gh_ok32 _) (gh_okt (gh_okt hst))⟩
  · obtain ⟨hx, hb, hml, hown, hts, -⟩ := hE
    obtain ⟨hM, hL, hst⟩ := hp
    obtain ⟨hR, hS, hl⟩ := hA
    exact lv_iushr hx hb hd (gh_iushr_e x y) (k ls ⟨hR, hS, hl⟩)
def gh_lshl_f (x y : Int) : Int := (Int64.ofInt x <<< ((Int32.ofInt y).toInt64 &&& 63)).toInt
theorem gh_lshl_e (x y : Int) : Int64.ofInt x <<< ((Int32.ofInt y).toInt64 &&& 63) = Int64.ofInt (gh_lshl_f x y) := (Int64.ofInt_toInt _).symm
theorem gh_lshl {x y : Int} (hd : decode M.2.1 pc = .ok (.lshl, 1)) (kk : gh_T E M d (pc + 1) L ((1, gh_lshl_f x y) :: st) m Q) : gh_T E M d pc L ((0, y) :: (1, x) :: st) m Q := by
  refine gh_pure kk (fun hp => ?_) (fun hp p e R s mt args below meth c hE H locs cells slots ls Qs hA k => ?_)
  · obtain ⟨hM, hL, hst⟩ := hp
    exact ⟨hM, hL, gh_okc (gh_ok64 _) (gh_okt (gh_okt hst))⟩
  · obtain ⟨hx, hb, hml, hown, hts, -⟩ := hE
    obtain ⟨hM, hL, hst⟩ := hp
    obtain ⟨hR, hS, hl⟩ := hA
    exact lv_lshl hx hb hd (gh_lshl_e x y) (k ls ⟨hR, hS, hl⟩)
theorem gh_ineg {x : Int} (hd : decode M.2.1 pc = .ok (.ineg, 1)) (h : gh_ok 0 (-x)) (kk : gh_T E M d (pc + 1) L ((0, -x) :: st) m Q) : gh_T E M d pc L ((0, x) :: st) m Q := by
  refine gh_pure kk (fun hp => ?_) (fun hp p e R s mt args below meth c hE H locs cells slots ls Qs hA k => ?_)
  · obtain ⟨hM, hL, hst⟩ := hp
    exact ⟨hM, hL, gh_okc h (gh_okt hst)⟩
  · obtain ⟨hx, hb, hml, hown, hts, -⟩ := hE
    obtain ⟨hM, hL, hst⟩ := hp
    obtain ⟨hR, hS, hl⟩ := hA
    exact lv_ineg hx hb hd (Int32.ofInt_neg x ▸ k ls ⟨hR, hS, hl⟩)
theorem gh_dv32 {x y : Int} (hx : 0 ≤ x) (hy : 0 < y) (ox : gh_ok 0 x) (oy : gh_ok 0 y) : ¬ Int32.ofInt y = 0 ∧ Int32.ofInt x / Int32.ofInt y = Int32.ofInt (x / y) ∧ Int32.ofInt x - Int32.ofInt x / Int32.ofInt y * Int32.ofInt y = Int32.ofInt (x % y) ∧ gh_ok 0 (x / y) ∧ gh_ok 0 (x % y) := by
  obtain ⟨a, rfl⟩ := Int.eq_ofNat_of_zero_le hx
  obtain ⟨b, rfl⟩ := Int.eq_ofNat_of_zero_le (Int.le_of_lt hy)
  have h1 : a < 2 ^ 31 := by have := ox.2; omega
  have h2 : b < 2 ^ 31 := by have := oy.2; omega
  have hb : 0 < b := by omega
  have q1 : a / b ≤ a := Nat.div_le_self _ _
  have q2 : a % b < b := Nat.mod_lt _ hb
  refine ⟨?_, pk_div h1 hb h2, pk_rem h1 hb h2, ⟨?_, ?_⟩, ⟨?_, ?_⟩⟩
  · exact nI_ne0 hb h2
  · have := Int.ediv_nonneg hx (Int.le_of_lt hy); omega
  · rw [← Int.natCast_ediv]; omega
  · have := Int.emod_nonneg (a : Int) (b := (b : Int)) (by omega); omega
  · have := Int.emod_lt_of_pos (a : Int) hy; omega
theorem gh_dv64 {x y : Int} (hx : 0 ≤ x) (hy : 0 < y) (ox : gh_ok 1 x) (oy : gh_ok 1 y) : ¬ Int64.ofInt y = 0 ∧ Int64.ofInt x / Int64.ofInt y = Int64.ofInt (x / y) ∧ Int64.ofInt x - Int64.ofInt x / Int64.ofInt y * Int64.ofInt y = Int64.ofInt (x % y) ∧ gh_ok 1 (x / y) ∧ gh_ok 1 (x % y) := by
  obtain ⟨a, rfl⟩ := Int.eq_ofNat_of_zero_le hx
  obtain ⟨b, rfl⟩ := Int.eq_ofNat_of_zero_le (Int.le_of_lt hy)
  have h1 : a < 2 ^ 63 := by have := ox.2; omega
  have h2 : b < 2 ^ 63 := by have := oy.2; omega
  have hb : 0 < b := by omega
  have q1 : a / b ≤ a := Nat.div_le_self _ _
  have q2 : a % b < b := Nat.mod_lt _ hb
  refine ⟨?_, pk_lDiv h1 hb h2, pk_lRem h1 hb h2, ⟨?_, ?_⟩, ⟨?_, ?_⟩⟩
  · intro h
    have : (b : Nat) = 0 := (pk_lEQ h2 (by omega)).mp h
    omega
  · have := Int.ediv_nonneg hx (Int.le_of_lt hy); omega
  · rw [← Int.natCast_ediv]; omega
  · have := Int.emod_nonneg (a : Int) (b := (b : Int)) (by omega); omega
  · have := Int.emod_lt_of_pos (a : Int) hy; omega
theorem gh_idiv {x y : Int} (hd : decode M.2.1 pc = .ok (.idiv, 1)) (h0 : 0 ≤ x) (h1 : 0 < y) (kk : gh_T E M d (pc + 1) L ((0, x / y) :: st) m Q) : gh_T E M d pc L ((0, y) :: (0, x) :: st) m Q := by
  refine gh_pure kk (fun hp => ?_) (fun hp p e R s mt args below meth c hE H locs cells slots ls Qs hA k => ?_)
  · obtain ⟨hM, hL, hst⟩ := hp
    have Z := gh_dv32 h0 h1 (gh_okh (gh_okt hst)) (gh_okh hst)
    exact ⟨hM, hL, gh_okc Z.2.2.2.1 (gh_okt (gh_okt hst))⟩
  · obtain ⟨hx, hb, hml, hown, hts, -⟩ := hE
    obtain ⟨hM, hL, hst⟩ := hp
    obtain ⟨hR, hS, hl⟩ := hA
    have Z := gh_dv32 h0 h1 (gh_okh (gh_okt hst)) (gh_okh hst)
    exact lv_idiv hx hb hd Z.1 (Z.2.1.symm ▸ k ls ⟨hR, hS, hl⟩)
theorem gh_irem {x y : Int} (hd : decode M.2.1 pc = .ok (.irem, 1)) (h0 : 0 ≤ x) (h1 : 0 < y) (kk : gh_T E M d (pc + 1) L ((0, x % y) :: st) m Q) : gh_T E M d pc L ((0, y) :: (0, x) :: st) m Q := by
  refine gh_pure kk (fun hp => ?_) (fun hp p e R s mt args below meth c hE H locs cells slots ls Qs hA k => ?_)
  · obtain ⟨hM, hL, hst⟩ := hp
    have Z := gh_dv32 h0 h1 (gh_okh (gh_okt hst)) (gh_okh hst)
    exact ⟨hM, hL, gh_okc Z.2.2.2.2 (gh_okt (gh_okt hst))⟩
  · obtain ⟨hx, hb, hml, hown, hts, -⟩ := hE
    obtain ⟨hM, hL, hst⟩ := hp
    obtain ⟨hR, hS, hl⟩ := hA
    have Z := gh_dv32 h0 h1 (gh_okh (gh_okt hst)) (gh_okh hst)
    exact lv_irem hx hb hd Z.1 (Z.2.2.1.symm ▸ k ls ⟨hR, hS, hl⟩)
theorem gh_ldiv {x y : Int} (hd : decode M.2.1 pc = .ok (.ldiv, 1)) (h0 : 0 ≤ x) (h1 : 0 < y) (kk : gh_T E M d (pc + 1) L ((1, x / y) :: st) m Q) : gh_T E M d pc L ((1, y) :: (1, x) :: st) m Q := by
  refine gh_pure kk (fun hp => ?_) (fun hp p e R s mt args below meth c hE H locs cells slots ls Qs hA k => ?_)
  · obtain ⟨hM, hL, hst⟩ := hp
    have Z := gh_dv64 h0 h1 (gh_okh (gh_okt hst)) (gh_okh hst)
    exact ⟨hM, hL, gh_okc Z.2.2.2.1 (gh_okt (gh_okt hst))⟩
  · obtain ⟨hx, hb, hml, hown, hts, -⟩ := hE
    obtain ⟨hM, hL, hst⟩ := hp
    obtain ⟨hR, hS, hl⟩ := hA
    have Z := gh_dv64 h0 h1 (gh_okh (gh_okt hst)) (gh_okh hst)
    exact lv_ldiv hx hb hd Z.1 (Z.2.1.symm ▸ k ls ⟨hR, hS, hl⟩)
theorem gh_lrem {x y : Int} (hd : decode M.2.1 pc = .ok (.lrem, 1)) (h0 : 0 ≤ x) (h1 : 0 < y) (kk : gh_T E M d (pc + 1) L ((1, x % y) :: st) m Q) : gh_T E M d pc L ((1, y) :: (1, x) :: st) m Q := by
  refine gh_pure kk (fun hp => ?_) (fun hp p e R s mt args below meth c hE H locs cells slots ls Qs hA k => ?_)
  · obtain ⟨hM, hL, hst⟩ := hp
    have Z := gh_dv64 h0 h1 (gh_okh (gh_okt hst)) (gh_okh hst)
    exact ⟨hM, hL, gh_okc Z.2.2.2.2 (gh_okt (gh_okt hst))⟩
  · obtain ⟨hx, hb, hml, hown, hts, -⟩ := hE
    obtain ⟨hM, hL, hst⟩ := hp
    obtain ⟨hR, hS, hl⟩ := hA
    have Z := gh_dv64 h0 h1 (gh_okh (gh_okt hst)) (gh_okh hst)
    exact lv_lrem hx hb hd Z.1 (Z.2.2.1.symm ▸ k ls ⟨hR, hS, hl⟩)
theorem gh_ok01 {x : Int} (h : gh_ok 0 x) : gh_ok 1 x := by
  obtain ⟨h1, h2⟩ := (h : -2147483648 ≤ x ∧ x < 2147483648)
  exact ⟨by omega, by omega⟩
theorem gh_i2l {x : Int} (hd : decode M.2.1 pc = .ok (.i2l, 1)) (kk : gh_T E M d (pc + 1) L ((1, x) :: st) m Q) : gh_T E M d pc L ((0, x) :: st) m Q := by
  refine gh_pure kk (fun hp => ?_) (fun hp p e R s mt args below meth c hE H locs cells slots ls Qs hA k => ?_)
  · obtain ⟨hM, hL, hst⟩ := hp
    exact ⟨hM, hL, gh_okc (gh_ok01 (gh_okh hst)) (gh_okt hst)⟩
  · obtain ⟨hx, hb, hml, hown, hts, -⟩ := hE
    obtain ⟨hM, hL, hst⟩ := hp
    obtain ⟨hR, hS, hl⟩ := hA
    exact lv_i2l hx hb hd (by apply Int64.toInt_inj.mp; rw [Int32.toInt_toInt64, gh_i32 (gh_okh hst), gh_i64 (gh_ok01 (gh_okh hst))]) (k ls ⟨hR, hS, hl⟩)
def gh_cmp (x y : Int) : Int := if x > y then 1 else if x = y then 0 else -1
theorem gh_cmp_e {x y : Int} (hx : gh_ok 1 x) (hy : gh_ok 1 y) : lg_cmp (Int64.ofInt x) (Int64.ofInt y) = Int32.ofInt (gh_cmp x y) := by
  unfold lg_cmp gh_cmp
  simp only [gt_iff_lt, Int64.lt_iff_toInt_lt, ← Int64.toInt_inj, gh_i64 hx, gh_i64 hy]
  repeat' split
  all_goals first | rfl | omega
theorem gh_cmp_ok (x y : Int) : gh_ok 0 (gh_cmp x y) := by
  unfold gh_cmp
  repeat' split
  all_goals exact ⟨by decide, by decide⟩
theorem gh_cmp_lt {x y : Int} : gh_cmp x y < 0 ↔ x < y := by
  unfold gh_cmp
  repeat' split
  all_goals omega
theorem gh_cmp_ge {x y : Int} : gh_cmp x y ≥ 0 ↔ y ≤ x := by
  unfold gh_cmp
  repeat' split
  all_goals omega
theorem gh_cmp_gt {x y : Int} : gh_cmp x y > 0 ↔ y < x := by
  unfold gh_cmp
  repeat' split
  all_goals omega
theorem gh_cmp_le {x y : Int} : gh_cmp x y ≤ 0 ↔ x ≤ y := by
  unfold gh_cmp
  repeat' split
  all_goals omega
theorem gh_cmp_eq {x y : Int} : gh_cmp x y = 0 ↔ x = y := by
  unfold gh_cmp
  repeat' split
  all_goals omega
theorem gh_lcmp {x y : Int} (hd : decode M.2.1 pc = .ok (.lcmp, 1)) (kk : gh_T E M d (pc + 1) L ((0, gh_cmp x y) :: st) m Q) : gh_T E M d pc L ((1, y) :: (1, x) :: st) m Q := by
  refine gh_pure kk (fun hp => ?_) (fun hp p e R s mt args below meth c hE H locs cells slots ls Qs hA k => ?_)
  · obtain ⟨hM, hL, hst⟩ := hp
    exact ⟨hM, hL, gh_okc (gh_cmp_ok x y) (gh_okt (gh_okt hst))⟩
  · obtain ⟨hx, hb, hml, hown, hts, -⟩ := hE
    obtain ⟨hM, hL, hst⟩ := hp
    obtain ⟨hR, hS, hl⟩ := hA
    exact W.lcmp hx hb hd (gh_cmp_e (gh_okh (gh_okt hst)) (gh_okh hst) ▸ k ls ⟨hR, hS, hl⟩)
theorem gh_cat1 (E : gh_E) {t v : Int} (h : t ≠ 1) : (gh_cv E t v).category = 1 := by
  unfold gh_cv
  by_cases h0 : t = 0
  · subst h0; rfl
  · rw [if_neg h0, if_neg h]
    by_cases hv : v = 0
    · rw [if_pos hv]; rfl
    · rw [if_neg hv]; rfl
theorem gh_dup {t v : Int} (hd : decode M.2.1 pc = .ok (.dup, 1)) (ht : t ≠ 1) (kk : gh_T E M d (pc + 1) L ((t, v) :: (t, v) :: st) m Q) : gh_T E M d pc L ((t, v) :: st) m Q := by
  refine gh_pure kk (fun hp => ?_) (fun hp p e R s mt args below meth c hE H locs cells slots ls Qs hA k => ?_)
  · obtain ⟨hM, hL, hst⟩ := hp
    exact ⟨hM, hL, gh_okc (gh_okh hst) hst⟩
  · obtain ⟨hx, hb, hml, hown, hts, -⟩ := hE
    obtain ⟨hM, hL, hst⟩ := hp
    obtain ⟨hR, hS, hl⟩ := hA
    exact lv_dup hx hb hd (gh_cat1 E ht) (k ls ⟨hR, hS, hl⟩)
theorem gh_dup2 {t v t2 v2 : Int} (hd : decode M.2.1 pc = .ok (.dup2, 1)) (ht : t ≠ 1) (ht2 : t2 ≠ 1) (kk : gh_T E M d (pc + 1) L ((t, v) :: (t2, v2) :: (t, v) :: (t2, v2) :: st) m Q) : gh_T E M d pc L ((t, v) :: (t2, v2) :: st) m Q := by
  refine gh_pure kk (fun hp => ?_) (fun hp p e R s mt args below meth c hE H locs cells slots ls Qs hA k => ?_)
  · obtain ⟨hM, hL, hst⟩ := hp
    exact ⟨hM, hL, gh_okc (gh_okh hst) (gh_okc (gh_okh (gh_okt hst)) hst)⟩
  · obtain ⟨hx, hb, hml, hown, hts, -⟩ := hE
    obtain ⟨hM, hL, hst⟩ := hp
    obtain ⟨hR, hS, hl⟩ := hA
    exact lv_dup2_11 hx hb hd (gh_cat1 E ht) (gh_cat1 E ht2) (k ls ⟨hR, hS, hl⟩)
theorem gh_dup2w {v : Int} (hd : decode M.2.1 pc = .ok (.dup2, 1)) (kk : gh_T E M d (pc + 1) L ((1, v) :: (1, v) :: st) m Q) : gh_T E M d pc L ((1, v) :: st) m Q := by
  refine gh_pure kk (fun hp => ?_) (fun hp p e R s mt args below meth c hE H locs cells slots ls Qs hA k => ?_)
  · obtain ⟨hM, hL, hst⟩ := hp
    exact ⟨hM, hL, gh_okc (gh_okh hst) hst⟩
  · obtain ⟨hx, hb, hml, hown, hts, -⟩ := hE
    obtain ⟨hM, hL, hst⟩ := hp
    obtain ⟨hR, hS, hl⟩ := hA
    exact lv_dup2_2 hx hb hd rfl (k ls ⟨hR, hS, hl⟩)
theorem gh_goto {off : Int} {tgt : Nat} (hd : decode M.2.1 pc = .ok (.goto off, 3)) (ht : (pc : Int) + off = (tgt : Int)) (kk : gh_T E M d tgt L st m Q) : gh_T E M d pc L st m Q := by
  refine gh_pure kk (fun hp => hp) (fun hp p e R s mt args below meth c hE H locs cells slots ls Qs hA k => ?_)
  obtain ⟨hx, hb, hml, hown, hts, -⟩ := hE
  exact lv_goto hx hb hd ht (k ls hA)
theorem gh_z0 : (0 : Int32).toInt = 0 := rfl
theorem gh_if_eq {x : Int} {off : Int} {tgt : Nat} (hd : decode M.2.1 pc = .ok (.ifCond .eq off, 3)) (ht : (pc : Int) + off = (tgt : Int)) (kt : x = 0 → gh_T E M d tgt L st m Q) (kf : ¬ (x = 0) → gh_T E M d (pc + 3) L st m Q) : gh_T E M d pc L ((0, x) :: st) m Q := by
  refine gh_fork kt kf (fun hp => ⟨hp.1, hp.2.1, gh_okt hp.2.2⟩) (fun hp p e R s mt args below meth c hE H locs cells slots ls Qs hA => ?_)
  obtain ⟨hx, hb, hml, hown, hts, -⟩ := hE
  obtain ⟨hM, hL, hst⟩ := hp
  refine ⟨hA, fun k1 k2 => ?_⟩
  have e := gh_i32 (gh_okh hst)
  exact lv_if_eq hx hb hd ht (fun c0 => k1 (by simpa only [← Int32.toInt_inj, e, gh_z0, ge_iff_le, gt_iff_lt, ne_eq] using c0)) (fun c0 => k2 (by simpa only [← Int32.toInt_inj, e, gh_z0, ge_iff_le, gt_iff_lt, ne_eq, Classical.not_not] using c0))
theorem gh_icmp_eq {x y : Int} {off : Int} {tgt : Nat} (hd : decode M.2.1 pc = .ok (.if_icmp .eq off, 3)) (ht : (pc : Int) + off = (tgt : Int)) (kt : x = y → gh_T E M d tgt L st m Q) (kf : ¬ (x = y) → gh_T E M d (pc + 3) L st m Q) : gh_T E M d pc L ((0, y) :: (0, x) :: st) m Q := by
  refine gh_fork kt kf (fun hp => ⟨hp.1, hp.2.1, gh_okt (gh_okt hp.2.2)⟩) (fun hp p e R s mt args below meth c hE H locs cells slots ls Qs hA => ?_)
  obtain ⟨hx, hb, hml, hown, hts, -⟩ := hE
  obtain ⟨hM, hL, hst⟩ := hp
  refine ⟨hA, fun k1 k2 => ?_⟩
  have e := gh_i32 (gh_okh (gh_okt hst))
  have e2 := gh_i32 (gh_okh hst)
  exact lv_icmp_eq hx hb hd ht (fun c0 => k1 (by simpa only [← Int32.toInt_inj, e, e2, ge_iff_le, gt_iff_lt, ne_eq] using c0)) (fun c0 => k2 (by simpa only [← Int32.toInt_inj, e, e2, ge_iff_le, gt_iff_lt, ne_eq, Classical.not_not] using c0))
theorem gh_if_ne {x : Int} {off : Int} {tgt : Nat} (hd : decode M.2.1 pc = .ok (.ifCond .ne off, 3)) (ht : (pc : Int) + off = (tgt : Int)) (kt : ¬ x = 0 → gh_T E M d tgt L st m Q) (kf : x = 0 → gh_T E M d (pc + 3) L st m Q) : gh_T E M d pc L ((0, x) :: st) m Q := by
  refine gh_fork kt (fun h => kf (Classical.not_not.mp h)) (fun hp => ⟨hp.1, hp.2.1, gh_okt hp.2.2⟩) (fun hp p e R s mt args below meth c hE H locs cells slots ls Qs hA => ?_)
  obtain ⟨hx, hb, hml, hown, hts, -⟩ := hE
  obtain ⟨hM, hL, hst⟩ := hp
  refine ⟨hA, fun k1 k2 => ?_⟩
  have e := gh_i32 (gh_okh hst)
  exact lv_if_ne hx hb hd ht (fun c0 => k1 (by simpa only [← Int32.toInt_inj, e, gh_z0, ge_iff_le, gt_iff_lt, ne_eq] using c0)) (fun c0 => k2 (not_not_intro <| by simpa only [← Int32.toInt_inj, e, gh_z0, ge_iff_le, gt_iff_lt, ne_eq, Classical.not_not] using c0))
theorem gh_icmp_ne {x y : Int} {off : Int} {tgt : Nat} (hd : decode M.2.1 pc = .ok (.if_icmp .ne off, 3)) (ht : (pc : Int) + off = (tgt : Int)) (kt : ¬ x = y → gh_T E M d tgt L st m Q) (kf : x = y → gh_T E M d (pc + 3) L st m Q) : gh_T E M d pc L ((0, y) :: (0, x) :: st) m Q := by
  refine gh_fork kt (fun h => kf (Classical.not_not.mp h)) (fun hp => ⟨hp.1, hp.2.1, gh_okt (gh_okt hp.2.2)⟩) (fun hp p e R s mt args below meth c hE H locs cells slots ls Qs hA => ?_)
  obtain ⟨hx, hb, hml, hown, hts, -⟩ := hE
  obtain ⟨hM, hL, hst⟩ := hp
  refine ⟨hA, fun k1 k2 => ?_⟩
  have e := gh_i32 (gh_okh (gh_okt hst))
  have e2 := gh_i32 (gh_okh hst)
  exact lv_icmp_ne hx hb hd ht (fun c0 => k1 (by simpa only [← Int32.toInt_inj, e, e2, ge_iff_le, gt_iff_lt, ne_eq] using c0)) (fun c0 => k2 (not_not_intro <| by simpa only [← Int32.toInt_inj, e, e2, ge_iff_le, gt_iff_lt, ne_eq, Classical.not_not] using c0))
theorem gh_if_lt {x : Int} {off : Int} {tgt : Nat} (hd : decode M.2.1 pc = .ok (.ifCond .lt off, 3)) (ht : (pc : Int) + off = (tgt : Int)) (kt : x < 0 → gh_T E M d tgt L st m Q) (kf : ¬ (x < 0) → gh_T E M d (pc + 3) L st m Q) : gh_T E M d pc L ((0, x) :: st) m Q := by
  refine gh_fork kt kf (fun hp => ⟨hp.1, hp.2.1, gh_okt hp.2.2⟩) (fun hp p e R s mt args below meth c hE H locs cells slots ls Qs hA => ?_)
  obtain ⟨hx, hb, hml, hown, hts, -⟩ := hE
  obtain ⟨hM, hL, hst⟩ := hp
  refine ⟨hA, fun k1 k2 => ?_⟩
  have e := gh_i32 (gh_okh hst)
  exact lv_if_lt hx hb hd ht (fun c0 => k1 (by simpa only [Int32.lt_iff_toInt_lt, e, gh_z0, ge_iff_le, gt_iff_lt, ne_eq] using c0)) (fun c0 => k2 (by simpa only [Int32.lt_iff_toInt_lt, e, gh_z0, ge_iff_le, gt_iff_lt, ne_eq, Classical.not_not] using c0))
theorem gh_icmp_lt {x y : Int} {off : Int} {tgt : Nat} (hd : decode M.2.1 pc = .ok (.if_icmp .lt off, 3)) (ht : (pc : Int) + off = (tgt : Int)) (kt : x < y → gh_T E M d tgt L st m Q) (kf : ¬ (x < y) → gh_T E M d (pc + 3) L st m Q) : gh_T E M d pc L ((0, y) :: (0, x) :: st) m Q := by
  refine gh_fork kt kf (fun hp => ⟨hp.1, hp.2.1, gh_okt (gh_okt hp.2.2)⟩) (fun hp p e R s mt args below meth c hE H locs cells slots ls Qs hA => ?_)
  obtain ⟨hx, hb, hml, hown, hts, -⟩ := hE
  obtain ⟨hM, hL, hst⟩ := hp
  refine ⟨hA, fun k1 k2 => ?_⟩
  have e := gh_i32 (gh_okh (gh_okt hst))
  have e2 := gh_i32 (gh_okh hst)
  exact lv_icmp_lt hx hb hd ht (fun c0 => k1 (by simpa only [Int32.lt_iff_toInt_lt, e, e2, ge_iff_le, gt_iff_lt, ne_eq] using c0)) (fun c0 => k2 (by simpa only [Int32.lt_iff_toInt_lt, e, e2, ge_iff_le, gt_iff_lt, ne_eq, Classical.not_not] using c0))
theorem gh_if_ge {x : Int} {off : Int} {tgt : Nat} (hd : decode M.2.1 pc = .ok (.ifCond .ge off, 3)) (ht : (pc : Int) + off = (tgt : Int)) (kt : x ≥ 0 → gh_T E M d tgt L st m Q) (kf : ¬ (x ≥ 0) → gh_T E M d (pc + 3) L st m Q) : gh_T E M d pc L ((0, x) :: st) m Q := by
  refine gh_fork kt kf (fun hp => ⟨hp.1, hp.2.1, gh_okt hp.2.2⟩) (fun hp p e R s mt args below meth c hE H locs cells slots ls Qs hA => ?_)
  obtain ⟨hx, hb, hml, hown, hts, -⟩ := hE
  obtain ⟨hM, hL, hst⟩ := hp
  refine ⟨hA, fun k1 k2 => ?_⟩
  have e := gh_i32 (gh_okh hst)
  exact lv_if_ge hx hb hd ht (fun c0 => k1 (by simpa only [Int32.le_iff_toInt_le, e, gh_z0, ge_iff_le, gt_iff_lt, ne_eq] using c0)) (fun c0 => k2 (by simpa only [Int32.le_iff_toInt_le, e, gh_z0, ge_iff_le, gt_iff_lt, ne_eq, Classical.not_not] using c0))
theorem gh_icmp_ge {x y : Int} {off : Int} {tgt : Nat} (hd : decode M.2.1 pc = .ok (.if_icmp .ge off, 3)) (ht : (pc : Int) + off = (tgt : Int)) (kt : x ≥ y → gh_T E M d tgt L st m Q) (kf : ¬ (x ≥ y) → gh_T E M d (pc + 3) L st m Q) : gh_T E M d pc L ((0, y) :: (0, x) :: st) m Q := by
  refine gh_fork kt kf (fun hp => ⟨hp.1, hp.2.1, gh_okt (gh_okt hp.2.2)⟩) (fun hp p e R s mt args below meth c hE H locs cells slots ls Qs hA => ?_)
  obtain ⟨hx, hb, hml, hown, hts, -⟩ := hE
  obtain ⟨hM, hL, hst⟩ := hp
  refine ⟨hA, fun k1 k2 => ?_⟩
  have e := gh_i32 (gh_okh (gh_okt hst))
  have e2 := gh_i32 (gh_okh hst)
  exact lv_icmp_ge hx hb hd ht (fun c0 => k1 (by simpa only [Int32.le_iff_toInt_le, e, e2, ge_iff_le, gt_iff_lt, ne_eq] using c0)) (fun c0 => k2 (by simpa only [Int32.le_iff_toInt_le, e, e2, ge_iff_le, gt_iff_lt, ne_eq, Classical.not_not] using c0))
theorem gh_if_gt {x : Int} {off : Int} {tgt : Nat} (hd : decode M.2.1 pc = .ok (.ifCond .gt off, 3)) (ht : (pc : Int) + off = (tgt : Int)) (kt : x > 0 → gh_T E M d tgt L st m Q) (kf : ¬ (x > 0) → gh_T E M d (pc + 3) L st m Q) : gh_T E M d pc L ((0, x) :: st) m Q := by
  refine gh_fork kt kf (fun hp => ⟨hp.1, hp.2.1, gh_okt hp.2.2⟩) (fun hp p e R s mt args below meth c hE H locs cells slots ls Qs hA => ?_)
  obtain ⟨hx, hb, hml, hown, hts, -⟩ := hE
  obtain ⟨hM, hL, hst⟩ := hp
  refine ⟨hA, fun k1 k2 => ?_⟩
  have e := gh_i32 (gh_okh hst)
  exact lv_if_gt hx hb hd ht (fun c0 => k1 (by simpa only [Int32.lt_iff_toInt_lt, e, gh_z0, ge_iff_le, gt_iff_lt, ne_eq] using c0)) (fun c0 => k2 (by simpa only [Int32.lt_iff_toInt_lt, e, gh_z0, ge_iff_le, gt_iff_lt, ne_eq, Classical.not_not] using c0))
theorem gh_icmp_gt {x y : Int} {off : Int} {tgt : Nat} (hd : decode M.2.1 pc = .ok (.if_icmp .gt off, 3)) (ht : (pc : Int) + off = (tgt : Int)) (kt : x > y → gh_T E M d tgt L st m Q) (kf : ¬ (x > y) → gh_T E M d (pc + 3) L st m Q) : gh_T E M d pc L ((0, y) :: (0, x) :: st) m Q := by
  refine gh_fork kt kf (fun hp => ⟨hp.1, hp.2.1, gh_okt (gh_okt hp.2.2)⟩) (fun hp p e R s mt args below meth c hE H locs cells slots ls Qs hA => ?_)
  obtain ⟨hx, hb, hml, hown, hts, -⟩ := hE
  obtain ⟨hM, hL, hst⟩ := hp
  refine ⟨hA, fun k1 k2 => ?_⟩
  have e := gh_i32 (gh_okh (gh_okt hst))
  have e2 := gh_i32 (gh_okh hst)
  exact lv_icmp_gt hx hb hd ht (fun c0 => k1 (by simpa only [Int32.lt_iff_toInt_lt, e, e2, ge_iff_le, gt_iff_lt, ne_eq] using c0)) (fun c0 => k2 (by simpa only [Int32.lt_iff_toInt_lt, e, e2, ge_iff_le, gt_iff_lt, ne_eq, Classical.not_not] using c0))
theorem gh_if_le {x : Int} {off : Int} {tgt : Nat} (hd : decode M.2.1 pc = .ok (.ifCond .le off, 3)) (ht : (pc : Int) + off = (tgt : Int)) (kt : x ≤ 0 → gh_T E M d tgt L st m Q) (kf : ¬ (x ≤ 0) → gh_T E M d (pc + 3) L st m Q) : gh_T E M d pc L ((0, x) :: st) m Q := by
  refine gh_fork kt kf (fun hp => ⟨hp.1, hp.2.1, gh_okt hp.2.2⟩) (fun hp p e R s mt args below meth c hE H locs cells slots ls Qs hA => ?_)
  obtain ⟨hx, hb, hml, hown, hts, -⟩ := hE
  obtain ⟨hM, hL, hst⟩ := hp
  refine ⟨hA, fun k1 k2 => ?_⟩
  have e := gh_i32 (gh_okh hst)
  exact lv_if_le hx hb hd ht (fun c0 => k1 (by simpa only [Int32.le_iff_toInt_le, e, gh_z0, ge_iff_le, gt_iff_lt, ne_eq] using c0)) (fun c0 => k2 (by simpa only [Int32.le_iff_toInt_le, e, gh_z0, ge_iff_le, gt_iff_lt, ne_eq, Classical.not_not] using c0))
theorem gh_icmp_le {x y : Int} {off : Int} {tgt : Nat} (hd : decode M.2.1 pc = .ok (.if_icmp .le off, 3)) (ht : (pc : Int) + off = (tgt : Int)) (kt : x ≤ y → gh_T E M d tgt L st m Q) (kf : ¬ (x ≤ y) → gh_T E M d (pc + 3) L st m Q) : gh_T E M d pc L ((0, y) :: (0, x) :: st) m Q := by
  refine gh_fork kt kf (fun hp => ⟨hp.1, hp.2.1, gh_okt (gh_okt hp.2.2)⟩) (fun hp p e R s mt args below meth c hE H locs cells slots ls Qs hA => ?_)
  obtain ⟨hx, hb, hml, hown, hts, -⟩ := hE
  obtain ⟨hM, hL, hst⟩ := hp
  refine ⟨hA, fun k1 k2 => ?_⟩
  have e := gh_i32 (gh_okh (gh_okt hst))
  have e2 := gh_i32 (gh_okh hst)
  exact lv_icmp_le hx hb hd ht (fun c0 => k1 (by simpa only [Int32.le_iff_toInt_le, e, e2, ge_iff_le, gt_iff_lt, ne_eq] using c0)) (fun c0 => k2 (by simpa only [Int32.le_iff_toInt_le, e, e2, ge_iff_le, gt_iff_lt, ne_eq, Classical.not_not] using c0))
end G2
