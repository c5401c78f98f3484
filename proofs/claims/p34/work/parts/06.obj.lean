/-! FIELDS, NEW OBJECTS AND ARRAYS, SWITCHES -/
def gh_gt (t : FieldType) : Bool := match t with | .int => true | .boolean => true | .long => true | .object _ => true | .array _ => true | _ => false
/-- what the tables say of class ci -/
def gh_ck (ci : Nat) (C : String) (T : u_T) (N : Nat) : Prop := gh_cl[ci]? = some (C, T, N) ∧ (∀ w ∈ u_ws C T N, w ∈ gh_tb) ∧ (∀ k, k < N → parseFieldDescriptor (T k).2.2.1 = some (gh_ft ci k)) ∧ (∀ a, a < N → ∀ b, b < N → a ≠ b → (T a).2.1 ≠ (T b).2.1) ∧ ∀ k, k < N → gh_gt (gh_ft ci k) = true
theorem gh_lay_good {C : String} {T : u_T} {N : Nat} (h : ∀ w ∈ u_ws C T N, w ∈ lw_tbl) : ∀ w ∈ u_ws C T N, w ∈ gh_tb := by
  intro w hw
  refine List.mem_filter.mpr ⟨h w hw, ?_⟩
  obtain ⟨k, -, rfl⟩ := List.mem_map.mp hw
  unfold u_lay
  split <;> rfl
section G4
variable {E : gh_E} {M : gh_I} {d pc : Nat} {L L2 : gh_Ls} {st : gh_St} {m : gh_M} {Q : Int → gh_M → Prop}
theorem gh_obj {E : gh_E} {m : gh_M} {s : State} {H : Heap} {a : Int} {ci : Nat} {C : String} {T : u_T} {N : Nat} (hR : gh_R E m s H) (hA : gh_isA m a (10 + ci)) (hc : gh_cl[ci]? = some (C, T, N)) : t_OB (gh_ad E a) (E.2.1.1 ci) N (E.2.1.2 ci) H (fun j => gh_cv E (gh_tg (10 + ci) j) (m a j)) := by
  obtain ⟨h1, h2, h3⟩ := hA
  have h := hR.1 a h1 h2
  unfold gh_cell at h
  rw [h3, if_neg (by omega)] at h
  have e : ((10 : Int) + (ci : Int) - 10).toNat = ci := by omega
  rw [e] at h
  obtain ⟨q, g1, g2⟩ := h
  have : q = (C, T, N) := Option.some.inj (g1.symm.trans hc)
  subst this
  exact g2
theorem gh_get {a : Int} {ci idx k : Nat} {C : String} {T : u_T} {N : Nat} {t : Int} (hd : decode M.2.1 pc = .ok (.getfield idx, 3)) (hc : gh_ck ci C T N) (hA : gh_isA m a (10 + ci)) (hl : m 0 (2 * a + 1) = N) (hk : k < N) (hw : Cond.fieldLink M.1 idx (T k).1 (T k).2.1 (T k).2.2.1 ∈ gh_tb) (ht : gh_tg (10 + ci) k = t) (kk : gh_T E M d (pc + 3) L ((t, m a k) :: st) m Q) : gh_T E M d pc L ((2, a) :: st) m Q := by
  refine gh_pure kk (fun hp => ⟨hp.1, hp.2.1, gh_okc ?_ (gh_okt hp.2.2)⟩) (fun hp p e R s mt args below meth c hE H locs cells slots ls Qs hAt kq => ?_)
  · have := hp.1.1 a k (by have := hA.1; omega) hA.2.1 (by omega) (by omega)
    rw [hA.2.2, ht] at this
    exact this
  · obtain ⟨hx, hb, hml, hown, hts, -, -, -, hK⟩ := hE
    obtain ⟨hc1, hc2, hc3, hc4, -⟩ := hc
    obtain ⟨cell, q1, q2, q3, q4⟩ := gh_obj hAt.1 hA hc1
    rw [gh_sc1 (by have := hA.1; omega)]
    obtain ⟨hS, hfc, kC, hkC, hkind⟩ := hK.1.1 ci _ hc1
    obtain ⟨cf, kf, fi, f, hi, hsl⟩ := hS k hk
    refine W.getf hx hb hown (hts _ hw) hi (u_facts hfc hkC (u_lays hts hc2 hk) hi).1 q1 (by rw [q3]; exact fun h => by cases h) (v := gh_cv E t (m a k)) ?_ rfl rfl hd (kq ls hAt)
    rw [hsl, q4 k hk]
    show some (gh_cv E (gh_tg (10 + ci) k) (m a k)) = _
    rw [ht]
theorem gh_obj_upd {E : gh_E} {m : gh_M} {a v : Int} {ci k : Nat} {C : String} {T : u_T} {N : Nat} {H2 : Heap} (hA : gh_isA m a (10 + ci)) (hc : gh_cl[ci]? = some (C, T, N)) (h : t_OB (gh_ad E a) (E.2.1.1 ci) N (E.2.1.2 ci) H2 (updV (fun j => gh_cv E (gh_tg (10 + ci) j) (m a j)) k (gh_cv E (gh_tg (10 + ci) k) v))) : gh_cell E (gh_u m a k v) a H2 := by
  unfold gh_cell
  have h2 := hA.1
  have e0 : ∀ j, gh_u m a k v 0 j = m 0 j := fun j => gh_u_a (by omega)
  rw [e0, e0, hA.2.2, if_neg (by omega)]
  have e : ((10 : Int) + (ci : Int) - 10).toNat = ci := by omega
  rw [e]
  refine ⟨_, hc, h.to (fun j hj => ?_)⟩
  unfold updV gh_u
  by_cases q : j = k
  · subst q
    rw [if_pos rfl, if_pos ⟨rfl, rfl⟩]
  · rw [if_neg q, if_neg (fun z => q (by have := z.2; omega))]
/-- what may be written into a field -/
def gh_fw (ci k : Nat) (v : Int) : Prop := gh_ft ci k = .boolean → v = 0 ∨ v = 1
theorem gh_fnar {E : gh_E} {ci k : Nat} {t v : Int} (hg : gh_gt (gh_ft ci k) = true) (hf : gh_tF (gh_ft ci k) = t) (hb : gh_fw ci k v) : narrow (gh_ft ci k) (gh_cv E t v) = gh_cv E t v ∧ fits (gh_ft ci k) (gh_cv E t v) = true := by
  subst hf
  unfold gh_fw at hb
  generalize gh_ft ci k = ty at hg hb ⊢
  have hn : narrow ty (gh_cv E (gh_tF ty) v) = gh_cv E (gh_tF ty) v := by
    cases ty with
    | int => rfl
    | long => rfl
    | boolean => exact gh_nz (hb rfl)
    | object _ => unfold gh_tF gh_cv; simp only [show ¬ ((2:Int) = 0) by omega, show ¬ ((2:Int) = 1) by omega, if_false]; split <;> rfl
    | array _ => unfold gh_tF gh_cv; simp only [show ¬ ((2:Int) = 0) by omega, show ¬ ((2:Int) = 1) by omega, if_false]; split <;> rfl
    | _ => cases hg
  refine ⟨hn, ?_⟩
  cases ty with
  | int => rfl
  | long => rfl
  | boolean =>
    rcases hb rfl with rfl | rfl <;> rfl
  | object _ => unfold gh_tF gh_cv; simp only [show ¬ ((2:Int) = 0) by omega, show ¬ ((2:Int) = 1) by omega, if_false]; split <;> rfl
  | array _ => unfold gh_tF gh_cv; simp only [show ¬ ((2:Int) = 0) by omega, show ¬ ((2:Int) = 1) by omega, if_false]; split <;> rfl
  | _ => cases hg
theorem gh_tgc (ci : Nat) (k : Nat) : gh_tg (10 + ci) k = gh_tF (gh_ft ci k) := by
  unfold gh_tg
  rw [if_neg (by omega), if_neg (by omega), if_neg (by omega)]
  congr 2
  omega
theorem gh_sc22 {E : gh_E} {a t v : Int} {st : gh_St} (ha : a ≠ 0) : gh_sc E ((t, v) :: (2, a) :: st) = gh_cv E t v :: .ref (gh_ad E a) :: gh_sc E st := by
  show gh_cv E t v :: gh_cv E 2 a :: gh_sc E st = _
  rw [gh_cv2 E ha]
theorem gh_put {a v : Int} {ci idx k : Nat} {C : String} {T : u_T} {N : Nat} {t : Int} (hd : decode M.2.1 pc = .ok (.putfield idx, 3)) (hc : gh_ck ci C T N) (hA : gh_isA m a (10 + ci)) (hk : k < N) (hw : Cond.fieldLink M.1 idx (T k).1 (T k).2.1 (T k).2.2.1 ∈ gh_tb) (ht : gh_tg (10 + ci) k = t) (hfw : gh_fw ci k v) (hfin : (T k).2.2.2 = false ∨ (M.2.2.2.1 = true ∧ (T k).1 = M.1)) (kk : gh_T E M d (pc + 3) L st (gh_u m a k v) Q) : gh_T E M d pc L ((t, v) :: (2, a) :: st) m Q := by
  refine gh_write hA.1 kk (fun hp => ⟨gh_Mok_upd hp.1 hA.1 (by rw [hA.2.2, ht]; exact gh_okh hp.2.2), hp.2.1, gh_okt (gh_okt hp.2.2)⟩) (fun hp p e R s mt args below meth c hE H locs cells slots ls Qs hAt kq => ?_)
  obtain ⟨hx, hb, hml, hown, hts, hini, -, -, hK⟩ := hE
  obtain ⟨hc1, hc2, hc3, hc4, hc5⟩ := hc
  have hap := va_apart (own := M.1) hts hc2 _ hc3 hc4 hK.1 hc1
  obtain ⟨cell, q1, q2, q3, q4⟩ := gh_obj hAt.1 hA hc1
  rw [gh_sc22 (by have := hA.1; omega)]
  obtain ⟨hS, hfc, kC, hkC, hkind⟩ := hK.1.1 ci _ hc1
  obtain ⟨cf, kf, fi, f, hi, hsl⟩ := hS k hk
  have hst := (u_facts hfc hkC (u_lays hts hc2 hk) hi).1
  obtain ⟨hn, hfit⟩ := gh_fnar (E := E) (hc5 k hk) ((gh_tgc ci k).symm.trans ht) hfw
  have hlay := hts _ (hc2 _ (u_in_lay hk))
  have fin : ∀ H1 : Heap, H1[gh_ad E a]? = some (cell.setSlot f.slot (gh_cv E t v)) → gh_cell E (gh_u m a k v) a H1 := by
    intro H1 e1
    rw [hsl] at e1
    exact gh_obj_upd hA hc1 ⟨_, e1, q2, q3, by rw [ht]; exact t_set q4 hap hk _⟩
  rcases hfin with hfin | ⟨hf1, hf2⟩
  · unfold u_lay at hlay
    rw [if_neg (by rw [hfin]; decide)] at hlay
    have h6 := u_store hfc hkC hkind hlay hi (hc3 k hk) hn hfit
    exact W.putK hx hb (f := f) ⟨hown, hts _ hw, ⟨_, _, _, hi⟩, hst⟩ (by rw [q2]; exact h6) q1 q3 (by rw [hsl]; exact k2_hasslot (q4 k hk)) rfl rfl hd fun H1 e1 e2 e3 => kq H1 _ e2 e3 (fin H1 e1)
  · by_cases hff : (T k).2.2.2 = false
    · unfold u_lay at hlay
      rw [if_neg (by rw [hff]; decide)] at hlay
      have h6 := u_store hfc hkC hkind hlay hi (hc3 k hk) hn hfit
      exact W.putK hx hb (f := f) ⟨hown, hts _ hw, ⟨_, _, _, hi⟩, hst⟩ (by rw [q2]; exact h6) q1 q3 (by rw [hsl]; exact k2_hasslot (q4 k hk)) rfl rfl hd fun H1 e1 e2 e3 => kq H1 _ e2 e3 (fin H1 e1)
    · have hft : (T k).2.2.2 = true := by simpa using hff
      unfold u_lay at hlay
      rw [if_pos hft] at hlay
      have hcf : mt.cls = cf := by
        obtain ⟨_, _, c', _, _, _, -, -, hf', -, -, -, hown2, -⟩ := Cond.laysFinal_spec hlay
        have e1 : c' = cf := by have := hi.symm.trans hf'; simp at this; exact this.1.symm
        rw [hf2] at hown2
        rw [← e1]; exact Option.some.inj (hown.symm.trans hown2)
      have h6 := u_fits hfc hkC hkind (Or.inr hlay) hi (hc3 k hk) hn hfit
      exact W.putFinK hx hb hown (hts _ hw) hi hst hcf (hini hf1) (by rw [q2]; exact h6) q1 q3 (by rw [hsl]; exact k2_hasslot (q4 k hk)) rfl rfl hd fun H1 e1 e2 e3 => kq H1 _ e2 e3 (fin H1 e1)
/-- the memory with one more cell -/
def gh_al (m : gh_M) (κ n : Int) : gh_M := fun a i => if a = m 0 1 then 0 else if a = 0 then (if i = 0 then m 0 0 + n else if i = 1 then m 0 1 + 1 else if i = 2 * m 0 1 then κ else if i = 2 * m 0 1 + 1 then n else m 0 i) else m a i
theorem gh_al_0 {m : gh_M} {κ n i : Int} (h : 2 ≤ m 0 1) (hi : 2 ≤ i) (h1 : i ≠ 2 * m 0 1) (h2 : i ≠ 2 * m 0 1 + 1) : gh_al m κ n 0 i = m 0 i := by
  unfold gh_al
  rw [if_neg (by omega), if_pos rfl, if_neg (by omega), if_neg (by omega), if_neg h1, if_neg h2]
theorem gh_al_00 {m : gh_M} {κ n : Int} (h : 2 ≤ m 0 1) : gh_al m κ n 0 0 = m 0 0 + n := by
  unfold gh_al
  rw [if_neg (by omega), if_pos rfl, if_pos rfl]
theorem gh_al_01 {m : gh_M} {κ n : Int} (h : 2 ≤ m 0 1) : gh_al m κ n 0 1 = m 0 1 + 1 := by
  unfold gh_al
  rw [if_neg (by omega), if_pos rfl, if_neg (by omega), if_pos rfl]
theorem gh_al_k {m : gh_M} {κ n : Int} (h : 2 ≤ m 0 1) : gh_al m κ n 0 (2 * m 0 1) = κ := by
  unfold gh_al
  rw [if_neg (by omega), if_pos rfl, if_neg (by omega), if_neg (by omega), if_pos rfl]
theorem gh_al_l {m : gh_M} {κ n : Int} (h : 2 ≤ m 0 1) : gh_al m κ n 0 (2 * m 0 1 + 1) = n := by
  unfold gh_al
  rw [if_neg (by omega), if_pos rfl, if_neg (by omega), if_neg (by omega), if_neg (by omega), if_pos rfl]
theorem gh_al_n {m : gh_M} {κ n : Int} : gh_al m κ n (m 0 1) = fun _ => 0 := by
  funext i
  unfold gh_al
  rw [if_pos rfl]
theorem gh_al_o {m : gh_M} {κ n a : Int} (h : a ≠ m 0 1) (h0 : a ≠ 0) : gh_al m κ n a = m a := by
  funext i
  unfold gh_al
  rw [if_neg h, if_neg h0]
theorem gh_ok0 (t : Int) : gh_ok t 0 := by
  unfold gh_ok
  split
  · exact ⟨by omega, by omega⟩
  · split
    · exact ⟨by omega, by omega⟩
    · trivial
theorem gh_Mok_al {m : gh_M} {κ n : Int} (hM : gh_Mok m) (hn : 0 ≤ n) (hn2 : n < 2147483648) : gh_Mok (gh_al m κ n) := by
  obtain ⟨h1, h2, h3, h4, h5⟩ := hM
  refine ⟨fun k j k1 k2 j1 j2 => ?_, fun k k1 k2 => ?_, ?_, ?_, ?_⟩
  · rw [gh_al_01 h3] at k2
    by_cases hk : k = m 0 1
    · subst hk
      rw [gh_al_n]; exact gh_ok0 _
    · rw [gh_al_0 h3 (by omega) (by omega) (by omega)] at j2 ⊢
      rw [gh_al_o hk (by omega)]
      exact h1 k j k1 (by omega) j1 j2
  · rw [gh_al_01 h3] at k2
    by_cases hk : k = m 0 1
    · subst hk
      rw [gh_al_l h3]; exact ⟨hn, hn2⟩
    · rw [gh_al_0 h3 (by omega) (by omega) (by omega)]
      exact h2 k k1 (by omega)
  · rw [gh_al_01 h3]; omega
  · rw [gh_al_00 h3]; omega
  · rw [gh_al_0 h3 (by omega) (by omega) (by omega)]; exact h5
theorem gh_R_al {E : gh_E} {m : gh_M} {s : State} {H H2 : Heap} {κ n : Int} (hR : gh_R E m s H) (hM : gh_Mok m) (z : H2.size = H.size + 1) (oq : ∀ q : Nat, q < H.size → H2[q]? = H[q]?) (hc : gh_cell E (gh_al m κ n) (m 0 1) H2) : gh_R E (gh_al m κ n) s H2 := by
  obtain ⟨h1, h2, h3, h4⟩ := hR
  have h5 := hM.2.2.1
  refine ⟨fun k k2 k3 => ?_, ?_, ⟨h3.1, fun f => (by have := h3.2 f; rw [gh_al_01 h5]; omega)⟩, ?_⟩
  · rw [gh_al_01 h5] at k3
    by_cases hk : k = m 0 1
    · rw [hk]; exact hc
    · refine gh_cell_congr (h1 k k2 (by omega)) (gh_al_0 h5 (by omega) (by omega) (by omega)) (gh_al_0 h5 (by omega) (by omega) (by omega)) (gh_al_o hk (by omega)) (oq _ ?_)
      unfold gh_ad
      rw [if_neg (by omega), h2]
      by_cases f : E.2.2.2.2.2 = true
      · have := h3.2 f
        rw [if_pos f]
        unfold gh_pi
        split
        · omega
        · split <;> omega
      · rw [if_neg f]
        omega
  · rw [gh_al_01 h5, z, h2]; omega
  · rw [gh_al_0 h5 (by omega) (by omega) (by omega), gh_al_o (by omega) (by omega)]
    exact h4.kept (oq _ (by rw [h2]; omega))
theorem gh_ad_new {E : gh_E} {m : gh_M} {s : State} {H : Heap} (hR : gh_R E m s H) (hM : gh_Mok m) : gh_ad E (m 0 1) = H.size := by
  have h5 := hM.2.2.1
  unfold gh_ad
  rw [if_neg (by omega), hR.2.1]
  by_cases f : E.2.2.2.2.2 = true
  · have := hR.2.2.1.2 f
    rw [if_pos f]
    unfold gh_pi
    rw [if_neg (by omega), if_neg (by omega)]
  · rw [if_neg f]
/-- one instruction that makes a cell -/
theorem gh_make {κ n : Int} {pc2 : Nat} {st2 : gh_St} (hn : 0 ≤ n) (hn2 : n < 2147483648) (kk : gh_T E M d pc2 L ((2, m 0 1) :: st2) (gh_al m κ n) Q) (hst2 : gh_P m L st → ∀ q ∈ st2, gh_ok q.1 q.2)
    (h : gh_P m L st → ∀ (p : Program) (e : Env) (R : Room) (s : State) (mt : MethodId) (args : Array Value) (below : List Frame) (meth : Method) (c : Code), gh_En E M d p R s mt args meth c →
    ∀ (H : Heap) (locs : List Loc) (cells slots : Nat) (ls : Array Slot) (Qs : State → Prop), gh_At E M.2.2.1 m s H locs ls L → cells + 1 ≤ R.cells → slots + n.toNat ≤ R.slots →
      (∀ (H2 : Heap), H2.size = H.size + 1 → (∀ q : Nat, q < H.size → H2[q]? = H[q]?) → gh_cell E (gh_al m κ n) (m 0 1) H2 → W p E.1 e R s mt args below meth c H2 locs (cells + 1) (slots + n.toNat) Qs (F0 mt pc2 ls (.ref H.size :: gh_sc E st2))) → W p E.1 e R s mt args below meth c H locs cells slots Qs (F0 mt pc ls (gh_sc E st))) : gh_T E M d pc L st m Q := by
  intro hp
  have h5 := hp.1.2.2.1
  have h50 := hp.1.2.2.2.1
  obtain ⟨r, m', h1, h2, h3, h4, h6, k5⟩ := kk ⟨gh_Mok_al hp.1 hn hn2, hp.2.1, gh_okc trivial (hst2 hp)⟩
  rw [gh_al_00 h5] at h2 k5
  rw [gh_al_01 h5] at h3 k5
  refine ⟨r, m', h1, by omega, by omega, h4, h6, fun p e R s mt args below meth c hE H locs cells slots ls Qs hA hc hs K => ?_⟩
  have e1 : (m' 0 1 - m 0 1).toNat = 1 + (m' 0 1 - (m 0 1 + 1)).toNat := by omega
  have e2 : (m' 0 0 - m 0 0).toNat = n.toNat + (m' 0 0 - (m 0 0 + n)).toNat := by omega
  refine h hp p e R s mt args below meth c hE H locs cells slots ls Qs hA (by omega) (by omega) (fun H2 z oq hcell => ?_)
  have hS : va_S (fun q => E.2.2.2.2.1 ≤ q) s.heap H2 locs := ⟨Nat.le_trans hA.2.1.1 (by omega), fun x g1 g2 => (oq x (Nat.lt_of_lt_of_le g1 hA.2.1.1)).trans (hA.2.1.2.1 x g1 g2), hA.2.1.2.2⟩
  have K5 := k5 p e R s mt args below meth c hE H2 locs (cells + 1) (slots + n.toNat) ls Qs ⟨gh_R_al hA.1 hp.1 z oq hcell, hS, hA.2.2⟩ (by omega) (by omega) (fun H' locs' ls' pc' hA' hr' => by
    have := K H' locs' ls' pc' hA' hr'
    rw [e1, e2, ← Nat.add_assoc, ← Nat.add_assoc] at this
    exact this)
  rw [gh_sc1 (by omega), gh_ad_new hA.1 hp.1] at K5
  exact K5
theorem gh_newarr {κ n : Int} {at_ : ArrayType} (hd : decode M.2.1 pc = .ok (.newarray at_, 2)) (hκ : (at_ = .int ∧ κ = 1) ∨ (at_ = .long ∧ κ = 3)) (hw : Cond.arrayClass (newarray.typeOf at_) ∈ gh_tb) (hn : 0 ≤ n) (hn2 : n < 60000000) (kk : gh_T E M d (pc + 2) L ((2, m 0 1) :: st) (gh_al m κ n) Q) : gh_T E M d pc L ((0, n) :: st) m Q := by
  refine gh_make hn (by omega) kk (fun hp => gh_okt hp.2.2) (fun hp p e R s mt args below meth c hE H locs cells slots ls Qs hAt hcl hsl kq => ?_)
  obtain ⟨hx, hb, hml, hown, hts, -, -, -, hK⟩ := hE
  obtain ⟨e1, e2, e3⟩ := gh_idx hn (show n < n + 1 by omega) (by omega)
  have h5 := hp.1.2.2.1
  have ct : ∀ (k0 : Nat) (ty : FieldType), newarray.typeOf at_ = ty → κ < 10 → (gh_tys E)[k0]? = some (E.2.2.1 κ, ty) → (∀ U : State, ∀ cA : ClassId, va_RA U cA ty → U.vm.findClass ("[" ++ ty.toString) = some cA) → defaultValue ty = gh_cv E (gh_tg κ 0) 0 → componentBytes ty ≤ 8 →
      W p E.1 e R s mt args below meth c H locs cells slots Qs (F0 mt pc ls (gh_sc E ((0, n) :: st))) := by
    intro k0 ty hty hk10 hk hra hdef hby
    subst hty
    refine va_newaK (N := n.toNat) hx hb (hts _ hw) rfl hd rfl (fun z => e2 (Or.inl z)) e1 (Nat.le_trans (Nat.mul_le_mul_left n.toNat hby) (by omega)) hcl hsl rfl fun H1 cA g1 z1 o1 hAr hNm => ?_
    have ec : cA = E.2.2.1 κ := by
      have := hra s _ (hK.1.2 k0 _ hk).2
      exact Option.some.inj (hNm.symm.trans this)
    refine kq H1 z1 o1 ?_
    unfold gh_cell
    rw [gh_al_k h5, gh_al_l h5, if_pos hk10, gh_al_n, gh_ad_new hAt.1 hp.1, g1, ec, hdef]
  rcases hκ with ⟨rfl, rfl⟩ | ⟨rfl, rfl⟩
  · exact ct 0 .int rfl (by omega) rfl (fun U cA h => h) rfl (by decide)
  · exact ct 1 .long rfl (by omega) rfl (fun U cA h => h) rfl (by decide)
theorem gh_dflt {E : gh_E} {ty : FieldType} (h : gh_gt ty = true) : defaultValue ty = gh_cv E (gh_tF ty) 0 := by
  cases ty <;> first | rfl | cases h
theorem gh_new {ci idx : Nat} {C : String} {T : u_T} {N : Nat} (hd : decode M.2.1 pc = .ok (.new idx, 3)) (hc : gh_ck ci C T N) (hw1 : Cond.classLink M.1 idx C ∈ gh_tb) (hw2 : Cond.instantiable C N ∈ gh_tb) (hw3 : Cond.initialized C ∈ gh_tb) (hN : N < 1000) (kk : gh_T E M d (pc + 3) L ((2, m 0 1) :: st) (gh_al m (10 + ci) N) Q) : gh_T E M d pc L st m Q := by
  refine gh_make (by omega) (by omega) kk (fun hp => hp.2.2) (fun hp p e R s mt args below meth c hE H locs cells slots ls Qs hAt hcl hsl kq => ?_)
  obtain ⟨hx, hb, hml, hown, hts, -, -, -, hK⟩ := hE
  obtain ⟨hc1, hc2, hc3, hc4, hc5⟩ := hc
  have h5 := hp.1.2.2.1
  have eN : ((N : Int)).toNat = N := by omega
  rw [eN] at hsl kq
  have hKn := hK.1.1 ci _ hc1
  refine W.newcK hx hb hown (hts _ hw1) (hts _ hw2) (hts _ hw3) rfl hd hcl hsl hKn.2.1 rfl fun H1 kC hkC g1 z1 o1 => ?_
  refine kq H1 z1 o1 ?_
  unfold gh_cell
  rw [gh_al_k h5, if_neg (by omega), gh_al_n, gh_ad_new hAt.1 hp.1]
  have e : ((10 : Int) + (ci : Int) - 10).toNat = ci := by omega
  rw [e]
  refine ⟨_, hc1, (u_born _ hts hc2 hKn hkC g1 hc3).to (fun j hj => ?_)⟩
  rw [gh_tgc]
  exact gh_dflt (hc5 j hj)
theorem gh_lookup {dflt x : Int} {ps : Array (Int × Int)} {len tgt : Nat} (hd : decode M.2.1 pc = .ok (.lookupswitch dflt ps, len)) (hp0 : (ps.toList.zip (ps.toList.drop 1)).all (fun (a, next) => a.1 < next.1) = true) (ht : (pc : Int) + Op.lookupswitch.offset ps.toList dflt x = (tgt : Int)) (kk : gh_T E M d tgt L st m Q) : gh_T E M d pc L ((0, x) :: st) m Q := by
  refine gh_pure kk (fun hp => ⟨hp.1, hp.2.1, gh_okt hp.2.2⟩) (fun hp p e R s mt args below meth c hE H locs cells slots ls Qs hA k => ?_)
  obtain ⟨hx, hb, -⟩ := hE
  exact lv_lookup hx hb hd hp0 rfl (by rw [gh_i32 (gh_okh hp.2.2)]; exact ht) (k ls hA)
theorem gh_tabIn {dflt lo hi x off : Int} {offs : Array Int} {len tgt : Nat} (hd : decode M.2.1 pc = .ok (.tableswitch dflt lo hi offs, len)) (h1 : lo ≤ x) (h2 : x ≤ hi) (ho : offs[(x - lo).toNat]? = some off) (ht : (pc : Int) + off = (tgt : Int)) (kk : gh_T E M d tgt L st m Q) : gh_T E M d pc L ((0, x) :: st) m Q := by
  refine gh_pure kk (fun hp => ⟨hp.1, hp.2.1, gh_okt hp.2.2⟩) (fun hp p e R s mt args below meth c hE H locs cells slots ls Qs hA k => ?_)
  obtain ⟨hx, hb, -⟩ := hE
  have e := gh_i32 (gh_okh hp.2.2)
  exact lv_tableIn hx hb hd (by rw [e]; omega) (by rw [e]; omega) (by rw [e]; exact ho) ht (k ls hA)
theorem gh_tabOut {dflt lo hi x : Int} {offs : Array Int} {len tgt : Nat} (hd : decode M.2.1 pc = .ok (.tableswitch dflt lo hi offs, len)) (h : x < lo ∨ hi < x) (ht : (pc : Int) + dflt = (tgt : Int)) (kk : gh_T E M d tgt L st m Q) : gh_T E M d pc L ((0, x) :: st) m Q := by
  refine gh_pure kk (fun hp => ⟨hp.1, hp.2.1, gh_okt hp.2.2⟩) (fun hp p e R s mt args below meth c hE H locs cells slots ls Qs hA k => ?_)
  obtain ⟨hx, hb, -⟩ := hE
  have e := gh_i32 (gh_okh hp.2.2)
  exact lv_tableOut hx hb hd (by rw [e]; exact h) ht (k ls hA)
end G4
