/-! ROWS THAT READ AND WRITE THE MEMORY -/
def gh_u (m : gh_M) (a i v : Int) : gh_M := fun a2 i2 => if a2 = a ∧ i2 = i then v else m a2 i2
theorem gh_u_s (m : gh_M) (a i v : Int) : gh_u m a i v a i = v := by simp [gh_u]
theorem gh_u_a {m : gh_M} {a i v b j : Int} (h : b ≠ a) : gh_u m a i v b j = m b j := by simp [gh_u, h]
theorem gh_u_i {m : gh_M} {a i v b j : Int} (h : j ≠ i) : gh_u m a i v b j = m b j := by simp [gh_u, h]
theorem gh_ad_inj {E : gh_E} {a b : Int} (ha : 2 ≤ a) (hb : 2 ≤ b) (h : gh_ad E a = gh_ad E b) : a = b := by
  have ea : gh_ad E a = E.2.2.2.2.1 + (if E.2.2.2.2.2 = true then gh_pi a else a - 2).toNat := if_neg (by omega)
  have eb : gh_ad E b = E.2.2.2.2.1 + (if E.2.2.2.2.2 = true then gh_pi b else b - 2).toNat := if_neg (by omega)
  rw [ea, eb] at h
  clear ea eb
  by_cases f : E.2.2.2.2.2 = true
  · rw [if_pos f, if_pos f] at h
    have pa : ∀ v : Int, 2 ≤ v → (v < 63 → gh_pi v = v + 1) ∧ (63 ≤ v → v < 66 → gh_pi v = v - 63) ∧ (66 ≤ v → gh_pi v = v - 2) := fun v _ => by
      unfold gh_pi
      refine ⟨fun c => if_pos c, fun c d => ?_, fun c => ?_⟩
      · rw [if_neg (by omega), if_pos d]
      · rw [if_neg (by omega), if_neg (by omega)]
    have xa := pa a ha
    have xb := pa b hb
    clear pa
    omega
  · rw [if_neg f, if_neg f] at h
    omega
theorem gh_ad_ge {E : gh_E} {a : Int} (ha : 2 ≤ a) : E.2.2.2.2.1 ≤ gh_ad E a := by
  unfold gh_ad
  rw [if_neg (by omega)]
  omega
theorem gh_cell_congr {E : gh_E} {m m2 : gh_M} {k : Int} {H H2 : Heap} (h : gh_cell E m k H) (h1 : m2 0 (2 * k) = m 0 (2 * k)) (h2 : m2 0 (2 * k + 1) = m 0 (2 * k + 1)) (h3 : m2 k = m k) (h4 : H2[gh_ad E k]? = H[gh_ad E k]?) : gh_cell E m2 k H2 := by
  unfold gh_cell at h ⊢
  rw [h1, h2, h3]
  split
  · rename_i c
    rw [if_pos c] at h
    rw [h4]; exact h
  · rename_i c
    rw [if_neg c] at h
    obtain ⟨q, g1, g2⟩ := h
    exact ⟨q, g1, g2.kept h4⟩
theorem gh_X_moved {E : gh_E} {m : gh_M} {u U : State} {H : Heap} (hvm : u.vm.Alike U.vm) (h : gh_R E m u H) : gh_R E m U H := ⟨h.1, h.2.1, h.2.2.1, h.2.2.2.moved hvm⟩
theorem gh_R_upd {E : gh_E} {m : gh_M} {s : State} {H H2 : Heap} {a i v : Int} (hR : gh_R E m s H) (ha : 2 ≤ a) (z : H2.size = H.size) (oq : ∀ q : Nat, q ≠ gh_ad E a → H2[q]? = H[q]?) (hc : gh_cell E (gh_u m a i v) a H2) : gh_R E (gh_u m a i v) s H2 := by
  obtain ⟨h1, h2, h3, h4⟩ := hR
  have e0 : ∀ j, gh_u m a i v 0 j = m 0 j := fun j => gh_u_a (by omega)
  refine ⟨fun k k2 k3 => ?_, ?_, ⟨h3.1, by rw [e0]; exact h3.2⟩, ?_⟩
  · by_cases hk : k = a
    · rw [hk]; exact hc
    · exact gh_cell_congr (h1 k k2 (by rw [e0] at k3; exact k3)) (e0 _) (e0 _) (by funext j; exact gh_u_a hk) (oq _ (fun h => hk (gh_ad_inj k2 ha h)))
  · rw [e0, z]; exact h2
  · rw [e0]
    have e1 : gh_u m a i v 1 = m 1 := by funext j; exact gh_u_a (by omega)
    rw [e1]
    refine h4.kept (oq _ (fun h => ?_))
    have := gh_ad_ge (E := E) ha
    have := h3.1
    omega
theorem gh_Mok_upd {m : gh_M} {a i v : Int} (hM : gh_Mok m) (ha : 2 ≤ a) (hv : gh_ok (gh_tg (m 0 (2 * a)) i) v) : gh_Mok (gh_u m a i v) := by
  obtain ⟨h1, h2, h3, h4, h5⟩ := hM
  have e0 : ∀ j, gh_u m a i v 0 j = m 0 j := fun j => gh_u_a (by omega)
  refine ⟨fun k j k1 k2 j1 j2 => ?_, fun k k1 k2 => ?_, ?_, ?_, ?_⟩
  · rw [e0] at k2 j2 ⊢
    unfold gh_u
    split
    · rename_i c
      rw [c.1, c.2]; exact hv
    · exact h1 k j k1 k2 j1 j2
  · rw [e0] at k2 ⊢
    exact h2 k k1 k2
  · rw [e0]; exact h3
  · rw [e0]; exact h4
  · rw [e0]; exact h5
/-- cell a is an array of this kind -/
def gh_isA (m : gh_M) (a κ : Int) : Prop := 2 ≤ a ∧ a < m 0 1 ∧ m 0 (2 * a) = κ
section G3
variable {E : gh_E} {M : gh_I} {d pc : Nat} {L L2 : gh_Ls} {st : gh_St} {m : gh_M} {Q : Int → gh_M → Prop}
/-- one instruction that changes one number of the memory -/
theorem gh_write {a i v : Int} {pc2 : Nat} {st2 : gh_St} (ha : 2 ≤ a) (kk : gh_T E M d pc2 L st2 (gh_u m a i v) Q) (hp2 : gh_P m L st → gh_P (gh_u m a i v) L st2)
    (h : gh_P m L st → ∀ (p : Program) (e : Env) (R : Room) (s : State) (mt : MethodId) (args : Array Value) (below : List Frame) (meth : Method) (c : Code), gh_En E M d p R s mt args meth c →
    ∀ (H : Heap) (locs : List Loc) (cells slots : Nat) (ls : Array Slot) (Qs : State → Prop), gh_At E M.2.2.1 m s H locs ls L →
      (∀ (H2 : Heap) (n : Nat), H2.size = H.size → (∀ q : Nat, q ≠ gh_ad E a → H2[q]? = H[q]?) → gh_cell E (gh_u m a i v) a H2 → W p E.1 e R s mt args below meth c H2 (locs ++ [⟨gh_ad E a, n⟩]) cells slots Qs (F0 mt pc2 ls (gh_sc E st2))) → W p E.1 e R s mt args below meth c H locs cells slots Qs (F0 mt pc ls (gh_sc E st))) : gh_T E M d pc L st m Q := by
  intro hp
  obtain ⟨r, m', h1, h2, h3, h4, h6, h5⟩ := kk (hp2 hp)
  have e0 : ∀ j, gh_u m a i v 0 j = m 0 j := fun j => gh_u_a (by omega)
  rw [e0] at h2 h3
  refine ⟨r, m', h1, h2, h3, h4, h6, fun p e R s mt args below meth c hE H locs cells slots ls Qs hA hc hs K => ?_⟩
  rw [e0, e0] at h5
  refine h hp p e R s mt args below meth c hE H locs cells slots ls Qs hA (fun H2 n z oq hcell => ?_)
  exact h5 p e R s mt args below meth c hE H2 _ cells slots ls Qs ⟨gh_R_upd hA.1 ha z oq hcell, hA.2.1.put z oq (gh_ad_ge ha), hA.2.2⟩ hc hs K
theorem gh_arr {E : gh_E} {m : gh_M} {s : State} {H : Heap} {a κ : Int} (hR : gh_R E m s H) (hA : gh_isA m a κ) (hκ : κ < 10) : H[gh_ad E a]? = some (arrV (E.2.2.1 κ) (m 0 (2 * a + 1)).toNat (fun j => gh_cv E (gh_tg κ 0) (m a j))) := by
  obtain ⟨h1, h2, h3⟩ := hA
  have h := hR.1 a h1 h2
  unfold gh_cell at h
  rw [h3, if_pos hκ] at h
  exact h
theorem gh_sc2 {a i : Int} {st : gh_St} (ha : a ≠ 0) : gh_sc E ((0, i) :: (2, a) :: st) = .int (Int32.ofInt i) :: .ref (gh_ad E a) :: gh_sc E st := by
  show gh_cv E 0 i :: gh_cv E 2 a :: gh_sc E st = _
  rw [gh_cv2 E ha]; rfl
theorem gh_sc1 {a : Int} {st : gh_St} (ha : a ≠ 0) : gh_sc E ((2, a) :: st) = .ref (gh_ad E a) :: gh_sc E st := by
  show gh_cv E 2 a :: gh_sc E st = _
  rw [gh_cv2 E ha]
theorem gh_sc3 {a i t v : Int} {st : gh_St} (ha : a ≠ 0) : gh_sc E ((t, v) :: (0, i) :: (2, a) :: st) = gh_cv E t v :: .int (Int32.ofInt i) :: .ref (gh_ad E a) :: gh_sc E st := by
  show gh_cv E t v :: gh_cv E 0 i :: gh_cv E 2 a :: gh_sc E st = _
  rw [gh_cv2 E ha]; rfl
theorem gh_iald {a i : Int} (hd : decode M.2.1 pc = .ok (.iaload, 1)) (hA : gh_isA m a 1) (h0 : 0 ≤ i) (h1 : i < m 0 (2 * a + 1)) (kk : gh_T E M d (pc + 1) L ((0, m a i) :: st) m Q) : gh_T E M d pc L ((0, i) :: (2, a) :: st) m Q := by
  refine gh_pure kk (fun hp => ⟨hp.1, hp.2.1, gh_okc ?_ (gh_okt (gh_okt hp.2.2))⟩) (fun hp p e R s mt args below meth c hE H locs cells slots ls Qs hAt k => ?_)
  · have := hp.1.1 a i (by have := hA.1; omega) hA.2.1 h0 h1
    rw [hA.2.2] at this
    exact this
  · obtain ⟨hx, hb, hml, hown, hts, -, -, -, hK⟩ := hE
    have hlen := hp.1.2.1 a (by have := hA.1; omega) hA.2.1
    obtain ⟨e1, e2, e3⟩ := gh_idx h0 h1 hlen.2
    have hc := gh_arr hAt.1 hA (by omega)
    rw [gh_sc2 (by have := hA.1; omega)]
    refine W.iald (v := gh_cv E 0 (m a i)) hx hb hc ((hK.1.2 0 _ rfl).1 _ _) (fun q => by cases q) (by rw [arrV_size]; exact e2) ?_ rfl rfl hd (k ls hAt)
    rw [e1, arrV_read _ _ (by omega), e3]
    rfl
theorem gh_lald {a i : Int} (hd : decode M.2.1 pc = .ok (.laload, 1)) (hA : gh_isA m a 3) (h0 : 0 ≤ i) (h1 : i < m 0 (2 * a + 1)) (kk : gh_T E M d (pc + 1) L ((1, m a i) :: st) m Q) : gh_T E M d pc L ((0, i) :: (2, a) :: st) m Q := by
  refine gh_pure kk (fun hp => ⟨hp.1, hp.2.1, gh_okc ?_ (gh_okt (gh_okt hp.2.2))⟩) (fun hp p e R s mt args below meth c hE H locs cells slots ls Qs hAt k => ?_)
  · have := hp.1.1 a i (by have := hA.1; omega) hA.2.1 h0 h1
    rw [hA.2.2] at this
    exact this
  · obtain ⟨hx, hb, hml, hown, hts, -, -, -, hK⟩ := hE
    have hlen := hp.1.2.1 a (by have := hA.1; omega) hA.2.1
    obtain ⟨e1, e2, e3⟩ := gh_idx h0 h1 hlen.2
    have hc := gh_arr hAt.1 hA (by omega)
    rw [gh_sc2 (by have := hA.1; omega)]
    refine W.lald (v := gh_cv E 1 (m a i)) hx hb hc ((hK.1.2 1 _ rfl).1 _ _) (fun q => by cases q) (by rw [arrV_size]; exact e2) ?_ rfl rfl hd (k ls hAt)
    rw [e1, arrV_read _ _ (by omega), e3]
    rfl
/-- the script's own -/
theorem gh_sald {i : Int} (hd : decode M.2.1 pc = .ok (.iaload, 1)) (h0 : 0 ≤ i) (h1 : i < m 0 3) (kk : gh_T E M d (pc + 1) L ((0, m 1 i) :: st) m Q) : gh_T E M d pc L ((0, i) :: (2, 1) :: st) m Q := by
  refine gh_pure kk (fun hp => ⟨hp.1, hp.2.1, gh_okc ?_ (gh_okt (gh_okt hp.2.2))⟩) (fun hp p e R s mt args below meth c hE H locs cells slots ls Qs hAt k => ?_)
  · have := hp.1.1 1 i (by omega) (by have := hp.1.2.2.1; omega) h0 h1
    have e : m 0 (2 * 1) = 1 := hp.1.2.2.2.2
    rw [e] at this
    exact this
  · obtain ⟨hx, hb, hml, hown, hts, -, -, -, hK⟩ := hE
    have hlen := hp.1.2.1 1 (by omega) (by have := hp.1.2.2.1; omega)
    have e5 : m 0 (2 * 1 + 1) = m 0 3 := rfl
    rw [e5] at hlen
    obtain ⟨e1, e2, e3⟩ := gh_idx h0 h1 hlen.2
    obtain ⟨-, -, hbb, scr, g1, g2, g3, g4, g5⟩ := hAt.1
    rw [gh_sc2 (by omega)]
    have ea : gh_ad E 1 = E.2.2.2.1 := rfl
    rw [ea]
    refine W.iald (v := gh_cv E 0 (m 1 i)) hx hb g1 g2 g3 (by rw [g4]; exact e2) ?_ rfl rfl hd (k ls hAt)
    rw [e1, g5 _ (by omega)]
    show some (Value.int (Int32.ofInt (m 1 (i.toNat : Int)))) = _
    rw [e3]
    rfl
theorem gh_slen (hd : decode M.2.1 pc = .ok (.arraylength, 1)) (kk : gh_T E M d (pc + 1) L ((0, m 0 3) :: st) m Q) : gh_T E M d pc L ((2, 1) :: st) m Q := by
  refine gh_pure kk (fun hp => ⟨hp.1, hp.2.1, gh_okc ?_ (gh_okt hp.2.2)⟩) (fun hp p e R s mt args below meth c hE H locs cells slots ls Qs hAt k => ?_)
  · have hlen : 0 ≤ m 0 3 ∧ m 0 3 < 2147483648 := hp.1.2.1 1 (by omega) (by have := hp.1.2.2.1; omega)
    exact ⟨by omega, hlen.2⟩
  · obtain ⟨hx, hb, hml, hown, hts, -, -, -, hK⟩ := hE
    have hlen : 0 ≤ m 0 3 ∧ m 0 3 < 2147483648 := hp.1.2.1 1 (by omega) (by have := hp.1.2.2.1; omega)
    obtain ⟨-, -, hbb, scr, g1, g2, g3, g4, g5⟩ := hAt.1
    rw [gh_sc1 (by omega)]
    have ea : gh_ad E 1 = E.2.2.2.1 := rfl
    rw [ea]
    refine W.alen (n := Int32.ofInt (m 0 3)) hx hb g1 g2 (by rw [g4]; apply Int32.toInt_inj.mp; rw [gh_i32 ⟨by omega, hlen.2⟩]; show (Int32.ofNat _).toInt = _; rw [show Int32.ofNat (m 0 3).toNat = nI (m 0 3).toNat from rfl, nI_toInt (by omega)]; omega) rfl rfl hd (k ls hAt)
theorem gh_alen {a κ : Int} (hd : decode M.2.1 pc = .ok (.arraylength, 1)) (hA : gh_isA m a κ) (hκ : κ = 1 ∨ κ = 3) (kk : gh_T E M d (pc + 1) L ((0, m 0 (2 * a + 1)) :: st) m Q) : gh_T E M d pc L ((2, a) :: st) m Q := by
  refine gh_pure kk (fun hp => ⟨hp.1, hp.2.1, gh_okc ?_ (gh_okt hp.2.2)⟩) (fun hp p e R s mt args below meth c hE H locs cells slots ls Qs hAt k => ?_)
  · have hlen := hp.1.2.1 a (by have := hA.1; omega) hA.2.1
    exact ⟨by omega, hlen.2⟩
  · obtain ⟨hx, hb, hml, hown, hts, -, -, -, hK⟩ := hE
    have hlen := hp.1.2.1 a (by have := hA.1; omega) hA.2.1
    have hc := gh_arr hAt.1 hA (by omega)
    rw [gh_sc1 (by have := hA.1; omega)]
    have en : (arrV (E.2.2.1 κ) (m 0 (2 * a + 1)).toNat (fun j => gh_cv E (gh_tg κ 0) (m a j))).slots.size.toInt32 = Int32.ofInt (m 0 (2 * a + 1)) := by
      rw [arrV_size]; apply Int32.toInt_inj.mp; rw [gh_i32 ⟨by omega, hlen.2⟩]; show (nI _).toInt = _; rw [nI_toInt (by omega)]; omega
    rcases hκ with rfl | rfl
    · exact W.alen hx hb hc ((hK.1.2 0 _ rfl).1 _ _) en rfl rfl hd (k ls hAt)
    · exact W.alen hx hb hc ((hK.1.2 1 _ rfl).1 _ _) en rfl rfl hd (k ls hAt)
theorem gh_arr_upd {E : gh_E} {m : gh_M} {a i v κ : Int} {H2 : Heap} (ha : 2 ≤ a) (hA : m 0 (2 * a) = κ) (hκ : κ < 10) (h0 : 0 ≤ i) (h : H2[gh_ad E a]? = some (arrV (E.2.2.1 κ) (m 0 (2 * a + 1)).toNat (updV (fun j => gh_cv E (gh_tg κ 0) (m a j)) i.toNat (gh_cv E (gh_tg κ 0) v)))) : gh_cell E (gh_u m a i v) a H2 := by
  unfold gh_cell
  have e0 : ∀ j, gh_u m a i v 0 j = m 0 j := fun j => gh_u_a (by omega)
  rw [e0, e0, hA, if_pos hκ, h]
  congr 2
  funext j
  unfold updV gh_u
  by_cases hj : j = i.toNat
  · subst hj
    rw [if_pos rfl, if_pos ⟨rfl, by omega⟩]
  · rw [if_neg hj, if_neg (fun z => hj (by have := z.2; omega))]
theorem gh_iast {a i v : Int} (hd : decode M.2.1 pc = .ok (.iastore, 1)) (hA : gh_isA m a 1) (h0 : 0 ≤ i) (h1 : i < m 0 (2 * a + 1)) (kk : gh_T E M d (pc + 1) L st (gh_u m a i v) Q) : gh_T E M d pc L ((0, v) :: (0, i) :: (2, a) :: st) m Q := by
  refine gh_write hA.1 kk (fun hp => ⟨gh_Mok_upd hp.1 hA.1 (by rw [hA.2.2]; exact gh_okh hp.2.2), hp.2.1, gh_okt (gh_okt (gh_okt hp.2.2))⟩) (fun hp p e R s mt args below meth c hE H locs cells slots ls Qs hAt k => ?_)
  obtain ⟨hx, hb, hml, hown, hts, -, -, -, hK⟩ := hE
  have hlen := hp.1.2.1 a (by have := hA.1; omega) hA.2.1
  obtain ⟨e1, e2, e3⟩ := gh_idx h0 h1 hlen.2
  have hc := gh_arr hAt.1 hA (by omega)
  rw [gh_sc3 (by have := hA.1; omega)]
  refine W.iast hx hb hc ((hK.1.2 0 _ rfl).1 _ _) (fun q => by cases q) (by rw [arrV_size]; exact e2) rfl rfl hd fun H1 ee z oq => ?_
  rw [e1, arrV_store] at ee
  rw [e1]
  exact k H1 _ z oq (gh_arr_upd hA.1 hA.2.2 (by omega) h0 ee)
theorem gh_last {a i v : Int} (hd : decode M.2.1 pc = .ok (.lastore, 1)) (hA : gh_isA m a 3) (h0 : 0 ≤ i) (h1 : i < m 0 (2 * a + 1)) (kk : gh_T E M d (pc + 1) L st (gh_u m a i v) Q) : gh_T E M d pc L ((1, v) :: (0, i) :: (2, a) :: st) m Q := by
  refine gh_write hA.1 kk (fun hp => ⟨gh_Mok_upd hp.1 hA.1 (by rw [hA.2.2]; exact gh_okh hp.2.2), hp.2.1, gh_okt (gh_okt (gh_okt hp.2.2))⟩) (fun hp p e R s mt args below meth c hE H locs cells slots ls Qs hAt k => ?_)
  obtain ⟨hx, hb, hml, hown, hts, -, -, -, hK⟩ := hE
  have hlen := hp.1.2.1 a (by have := hA.1; omega) hA.2.1
  obtain ⟨e1, e2, e3⟩ := gh_idx h0 h1 hlen.2
  have hc := gh_arr hAt.1 hA (by omega)
  rw [gh_sc3 (by have := hA.1; omega)]
  refine W.last hx hb hc ((hK.1.2 1 _ rfl).1 _ _) (fun q => by cases q) (by rw [arrV_size]; exact e2) rfl rfl hd fun H1 ee z oq => ?_
  rw [e1, arrV_store] at ee
  rw [e1]
  exact k H1 _ z oq (gh_arr_upd hA.1 hA.2.2 (by omega) h0 ee)
theorem gh_nz {v : Int} (h : v = 0 ∨ v = 1) : narrow .boolean (.int (Int32.ofInt v)) = .int (Int32.ofInt v) := by
  rcases h with rfl | rfl <;> rfl
end G3
