/-! READING: the rules, in order -/
def go_nth : List Int → Int → Int
  | [], _ => 0
  | r :: L, k => if k = L.length then r else go_nth L k
theorem go_lc {x : Int} {L : List Int} : ((x :: L).length : Int) = L.length + 1 := by
  show ((L.length + 1 : Nat) : Int) = _
  omega
theorem go_nth_mem : ∀ (L : List Int) (k : Int), 0 ≤ k → k < L.length → go_nth L k ∈ L
  | [], k, k0, k1 => absurd k1 (by
      show ¬ k < ((0 : Nat) : Int)
      omega)
  | r :: L, k, k0, k1 => by
    have e := go_lc (x := r) (L := L)
    show (if k = L.length then r else go_nth L k) ∈ r :: L
    by_cases u : k = L.length
    · rw [if_pos u]
      exact List.mem_cons_self ..
    · rw [if_neg u]
      exact List.mem_cons_of_mem _ (go_nth_mem L k k0 (by omega))
theorem go_rd_n {C : Int → Int → Prop} {a : Int → Int} {b : Int} : ∀ (L : List Int) (d : Int), go_rd C a b L → 0 ≤ d → d < L.length → C (go_nth L d) (a (b + d))
  | [], d, _, d0, d1 => absurd d1 (by
      show ¬ d < ((0 : Nat) : Int)
      omega)
  | r :: L, d, ⟨h1, h2⟩, d0, d1 => by
    have e := go_lc (x := r) (L := L)
    show C (if d = L.length then r else go_nth L d) (a (b + d))
    by_cases u : d = L.length
    · rw [if_pos u, u]
      exact h1
    · rw [if_neg u]
      exact go_rd_n L d h2 d0 (by omega)
def go_all (P : Int → Int → Prop) : List Int → Prop
  | [] => True
  | r :: L => P L.length r ∧ go_all P L
theorem go_all_n {P : Int → Int → Prop} : ∀ (L : List Int) (k : Int), go_all P L → 0 ≤ k → k < L.length → P k (go_nth L k)
  | [], k, _, k0, k1 => absurd k1 (by
      show ¬ k < ((0 : Nat) : Int)
      omega)
  | r :: L, k, ⟨h1, h2⟩, k0, k1 => by
    have e := go_lc (x := r) (L := L)
    show P k (if k = L.length then r else go_nth L k)
    by_cases u : k = L.length
    · rw [if_pos u, u]
      exact h1
    · rw [if_neg u]
      exact go_all_n L k h2 k0 (by omega)
theorem go_all_mv {P P2 : Int → Int → Prop} : ∀ L : List Int, (∀ k r : Int, 0 ≤ k → k < L.length → P k r → P2 k r) → go_all P L → go_all P2 L
  | [], _, _ => trivial
  | r :: L, h, ⟨h1, h2⟩ => by
    have e := go_lc (x := r) (L := L)
    exact ⟨h _ _ (by omega) (by omega) h1, go_all_mv L (fun k q k0 k1 => h k q k0 (by omega)) h2⟩
/-- the rows of a name behind others, the last one first -/
def go_kr (nu : Int → Int) (n : Int) : Nat → List Int → List Int
  | 0, L => L
  | r + 1, L => if nu r = n then (r : Int) :: go_kr nu n r L else go_kr nu n r L
def go_ka (nu : Int → Int) (nr : Nat) : Nat → List Int
  | 0 => []
  | n + 1 => go_kr nu n nr (go_ka nu nr n)
def go_ce (nu : Int → Int) (n : Int) : Nat → Nat
  | 0 => 0
  | r + 1 => if nu r = n then go_ce nu n r + 1 else go_ce nu n r
def go_cl (nu : Int → Int) (n : Int) : Nat → Nat
  | 0 => 0
  | r + 1 => if nu r < n then go_cl nu n r + 1 else go_cl nu n r
theorem go_kr_len {nu : Int → Int} {n : Int} {L : List Int} : ∀ r : Nat, (go_kr nu n r L).length = L.length + go_ce nu n r
  | 0 => rfl
  | r + 1 => by
    show (if nu r = n then (r : Int) :: go_kr nu n r L else go_kr nu n r L).length = L.length + (if nu r = n then go_ce nu n r + 1 else go_ce nu n r)
    by_cases u : nu r = n
    · rw [if_pos u, if_pos u]
      show (go_kr nu n r L).length + 1 = _
      rw [go_kr_len r]
      omega
    · rw [if_neg u, if_neg u]
      exact go_kr_len r
theorem go_ce_mono {nu : Int → Int} {n : Int} {r : Nat} : ∀ d : Nat, go_ce nu n r ≤ go_ce nu n (r + d)
  | 0 => Nat.le_refl _
  | d + 1 => by
    have h := go_ce_mono (nu := nu) (n := n) (r := r) d
    show go_ce nu n r ≤ (if nu ((r + d : Nat) : Int) = n then go_ce nu n (r + d) + 1 else go_ce nu n (r + d))
    by_cases u : nu ((r + d : Nat) : Int) = n
    · rw [if_pos u]
      omega
    · rw [if_neg u]
      exact h
theorem go_cl_s {nu : Int → Int} {n : Int} : ∀ r : Nat, go_cl nu (n + 1) r = go_cl nu n r + go_ce nu n r
  | 0 => rfl
  | r + 1 => by
    have h := go_cl_s (nu := nu) (n := n) r
    show (if nu r < n + 1 then go_cl nu (n + 1) r + 1 else go_cl nu (n + 1) r) = (if nu r < n then go_cl nu n r + 1 else go_cl nu n r) + (if nu r = n then go_ce nu n r + 1 else go_ce nu n r)
    by_cases u : nu r < n
    · rw [if_pos (by omega), if_pos u, if_neg (by omega)]
      omega
    · rw [if_neg u]
      by_cases v : nu r = n
      · rw [if_pos (by omega), if_pos v]
        omega
      · rw [if_neg (by omega), if_neg v]
        exact h
theorem go_cl_le {nu : Int → Int} {n : Int} : ∀ r : Nat, go_cl nu n r ≤ r
  | 0 => Nat.le_refl _
  | r + 1 => by
    have h := go_cl_le (nu := nu) (n := n) r
    show (if nu r < n then go_cl nu n r + 1 else go_cl nu n r) ≤ r + 1
    by_cases u : nu r < n
    · rw [if_pos u]
      omega
    · rw [if_neg u]
      omega
theorem go_cl_0 {nu : Int → Int} : ∀ r : Nat, (∀ q : Int, 0 ≤ q → q < r → 0 ≤ nu q) → go_cl nu 0 r = 0
  | 0, _ => rfl
  | r + 1, h => by
    have h1 := go_cl_0 (nu := nu) r (fun q a b => h q a (by omega))
    have h2 := h r (by omega) (by omega)
    show (if nu r < 0 then go_cl nu 0 r + 1 else go_cl nu 0 r) = 0
    rw [if_neg (by omega)]
    exact h1
theorem go_ka_len {nu : Int → Int} {nr : Nat} (h : ∀ q : Int, 0 ≤ q → q < nr → 0 ≤ nu q) : ∀ n : Nat, (go_ka nu nr n).length = go_cl nu n nr
  | 0 => (go_cl_0 nr h).symm
  | n + 1 => by
    have e : ((n + 1 : Nat) : Int) = (n : Int) + 1 := by omega
    show (go_kr nu n nr (go_ka nu nr n)).length = go_cl nu ((n + 1 : Nat) : Int) nr
    rw [go_kr_len, go_ka_len h n, e, go_cl_s]
theorem go_kr_room {nu : Int → Int} {nr r : Nat} (h : ∀ q : Int, 0 ≤ q → q < nr → 0 ≤ nu q) (n : Nat) (hr : r ≤ nr) : (go_kr nu n r (go_ka nu nr n)).length ≤ nr := by
  have a := go_ce_mono (nu := nu) (n := (n : Int)) (r := r) (nr - r)
  have e : r + (nr - r) = nr := by omega
  rw [e] at a
  have b := go_cl_s (nu := nu) (n := (n : Int)) nr
  have c := go_cl_le (nu := nu) (n := (n : Int) + 1) nr
  rw [go_kr_len, go_ka_len h n]
  omega
theorem go_kr_room2 {nu : Int → Int} {nr r : Nat} (h : ∀ q : Int, 0 ≤ q → q < nr → 0 ≤ nu q) (n : Nat) (hr : r < nr) (e : nu r = n) : (go_kr nu n r (go_ka nu nr n)).length < nr := by
  have a := go_kr_room h n (r := r + 1) hr
  have b : go_kr nu n (r + 1) (go_ka nu nr n) = (r : Int) :: go_kr nu n r (go_ka nu nr n) := if_pos e
  rw [b] at a
  exact a
theorem go_kr_lo {nu : Int → Int} {n k : Int} {L : List Int} (k1 : k < L.length) : ∀ r : Nat, go_nth (go_kr nu n r L) k = go_nth L k
  | 0 => rfl
  | r + 1 => by
    have h := go_kr_lo (nu := nu) (n := n) k1 r
    have l := go_kr_len (nu := nu) (n := n) (L := L) r
    show go_nth (if nu r = n then (r : Int) :: go_kr nu n r L else go_kr nu n r L) k = _
    by_cases u : nu r = n
    · rw [if_pos u]
      show (if k = ((go_kr nu n r L).length : Int) then (r : Int) else go_nth (go_kr nu n r L) k) = _
      rw [if_neg (by omega)]
      exact h
    · rw [if_neg u]
      exact h
theorem go_kr_hi {nu : Int → Int} {n k : Int} {L : List Int} (k0 : (L.length : Int) ≤ k) : ∀ r : Nat, k < (go_kr nu n r L).length → nu (go_nth (go_kr nu n r L) k) = n
  | 0, h => by
    have h' : k < L.length := h
    omega
  | r + 1, h => by
    have ih := go_kr_hi (nu := nu) (n := n) k0 r
    have hh : k < ((if nu r = n then (r : Int) :: go_kr nu n r L else go_kr nu n r L).length : Int) := h
    show nu (go_nth (if nu r = n then (r : Int) :: go_kr nu n r L else go_kr nu n r L) k) = n
    by_cases u : nu r = n
    · rw [if_pos u] at hh ⊢
      have e := go_lc (x := (r : Int)) (L := go_kr nu n r L)
      show nu (if k = ((go_kr nu n r L).length : Int) then (r : Int) else go_nth (go_kr nu n r L) k) = n
      by_cases v : k = ((go_kr nu n r L).length : Int)
      · rw [if_pos v]
        exact u
      · rw [if_neg v]
        exact ih (by omega)
    · rw [if_neg u] at hh ⊢
      exact ih hh
theorem go_kr_mem {nu : Int → Int} {n x : Int} {L : List Int} : ∀ r : Nat, x ∈ go_kr nu n r L → x ∈ L ∨ (0 ≤ x ∧ x < r)
  | 0, h => Or.inl h
  | r + 1, h => by
    have ih := go_kr_mem (nu := nu) (n := n) (x := x) (L := L) r
    have h' : x ∈ (if nu r = n then (r : Int) :: go_kr nu n r L else go_kr nu n r L) := h
    by_cases u : nu r = n
    · rw [if_pos u] at h'
      rcases List.mem_cons.mp h' with y | y
      · exact Or.inr (by omega)
      · rcases ih y with z | z
        · exact Or.inl z
        · exact Or.inr (by omega)
    · rw [if_neg u] at h'
      rcases ih h' with z | z
      · exact Or.inl z
      · exact Or.inr (by omega)
theorem go_ka_mem {nu : Int → Int} {nr : Nat} {x : Int} : ∀ n : Nat, x ∈ go_ka nu nr n → 0 ≤ x ∧ x < nr
  | 0, h => absurd h List.not_mem_nil
  | n + 1, h => by
    rcases go_kr_mem nr h with z | z
    · exact go_ka_mem n z
    · exact z
theorem go_ka_mono {nu : Int → Int} {nr n : Nat} : ∀ d : Nat, (go_ka nu nr n).length ≤ (go_ka nu nr (n + d)).length
  | 0 => Nat.le_refl _
  | d + 1 => by
    have h := go_ka_mono (nu := nu) (nr := nr) (n := n) d
    have l := go_kr_len (nu := nu) (n := ((n + d : Nat) : Int)) (L := go_ka nu nr (n + d)) nr
    show _ ≤ (go_kr nu ((n + d : Nat) : Int) nr (go_ka nu nr (n + d))).length
    omega
theorem go_ka_key {nu : Int → Int} {nr : Nat} {k : Int} (k0 : 0 ≤ k) : ∀ (N n : Nat), n ≤ N → k < (go_ka nu nr N).length → (nu (go_nth (go_ka nu nr N) k) < n ↔ k < (go_ka nu nr n).length)
  | 0, n, _, h => by
    have h' : k < ((0 : Nat) : Int) := h
    omega
  | N + 1, n, hn, h => by
    have h' : k < (go_kr nu N nr (go_ka nu nr N)).length := h
    show nu (go_nth (go_kr nu N nr (go_ka nu nr N)) k) < n ↔ _
    by_cases a : k < (go_ka nu nr N).length
    · rw [go_kr_lo a]
      by_cases e : n = N + 1
      · have ih := go_ka_key (nu := nu) (nr := nr) k0 N N (Nat.le_refl _) a
        have := ih.mpr a
        rw [e]
        refine ⟨fun _ => h, fun _ => by omega⟩
      · exact go_ka_key k0 N n (by omega) a
    · have b := go_kr_hi (nu := nu) (n := (N : Int)) (by omega) nr h'
      rw [b]
      by_cases e : n = N + 1
      · rw [e]
        exact ⟨fun _ => h, fun _ => by omega⟩
      · have m := go_ka_mono (nu := nu) (nr := nr) (n := n) (N - n)
        have e2 : n + (N - n) = N := by omega
        rw [e2] at m
        omega
/-! THE GRAMMAR THAT IS READ -/
noncomputable def go_ti (T : Int → Int) (c nt : Int) (ta : Int → Int) (q : Int) : Int := @dite _ (∃ x, gr_td T c nt ta q x) (Classical.propDecidable _) (fun h => Classical.choose h) (fun _ => -1)
theorem go_ti_e {T : Int → Int} {c nt q x : Int} {ta : Int → Int} (tv : gr_tv T c nt ta) (h : gr_td T c nt ta q x) : go_ti T c nt ta q = x := by
  have e : ∃ x, gr_td T c nt ta q x := ⟨x, h⟩
  unfold go_ti
  rw [dif_pos e]
  have s := Classical.choose_spec e
  obtain ⟨a1, a2, k, a3, a4⟩ := s
  obtain ⟨b1, b2, k', b3, b4⟩ := h
  refine tv.2.2 _ _ a1 a2 b1 b2 ⟨k, a3, ?_⟩
  rw [gr_kof_u a4 b4]
  exact b3
noncomputable def go_pn (T : Int → Int) (c : Int) (S : go_S) (p : Int) : Int := if 0 < p then p else if p ≤ -2000 then -1 - S.1.2.1 - (-2000 - p) else -1 - go_ti T c S.1.2.1 S.2.1.1 (-1000 - p)
def go_nu (S : go_S) (r : Int) : Int := if S.2.1.2.1 r < 100 then S.2.1.2.1 r else if S.2.1.2.1 r < 200 then S.1.2.1 + S.2.1.2.2.2.1 (S.2.1.2.1 r - 100) else S.1.2.1 + S.2.1.2.1 r - 200
def go_kk (S : go_S) : List Int := go_ka (go_nu S) S.1.2.2.2.1.toNat (S.1.2.1 + S.1.2.2.1).toNat
noncomputable def go_G (T : Int → Int) (c : Int) (S : go_S) : gm_G := (S.1.2.1 + S.1.2.2.1, ((go_kk S).length : Int), fun k => go_nu S (go_nth (go_kk S) k), fun k => (S.2.1.2.2.1 (go_nth (go_kk S) k)).length, fun k d => go_pn T c S (go_nth (S.2.1.2.2.1 (go_nth (go_kk S) k)) d))
/-- a part that is a name has stood -/
def go_sp (sa : Int → Int) (ns p : Int) : Prop := -2000 < p → p < 0 → ∃ x, 0 ≤ x ∧ x < ns ∧ p = -1000 - sa x
def go_iw (S : go_S) : Prop := (∀ r, 0 ≤ r → r < S.1.2.2.2.1 → ∀ p, p ∈ S.2.1.2.2.1 r → go_sp S.2.1.2.2.2.2 S.1.2.2.2.2.2 p) ∧ ∀ x, x ∈ S.2.2 → ∀ p, p ∈ x.2.1 → go_sp S.2.1.2.2.2.2 S.1.2.2.2.2.2 p
theorem go_nu_b {T : Int → Int} {c pos : Int} {S : go_S} (iv : go_iv T c pos S) (s0 : S.1.1 = 0) {r : Int} (r0 : 0 ≤ r) (r1 : r < S.1.2.2.2.1) : 0 ≤ go_nu S r ∧ go_nu S r < S.1.2.1 + S.1.2.2.1 := by
  obtain ⟨⟨st, nt, md, nr, br, ns⟩, ⟨ta, ow, rl, mb, sa⟩, sk⟩ := S
  obtain ⟨i1, i2, i3, i4, i5, i6, i7, ⟨i8, i9, i10, i11, i12⟩, i13, i14, i15⟩ := iv
  (try dsimp only at i1 i2 i3 i4 i5 i6 i7 i8 i9 i10 i11 i12 i13 i14 i15 s0 r1)
  have i2a : 0 ≤ nt ∧ nt ≤ 8 := i2.1
  have no : ∀ b l, 0 ≤ b → ¬ go_lv sk b l := fun b l b0 => by
    cases sk with
    | nil => exact id
    | cons x k => exact go_lv_0 (by have := i12 (by omega); omega) i10 b0
  have o := (i6 r r0 r1).2.2
  unfold go_nu
  (try dsimp only)
  by_cases u : ow r < 100
  · rw [if_pos u]
    omega
  rw [if_neg u]
  by_cases v : ow r < 200
  · rw [if_pos v]
    have := i15 (ow r - 100) (by omega) (by omega) (fun l => no _ l (by omega))
    omega
  · rw [if_neg v]
    omega
theorem go_G_ok {T : Int → Int} {c pos : Int} {S : go_S} (c240 : c ≤ 240) (iv : go_iv T c pos S) (s0 : S.1.1 = 0) (n0 : 0 < S.1.2.1) (iw : go_iw S) (al : go_al T c S) : gm_ok (go_G T c S) := by
  have nb := fun r (r0 : 0 ≤ r) r1 => go_nu_b (r := r) iv s0 r0 r1
  obtain ⟨⟨st, nt, md, nr, br, ns⟩, ⟨ta, ow, rl, mb, sa⟩, sk⟩ := S
  obtain ⟨i1, i2, i3, i4, i5, i6, i7, ⟨i8, i9, i10, i11, i12⟩, i13, i14, i15⟩ := iv
  obtain ⟨w1, w2⟩ := iw
  unfold go_al at al
  (try dsimp only at i1 i2 i3 i4 i5 i6 i7 i8 i9 i10 i11 i12 i13 i14 i15 s0 n0 w1 w2 al nb)
  obtain ⟨nu, hnu⟩ : ∃ nu, nu = go_nu ((st, nt, md, nr, br, ns), (ta, ow, rl, mb, sa), sk) := ⟨_, rfl⟩
  have hK : go_kk ((st, nt, md, nr, br, ns), (ta, ow, rl, mb, sa), sk) = go_ka nu nr.toNat (nt + md).toNat := by
    rw [hnu]
    rfl
  rw [← hnu] at nb
  have nb0 : ∀ q : Int, 0 ≤ q → q < (nr.toNat : Int) → 0 ≤ nu q := fun q a b => (nb q a (by omega)).1
  obtain ⟨K, hKK⟩ : ∃ K, K = go_ka nu nr.toNat (nt + md).toNat := ⟨_, rfl⟩
  have len : K.length ≤ nr.toNat := by
    rw [hKK, go_ka_len nb0]
    exact go_cl_le _
  have mem : ∀ k : Int, 0 ≤ k → k < K.length → 0 ≤ go_nth K k ∧ go_nth K k < nr := fun k a b => by
    have h := go_nth_mem K k a b
    rw [hKK] at h
    have := go_ka_mem _ h
    rw [← hKK] at this
    omega
  have i2a : 0 ≤ nt ∧ nt ≤ 8 := i2.1
  unfold go_G gm_ok gm_N gm_R gm_rok gm_o gm_s gm_p gm_N
  rw [hK, ← hKK, ← hnu]
  (try dsimp only)
  refine ⟨by omega, by omega, by omega, by omega, fun k k0 k1 => ?_, fun k q k0 kq q1 => ?_⟩
  · obtain ⟨m0, m1⟩ := mem k k0 k1
    obtain ⟨o0, o1⟩ := nb _ m0 m1
    obtain ⟨v1, v2, v3⟩ := i6 _ m0 m1
    refine ⟨o0, o1, by omega, by omega, fun d d0 d1 => ?_⟩
    have pm := go_nth_mem _ d d0 d1
    have sp := w1 _ m0 m1 _ pm
    have pv := v2 _ pm
    obtain ⟨p, hp⟩ : ∃ p, p = go_nth (rl (go_nth K k)) d := ⟨_, rfl⟩
    rw [← hp] at sp pv ⊢
    unfold go_pn
    (try dsimp only)
    rcases pv with pv | pv | ⟨q, dd, nq, pv⟩
    · rw [if_pos pv.1]
      exact Or.inr ⟨pv.1, pv.2⟩
    · rw [if_neg (by omega), if_pos pv.2]
      omega
    · have q0 := nq.1
      have s1 : -2000 < p ∨ p ≤ -2000 := by omega
      rw [if_neg (by omega)]
      rcases s1 with s1 | s1
      · rw [if_neg (by omega)]
        obtain ⟨x, x0, x1, x2⟩ := sp s1 (by omega)
        obtain ⟨y, hy⟩ := al x x0 x1
        have e : -1000 - p = sa x := by omega
        rw [e, go_ti_e i2 hy]
        have := hy.1
        have := hy.2.1
        omega
      · have := nq.2.1
        omega
  · obtain ⟨m0, m1⟩ := mem k k0 (by omega)
    obtain ⟨m0', m1'⟩ := mem q (by omega) q1
    obtain ⟨o0, o1⟩ := nb _ m0' m1'
    have key := fun k (k0 : 0 ≤ k) k1 => go_ka_key (nu := nu) (nr := nr.toNat) (k := k) k0 (nt + md).toNat (nu (go_nth K q) + 1).toNat (by omega) k1
    rw [← hKK] at key
    have a := (key q (by omega) q1).mp (by omega)
    have b := (key k k0 (by omega)).mpr (by omega)
    omega
/-! names in rows have stood -/
theorem go_sp_up {sa sa2 : Int → Int} {ns ns2 p : Int} (h : ns ≤ ns2) (e : ∀ x, 0 ≤ x → x < ns → sa2 x = sa x) (w : go_sp sa ns p) : go_sp sa2 ns2 p := fun a b => by
  obtain ⟨x, x0, x1, x2⟩ := w a b
  exact ⟨x, x0, by omega, by rw [e x x0 x1]; exact x2⟩
theorem go_iw_0 : go_iw go_S0 := ⟨fun r r0 r1 => by
  have : r < 0 := r1
  omega, fun x hx => absurd hx List.not_mem_nil⟩
theorem go_iw_act {T : Int → Int} {c pos pl kd si e : Int} {S : go_S} (iv : go_iv T c pos S) (pl0 : 0 ≤ pl) (tk : gr_tok T c pl kd si e) (iw : go_iw S) (f : (go_act T c S pl kd si e).1 = 0) : go_iw (go_act T c S pl kd si e).2 := by
  obtain ⟨⟨st, nt, md, nr, br, ns⟩, ⟨ta, ow, rl, mb, sa⟩, sk⟩ := S
  obtain ⟨i1, i2, i3, i4, i5, i6, i7, ⟨i8, i9, i10, i11, i12⟩, i13, i14, i15⟩ := iv
  obtain ⟨w1, w2⟩ := iw
  unfold go_act at f ⊢
  (try dsimp only at i1 i3 i4 i5 i11 w1 w2 f ⊢)
  have neg : ∀ sa' ns', go_sp sa' ns' (-2000 - md) := fun _ _ a _ => by omega
  by_cases k0 : kd = 0
  · rw [if_pos k0] at f
    exact (go_no f (by decide)).elim
  rw [if_neg k0] at f ⊢
  by_cases s0 : st = 0
  · rw [if_pos s0] at f ⊢
    by_cases k2 : kd = 2
    · rw [if_pos k2] at f ⊢
      by_cases hs : gr_has T c nt ta pl
      · rw [if_pos hs] at f
        exact (go_no f (by decide)).elim
      rw [if_neg hs] at f ⊢
      by_cases n8 : nt + md = 8
      · rw [if_pos n8] at f
        exact (go_no f (by decide)).elim
      rw [if_neg n8] at f ⊢
      exact ⟨w1, w2⟩
    · rw [if_neg k2] at f
      exact (go_no f (by decide)).elim
  rw [if_neg s0] at f ⊢
  by_cases s1 : st = 1
  · rw [if_pos s1] at f ⊢
    by_cases c5 : kd = 5 ∧ si = 58
    · rw [if_pos c5] at f ⊢
      refine ⟨w1, fun x hx p hp => ?_⟩
      rcases List.mem_cons.mp hx with y | y
      · rw [y] at hp
        exact absurd hp List.not_mem_nil
      · exact absurd y List.not_mem_nil
    · rw [if_neg c5] at f
      exact (go_no f (by decide)).elim
  rw [if_neg s1] at f ⊢
  have s2 : st = 2 := by omega
  cases sk with
  | nil => exact absurd rfl (i11 s2)
  | cons x k2 =>
    obtain ⟨b, ps, a⟩ := x
    have wp : ∀ p, p ∈ ps → go_sp sa ns p := fun p hp => w2 _ (List.mem_cons_self ..) p hp
    have wk : ∀ x, x ∈ k2 → ∀ p, p ∈ x.2.1 → go_sp sa ns p := fun x hx => w2 x (List.mem_cons_of_mem _ hx)
    have rows : ∀ (L : List Int) r0, 0 ≤ r0 → (∀ p, p ∈ L → go_sp sa ns p) → (∀ r, 0 ≤ r → r < r0 → ∀ p, p ∈ rl r → go_sp sa ns p) → ∀ r, 0 ≤ r → r < r0 + 1 → ∀ p, p ∈ go_upl rl r0 L r → go_sp sa ns p := fun L r0 _ hL h r q0 q1 p hp => by
      by_cases u : r = r0
      · rw [u, go_upl_s] at hp
        exact hL p hp
      · rw [go_upl_i u] at hp
        exact h r q0 (by omega) p hp
    unfold go_row at f ⊢
    (try dsimp only at f ⊢)
    by_cases w : kd = 2 ∨ kd = 3 ∨ kd = 4
    · rw [if_pos w] at f ⊢
      by_cases w4 : 4 < (ps.length : Int) + go_w kd pl e
      · rw [if_pos w4] at f
        exact (go_no f (by decide)).elim
      rw [if_neg w4] at f ⊢
      have up : ∀ p, go_sp sa ns p → go_sp (if kd = 2 then gm_upd sa ns pl else sa) (if kd = 2 then ns + 1 else ns) p := fun p hp => by
        by_cases q : kd = 2
        · rw [if_pos q, if_pos q]
          exact go_sp_up (by omega) (fun x x0 x1 => go_upd_i (by omega)) hp
        · rw [if_neg q, if_neg q]
          exact hp
      refine ⟨fun r r0 r1 p hp => up p (w1 r r0 r1 p hp), fun x hx p hp => ?_⟩
      rcases List.mem_cons.mp hx with y | y
      · rw [y] at hp
        rcases List.mem_append.mp hp with z | z
        · show go_sp (if kd = 2 then gm_upd sa ns pl else sa) (if kd = 2 then ns + 1 else ns) p
          unfold go_new at z
          by_cases q : kd = 2
          · rw [if_pos q] at z
            rw [if_pos q, if_pos q]
            rcases List.mem_cons.mp z with v | v
            · intro _ _
              exact ⟨ns, by omega, by omega, by rw [go_upd_s]; exact v⟩
            · exact absurd v List.not_mem_nil
          · rw [if_neg q] at z
            by_cases q4 : kd = 4
            · rw [if_pos q4] at z
              rw [q4] at tk
              have cb := go_cls_b (gr_tok_cls tk)
              rcases List.mem_cons.mp z with v | v
              · intro _ h
                omega
              · exact absurd v List.not_mem_nil
            · rw [if_neg q4] at z
              have q3 : kd = 3 := by omega
              rw [q3] at tk z
              obtain ⟨d, d1, d2, d3, d4⟩ := gr_tok_quo tk
              obtain ⟨v, v0, v1, v2⟩ := go_ql_mem _ z
              have ew : go_w 3 pl e = d := by
                unfold go_w
                rw [if_pos rfl]
                omega
              rw [ew] at v1
              have i := d1.2.1 v v0 (by omega)
              unfold gr_in at i
              have s := go_shl (x := T (pl + 1 + v) - 97) (by omega) (by omega)
              intro _ h
              omega
        · exact up p (wp p z)
      · exact up p (wk x y p hp)
    rw [if_neg w] at f ⊢
    by_cases w5 : kd ≠ 5 ∨ si = 58
    · rw [if_pos w5] at f
      exact (go_no f (by decide)).elim
    rw [if_neg w5] at f ⊢
    by_cases q40 : si = 40
    · rw [if_pos q40] at f ⊢
      by_cases l3 : k2.length = 3
      · rw [if_pos l3] at f
        exact (go_no f (by decide)).elim
      rw [if_neg l3] at f ⊢
      refine ⟨w1, fun x hx p hp => ?_⟩
      rcases List.mem_cons.mp hx with y | y
      · rw [y] at hp
        exact absurd hp List.not_mem_nil
      · exact w2 x y p hp
    rw [if_neg q40] at f ⊢
    by_cases q41 : si = 41
    · rw [if_pos q41] at f ⊢
      cases k2 with
      | nil => exact (go_no f (by decide)).elim
      | cons x2 k3 =>
        obtain ⟨b2, ps2, a2⟩ := x2
        (try dsimp only at f ⊢)
        by_cases r3 : nr = 20 ∨ nt + md = 8 ∨ ps2.length = 4
        · rw [if_pos r3] at f
          exact (go_no f (by decide)).elim
        rw [if_neg r3] at f ⊢
        refine ⟨fun r r0 r1 => rows ps nr i4.1 wp w1 r r0 r1, fun x hx p hp => ?_⟩
        rcases List.mem_cons.mp hx with y | y
        · rw [y] at hp
          rcases List.mem_cons.mp hp with z | z
          · rw [z]
            exact neg _ _
          · exact wk _ (List.mem_cons_self ..) p z
        · exact wk x (List.mem_cons_of_mem _ y) p hp
    rw [if_neg q41] at f ⊢
    by_cases qe : si = 124 ∨ si = 59
    · rw [if_pos qe] at f ⊢
      by_cases q59 : si = 59 ∧ k2 ≠ []
      · rw [if_pos q59] at f
        exact (go_no f (by decide)).elim
      rw [if_neg q59] at f ⊢
      by_cases r3 : nr = 20
      · rw [if_pos r3] at f
        exact (go_no f (by decide)).elim
      rw [if_neg r3] at f ⊢
      refine ⟨fun r r0 r1 => rows ps nr i4.1 wp w1 r r0 r1, fun x hx p hp => ?_⟩
      rcases List.mem_cons.mp hx with y | y
      · rw [y] at hp
        exact absurd hp List.not_mem_nil
      · exact wk x y p hp
    rw [if_neg qe] at f ⊢
    by_cases a0 : a = 0
    · rw [if_pos a0] at f
      exact (go_no f (by decide)).elim
    rw [if_neg a0] at f ⊢
    by_cases r3 : nt + md = 8 ∨ 20 < nr + 2
    · rw [if_pos r3] at f
      exact (go_no f (by decide)).elim
    rw [if_neg r3] at f ⊢
    refine ⟨fun r r0 r1 p hp => ?_, fun x hx p hp => ?_⟩
    · have r1' : r < nr + 2 := r1
      have hp' : p ∈ go_upl (go_upl rl nr (if si = 42 then [] else ps.take a.toNat)) (nr + 1) (if si = 63 then [] else ps.take a.toNat ++ [-2000 - md]) r := hp
      show go_sp sa ns p
      by_cases u : r = nr + 1
      · rw [u, go_upl_s] at hp'
        by_cases v : si = 63
        · rw [if_pos v] at hp'
          exact absurd hp' List.not_mem_nil
        · rw [if_neg v] at hp'
          rcases List.mem_append.mp hp' with z | z
          · exact wp p (List.mem_of_mem_take z)
          · rcases List.mem_cons.mp z with y | y
            · rw [y]
              exact neg _ _
            · exact absurd y List.not_mem_nil
      · rw [go_upl_i u] at hp'
        refine rows _ nr i4.1 (fun p hp => ?_) w1 r r0 (by omega) p hp'
        by_cases v : si = 42
        · rw [if_pos v] at hp
          exact absurd hp List.not_mem_nil
        · rw [if_neg v] at hp
          exact wp p (List.mem_of_mem_take hp)
    · show go_sp sa ns p
      rcases List.mem_cons.mp hx with y | y
      · rw [y] at hp
        rcases List.mem_cons.mp hp with z | z
        · rw [z]
          exact neg _ _
        · exact wp p (List.mem_of_mem_drop z)
      · exact wk x y p hp
theorem go_out_iw {T : Int → Int} {c f pl : Int} {S2 : go_S} : ∀ (n : Nat) (b : Int) (S : go_S), go_iv T c b S → 0 ≤ b → b ≤ c → go_iw S → go_out T c n b S f pl S2 → go_iw S2
  | 0, _, _, _, _, _, _, h => False.elim h
  | n + 1, b, S, iv, b0, bc, iw, ⟨p, kd, si, e, h1, h2⟩ => by
    rcases h2 with ⟨x1, x2, x3, x4⟩ | ⟨x1, x2, x3, x4, x5⟩ | ⟨x1, x2, x3⟩
    · rw [x4]
      exact iw
    · rw [x5]
      exact iw
    · obtain ⟨s1, s2, s3⟩ := go_step iv b0 bc h1 x2
      have rg := gr_tk_rng b0 bc h1
      have tk0 := h1
      obtain ⟨_, _, _, tk1⟩ := tk0
      exact go_out_iw n e _ s1 (by omega) s3 (go_iw_act iv (by omega) tk1 iw x2) x3
/-- all that a reading without a fault leaves -/
def go_fin (T : Int → Int) (c : Int) (S : go_S) : Prop := c ≤ 240 ∧ (∃ pos, go_iv T c pos S) ∧ S.1.1 = 0 ∧ 0 < S.1.2.1 ∧ go_iw S ∧ go_al T c S
theorem go_fin_of {T : Int → Int} {c pl : Int} {S : go_S} (c0 : 0 ≤ c) (c240 : c ≤ 240) (h : go_res T c 0 pl S) (iv : ∃ pos, go_iv T c pos S) (s0 : S.1.1 = 0) (n0 : 0 < S.1.2.1) : go_fin T c S := by
  obtain ⟨N, f1, p1, o, h⟩ := h
  refine ⟨c240, iv, s0, n0, go_out_iw N 0 go_S0 go_iv_0 (Int.le_refl _) c0 go_iw_0 o, ?_⟩
  rcases h with ⟨a1, a2, _⟩ | ⟨_, a2, _⟩ | ⟨_, _, _, a4⟩
  · exact absurd a2.symm a1
  · exact absurd a2 (by decide)
  · exact a4
theorem go_fin_ok {T : Int → Int} {c : Int} {S : go_S} (h : go_fin T c S) : gm_ok (go_G T c S) := by
  obtain ⟨h1, ⟨pos, h2⟩, h3, h4, h5, h6⟩ := h
  exact go_G_ok h1 h2 h3 h4 h5 h6
theorem go_G_rg {T : Int → Int} {c : Int} {S : go_S} (h : go_fin T c S) {f k : Int → Int} (hf : ∀ n : Nat, n < S.1.2.1 + S.1.2.2.1 → f n = (go_ka (go_nu S) S.1.2.2.2.1.toNat n).length ∧ f n + k n = (go_ka (go_nu S) S.1.2.2.2.1.toNat (n + 1)).length) : gm_rg (go_G T c S) f k := by
  obtain ⟨h1, ⟨pos, iv⟩, h3, h4, h5, h6⟩ := h
  have i2a : 0 ≤ S.1.2.1 ∧ S.1.2.1 ≤ 8 := iv.2.1.1
  have i3 := iv.2.2.1
  intro n n0 n1
  have n1' : n < S.1.2.1 + S.1.2.2.1 := n1
  have en : ((n.toNat : Nat) : Int) = n := by omega
  obtain ⟨f1, f2⟩ := hf n.toNat (by omega)
  rw [en] at f1 f2
  have l1 : (go_ka (go_nu S) S.1.2.2.2.1.toNat n.toNat).length ≤ (go_ka (go_nu S) S.1.2.2.2.1.toNat (n.toNat + 1)).length := go_ka_mono 1
  have l2 := go_ka_mono (nu := go_nu S) (nr := S.1.2.2.2.1.toNat) (n := n.toNat + 1) ((S.1.2.1 + S.1.2.2.1).toNat - (n.toNat + 1))
  have e2 : n.toNat + 1 + ((S.1.2.1 + S.1.2.2.1).toNat - (n.toNat + 1)) = (S.1.2.1 + S.1.2.2.1).toNat := by omega
  rw [e2] at l2
  have lR : gm_R (go_G T c S) = ((go_ka (go_nu S) S.1.2.2.2.1.toNat (S.1.2.1 + S.1.2.2.1).toNat).length : Int) := rfl
  refine ⟨by omega, by omega, by omega, fun r r0 r1 => ?_⟩
  rw [lR] at r1
  have a := go_ka_key (nu := go_nu S) r0 (S.1.2.1 + S.1.2.2.1).toNat n.toNat (by omega) r1
  have b := go_ka_key (nu := go_nu S) r0 (S.1.2.1 + S.1.2.2.1).toNat (n.toNat + 1) (by omega) r1
  show go_nu S (go_nth (go_ka (go_nu S) S.1.2.2.2.1.toNat (S.1.2.1 + S.1.2.2.1).toNat) r) = n ↔ _
  omega
def go_rr (S : go_S) (f k : Int → Int) : Prop := ∀ n : Nat, n < S.1.2.1 + S.1.2.2.1 → f n = (go_ka (go_nu S) S.1.2.2.2.1.toNat n).length ∧ f n + k n = (go_ka (go_nu S) S.1.2.2.2.1.toNat (n + 1)).length
theorem go_rr_u {S : go_S} {f k f2 k2 : Int → Int} (h : go_rr S f k) (h2 : go_rr S f2 k2) {n : Int} (n0 : 0 ≤ n) (n1 : n < S.1.2.1 + S.1.2.2.1) : f n = f2 n ∧ k n = k2 n := by
  have e : ((n.toNat : Nat) : Int) = n := by omega
  have a := h n.toNat (by omega)
  have b := h2 n.toNat (by omega)
  rw [e] at a b
  omega

