/-! READING: what a token does -/
abbrev go_K : Type := List (Int × List Int × Int)
abbrev go_S : Type := (Int × Int × Int × Int × Int × Int) × ((Int → Int) × (Int → Int) × (Int → List Int) × (Int → Int) × (Int → Int)) × go_K
def go_upl (f : Int → List Int) (i : Int) (v : List Int) : Int → List Int := fun j => if j = i then v else f j
theorem go_upl_s {f : Int → List Int} {i : Int} {v : List Int} : go_upl f i v i = v := if_pos rfl
theorem go_upl_i {f : Int → List Int} {i j : Int} {v : List Int} (h : j ≠ i) : go_upl f i v j = f j := if_neg h
theorem go_upd_s {f : Int → Int} {i v : Int} : gm_upd f i v i = v := if_pos rfl
theorem go_upd_i {f : Int → Int} {i j v : Int} (h : j ≠ i) : gm_upd f i v j = f j := if_neg h
/-- how many parts a word gives, and which, the last one first -/
def go_w (kd pl e : Int) : Int := if kd = 3 then e - pl - 2 else 1
def go_ql (T : Int → Int) (pl : Int) : Nat → List Int
  | 0 => []
  | k + 1 => gh_ishl_f 1 (T (pl + ((k : Int) + 1)) - 97) :: go_ql T pl k
def go_new (T : Int → Int) (kd pl w : Int) : List Int := if kd = 2 then [-1000 - pl] else if kd = 4 then [gh_ishl_f 1 (T (pl + 3) - 97 + 1) - gh_ishl_f 1 (T (pl + 1) - 97)] else go_ql T pl w.toNat
noncomputable def go_row (T : Int → Int) (S : go_S) (b : Int) (ps : List Int) (a : Int) (k2 : go_K) (pl kd si e : Int) : Int × go_S :=
  if kd = 2 ∨ kd = 3 ∨ kd = 4 then
    (if 4 < ps.length + go_w kd pl e then (3, S) else (0, ((2, S.1.2.1, S.1.2.2.1, S.1.2.2.2.1, S.1.2.2.2.2.1, if kd = 2 then S.1.2.2.2.2.2 + 1 else S.1.2.2.2.2.2), (S.2.1.1, S.2.1.2.1, S.2.1.2.2.1, S.2.1.2.2.2.1, if kd = 2 then gm_upd S.2.1.2.2.2.2 S.1.2.2.2.2.2 pl else S.2.1.2.2.2.2), (b, go_new T kd pl (go_w kd pl e) ++ ps, go_w kd pl e) :: k2)))
  else if kd ≠ 5 ∨ si = 58 then (2, S)
  else if si = 40 then
    (if k2.length = 3 then (3, S) else (0, ((2, S.1.2.1, S.1.2.2.1, S.1.2.2.2.1, S.1.2.2.2.2.1 + 1, S.1.2.2.2.2.2), S.2.1, (S.1.2.2.2.2.1, [], 0) :: (b, ps, a) :: k2)))
  else if si = 41 then
    (match k2 with
    | [] => (2, S)
    | (b2, ps2, _) :: k3 => if S.1.2.2.2.1 = 20 ∨ S.1.2.1 + S.1.2.2.1 = 8 ∨ ps2.length = 4 then (3, S) else (0, ((2, S.1.2.1, S.1.2.2.1 + 1, S.1.2.2.2.1 + 1, S.1.2.2.2.2.1, S.1.2.2.2.2.2), (S.2.1.1, gm_upd S.2.1.2.1 S.1.2.2.2.1 (100 + b), go_upl S.2.1.2.2.1 S.1.2.2.2.1 ps, gm_upd S.2.1.2.2.2.1 b S.1.2.2.1, S.2.1.2.2.2.2), (b2, (-2000 - S.1.2.2.1) :: ps2, 1) :: k3)))
  else if si = 124 ∨ si = 59 then
    (if si = 59 ∧ k2 ≠ [] then (2, S) else if S.1.2.2.2.1 = 20 then (3, S) else (0, ((if si = 59 then 0 else 2, S.1.2.1, S.1.2.2.1, S.1.2.2.2.1 + 1, S.1.2.2.2.2.1, S.1.2.2.2.2.2), (S.2.1.1, gm_upd S.2.1.2.1 S.1.2.2.2.1 (if k2 = [] then S.1.2.1 - 1 else 100 + b), go_upl S.2.1.2.2.1 S.1.2.2.2.1 ps, S.2.1.2.2.2.1, S.2.1.2.2.2.2), (b, [], 0) :: k2)))
  else if a = 0 then (2, S)
  else if S.1.2.1 + S.1.2.2.1 = 8 ∨ 20 < S.1.2.2.2.1 + 2 then (3, S)
  else (0, ((2, S.1.2.1, S.1.2.2.1 + 1, S.1.2.2.2.1 + 2, S.1.2.2.2.2.1, S.1.2.2.2.2.2), (S.2.1.1, gm_upd (gm_upd S.2.1.2.1 S.1.2.2.2.1 (200 + S.1.2.2.1)) (S.1.2.2.2.1 + 1) (200 + S.1.2.2.1), go_upl (go_upl S.2.1.2.2.1 S.1.2.2.2.1 (if si = 42 then [] else ps.take a.toNat)) (S.1.2.2.2.1 + 1) (if si = 63 then [] else ps.take a.toNat ++ [-2000 - S.1.2.2.1]), S.2.1.2.2.2.1, S.2.1.2.2.2.2), (b, (-2000 - S.1.2.2.1) :: ps.drop a.toNat, 0) :: k2))
noncomputable def go_act (T : Int → Int) (c : Int) (S : go_S) (pl kd si e : Int) : Int × go_S :=
  if kd = 0 then (1, S)
  else if S.1.1 = 0 then
    (if kd = 2 then @ite _ (gr_has T c S.1.2.1 S.2.1.1 pl) (Classical.propDecidable _) (4, S) (if S.1.2.1 + S.1.2.2.1 = 8 then (3, S) else (0, ((1, S.1.2.1 + 1, S.1.2.2), (gm_upd S.2.1.1 S.1.2.1 pl, S.2.1.2), S.2.2))) else (2, S))
  else if S.1.1 = 1 then
    (if kd = 5 ∧ si = 58 then (0, ((2, S.1.2), S.2.1, [(-1, [], 0)])) else (2, S))
  else
    (match S.2.2 with
    | [] => (9, S)
    | (b, ps, a) :: k2 => go_row T S b ps a k2 pl kd si e)
/-! WHAT ALWAYS HOLDS -/
def go_pv (T : Int → Int) (c md p : Int) : Prop := (0 < p ∧ p < 67108864) ∨ (-2000 - md < p ∧ p ≤ -2000) ∨ ∃ q d, gr_nm T c q d ∧ p = -1000 - q
def go_se (T : Int → Int) (c md : Int) : go_K → Prop
  | [] => True
  | (_, ps, a) :: k => (ps.length ≤ 4 ∧ (∀ p, p ∈ ps → go_pv T c md p) ∧ 0 ≤ a ∧ a ≤ ps.length ∧ a ≤ 3) ∧ go_se T c md k
def go_id : Int → go_K → Prop
  | _, [] => True
  | u, (b, _, _) :: k => b < u ∧ -1 ≤ b ∧ (0 ≤ b ↔ k ≠ []) ∧ go_id b k
def go_lv : go_K → Int → Int → Prop
  | [], _, _ => False
  | (b', _, _) :: k, b, l => (b' = b ∧ l = k.length) ∨ go_lv k b l
theorem go_len_cons {x : Int × List Int × Int} {k : go_K} : ((x :: k : go_K).length : Int) = k.length + 1 := by
  show ((k.length + 1 : Nat) : Int) = _
  omega
theorem go_lv_l : ∀ (k : go_K) (b l : Int), go_lv k b l → 0 ≤ l ∧ l < k.length
  | [], _, _, h => False.elim h
  | (b', ps, a) :: k, b, l, h => by
    have e := go_len_cons (x := (b', ps, a)) (k := k)
    rcases h with h | h
    · omega
    · have := go_lv_l k b l h
      omega
theorem go_lv_id : ∀ (k : go_K) (u b l : Int), go_id u k → go_lv k b l → b < u
  | [], _, _, _, _, h => False.elim h
  | (b', _, _) :: k, u, b, l, hi, h => by
    rcases h with h | h
    · have := hi.1
      omega
    · have := go_lv_id k b' b l hi.2.2.2 h
      have := hi.1
      omega
def go_rv (T : Int → Int) (c nt md nr br : Int) (ow : Int → Int) (rl : Int → List Int) : Prop := ∀ r, 0 ≤ r → r < nr → (rl r).length ≤ 4 ∧ (∀ p, p ∈ rl r → go_pv T c md p) ∧ ((0 ≤ ow r ∧ ow r < nt) ∨ (200 ≤ ow r ∧ ow r < 200 + md) ∨ (100 ≤ ow r ∧ ow r < 100 + br))
def go_iv (T : Int → Int) (c pos : Int) (S : go_S) : Prop := (S.1.1 = 0 ∨ S.1.1 = 1 ∨ S.1.1 = 2) ∧ gr_tv T c S.1.2.1 S.2.1.1 ∧ (0 ≤ S.1.2.2.1 ∧ S.1.2.1 + S.1.2.2.1 ≤ 8) ∧ (0 ≤ S.1.2.2.2.1 ∧ S.1.2.2.2.1 ≤ 20) ∧ (0 ≤ S.1.2.2.2.2.2 ∧ S.1.2.2.2.2.2 ≤ pos) ∧ go_rv T c S.1.2.1 S.1.2.2.1 S.1.2.2.2.1 S.1.2.2.2.2.1 S.2.1.2.1 S.2.1.2.2.1 ∧ (0 ≤ S.1.2.2.2.2.1 ∧ S.1.2.2.2.2.1 ≤ S.1.2.2.1 + max 0 ((S.2.2.length : Int) - 1)) ∧ (S.2.2.length ≤ 4 ∧ go_se T c S.1.2.2.1 S.2.2 ∧ go_id S.1.2.2.2.2.1 S.2.2 ∧ (S.1.1 = 2 → S.2.2 ≠ []) ∧ (S.1.1 ≠ 2 → S.2.2.length ≤ 1)) ∧ (S.1.1 ≠ 0 → 1 ≤ S.1.2.1) ∧ (∀ x, 0 ≤ x → x < S.1.2.2.2.2.2 → ∃ d, gr_nm T c (S.2.1.2.2.2.2 x) d) ∧ ∀ b, 0 ≤ b → b < S.1.2.2.2.2.1 → (∀ l, ¬ go_lv S.2.2 b l) → 0 ≤ S.2.1.2.2.2.1 b ∧ S.2.1.2.2.2.1 b < S.1.2.2.1
theorem go_pv_up {T : Int → Int} {c md md2 p : Int} (h : md ≤ md2) (w : go_pv T c md p) : go_pv T c md2 p := by
  rcases w with w | w | w
  · exact Or.inl w
  · exact Or.inr (Or.inl ⟨by omega, w.2⟩)
  · exact Or.inr (Or.inr w)
theorem go_se_up {T : Int → Int} {c md md2 : Int} (h : md ≤ md2) : ∀ k : go_K, go_se T c md k → go_se T c md2 k
  | [], _ => trivial
  | (_, _, _) :: k, ⟨⟨a1, a2, a3⟩, a4⟩ => ⟨⟨a1, fun p hp => go_pv_up h (a2 p hp), a3⟩, go_se_up h k a4⟩
theorem go_id_up {u u2 : Int} (h : u ≤ u2) : ∀ k : go_K, go_id u k → go_id u2 k
  | [], _ => trivial
  | (_, _, _) :: _, ⟨a1, a2⟩ => ⟨by omega, a2⟩
theorem go_ql_len {T : Int → Int} {pl : Int} : ∀ k : Nat, (go_ql T pl k).length = k
  | 0 => rfl
  | k + 1 => by
    show (go_ql T pl k).length + 1 = k + 1
    rw [go_ql_len k]
theorem go_ql_mem {T : Int → Int} {pl p : Int} : ∀ k : Nat, p ∈ go_ql T pl k → ∃ x : Int, 0 ≤ x ∧ x < k ∧ p = gh_ishl_f 1 (T (pl + 1 + x) - 97)
  | 0, h => absurd h List.not_mem_nil
  | k + 1, h => by
    rcases List.mem_cons.mp h with h | h
    · refine ⟨k, by omega, by omega, ?_⟩
      have e : pl + 1 + (k : Int) = pl + ((k : Int) + 1) := by omega
      rw [e]
      exact h
    · obtain ⟨x, x0, x1, x2⟩ := go_ql_mem k h
      exact ⟨x, x0, by omega, x2⟩
theorem go_shl {x : Int} (h0 : 0 ≤ x) (h1 : x < 26) : 0 < gh_ishl_f 1 x ∧ gh_ishl_f 1 x < 67108864 := by
  rw [gb_one h0 (by omega)]
  have a : 0 < 2 ^ x.toNat := Nat.two_pow_pos _
  have b : 2 ^ x.toNat < 2 ^ 26 := Nat.pow_lt_pow_right (by decide) (by omega)
  omega
/-- the parts of a word -/
theorem go_new_v {T : Int → Int} {c pl kd si e md : Int} (pl0 : 0 ≤ pl) (h : gr_tok T c pl kd si e) (hk : kd = 2 ∨ kd = 3 ∨ kd = 4) : (1 ≤ go_w kd pl e ∧ go_w kd pl e ≤ 3) ∧ ((go_new T kd pl (go_w kd pl e)).length : Int) = go_w kd pl e ∧ ∀ p, p ∈ go_new T kd pl (go_w kd pl e) → go_pv T c md p := by
  rcases hk with k | k | k
  · rw [k] at h ⊢
    obtain ⟨d, hd, _⟩ := gr_tok_nm pl0 h
    unfold go_w go_new
    rw [if_neg (by decide), if_pos rfl]
    refine ⟨by decide, rfl, fun p hp => ?_⟩
    rcases List.mem_cons.mp hp with y | y
    · exact Or.inr (Or.inr ⟨pl, d, hd, y⟩)
    · exact absurd y List.not_mem_nil
  · rw [k] at h ⊢
    have w : ∃ d, gr_ln (gr_in T c 97 122) (pl + 1) d ∧ e = pl + d + 2 ∧ 1 ≤ d ∧ d ≤ 3 := by
      rcases h with ⟨a1, a2, a3, a4⟩ | ⟨a1, a2, a3⟩
      · omega
      · rcases a3 with ⟨c1, c2, d, c3, c4, c5⟩ | ⟨c1, d, c3, c4, c5⟩ | ⟨c1, c2, c3⟩ | ⟨c1, c2, c3, c4, c5⟩
        · omega
        · rcases c5 with c5 | c5
          · exact ⟨d, c3, c4, c5.1, c5.2.1⟩
          · omega
        · omega
        · omega
    obtain ⟨d, d1, d2, d3, d4⟩ := w
    have ew : go_w 3 pl e = d := by
      unfold go_w
      rw [if_pos rfl]
      omega
    rw [ew]
    unfold go_new
    rw [if_neg (by decide), if_neg (by decide), go_ql_len]
    refine ⟨⟨d3, d4⟩, by omega, fun p hp => ?_⟩
    obtain ⟨x, x0, x1, x2⟩ := go_ql_mem _ hp
    have i := d1.2.1 x x0 (by omega)
    unfold gr_in at i
    have s := go_shl (x := T (pl + 1 + x) - 97) (by omega) (by omega)
    rw [x2]
    exact Or.inl s
  · rw [k] at h ⊢
    have w : gr_cls T c pl := by
      rcases h with ⟨a1, a2, a3, a4⟩ | ⟨a1, a2, a3⟩
      · omega
      · rcases a3 with ⟨c1, c2, d, c3, c4, c5⟩ | ⟨c1, d, c3, c4, c5⟩ | ⟨c1, c2, c3⟩ | ⟨c1, c2, c3, c4, c5⟩
        · omega
        · omega
        · rcases c3 with c3 | c3
          · exact c3.1
          · omega
        · omega
    obtain ⟨w1, w2, w3, w4, w5⟩ := w
    unfold gr_in at w1 w3
    unfold go_w go_new
    rw [if_neg (by decide), if_neg (by decide), if_pos rfl]
    refine ⟨by decide, rfl, fun p hp => ?_⟩
    rcases List.mem_cons.mp hp with y | y
    · refine Or.inl ?_
      rw [y, gb_one (by omega) (by omega), gb_one (by omega) (by omega)]
      have a : 2 ^ (T (pl + 1) - 97).toNat < 2 ^ (T (pl + 3) - 97 + 1).toNat := Nat.pow_lt_pow_right (by decide) (by omega)
      have b : 2 ^ (T (pl + 3) - 97 + 1).toNat ≤ 2 ^ 26 := Nat.pow_le_pow_right (by decide) (by omega)
      have z : 0 < 2 ^ (T (pl + 1) - 97).toNat := Nat.two_pow_pos _
      generalize 2 ^ (T (pl + 1) - 97).toNat = u at *
      generalize 2 ^ (T (pl + 3) - 97 + 1).toNat = v at *
      have b' : v ≤ 67108864 := b
      omega
    · exact absurd y List.not_mem_nil
theorem go_rv_up {T : Int → Int} {c nt md nr br nt2 md2 br2 : Int} {ow : Int → Int} {rl : Int → List Int} (h : go_rv T c nt md nr br ow rl) (h1 : nt ≤ nt2) (h2 : md ≤ md2) (h3 : br ≤ br2) : go_rv T c nt2 md2 nr br2 ow rl := fun r r0 r1 => by
  obtain ⟨a1, a2, a3⟩ := h r r0 r1
  exact ⟨a1, fun p hp => go_pv_up h2 (a2 p hp), by omega⟩
theorem go_rv_s {T : Int → Int} {c nt md nr br o : Int} {ow : Int → Int} {rl : Int → List Int} {L : List Int} (h : go_rv T c nt md nr br ow rl) (l4 : L.length ≤ 4) (pv : ∀ p, p ∈ L → go_pv T c md p) (ov : (0 ≤ o ∧ o < nt) ∨ (200 ≤ o ∧ o < 200 + md) ∨ (100 ≤ o ∧ o < 100 + br)) : go_rv T c nt md (nr + 1) br (gm_upd ow nr o) (go_upl rl nr L) := fun r r0 r1 => by
  by_cases u : r = nr
  · rw [u, go_upl_s, go_upd_s]
    exact ⟨l4, pv, ov⟩
  · rw [go_upl_i u, go_upd_i u]
    exact h r r0 (by omega)
theorem go_lv_0 {x : Int × List Int × Int} {k : go_K} {u b l : Int} (len : ((x :: k : go_K).length : Int) ≤ 1) (hi : go_id u (x :: k)) (b0 : 0 ≤ b) : ¬ go_lv (x :: k) b l := by
  obtain ⟨b', ps, a⟩ := x
  have e := go_len_cons (x := (b', ps, a)) (k := k)
  have ek : k = [] := List.eq_nil_of_length_eq_zero (by omega)
  rw [ek] at hi ⊢
  rintro (h | h)
  · have := hi.2.2.1.mp (by omega)
    exact this rfl
  · exact h
theorem go_no {n : Int} {S : go_S} (f : (n, S).1 = 0) (h : n ≠ 0) : False := h f
/-- all that always holds does so behind a token that is taken -/
theorem go_iv_act {T : Int → Int} {c pos pl kd si e : Int} {S : go_S} (iv : go_iv T c pos S) (p0 : 0 ≤ pos) (pp : pos ≤ pl) (tk : gr_tok T c pl kd si e) (pe : pl ≤ e) (pe2 : kd ≠ 1 → pl < e) (f : (go_act T c S pl kd si e).1 = 0) : go_iv T c e (go_act T c S pl kd si e).2 := by
  obtain ⟨⟨st, nt, md, nr, br, ns⟩, ⟨ta, ow, rl, mb, sa⟩, sk⟩ := S
  obtain ⟨i1, i2, i3, i4, i5, i6, i7, ⟨i8, i9, i10, i11, i12⟩, i13, i14, i15⟩ := iv
  have i2a : 0 ≤ nt ∧ nt ≤ 8 := i2.1
  unfold go_act at f ⊢
  (try dsimp only at i1 i2 i3 i4 i5 i6 i7 i8 i9 i10 i11 i12 i13 i14 i15 f ⊢)
  by_cases k0 : kd = 0
  · rw [if_pos k0] at f
    exact (go_no f (by decide)).elim
  rw [if_neg k0] at f ⊢
  by_cases s0 : st = 0
  · rw [if_pos s0] at f ⊢
    by_cases k2 : kd = 2
    · rw [if_pos k2] at f ⊢
      by_cases hs : gr_has T c nt ta pl
      · rw [if_pos hs] at f
        exact (go_no f (by decide)).elim
      rw [if_neg hs] at f ⊢
      by_cases n8 : nt + md = 8
      · rw [if_pos n8] at f
        exact (go_no f (by decide)).elim
      rw [if_neg n8] at f ⊢
      rw [k2] at tk
      obtain ⟨d, hd, _⟩ := gr_tok_nm (by omega) tk
      refine ⟨Or.inr (Or.inl rfl), ⟨by (try dsimp only); omega, fun x x0 x1 => ?_, fun x y x0 x1 y0 y1 sm => ?_⟩, by (try dsimp only); omega, i4, by (try dsimp only); omega, go_rv_up i6 (by (try dsimp only); omega) (Int.le_refl _) (Int.le_refl _), i7, ⟨i8, i9, i10, fun y => absurd (show (1 : Int) = 2 from y) (by decide), fun _ => i12 (by omega)⟩, fun _ => by (try dsimp only); omega, i14, i15⟩
      · (try dsimp only at x1 ⊢)
        by_cases u : x = nt
        · rw [u, go_upd_s]
          exact ⟨d, hd⟩
        · rw [go_upd_i u]
          exact i2.2.1 x x0 (by omega)
      · (try dsimp only at x1 y1 sm)
        by_cases u : x = nt
        · by_cases v : y = nt
          · omega
          · rw [u, go_upd_s, go_upd_i v] at sm
            obtain ⟨k, m1, m2⟩ := sm
            exact absurd ⟨y, y0, by omega, k, m2, m1⟩ hs
        · by_cases v : y = nt
          · rw [v, go_upd_s, go_upd_i u] at sm
            exact absurd ⟨x, x0, by omega, sm⟩ hs
          · rw [go_upd_i u, go_upd_i v] at sm
            exact i2.2.2 x y x0 (by omega) y0 (by omega) sm
    · rw [if_neg k2] at f
      exact (go_no f (by decide)).elim
  rw [if_neg s0] at f ⊢
  by_cases s1 : st = 1
  · rw [if_pos s1] at f ⊢
    by_cases c5 : kd = 5 ∧ si = 58
    · rw [if_pos c5] at f ⊢
      have no : ∀ b l, 0 ≤ b → ¬ go_lv sk b l := fun b l b0 => by
        cases sk with
        | nil => exact id
        | cons x k => exact go_lv_0 (by have := i12 (by omega); omega) i10 b0
      refine ⟨Or.inr (Or.inr rfl), i2, i3, i4, by (try dsimp only); omega, i6, ?_, ⟨Nat.le_of_ble_eq_true rfl, ⟨⟨by decide, fun p hp => absurd hp List.not_mem_nil, Int.le_refl _, by decide, by decide⟩, trivial⟩, ⟨by (try dsimp only); omega, by decide, ⟨fun y => by omega, fun y => absurd rfl y⟩, trivial⟩, fun _ => List.cons_ne_nil _ _, fun y => absurd rfl y⟩, fun _ => i13 s0, i14, fun b b0 b1 _ => i15 b b0 b1 (fun l => no b l b0)⟩
      have := i12 (by omega)
      show 0 ≤ br ∧ br ≤ md + max 0 ((1 : Int) - 1)
      omega
    · rw [if_neg c5] at f
      exact (go_no f (by decide)).elim
  rw [if_neg s1] at f ⊢
  have s2 : st = 2 := by omega
  cases sk with
  | nil => exact absurd rfl (i11 s2)
  | cons x k2 =>
    obtain ⟨b, ps, a⟩ := x
    obtain ⟨⟨e1, e2, e3, e4, e5⟩, e6⟩ := i9
    obtain ⟨d1, d2, d3, d4⟩ := i10
    have lc := go_len_cons (x := (b, ps, a)) (k := k2)
    unfold go_row at f ⊢
    (try dsimp only at f ⊢)
    by_cases w : kd = 2 ∨ kd = 3 ∨ kd = 4
    · rw [if_pos w] at f ⊢
      by_cases w4 : 4 < (ps.length : Int) + go_w kd pl e
      · rw [if_pos w4] at f
        exact (go_no f (by decide)).elim
      rw [if_neg w4] at f ⊢
      obtain ⟨n1, n2, n3⟩ := go_new_v (md := md) (by omega) tk w
      have ln : ((go_new T kd pl (go_w kd pl e) ++ ps).length : Int) = go_w kd pl e + ps.length := by
        rw [List.length_append]
        omega
      refine ⟨Or.inr (Or.inr rfl), i2, i3, i4, ?_, i6, i7, ⟨i8, ⟨⟨by omega, fun p hp => ?_, by (try dsimp only); omega, by (try dsimp only); omega, by (try dsimp only); omega⟩, e6⟩, ⟨d1, d2, d3, d4⟩, fun _ => List.cons_ne_nil _ _, fun y => absurd rfl y⟩, fun _ => i13 s0, fun x x0 x1 => ?_, i15⟩
      · have := pe2 (by omega)
        show 0 ≤ (if kd = 2 then ns + 1 else ns) ∧ (if kd = 2 then ns + 1 else ns) ≤ e
        by_cases q : kd = 2
        · rw [if_pos q]
          omega
        · rw [if_neg q]
          omega
      · rcases List.mem_append.mp hp with y | y
        · exact n3 p y
        · exact e2 p y
      · have x1' : x < (if kd = 2 then ns + 1 else ns) := x1
        show ∃ d, gr_nm T c ((if kd = 2 then gm_upd sa ns pl else sa) x) d
        by_cases q : kd = 2
        · rw [if_pos q] at x1' ⊢
          by_cases u : x = ns
          · rw [u, go_upd_s]
            rw [q] at tk
            obtain ⟨d, hd, _⟩ := gr_tok_nm (by omega) tk
            exact ⟨d, hd⟩
          · rw [go_upd_i u]
            exact i14 x x0 (by omega)
        · rw [if_neg q] at x1' ⊢
          exact i14 x x0 x1'
    rw [if_neg w] at f ⊢
    by_cases w5 : kd ≠ 5 ∨ si = 58
    · rw [if_pos w5] at f
      exact (go_no f (by decide)).elim
    rw [if_neg w5] at f ⊢
    by_cases q40 : si = 40
    · rw [if_pos q40] at f ⊢
      by_cases l3 : k2.length = 3
      · rw [if_pos l3] at f
        exact (go_no f (by decide)).elim
      rw [if_neg l3] at f ⊢
      have lc2 := go_len_cons (x := (br, ([] : List Int), (0 : Int))) (k := (b, ps, a) :: k2)
      refine ⟨Or.inr (Or.inr rfl), i2, i3, i4, by (try dsimp only); omega, go_rv_up i6 (Int.le_refl _) (Int.le_refl _) (by (try dsimp only); omega), ?_, ⟨by (try dsimp only); omega, ⟨⟨by decide, fun p hp => absurd hp List.not_mem_nil, Int.le_refl _, by decide, by decide⟩, ⟨e1, e2, e3, e4, e5⟩, e6⟩, ⟨by (try dsimp only); omega, by omega, ⟨fun _ => List.cons_ne_nil _ _, fun _ => by omega⟩, d1, d2, d3, d4⟩, fun _ => List.cons_ne_nil _ _, fun y => absurd rfl y⟩, fun _ => i13 s0, i14, fun b' b0 b1 no => i15 b' b0 ?_ (fun l y => no l (Or.inr y))⟩
      · show 0 ≤ br + 1 ∧ br + 1 ≤ md + max 0 ((((br, ([] : List Int), (0 : Int)) :: (b, ps, a) :: k2 : go_K).length : Int) - 1)
        omega
      · have b1' : b' < br + 1 := b1
        by_cases u : b' = br
        · exact absurd (Or.inl ⟨u.symm, rfl⟩) (no (((b, ps, a) :: k2 : go_K).length : Int))
        · omega
    rw [if_neg q40] at f ⊢
    by_cases q41 : si = 41
    · rw [if_pos q41] at f ⊢
      cases k2 with
      | nil => exact (go_no f (by decide)).elim
      | cons x2 k3 =>
        obtain ⟨b2, ps2, a2⟩ := x2
        obtain ⟨⟨g1, g2, g3, g4, g5⟩, g6⟩ := e6
        obtain ⟨h1, h2, h3, h4⟩ := d4
        have lc2 := go_len_cons (x := (b2, ps2, a2)) (k := k3)
        have lc3 := go_len_cons (x := (b2, (-2000 - md) :: ps2, (1 : Int))) (k := k3)
        (try dsimp only at f ⊢)
        by_cases r3 : nr = 20 ∨ nt + md = 8 ∨ ps2.length = 4
        · rw [if_pos r3] at f
          exact (go_no f (by decide)).elim
        rw [if_neg r3] at f ⊢
        have lp : (((-2000 - md) :: ps2).length : Int) = ps2.length + 1 := by
          show ((ps2.length + 1 : Nat) : Int) = _
          omega
        have b0 : 0 ≤ b := d3.mpr (List.cons_ne_nil _ _)
        refine ⟨Or.inr (Or.inr rfl), i2, by (try dsimp only); omega, by (try dsimp only); omega, by (try dsimp only); omega, go_rv_s (go_rv_up i6 (Int.le_refl _) (by (try dsimp only); omega) (Int.le_refl _)) e1 (fun p hp => go_pv_up (by (try dsimp only); omega) (e2 p hp)) (Or.inr (Or.inr (by (try dsimp only); omega))), ?_, ⟨by (try dsimp only); omega, ⟨⟨by omega, fun p hp => ?_, by decide, by omega, by decide⟩, go_se_up (by (try dsimp only); omega) k3 g6⟩, ⟨by (try dsimp only); omega, h2, h3, h4⟩, fun _ => List.cons_ne_nil _ _, fun y => absurd rfl y⟩, fun _ => i13 s0, i14, fun b' b0' b1' no => ?_⟩
        · show 0 ≤ br ∧ br ≤ md + 1 + max 0 ((((b2, (-2000 - md) :: ps2, (1 : Int)) :: k3 : go_K).length : Int) - 1)
          omega
        · rcases List.mem_cons.mp hp with y | y
          · exact Or.inr (Or.inl (by (try dsimp only); omega))
          · exact go_pv_up (by (try dsimp only); omega) (g2 p y)
        · show 0 ≤ gm_upd mb b md b' ∧ gm_upd mb b md b' < md + 1
          by_cases u : b' = b
          · rw [u, go_upd_s]
            omega
          · rw [go_upd_i u]
            have := i15 b' b0' b1' (fun l y => y.elim (fun z => u z.1.symm) (fun z => no l z))
            omega
    rw [if_neg q41] at f ⊢
    by_cases qe : si = 124 ∨ si = 59
    · rw [if_pos qe] at f ⊢
      by_cases q1 : si = 59 ∧ k2 ≠ []
      · rw [if_pos q1] at f
        exact (go_no f (by decide)).elim
      rw [if_neg q1] at f ⊢
      by_cases r20 : nr = 20
      · rw [if_pos r20] at f
        exact (go_no f (by decide)).elim
      rw [if_neg r20] at f ⊢
      have ov : (0 ≤ (if k2 = [] then nt - 1 else 100 + b) ∧ (if k2 = [] then nt - 1 else 100 + b) < nt) ∨ (200 ≤ (if k2 = [] then nt - 1 else 100 + b) ∧ (if k2 = [] then nt - 1 else 100 + b) < 200 + md) ∨ (100 ≤ (if k2 = [] then nt - 1 else 100 + b) ∧ (if k2 = [] then nt - 1 else 100 + b) < 100 + br) := by
        have := i13 s0
        by_cases u : k2 = []
        · rw [if_pos u]
          omega
        · rw [if_neg u]
          have := d3.mpr u
          omega
      refine ⟨?_, i2, i3, by (try dsimp only); omega, by (try dsimp only); omega, go_rv_s i6 e1 e2 ov, i7, ⟨i8, ⟨⟨by decide, fun p hp => absurd hp List.not_mem_nil, Int.le_refl _, by decide, by decide⟩, e6⟩, ⟨d1, d2, d3, d4⟩, fun _ => List.cons_ne_nil _ _, fun y => ?_⟩, fun _ => i13 s0, i14, i15⟩
      · show (if si = 59 then (0 : Int) else 2) = 0 ∨ _ ∨ _
        by_cases u : si = 59
        · rw [if_pos u]
          exact Or.inl rfl
        · rw [if_neg u]
          exact Or.inr (Or.inr rfl)
      · have y' : (if si = 59 then (0 : Int) else 2) ≠ 2 := y
        by_cases u : si = 59
        · have kn : k2 = [] := Classical.byContradiction (fun z => q1 ⟨u, z⟩)
          show (((b, ([] : List Int), (0 : Int)) :: k2 : go_K)).length ≤ 1
          rw [kn]
          exact Nat.le_refl 1
        · rw [if_neg u] at y'
          exact absurd rfl y'
    rw [if_neg qe] at f ⊢
    by_cases a0 : a = 0
    · rw [if_pos a0] at f
      exact (go_no f (by decide)).elim
    rw [if_neg a0] at f ⊢
    by_cases r3 : nt + md = 8 ∨ 20 < nr + 2
    · rw [if_pos r3] at f
      exact (go_no f (by decide)).elim
    rw [if_neg r3] at f ⊢
    have lt : ((ps.take a.toNat).length : Int) ≤ 3 := by
      rw [List.length_take]
      omega
    have ld : ((ps.drop a.toNat).length : Int) = ps.length - a := by
      rw [List.length_drop]
      omega
    have pt : ∀ p, p ∈ ps.take a.toNat → go_pv T c (md + 1) p := fun p hp => go_pv_up (by omega) (e2 p (List.mem_of_mem_take hp))
    have made : go_pv T c (md + 1) (-2000 - md) := Or.inr (Or.inl (by omega))
    have ld1 : (((-2000 - md) :: ps.drop a.toNat).length : Int) = ps.length - a + 1 := by
      show (((ps.drop a.toNat).length + 1 : Nat) : Int) = _
      omega
    have row1 : go_rv T c nt (md + 1) (nr + 1) br (gm_upd ow nr (200 + md)) (go_upl rl nr (if si = 42 then [] else ps.take a.toNat)) := by
      refine go_rv_s (go_rv_up i6 (Int.le_refl _) (by omega) (Int.le_refl _)) ?_ (fun p hp => ?_) (Or.inr (Or.inl (by omega)))
      · by_cases u : si = 42
        · rw [if_pos u]
          decide
        · rw [if_neg u]
          omega
      · by_cases u : si = 42
        · rw [if_pos u] at hp
          exact absurd hp List.not_mem_nil
        · rw [if_neg u] at hp
          exact pt p hp
    have row2 : go_rv T c nt (md + 1) (nr + 1 + 1) br (gm_upd (gm_upd ow nr (200 + md)) (nr + 1) (200 + md)) (go_upl (go_upl rl nr (if si = 42 then [] else ps.take a.toNat)) (nr + 1) (if si = 63 then [] else ps.take a.toNat ++ [-2000 - md])) := by
      refine go_rv_s row1 ?_ (fun p hp => ?_) (Or.inr (Or.inl (by omega)))
      · by_cases u : si = 63
        · rw [if_pos u]
          decide
        · rw [if_neg u, List.length_append]
          show (ps.take a.toNat).length + 1 ≤ 4
          omega
      · by_cases u : si = 63
        · rw [if_pos u] at hp
          exact absurd hp List.not_mem_nil
        · rw [if_neg u] at hp
          rcases List.mem_append.mp hp with y | y
          · exact pt p y
          · rcases List.mem_cons.mp y with z | z
            · rw [z]
              exact made
            · exact absurd z List.not_mem_nil
    have e12 : nr + 1 + 1 = nr + 2 := by omega
    rw [e12] at row2
    refine ⟨Or.inr (Or.inr rfl), i2, by (try dsimp only); omega, by (try dsimp only); omega, by (try dsimp only); omega, row2, ?_, ⟨i8, ⟨⟨by omega, fun p hp => ?_, Int.le_refl _, by omega, by decide⟩, go_se_up (by (try dsimp only); omega) k2 e6⟩, ⟨d1, d2, d3, d4⟩, fun _ => List.cons_ne_nil _ _, fun y => absurd rfl y⟩, fun _ => i13 s0, i14, fun b' b0' b1' no => ?_⟩
    · have lc3 := go_len_cons (x := (b, (-2000 - md) :: ps.drop a.toNat, (0 : Int))) (k := k2)
      show 0 ≤ br ∧ br ≤ md + 1 + max 0 ((((b, (-2000 - md) :: ps.drop a.toNat, (0 : Int)) :: k2 : go_K).length : Int) - 1)
      omega
    · rcases List.mem_cons.mp hp with y | y
      · rw [y]
        exact made
      · exact go_pv_up (by (try dsimp only); omega) (e2 p (List.mem_of_mem_drop y))
    · have := i15 b' b0' b1' no
      show 0 ≤ mb b' ∧ mb b' < md + 1
      omega

