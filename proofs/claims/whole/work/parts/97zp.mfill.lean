/-! READING: the model's grammar -/
theorem go_pcs {T : Int → Int} {c p : Int} {S : go_S} (fin : go_fin T c S) {r d : Int} (r0 : 0 ≤ r) (r1 : r < S.1.2.2.2.1) (d0 : 0 ≤ d) (d1 : d < (S.2.1.2.2.1 r).length) (hp : p = go_nth (S.2.1.2.2.1 r) d) : (0 < p ∧ p < 67108864 ∧ go_pn T c S p = p) ∨ (-2000 - S.1.2.2.1 < p ∧ p ≤ -2000 ∧ go_pn T c S p = -1 - S.1.2.1 - (-2000 - p)) ∨ (-2000 < p ∧ p ≤ 0 ∧ (∃ d, gr_nm T c (-1000 - p) d) ∧ ∃ y, gr_td T c S.1.2.1 S.2.1.1 (-1000 - p) y ∧ go_pn T c S p = -1 - y) := by
  obtain ⟨c240, ⟨pos, iv⟩, s0, n0, iw, al⟩ := fin
  have pm := go_nth_mem _ d d0 d1
  rw [← hp] at pm
  obtain ⟨v1, v2, v3⟩ := iv.2.2.2.2.2.1 r r0 r1
  have pv := v2 _ pm
  have sp := iw.1 r r0 r1 p pm
  rcases pv with pv | pv | ⟨q, dd, nq, pv⟩
  · refine Or.inl ⟨pv.1, pv.2, ?_⟩
    unfold go_pn
    rw [if_pos pv.1]
  · refine Or.inr (Or.inl ⟨pv.1, pv.2, ?_⟩)
    unfold go_pn
    rw [if_neg (by omega), if_pos pv.2]
  · have q0 := nq.1
    have q1 := nq.2.1
    obtain ⟨x', x0, x1, x2⟩ := sp (by omega) (by omega)
    obtain ⟨y, hy⟩ := al x' x0 x1
    have e : -1000 - p = S.2.1.2.2.2.2 x' := by omega
    rw [← e] at hy
    have e2 : -1000 - p = q := by omega
    refine Or.inr (Or.inr ⟨by omega, by omega, ⟨dd, by rw [e2]; exact nq⟩, y, hy, ?_⟩)
    unfold go_pn
    rw [if_neg (by omega), if_neg (by omega), go_ti_e iv.2.1 hy]
theorem go_partOf {T : Int → Int} {c p : Int} {S : go_S} {m : gh_M} {Q : Int → Prop} (mt : gr_mt T c m) (fin : go_fin T c S) (e8 : m 63 8 = S.1.2.1) (ks : ∀ x, 0 ≤ x → x < S.1.2.1 → m 65 x = S.2.1.1 x) {r d : Int} (r0 : 0 ≤ r) (r1 : r < S.1.2.2.2.1) (d0 : 0 ≤ d) (d1 : d < (S.2.1.2.2.1 r).length) (hp : p = go_nth (S.2.1.2.2.1 r) d) (H : Q (go_pn T c S p)) : w_Model_partOf p m Q := by
  have cs := go_pcs fin r0 r1 d0 d1 hp
  have fin0 := fin
  obtain ⟨c240, ⟨pos, iv⟩, s0, n0, iw, al⟩ := fin0
  have i2a := iv.2.1.1
  have i3 := iv.2.2.1
  unfold w_Model_partOf
  rw [e8]
  rcases cs with w | w | w
  · refine ⟨fun z => by omega, fun _ => ?_⟩
    rw [w.2.2] at H
    exact H
  · refine ⟨fun _ => ⟨fun _ => ⟨by omega, by omega, by omega, ?_⟩, fun z => by omega⟩, fun z => by omega⟩
    rw [w.2.2] at H
    exact H
  · obtain ⟨w1, w2, ⟨dd, w3⟩, y, w4, w5⟩ := w
    refine ⟨fun _ => ⟨fun z => by omega, fun _ => ⟨by omega, gr_toldOf (nt := S.1.2.1) (ta := S.2.1.1) mt iv.2.1 e8 ks w3 (fun x hx => ?_) (fun no => absurd ⟨y, w4⟩ no)⟩⟩, fun z => by omega⟩
    have h1 := go_ti_e iv.2.1 hx
    have h2 := go_ti_e iv.2.1 w4
    have e : x = y := by omega
    have a1 := hx.1
    have a2 := hx.2.1
    rw [w5, ← e] at H
    exact ⟨by omega, H⟩
theorem go_numberOf {T : Int → Int} {c r : Int} {S : go_S} {m : gh_M} (fin : go_fin T c S) (e8 : m 63 8 = S.1.2.1) (rm8 : ∀ b, 0 ≤ b → b < S.1.2.2.2.2.1 → (∀ l, ¬ go_lv S.2.2 b l) → m 70 b = S.2.1.2.2.2.1 b) (r0 : 0 ≤ r) (r1 : r < S.1.2.2.2.1) : k_Model_numberOf (S.2.1.2.1 r) m ∧ x_Model_numberOf (S.2.1.2.1 r) m = go_nu S r := by
  obtain ⟨c240, ⟨pos, iv⟩, s0, nt0, iw, al⟩ := fin
  obtain ⟨⟨st, nt, md, nr, br, ns⟩, ⟨ta, ow, rl, mb, sa⟩, sk⟩ := S
  obtain ⟨i1, i2, i3, i4, i5, i6, i7, ⟨i8, i9, i10, i11, i12⟩, i13, i14, i15⟩ := iv
  (try dsimp only at i1 i2 i3 i4 i5 i6 i7 i8 i9 i10 i11 i12 i13 i14 i15 s0 r1 e8 nt0 rm8)
  have i2a : 0 ≤ nt ∧ nt ≤ 8 := i2.1
  have no : ∀ b l, 0 ≤ b → ¬ go_lv sk b l := fun b l b0 => by
    cases sk with
    | nil => exact id
    | cons x k => exact go_lv_0 (by have := i12 (by omega); omega) i10 b0
  have o := (i6 r r0 r1).2.2
  unfold k_Model_numberOf x_Model_numberOf go_nu
  (try dsimp only)
  rw [e8]
  by_cases u : ow r < 100
  · rw [if_pos (by omega), if_pos u, if_pos u]
    exact ⟨⟨fun _ z => absurd u z, fun z => by omega⟩, rfl⟩
  · rw [if_neg u, if_neg u]
    by_cases v : ow r < 200
    · rw [if_pos v, if_pos v]
      have n := fun l => no (ow r - 100) l (by omega)
      have e70 := rm8 (ow r - 100) (by omega) (by omega) n
      have := i15 (ow r - 100) (by omega) (by omega) n
      rw [e70]
      have i8' : ((sk.length : Nat) : Int) ≤ 4 := by omega
      exact ⟨⟨fun _ _ => by omega, fun z => by omega⟩, rfl⟩
    · rw [if_neg v, if_neg v]
      exact ⟨⟨fun z => by omega, fun _ => by omega⟩, rfl⟩
theorem go_mt_75 {T : Int → Int} {c : Int} {m m2 : gh_M} (mt : gr_mt T c m) (x : gx [75, 76] m m2) : gr_mt T c m2 := gr_mt_x (by rw [x 63 (by decide)]) (x 64 (by decide)) mt
theorem go_takeNames {T : Int → Int} {c : Int} {S : go_S} {m : gh_M} {Q : Int → gh_M → Prop} (mt : gr_mt T c m) (fin : go_fin T c S) (ks : ∀ x, 0 ≤ x → x < S.1.2.1 → m 65 x = S.2.1.1 x) (e25 : m 63 25 = S.1.2.1) (e26 : m 63 26 = S.1.2.1 + S.1.2.2.1) (H : ∀ m2, gx [75, 76] m m2 → (∀ x, 0 ≤ x → x < S.1.2.1 + S.1.2.2.1 → (x < S.1.2.1 → ∃ d, gr_nm T c (S.2.1.1 x) d ∧ m2 75 x = d + 1 ∧ ∀ k, 0 ≤ k → k ≤ d → m2 76 (3 * x + k) = T (S.2.1.1 x + k)) ∧ (S.1.2.1 ≤ x → m2 75 x = 0)) → Q 0 m2) : w_Model_takeNames m Q := by
  obtain ⟨c240, ⟨pos, iv⟩, s0, nt0, iw, al⟩ := fin
  have i2a := iv.2.1.1
  have i3 := iv.2.2.1
  unfold w_Model_takeNames
  refine ⟨fun n m' => 0 ≤ n ∧ n ≤ S.1.2.1 + S.1.2.2.1 ∧ gx [75, 76] m m' ∧ ∀ x, 0 ≤ x → x < n → (x < S.1.2.1 → ∃ d, gr_nm T c (S.2.1.1 x) d ∧ m' 75 x = d + 1 ∧ ∀ k, 0 ≤ k → k ≤ d → m' 76 (3 * x + k) = T (S.2.1.1 x + k)) ∧ (S.1.2.1 ≤ x → m' 75 x = 0), fun n _ => (20 - n).toNat, ⟨Int.le_refl _, by omega, gx_rf, fun x a b => by omega⟩, ?_⟩
  rintro n m' ⟨n0, n1, x', w'⟩
  unfold f_Model_takeNames_2
  rw [x' 63 (by decide), x' 65 (by decide), e25, e26]
  refine ⟨fun lt => ⟨fun y2 y1 z2 => y1 = n ∧ ((n < S.1.2.1 ∧ ∃ d, gr_nm T c (S.2.1.1 n) d ∧ y2 = d + 1) ∨ (S.1.2.1 ≤ n ∧ y2 = 0)), ?_, fun l2 => ⟨by omega, by omega, ?_⟩, fun l2 => ⟨rfl, Or.inr ⟨by omega, rfl⟩⟩⟩, fun ge => ?_⟩
  · rintro y2 y1 z2 ⟨hy, hd⟩
    rw [hy]
    refine ⟨by omega, by omega, ?_⟩
    have hd3 : 0 ≤ y2 ∧ y2 ≤ 3 := by
      rcases hd with ⟨_, d, nm, e⟩ | ⟨_, e⟩
      · have := nm.2.2.2.2.1
        have := (gr_nm_b nm).1
        omega
      · omega
    refine ⟨fun k m3 => 0 ≤ k ∧ k ≤ y2 ∧ gx [75, 76] m' m3 ∧ (∀ x, x ≠ n → m3 75 x = m' 75 x) ∧ m3 75 n = y2 ∧ (∀ x, x < 3 * n → m3 76 x = m' 76 x) ∧ (n < S.1.2.1 → ∀ j, 0 ≤ j → j < k → m3 76 (3 * n + j) = T (S.2.1.1 n + j)), fun k _ => (10 - k).toNat, ⟨Int.le_refl _, hd3.1, gx_u gx_rf (by decide), fun x xn => gh_u_i xn, gh_u_s _ _ _ _, fun x _ => gh_u_a (by decide), fun _ j a b => by omega⟩, ?_⟩
    rintro k m3 ⟨k0, k1, x3, o75, s75, o76, w76⟩
    have x03 : gx [75, 76] m m3 := gx_t x' x3
    unfold f_Model_takeNames_40
    rw [s75, x03 64 (by decide), x03 65 (by decide)]
    refine ⟨by omega, by omega, fun kl => ?_, fun kl => ⟨by omega, ⟨by omega, by omega, x03, fun x x0 x1 => ?_⟩, by (try dsimp only); omega⟩⟩
    · rcases hd with ⟨l2, d, nm, e⟩ | ⟨l2, e⟩
      · have b := gr_nm_b nm
        have q0 := nm.1
        rw [ks n n0 l2]
        refine ⟨by omega, by omega, by omega, by omega, by omega, by omega, by omega, by omega, by omega, by omega, ⟨by omega, by omega, gx_u x3 (by decide), fun x xn => by rw [gh_u_a (by decide)]; exact o75 x xn, by rw [gh_u_a (by decide)]; exact s75, fun x xl => by rw [gh_u_i (by omega)]; exact o76 x xl, fun _ j j0 j1 => ?_⟩, by (try dsimp only); omega⟩
        by_cases u : j = k
        · rw [u, gh_u_s]
          exact (mt.2.2.2 _ (by omega) (by omega)).1
        · rw [gh_u_i (by omega)]
          exact w76 l2 j j0 (by omega)
      · omega
    · by_cases u : x = n
      · rw [u]
        have ek : k = y2 := by omega
        rw [ek] at w76
        rcases hd with ⟨l2, d, nm, e⟩ | ⟨l2, e⟩
        · refine ⟨fun _ => ⟨d, nm, by rw [s75]; exact e, fun j j0 j1 => w76 l2 j j0 (by omega)⟩, fun z => by omega⟩
        · exact ⟨fun z => by omega, fun _ => by rw [s75]; exact e⟩
      · obtain ⟨w1, w2⟩ := w' x x0 (by omega)
        refine ⟨fun z => ?_, fun z => by rw [o75 x u]; exact w2 z⟩
        obtain ⟨d, a1, a2, a3⟩ := w1 z
        have d2 := a1.2.2.2.2.1
        exact ⟨d, a1, by rw [o75 x u]; exact a2, fun j j0 j1 => by rw [o76 _ (by omega)]; exact a3 j j0 j1⟩
  · rw [ks n n0 l2]
    obtain ⟨d, nm⟩ := iv.2.1.2.1 n n0 l2
    exact gr_nameLength (go_mt_75 mt x') nm.1 nm.2.1 nm.2.2.2.2.2 ⟨rfl, Or.inl ⟨l2, d, nm, rfl⟩⟩
  · have e : n = S.1.2.1 + S.1.2.2.1 := by omega
    rw [e] at w'
    exact H m' x' w'
/-- the rules that stand in the model's grammar -/
def go_mr (T : Int → Int) (c : Int) (S : go_S) (m : gh_M) (L : List Int) : Prop := go_all (fun k q => (S.2.1.2.2.1 q).length ≤ 4 ∧ m 79 k = go_nu S q ∧ m 80 k = (S.2.1.2.2.1 q).length ∧ ∀ d : Int, 0 ≤ d → d < (S.2.1.2.2.1 q).length → m 81 (4 * k + d) = go_pn T c S (go_nth (S.2.1.2.2.1 q) d)) L
def go_ms (T : Int → Int) (c : Int) (S : go_S) (m m' : gh_M) (n : Nat) (L : List Int) : Prop := gx [63, 77, 78, 79, 80, 81] m m' ∧ (∀ y, y ≠ 27 → m' 63 y = m 63 y) ∧ m' 63 27 = L.length ∧ go_mr T c S m' L ∧ ∀ q : Nat, q < n → m' 77 q = (go_ka (go_nu S) S.1.2.2.2.1.toNat q).length ∧ m' 77 q + m' 78 q = (go_ka (go_nu S) S.1.2.2.2.1.toNat (q + 1)).length
theorem go_takeRules {T : Int → Int} {c : Int} {S : go_S} {m : gh_M} {Q : Int → gh_M → Prop} (mt : gr_mt T c m) (fin : go_fin T c S) (rm : go_rm S m) (e26 : m 63 26 = S.1.2.1 + S.1.2.2.1) (H : ∀ m2, gx [63, 77, 78, 79, 80, 81] m m2 → (∀ y, y ≠ 27 → m2 63 y = m 63 y) → gm_D m2 (go_G T c S) → gm_rg (go_G T c S) (m2 77) (m2 78) → go_rr S (m2 77) (m2 78) → Q 0 m2) : w_Model_takeRules m Q := by
  have fin0 := fin
  obtain ⟨c240, ⟨pos, iv⟩, s0, nt0, iw, al⟩ := fin0
  have i3 := iv.2.2.1
  have i4 := iv.2.2.2.1
  have i2a := iv.2.1.1
  obtain ⟨⟨r1, r2, r3, r4, r5⟩, r6, r7, r8, r9, r10⟩ := rm
  have nb0 : ∀ q : Int, 0 ≤ q → q < (S.1.2.2.2.1.toNat : Int) → 0 ≤ go_nu S q := fun q a b => (go_nu_b iv s0 a (by omega)).1
  obtain ⟨nu, hnu⟩ : ∃ nu, nu = go_nu S := ⟨_, rfl⟩
  obtain ⟨NR, hNR⟩ : ∃ NR, NR = S.1.2.2.2.1.toNat := ⟨_, rfl⟩
  rw [← hnu, ← hNR] at nb0
  unfold w_Model_takeRules
  refine ⟨fun v3 m' => 0 ≤ v3 ∧ v3 ≤ S.1.2.1 + S.1.2.2.1 ∧ go_ms T c S m m' v3.toNat (go_ka nu NR v3.toNat), fun v3 _ => (20 - v3).toNat, ⟨Int.le_refl _, by omega, gx_u gx_rf (by decide), fun y yn => gh_u_i yn, gh_u_s _ _ _ _, trivial, fun q h => absurd h (Nat.not_lt_zero q)⟩, ?_⟩
  rintro v3 m' ⟨v30, v31, x', g0, g2, g3, g4⟩
  unfold f_Model_takeRules_7
  have en : ((v3.toNat : Nat) : Int) = v3 := by omega
  rw [g0 26 (by decide), e26, g2]
  refine ⟨fun lt => ⟨v30, by omega, ?_⟩, fun ge => ?_⟩
  · obtain ⟨m2, hm2⟩ : ∃ m2, m2 = gh_u m' 77 v3 ((go_ka nu NR v3.toNat).length : Int) := ⟨_, rfl⟩
    rw [← hm2]
    have x2 : gx [77] m' m2 := by
      rw [hm2]
      exact gx_one _ _ _ _
    have o77 : ∀ x, x ≠ v3 → m2 77 x = m' 77 x := fun x xn => by
      rw [hm2, gh_u_i xn]
    have s77 : m2 77 v3 = (go_ka nu NR v3.toNat).length := by
      rw [hm2, gh_u_s]
    clear hm2
    have ms2 : go_ms T c S m m2 v3.toNat (go_ka nu NR v3.toNat) := by
      refine ⟨gx_t x' (gx_sub x2 (by decide)), by rw [x2 63 (by decide)]; exact g0, by rw [x2 63 (by decide)]; exact g2, ?_, fun q hq => ?_⟩
      · unfold go_mr
        rw [x2 79 (by decide), x2 80 (by decide), x2 81 (by decide)]
        exact g3
      · rw [o77 q (by omega), x2 78 (by decide)]
        exact g4 q hq
    refine ⟨fun v5 m3 => 0 ≤ v5 ∧ v5 ≤ S.1.2.2.2.1 ∧ go_ms T c S m m3 v3.toNat (go_kr nu v3 v5.toNat (go_ka nu NR v3.toNat)) ∧ m3 77 v3 = (go_ka nu NR v3.toNat).length, fun v5 _ => (30 - v5).toNat, ⟨Int.le_refl _, i4.1, ms2, s77⟩, ?_⟩
    clear ms2 s77 o77 x2 g0 g2 g3 g4 x'
    rintro v5 m3 ⟨v50, v51, ms, e77⟩
    have ms0 := ms
    obtain ⟨x3, g0, g2, g3, g4⟩ := ms
    unfold f_Model_takeRules_27
    have e5 : ((v5.toNat : Nat) : Int) = v5 := by omega
    rw [g0 11 (by decide), r3, x3 66 (by decide), x3 67 (by decide), g2]
    have lk := go_kr_room nb0 v3.toNat (r := v5.toNat) (by omega)
    rw [en] at lk
    refine ⟨fun z => ?_, fun z => ?_⟩
    · obtain ⟨w1, w2, w3⟩ := r7 v5 v50 z
      have nn := go_numberOf (m := m3) fin (by rw [g0 8 (by decide)]; exact r1) (by rw [x3 70 (by decide)]; exact r8) v50 z
      rw [w1, nn.2, ← hnu, w2]
      have es : (v5 + 1).toNat = v5.toNat + 1 := by omega
      refine ⟨v50, by omega, nn.1, fun m4 => go_ms T c S m m4 v3.toNat (go_kr nu v3 (v5.toNat + 1) (go_ka nu NR v3.toNat)) ∧ m4 77 v3 = (go_ka nu NR v3.toNat).length, fun m4 j => ⟨by omega, ⟨by omega, by omega, by rw [es]; exact j⟩, by (try dsimp only); omega⟩, fun ey => ?_, fun y => ?_⟩
      · obtain ⟨L, hL⟩ : ∃ L, L = go_kr nu v3 v5.toNat (go_ka nu NR v3.toNat) := ⟨_, rfl⟩
        have eL : go_kr nu v3 (v5.toNat + 1) (go_ka nu NR v3.toNat) = (v5 : Int) :: L := by
          show (if nu ((v5.toNat : Nat) : Int) = v3 then ((v5.toNat : Nat) : Int) :: go_kr nu v3 v5.toNat (go_ka nu NR v3.toNat) else go_kr nu v3 v5.toNat (go_ka nu NR v3.toNat)) = _
          rw [e5, if_pos ey, ← hL]
        have room := go_kr_room2 nb0 v3.toNat (r := v5.toNat) (by omega) (by rw [e5, en]; exact ey)
        rw [en, ← hL] at room
        rw [← hL] at ms0 g2 g3 lk ⊢
        rw [eL]
        have l4 := (iv.2.2.2.2.2.1 v5 v50 z).1
        have lc := go_lc (x := v5) (L := L)
        obtain ⟨RL, hRL⟩ : ∃ RL, RL = S.2.1.2.2.1 v5 := ⟨_, rfl⟩
        rw [← hRL] at w3 l4 ⊢
        refine ⟨by omega, by omega, v50, by omega, by omega, by omega, ?_⟩
        refine ⟨fun d m4 => 0 ≤ d ∧ d ≤ RL.length ∧ gx [79, 80, 81] m3 m4 ∧ (∀ x, x ≠ (L.length : Int) → m4 79 x = m3 79 x ∧ m4 80 x = m3 80 x) ∧ m4 79 L.length = v3 ∧ m4 80 L.length = RL.length ∧ (∀ x, x < 4 * (L.length : Int) → m4 81 x = m3 81 x) ∧ ∀ j : Int, 0 ≤ j → j < d → m4 81 (4 * L.length + j) = go_pn T c S (go_nth RL j), fun d _ => (10 - d).toNat, ⟨Int.le_refl _, by omega, gx_u (gx_u gx_rf (by decide)) (by decide), fun x xn => ⟨by rw [gh_u_a (by decide), gh_u_i xn], by rw [gh_u_i xn, gh_u_a (by decide)]⟩, by rw [gh_u_a (by decide), gh_u_s], gh_u_s _ _ _ _, fun x _ => by rw [gh_u_a (by decide), gh_u_a (by decide)], fun j a b => by omega⟩, ?_⟩
        rintro d m4 ⟨d0, d1, x4, o79, s79, s80, o81, w81⟩
        unfold f_Model_takeRules_76
        rw [x4 63 (by decide), x4 67 (by decide), x4 68 (by decide), x3 67 (by decide), x3 68 (by decide), w2, g2, ← hRL]
        refine ⟨v50, by omega, fun dl => ⟨by omega, by omega, by omega, by omega, by omega, by omega, ?_⟩, fun dl => ⟨by omega, ?_⟩⟩
        · have pe := go_rd_n RL d w3 d0 dl
          unfold go_eq at pe
          have e4 : v5 * 4 + d = 4 * v5 + d := by omega
          rw [e4] at pe
          rw [pe]
          refine go_partOf (r := v5) (d := d) (gr_mt_x (by rw [x4 63 (by decide), g0 1 (by decide)]) (by rw [x4 64 (by decide), x3 64 (by decide)]) mt) fin (by rw [x4 63 (by decide), g0 8 (by decide)]; exact r1) (by rw [x4 65 (by decide), x3 65 (by decide)]; exact r6) v50 z d0 (by rw [← hRL]; exact dl) (by rw [hRL]) ⟨by omega, by omega, by omega, ⟨by omega, by omega, gx_u x4 (by decide), fun x xn => by rw [gh_u_a (by decide), gh_u_a (by decide)]; exact o79 x xn, by rw [gh_u_a (by decide)]; exact s79, by rw [gh_u_a (by decide)]; exact s80, fun x xl => by rw [gh_u_i (by omega)]; exact o81 x xl, fun j j0 j1 => ?_⟩, by (try dsimp only); omega⟩
          by_cases u : j = d
          · rw [u, gh_u_s]
          · rw [gh_u_i (by omega)]
            exact w81 j j0 (by omega)
        · have ed : d = RL.length := by omega
          rw [ed] at w81
          obtain ⟨m5, hm5⟩ : ∃ m5, m5 = gh_u m4 63 27 ((L.length : Int) + 1) := ⟨_, rfl⟩
          rw [← hm5]
          have x5 : gx [63] m4 m5 := by
            rw [hm5]
            exact gx_one _ _ _ _
          have o63 : ∀ y, y ≠ 27 → m5 63 y = m 63 y := fun y yn => by
            rw [hm5, gh_u_i yn, x4 63 (by decide)]
            exact g0 y yn
          have s63 : m5 63 27 = L.length + 1 := by
            rw [hm5, gh_u_s]
          clear hm5
          have x35 : gx [63, 79, 80, 81] m3 m5 := gx_t (gx_sub x4 (by decide)) (gx_sub x5 (by decide))
          refine ⟨⟨gx_t x3 (gx_sub x35 (by decide)), o63, by rw [s63, lc], ⟨⟨by rw [← hRL]; exact l4, by rw [x5 79 (by decide), s79, ← hnu]; exact ey.symm, by rw [x5 80 (by decide), ← hRL]; exact s80, by rw [x5 81 (by decide), ← hRL]; exact w81⟩, go_all_mv L (fun k q k0 k1 w => ⟨w.1, by rw [x5 79 (by decide), (o79 k (by omega)).1]; exact w.2.1, by rw [x5 80 (by decide), (o79 k (by omega)).2]; exact w.2.2.1, fun d d0 d1 => by rw [x5 81 (by decide), o81 _ (by have := w.1; omega)]; exact w.2.2.2 d d0 d1⟩) g3⟩, fun q hq => by rw [x35 77 (by decide), x35 78 (by decide)]; exact g4 q hq⟩, by rw [x35 77 (by decide)]; exact e77⟩
      · have eL : go_kr nu v3 (v5.toNat + 1) (go_ka nu NR v3.toNat) = go_kr nu v3 v5.toNat (go_ka nu NR v3.toNat) := by
          show (if nu ((v5.toNat : Nat) : Int) = v3 then ((v5.toNat : Nat) : Int) :: go_kr nu v3 v5.toNat (go_ka nu NR v3.toNat) else go_kr nu v3 v5.toNat (go_ka nu NR v3.toNat)) = _
          rw [e5, if_neg y]
        rw [eL]
        exact ⟨ms0, e77⟩
    · have ev : v5.toNat = NR := by omega
      have es : (v3 + 1).toNat = v3.toNat + 1 := by omega
      have eK : go_ka nu NR (v3.toNat + 1) = go_kr nu v3 v5.toNat (go_ka nu NR v3.toNat) := by
        show go_kr nu ((v3.toNat : Nat) : Int) NR (go_ka nu NR v3.toNat) = _
        rw [en, ev]
      have mono : (go_ka nu NR v3.toNat).length ≤ (go_ka nu NR (v3.toNat + 1)).length := go_ka_mono 1
      rw [eK] at mono
      rw [e77]
      refine ⟨v30, by omega, by omega, v30, by omega, by omega, ⟨by omega, by omega, ?_⟩, by (try dsimp only); omega⟩
      rw [es, eK]
      refine ⟨gx_u x3 (by decide), fun y yn => by rw [gh_u_a (by decide)]; exact g0 y yn, by rw [gh_u_a (by decide)]; exact g2, ?_, fun q hq => ?_⟩
      · have e79 : ∀ a : Int, a ≠ 78 → gh_u m3 78 v3 (((go_kr nu v3 v5.toNat (go_ka nu NR v3.toNat)).length : Int) - (go_ka nu NR v3.toNat).length) a = m3 a := fun a an => funext fun x => gh_u_a an
        unfold go_mr
        rw [e79 79 (by decide), e79 80 (by decide), e79 81 (by decide)]
        exact g3
      · rw [gh_u_a (by decide)]
        by_cases u : q = v3.toNat
        · rw [u, en, gh_u_s, e77, ← hnu, ← hNR, eK]
          exact ⟨rfl, by omega⟩
        · rw [gh_u_i (by omega)]
          exact g4 q (by omega)
  · have ev : v3 = S.1.2.1 + S.1.2.2.1 := by omega
    rw [ev] at g2 g3 g4
    have eK : go_kk S = go_ka nu NR (S.1.2.1 + S.1.2.2.1).toNat := by
      rw [hnu, hNR]
      rfl
    rw [← eK] at g2 g3
    refine H m' x' g0 ⟨by rw [g0 26 (by decide)]; exact e26, g2, fun k k0 k1 => ?_⟩ (go_G_rg fin (fun n hn => g4 n (by omega))) (fun n hn => g4 n (by omega))
    have w := go_all_n _ k g3 k0 k1
    exact ⟨w.2.1, w.2.2.1, w.2.2.2⟩
