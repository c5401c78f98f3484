/-- the member of a set with so many members below it -/
def gz_nth (b : Int → Prop) (hi x l : Int) : Prop := 0 ≤ l ∧ l < hi ∧ b l ∧ x = gsum (fun i => gt_ib (b i)) l.toNat
theorem gz_nth_u {b : Int → Prop} {hi x l l2 : Int} (h : gz_nth b hi x l) (h2 : gz_nth b hi x l2) : l = l2 := by
  obtain ⟨a1, a2, a3, a4⟩ := h
  obtain ⟨b1, b2, b3, b4⟩ := h2
  have e1 : ((l.toNat : Nat) : Int) = l := by omega
  have e2 : ((l2.toNat : Nat) : Int) = l2 := by omega
  have u := gsum_uniq (F := fun i => gt_ib (b i)) (a := l.toNat) (b := l2.toNat) (x := 0) (y := 0) (fun i _ _ => by
    have := gt_ib_01 (P := b i)
    (try dsimp only)
    omega) (Int.le_refl _) (by
    (try dsimp only)
    rw [e1, gt_ib_t a3]
    decide) (Int.le_refl _) (by
    (try dsimp only)
    rw [e2, gt_ib_t b3]
    decide) (by rw [← a4, ← b4])
  omega
theorem gz_nth_x {b : Int → Prop} {x : Int} : ∀ n : Nat, 0 ≤ x → x < gsum (fun i => gt_ib (b i)) n → ∃ l, gz_nth b n x l
  | 0, h, h2 => by
    have e : gsum (fun i => gt_ib (b i)) 0 = 0 := rfl
    omega
  | n + 1, h, h2 => by
    have e : gsum (fun i => gt_ib (b i)) (n + 1) = gsum (fun i => gt_ib (b i)) n + gt_ib (b n) := rfl
    by_cases c : x < gsum (fun i => gt_ib (b i)) n
    · obtain ⟨l, a1, a2, a3⟩ := gz_nth_x n h c
      exact ⟨l, a1, by omega, a3⟩
    · have f01 := gt_ib_01 (P := b n)
      have bn : b n := Classical.byContradiction (fun y => by
        have := gt_ib_f y
        omega)
      rw [gt_ib_t bn] at e
      exact ⟨n, by omega, by omega, bn, by
        rw [Int.toNat_natCast]
        omega⟩
noncomputable def gz_cr (G : gm_G) (U : Int → Prop) (n : Int) : Int := gsum (fun r => gt_ib (U r ∧ gm_o G r = n)) (gm_R G).toNat
noncomputable def gz_cl (p : Int) : Int := gsum (fun l => gt_ib (gb p l)) 26
/-- the parts of a rule from the last c on -/
def gz_pt (G : gm_G) (r : Int) : Nat → List Int
  | 0 => []
  | c + 1 => gm_p G r (gm_s G r - ((c : Int) + 1)) :: gz_pt G r c
theorem gz_pt_len {G : gm_G} {r : Int} : ∀ c : Nat, (gz_pt G r c).length = c
  | 0 => rfl
  | c + 1 => by
    show (gz_pt G r c).length + 1 = c + 1
    rw [gz_pt_len c]
theorem gz_pt_mem {G : gm_G} {r p : Int} : ∀ c : Nat, (c : Int) ≤ gm_s G r → p ∈ gz_pt G r c → ∃ d, 0 ≤ d ∧ d < gm_s G r ∧ p = gm_p G r d
  | 0, _, h => absurd h List.not_mem_nil
  | c + 1, hc, h => by
    rcases List.mem_cons.mp h with h | h
    · exact ⟨_, by omega, by omega, h⟩
    · exact gz_pt_mem c (by omega) h
def gz_step (G : gm_G) (U : Int → Prop) : List Int → Int → Int → Int → Int → (Int → Int) → List Int → Prop
  | [], _, _, _, _, _, _ => False
  | p :: K, s, s2, tc, tc2, tr, L2 => s2 = (25173 * s + 13849) % 65536 ∧ ((p < 0 ∧ tc2 = tc ∧ ∃ r, gz_nth (fun r => U r ∧ gm_o G r = -1 - p) (gm_R G) (s2 / 16 % gz_cr G U (-1 - p)) r ∧ L2 = gz_pt G r (gm_s G r).toNat ++ K) ∨ (0 < p ∧ tc < 8 ∧ tc2 = tc + 1 ∧ gz_nth (gb p) 26 (s2 / 16 % gz_cl p) (tr tc) ∧ L2 = K))
def gz_run (G : gm_G) (U : Int → Prop) (seed : Int) : Nat → Int → Int → (Int → Int) → List Int → Prop
  | 0, s, tc, _, L => s = seed ∧ tc = 0 ∧ L = [-1]
  | u + 1, s, tc, tr, L => ∃ s0 tc0 L0, gz_run G U seed u s0 tc0 tr L0 ∧ gz_step G U L0 s0 s tc0 tc tr L
theorem gz_run_tc {G : gm_G} {U : Int → Prop} {seed : Int} : ∀ (u : Nat) (s tc : Int) (tr : Int → Int) (L : List Int), gz_run G U seed u s tc tr L → 0 ≤ tc
  | 0, _, tc, _, _, h => by rw [h.2.1]; exact Int.le_refl _
  | u + 1, s, tc, tr, L, ⟨s0, tc0, L0, h1, h2⟩ => by
    have ih := gz_run_tc u s0 tc0 tr L0 h1
    cases L0 with
    | nil => exact False.elim h2
    | cons p K =>
      rcases h2.2 with ⟨_, a, _⟩ | ⟨_, _, a, _⟩ <;> omega
theorem gz_run_cg {G : gm_G} {U : Int → Prop} {seed : Int} {tr tr2 : Int → Int} : ∀ (u : Nat) (s tc : Int) (L : List Int), (∀ x, 0 ≤ x → x < tc → tr2 x = tr x) → gz_run G U seed u s tc tr L → gz_run G U seed u s tc tr2 L
  | 0, _, _, _, _, h => h
  | u + 1, s, tc, L, hx, ⟨s0, tc0, L0, h1, h2⟩ => by
    have t0 := gz_run_tc u s0 tc0 tr L0 h1
    cases L0 with
    | nil => exact False.elim h2
    | cons p K =>
      obtain ⟨a1, a2⟩ := h2
      rcases a2 with ⟨b1, b2, b3⟩ | ⟨b1, b2, b3, b4, b5⟩
      · exact ⟨s0, tc0, p :: K, gz_run_cg u s0 tc0 (p :: K) (fun x x0 x1 => hx x x0 (by omega)) h1, a1, Or.inl ⟨b1, b2, b3⟩⟩
      · refine ⟨s0, tc0, p :: K, gz_run_cg u s0 tc0 (p :: K) (fun x x0 x1 => hx x x0 (by omega)) h1, a1, Or.inr ⟨b1, b2, b3, ?_, b5⟩⟩
        rw [hx tc0 t0 (by omega)]
        exact b4
theorem gz_run_u {G : gm_G} {U : Int → Prop} {seed : Int} : ∀ (u : Nat) (s tc s' tc' : Int) (tr tr' : Int → Int) (L L' : List Int), gz_run G U seed u s tc tr L → gz_run G U seed u s' tc' tr' L' → s = s' ∧ tc = tc' ∧ L = L' ∧ ∀ x, 0 ≤ x → x < tc → tr x = tr' x
  | 0, _, _, _, _, _, _, _, _, h, h2 => ⟨h.1.trans h2.1.symm, h.2.1.trans h2.2.1.symm, h.2.2.trans h2.2.2.symm, fun x a b => by
      have := h.2.1
      omega⟩
  | u + 1, s, tc, s', tc', tr, tr', L, L', ⟨s0, tc0, L0, h1, h2⟩, ⟨s0', tc0', L0', k1, k2⟩ => by
    obtain ⟨e1, e2, e3, e4⟩ := gz_run_u u s0 tc0 s0' tc0' tr tr' L0 L0' h1 k1
    rw [← e1, ← e2, ← e3] at k2
    cases L0 with
    | nil => exact False.elim h2
    | cons p K =>
      obtain ⟨a1, a2⟩ := h2
      obtain ⟨b1, b2⟩ := k2
      have es := a1.trans b1.symm
      rw [← es] at b2
      rcases a2 with ⟨c1, c2, r, c3, c4⟩ | ⟨c1, c2, c3, c4, c5⟩
      · rcases b2 with ⟨d1, d2, r2, d3, d4⟩ | ⟨d1, _⟩
        · have er := gz_nth_u c3 d3
          rw [← er] at d4
          exact ⟨es, c2.trans d2.symm, c4.trans d4.symm, fun x x0 x1 => e4 x x0 (by omega)⟩
        · omega
      · rcases b2 with ⟨d1, _⟩ | ⟨d1, d2, d3, d4, d5⟩
        · omega
        · refine ⟨es, c3.trans d3.symm, c5.trans d5.symm, fun x x0 x1 => ?_⟩
          by_cases q : x = tc0
          · rw [q]
            exact gz_nth_u c4 d4
          · exact e4 x x0 (by omega)
/-- it ends with a text, or it does not -/
def gz_good (G : gm_G) (U : Int → Prop) (seed : Int) (tc : Int) (tr : Int → Int) : Prop := ∃ u s, gz_run G U seed u s tc tr [] ∧ u ≤ 60 ∧ tc ≤ 8
def gz_bad (G : gm_G) (U : Int → Prop) (seed : Int) : Prop := ∃ u s tc tr p K, gz_run G U seed u s tc tr (p :: K) ∧ (u = 60 ∨ (u < 60 ∧ tc = 8 ∧ 0 < p))
theorem gz_run_pre {G : gm_G} {U : Int → Prop} {seed : Int} {u : Nat} : ∀ (v : Nat) {s tc : Int} {tr : Int → Int} {L : List Int}, gz_run G U seed (u + v) s tc tr L → ∃ s0 tc0 L0, gz_run G U seed u s0 tc0 tr L0 ∧ (0 < v → ∃ s2 tc2 L2, gz_step G U L0 s0 s2 tc0 tc2 tr L2)
  | 0, s, tc, _, L, h => ⟨s, tc, L, h, fun y => absurd y (by decide)⟩
  | 1, s, tc, _, L, ⟨s0, tc0, L0, h1, h2⟩ => ⟨s0, tc0, L0, h1, fun _ => ⟨s, tc, L, h2⟩⟩
  | v + 2, _, _, _, _, ⟨s0, tc0, L0, h1, h2⟩ => by
    obtain ⟨s3, tc3, L3, a1, a2⟩ := gz_run_pre (v + 1) h1
    exact ⟨s3, tc3, L3, a1, fun _ => a2 (by omega)⟩
theorem gz_not {G : gm_G} {U : Int → Prop} {seed tc : Int} {tr : Int → Int} (h : gz_good G U seed tc tr) (h2 : gz_bad G U seed) : False := by
  obtain ⟨u, s, a1, a2, a3⟩ := h
  obtain ⟨v, s', tc', tr', p, K, b1, b2⟩ := h2
  by_cases c : u ≤ v
  · have e : v = u + (v - u) := by omega
    rw [e] at b1
    obtain ⟨s0, tc0, L0, c1, c2⟩ := gz_run_pre (v - u) b1
    have un := gz_run_u u s tc s0 tc0 tr tr' [] L0 a1 c1
    by_cases w : u = v
    · rw [← e, ← w] at b1
      have := (gz_run_u u s tc s' tc' tr tr' [] (p :: K) a1 b1).2.2.1
      exact absurd this.symm (List.cons_ne_nil _ _)
    · obtain ⟨_, _, _, st⟩ := c2 (by omega)
      rw [← un.2.2.1] at st
      exact st
  · have e : u = v + (u - v) := by omega
    rw [e] at a1
    obtain ⟨s0, tc0, L0, c1, c2⟩ := gz_run_pre (u - v) a1
    obtain ⟨e1, e2, e3, _⟩ := gz_run_u v s' tc' s0 tc0 tr' tr (p :: K) L0 b1 c1
    obtain ⟨_, _, _, st⟩ := c2 (by omega)
    rw [← e3, ← e2] at st
    rcases b2 with b2 | ⟨_, b3, b4⟩
    · omega
    · rcases st.2 with ⟨x, _⟩ | ⟨_, x, _⟩ <;> omega
theorem gz_good_u {G : gm_G} {U : Int → Prop} {seed tc tc2 : Int} {tr tr2 : Int → Int} (h : gz_good G U seed tc tr) (h2 : gz_good G U seed tc2 tr2) : tc = tc2 ∧ ∀ x, 0 ≤ x → x < tc → tr x = tr2 x := by
  have key : ∀ (u v : Nat) (s s' tc tc2 : Int) (tr tr2 : Int → Int), u ≤ v → gz_run G U seed u s tc tr [] → gz_run G U seed v s' tc2 tr2 [] → u = v := by
    intro u v s s' tc tc2 tr tr2 le a1 b1
    refine Classical.byContradiction (fun w => ?_)
    have e : v = u + (v - u) := by omega
    rw [e] at b1
    obtain ⟨s0, tc0, L0, c1, c2⟩ := gz_run_pre (v - u) b1
    have un := gz_run_u u s tc s0 tc0 tr tr2 [] L0 a1 c1
    obtain ⟨_, _, _, st⟩ := c2 (by omega)
    rw [← un.2.2.1] at st
    exact st
  obtain ⟨u, s, a1, a2, a3⟩ := h
  obtain ⟨v, s', b1, b2, b3⟩ := h2
  have e : u = v := by
    rcases Nat.le_total u v with c | c
    · exact key u v s s' tc tc2 tr tr2 c a1 b1
    · exact (key v u s' s tc2 tc tr2 tr c b1 a1).symm
  rw [← e] at b1
  have r := gz_run_u u s tc s' tc2 tr tr2 [] [] a1 b1
  exact ⟨r.2.1, r.2.2.2⟩
/-- names that end have a rule that does -/
theorem gz_rule_x {G : gm_G} (hG : gm_ok G) {S : Int → Int} (h1 : gm_Lr G S) (h2 : gm_Lcl G S) (h3 : gm_Lso G S) {n : Int} (n0 : 0 ≤ n) (n1 : n < gm_N G) (hn : S n < 16777216) : ∃ r, 0 ≤ r ∧ r < gm_R G ∧ gm_o G r = n ∧ gm_lr G S r 0 < 16777216 := by
  refine Classical.byContradiction (fun no => ?_)
  have Zr : gm_Lr G (fun i => if i = n then 16777216 else S i) := fun i i0 i1 => by
    (try dsimp only)
    by_cases c : i = n
    · rw [if_pos c]
      decide
    · rw [if_neg c]
      exact h1 i i0 i1
  have le : ∀ i, 0 ≤ i → i < gm_N G → S i ≤ (fun i => if i = n then 16777216 else S i) i := fun i i0 i1 => by
    (try dsimp only)
    by_cases c : i = n
    · rw [if_pos c]
      exact (h1 i i0 i1).2
    · rw [if_neg c]
      exact Int.le_refl _
  have w := h3 (fun i => if i = n then 16777216 else S i) Zr (fun r r0 r1 => by
    have m := gm_lr_mono hG r0 r1 (Int.le_refl 0) le
    (try dsimp only)
    by_cases c : gm_o G r = n
    · rw [if_pos c]
      refine Classical.byContradiction (fun y => no ⟨r, r0, r1, c, by omega⟩)
    · rw [if_neg c]
      have := h2 r r0 r1
      omega) n n0 n1
  (try dsimp only at w)
  rw [if_pos rfl] at w
  omega
/-- the names of a rule that ends do, too -/
theorem gz_rule_n {G : gm_G} (hG : gm_ok G) {S : Int → Int} (h1 : gm_Lr G S) {r d : Int} (r0 : 0 ≤ r) (r1 : r < gm_R G) (d0 : 0 ≤ d) (d1 : d < gm_s G r) (hr : gm_lr G S r 0 < 16777216) (hn : gm_n G r d ≠ -1) : S (gm_n G r d) < 16777216 := by
  have key : ∀ (k : Nat) (e : Int), 0 ≤ e → e + k ≤ gm_s G r → e ≤ d → d < e + k → S (gm_n G r d) ≤ gm_ls G S r e k := by
    intro k
    induction k with
    | zero => exact fun e _ _ a b => by omega
    | succ k ih =>
      intro e e0 e1 a b
      have nn := (gm_ls_0 hG h1 r0 r1 k (e + 1) (by omega) (by omega)).1
      show _ ≤ gm_lv G S r e + gm_ls G S r (e + 1) k
      by_cases q : e = d
      · rw [q] at nn ⊢
        have lv : gm_lv G S r d = S (gm_n G r d) := if_neg hn
        omega
      · have i := ih (e + 1) (by omega) (by omega) (by omega) (by omega)
        have lv : 0 ≤ gm_lv G S r e := by
          have nr := gm_n_rng hG r0 r1 e0 (by omega)
          unfold gm_lv
          by_cases w : gm_n G r e = -1
          · rw [if_pos w]
            decide
          · rw [if_neg w]
            exact (h1 _ (by omega) (by omega)).1
        omega
  have s4 := (hG.2.2.2.2.1 r r0 r1).2.2.1
  have := key (gm_s G r - 0).toNat 0 (Int.le_refl _) (by omega) d0 (by omega)
  unfold gm_lr at hr
  omega

