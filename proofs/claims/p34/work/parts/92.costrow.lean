/-! CHANGES: the row as a whole, the system of an interval -/
theorem gr_A_rng {G : gm_G} {t : Int → Int} {C : Int → Int → Int → Int} {r i d k w : Int} (d0 : 0 ≤ d) (h : gr_A G t C r i d k w) : i ≤ k := by
  obtain ⟨c, hc, _⟩ := h
  have := gr_In_rng d0 hc (d := 0) (Int.le_refl _) d0
  rw [hc.1] at this
  omega
theorem gr_dp {G : gm_G} {t : Int → Int} {C : Int → Int → Int → Int} {r i d k : Int} {b : Int → Int} (d0 : 0 ≤ d) (hb : ∀ e, i ≤ e → e ≤ k → b e = gmn (gr_A G t C r i d e) 16777216) (hp : ∀ e, i ≤ e → e ≤ k → 0 ≤ gr_pc G t C r d e k) (hu : ∀ e u, i ≤ e → e ≤ k → gr_A G t C r i d e u → 0 ≤ u) : gmn (fun w => ∃ e, i ≤ e ∧ e ≤ k ∧ w = b e + gr_pc G t C r d e k) 16777216 = gmn (gr_A G t C r i (d + 1) k) 16777216 := by
  obtain ⟨a1, a2, a3, a4⟩ := gmn_sp (A := fun w => ∃ e, i ≤ e ∧ e ≤ k ∧ w = b e + gr_pc G t C r d e k) (K := 16777216) (by decide)
  refine gmn_uniq (by decide) a2 a1 ?_ (fun w w0 w1 hw => ?_)
  · rcases a3 with e | ⟨e, e0, e1, h⟩
    · exact Or.inl e
    · obtain ⟨b1, b2, b3, b4⟩ := gmn_sp (A := gr_A G t C r i d e) (K := 16777216) (by decide)
      have pe := hp e e0 e1
      have be := hb e e0 e1
      rcases b3 with q | q
      · left
        omega
      · right
        rw [gr_A_s d0]
        exact ⟨e, _, e1, q, by rw [← be]; exact h⟩
  · rw [gr_A_s d0] at hw
    obtain ⟨e, u, ek, hA, rfl⟩ := hw
    have ie := gr_A_rng d0 hA
    have u0 := hu e u ie ek hA
    have pe := hp e ie ek
    obtain ⟨b1, b2, b3, b4⟩ := gmn_sp (A := gr_A G t C r i d e) (K := 16777216) (by decide)
    have le := b4 u u0 hA
    have be := hb e ie ek
    have := a4 (b e + gr_pc G t C r d e k) (by omega) ⟨e, ie, ek, rfl⟩
    omega
theorem gr_costOfRow {m : gh_M} {G : gm_G} {Q : Int → gh_M → Prop} (hG : gm_ok G) (hC : gm_C m G) (ht : gt_t m) {r i j : Int} (r0 : 0 ≤ r) (r1 : r < gm_R G) (i0 : 0 ≤ i) (ij : i < j) (j1 : j ≤ m 26 3) (hV : ∀ n e k, 0 ≤ n → n < gm_N G → i ≤ e → e ≤ k → k ≤ j → 0 ≤ m 39 ((n * 9 + e) * 9 + k) ∧ m 39 ((n * 9 + e) * 9 + k) ≤ 16777216) (h : ∀ m1, gx [40] m m1 → Q (if gm_s G r = 0 then j - i else gmn (gr_A G (m 27) (fun n e k => m 39 ((n * 9 + e) * 9 + k)) r i (gm_s G r) j) 16777216) m1) : w_Wants_costOfRow r i j m Q := by
  have hN := hG.2.1
  have hR := hG.2.2.2.1
  obtain ⟨p1, p2, p3, p4, p5⟩ := hG.2.2.2.2.1 r r0 r1
  have ht2 := ht.2.1
  have e2 := (hC.2.2 r r0 r1).2.1
  unfold w_Wants_costOfRow
  rw [e2]
  refine ⟨r0, by omega, fun c => ⟨by omega, ?_⟩, fun c => ⟨i0, by omega, ?_⟩⟩
  · have := h m (gx_sub (S := []) gx_rf (by decide))
    rw [if_pos c] at this
    exact this
  have sp : 0 < gm_s G r := by omega
  have b0 : ∀ k, 0 ≤ k → k ≤ 8 → (gh_u (gh_fil m 40 9 16777216) 40 i 0) 40 k = if k = i then 0 else 16777216 := fun k k0 k1 => by
    by_cases e : k = i
    · rw [e, gh_u_s, if_pos rfl]
    · rw [gh_u_i e, if_neg e]
      unfold gh_fil
      rw [if_pos ⟨rfl, k0, by omega⟩]
  have pcn : ∀ d e k, 0 ≤ d → d < gm_s G r → i ≤ e → e ≤ k → k ≤ j → 0 ≤ gr_pc G (m 27) (fun n e k => m 39 ((n * 9 + e) * 9 + k)) r d e k := fun d e k d0 d1 e0 ek kj => gr_pc_0 hG r0 r1 d0 d1 (fun n n0 n1 => (hV n e k n0 n1 e0 ek kj).1)
  have An : ∀ d k u, 0 ≤ d → d ≤ gm_s G r → k ≤ j → gr_A G (m 27) (fun n e k => m 39 ((n * 9 + e) * 9 + k)) r i d k u → 0 ≤ u := fun d k u d0 d1 kj hA => by
    obtain ⟨c, hc, rfl⟩ := hA
    refine gr_sm_0 hG r0 r1 d.toNat (by omega) (fun x x0 x1 n n0 n1 => ?_)
    have y1 := gr_In_rng d0 hc (d := x) x0 (by omega)
    have y2 := gr_In_rng d0 hc (d := x + 1) (by omega) (by omega)
    have y3 := hc.2.2 x x0 (by omega)
    exact (hV n _ _ n0 n1 y1.1 y3 (by omega)).1
  refine ⟨fun d m1 => 0 ≤ d ∧ d ≤ gm_s G r ∧ gx [40] m m1 ∧ (d < gm_s G r → ∀ k, i ≤ k → k ≤ j → m1 40 k = gmn (gr_A G (m 27) (fun n e k => m 39 ((n * 9 + e) * 9 + k)) r i d k) 16777216) ∧ (d = gm_s G r → m1 40 j = gmn (gr_A G (m 27) (fun n e k => m 39 ((n * 9 + e) * 9 + k)) r i d j) 16777216), fun d _ => (10 - d).toNat, ⟨by omega, by omega, gx_u (gx_fil gx_rf (by decide)) (by decide), fun _ k k0 k1 => ?_, fun e => by omega⟩, ?_⟩
  · rw [b0 k (by omega) (by omega)]
    by_cases e : k = i
    · rw [if_pos e]
      exact gmn_uniq (by decide) (by decide) (by decide) (Or.inr (gr_A_0.mpr ⟨e, rfl⟩)) (fun w w0 _ _ => w0)
    · rw [if_neg e]
      exact gmn_uniq (by decide) (by decide) (by decide) (Or.inl rfl) (fun w w0 w1 y => absurd (gr_A_0.mp y).1 e)
  rintro d m1 ⟨d0, d1, hx, ha, hz⟩
  have c1 := gm_C_x hx (by decide) hC
  unfold f_Wants_costOfRow_35
  rw [(c1.2.2 r r0 r1).2.1]
  refine ⟨r0, by omega, fun c2 => ?_, fun c2 => ?_⟩
  · obtain ⟨kk, xx⟩ := gm_partAt hG c1 r0 r1 d0 c2
    refine ⟨kk, ?_⟩
    rintro _ rfl
    rw [xx]
    refine ⟨r0, by omega, by omega, ?_⟩
    rintro v6 hv6
    have vb : (v6 = j ∨ v6 = i) ∧ (d < gm_s G r - 1 → v6 = i) := by
      by_cases q : d = gm_s G r - 1
      · rw [if_pos q] at hv6
        exact ⟨Or.inl hv6, fun y => by omega⟩
      · rw [if_neg q] at hv6
        exact ⟨Or.inr hv6, fun _ => hv6⟩
    refine ⟨fun k m2 => v6 - 1 ≤ k ∧ k ≤ j ∧ gx [40] m m2 ∧ (∀ k', k < k' → k' ≤ j → m2 40 k' = gmn (gr_A G (m 27) (fun n e k => m 39 ((n * 9 + e) * 9 + k)) r i (d + 1) k') 16777216) ∧ ∀ k', i ≤ k' → k' ≤ k → m2 40 k' = gmn (gr_A G (m 27) (fun n e k => m 39 ((n * 9 + e) * 9 + k)) r i d k') 16777216, fun k _ => (k + 2).toNat, ⟨by omega, by omega, hx, fun k' a b => by omega, ha c2⟩, ?_⟩
    rintro k m2 ⟨k0, k1, hx2, hn, ho⟩
    have c3 := gm_C_x hx2 (by decide) hC
    have f26 : m2 26 = m 26 := hx2 26 (by decide)
    have f27 : m2 27 = m 27 := hx2 27 (by decide)
    have f39 : m2 39 = m 39 := hx2 39 (by decide)
    have ht3 : gt_t m2 := by
      unfold gt_t
      rw [f26, f27]
      exact ht
    unfold f_Wants_costOfRow_87
    refine ⟨fun c4 => ⟨by omega, ⟨by omega, by omega, hx2, fun y k' a b => ?_, fun y => ?_⟩, by (try dsimp only); omega⟩, fun c4 => ?_⟩
    · have := vb.2 (by omega)
      exact hn k' (by omega) b
    · exact hn j (by omega) (Int.le_refl _)
    · have ik : i ≤ k := by omega
      refine gr_costUpTo hG c3 ht3 r0 r1 d0 c2 i0 ik (by rw [f26]; omega) (fun e e0 e1 => ?_) (fun n e n0 n1 e0 e1 => ?_) ?_
      · rw [ho e e0 e1]
        obtain ⟨g1, g2, _⟩ := gmn_sp (A := gr_A G (m 27) (fun n e k => m 39 ((n * 9 + e) * 9 + k)) r i d e) (K := 16777216) (by decide)
        exact ⟨g1, g2⟩
      · rw [f39]
        exact hV n e k n0 n1 e0 e1 k1
      · rw [f27, f39]
        rw [gr_dp (b := m2 40) d0 ho (fun e e0 e1 => pcn d e k d0 c2 e0 e1 k1) (fun e u e0 e1 => An d e u d0 (by omega) (by omega))]
        refine ⟨by omega, by omega, by omega, ⟨by omega, by omega, gx_u hx2 (List.mem_singleton.mpr rfl), fun k' a b => ?_, fun k' a b => ?_⟩, by (try dsimp only); omega⟩
        · by_cases q : k' = k
          · rw [q, gh_u_s]
          · rw [gh_u_i q]
            exact hn k' (by omega) b
        · rw [gh_u_i (by omega)]
          exact ho k' a (by omega)
  · have e : d = gm_s G r := by omega
    have := h m1 hx
    rw [if_neg c, ← e, ← hz e] at this
    exact ⟨by omega, by omega, this⟩
theorem gsum_tri {f g q : Int → Int} : ∀ n : Nat, (∀ d : Int, 0 ≤ d → d < n → f d ≤ g d ∧ f d ≤ q d ∧ (f d < g d → f d + 1 ≤ q d)) → gsum f n ≤ gsum g n ∧ gsum f n ≤ gsum q n ∧ (gsum f n < gsum g n → gsum f n + 1 ≤ gsum q n)
  | 0, _ => ⟨Int.le_refl _, Int.le_refl _, fun h => absurd h (Int.lt_irrefl _)⟩
  | k + 1, h => by
    obtain ⟨a1, a2, a3⟩ := gsum_tri (f := f) (g := g) (q := q) k (fun d d0 d1 => h d d0 (by omega))
    obtain ⟨b1, b2, b3⟩ := h k (by omega) (by omega)
    unfold gsum
    refine ⟨by omega, by omega, fun y => ?_⟩
    by_cases c : gsum f k < gsum g k
    · have := a3 c
      omega
    · have := b3 (by omega)
      omega
/-- the system of the interval from i to j; U are the useful rules -/
noncomputable def gr_F (G : gm_G) (U : Int → Prop) (t : Int → Int) (C : Int → Int → Int → Int) (i j r : Int) (L : Int → Int) : Int := @ite Int (U r) (Classical.propDecidable _) (if gm_s G r = 0 then j - i else gmn (gr_A G t (fun n e k => if e = i ∧ k = j then L n else C n e k) r i (gm_s G r) j) 16777216) 16777216
theorem gr_F_t {G : gm_G} {U : Int → Prop} {t : Int → Int} {C : Int → Int → Int → Int} {i j r : Int} {L : Int → Int} (h : U r) : gr_F G U t C i j r L = if gm_s G r = 0 then j - i else gmn (gr_A G t (fun n e k => if e = i ∧ k = j then L n else C n e k) r i (gm_s G r) j) 16777216 := if_pos h
theorem gr_F_f {G : gm_G} {U : Int → Prop} {t : Int → Int} {C : Int → Int → Int → Int} {i j r : Int} {L : Int → Int} (h : ¬ U r) : gr_F G U t C i j r L = 16777216 := if_neg h
theorem gr_sys {G : gm_G} (hG : gm_ok G) {U : Int → Prop} {t : Int → Int} {C : Int → Int → Int → Int} {i j : Int} (i0 : 0 ≤ i) (ij : i < j) (j8 : j ≤ 8) (hC : ∀ n e k, 0 ≤ n → n < gm_N G → i ≤ e → e ≤ k → k ≤ j → ¬ (e = i ∧ k = j) → 0 ≤ C n e k) : gf_sys (gm_N G) (gm_R G) 16777216 (gm_o G) (gr_F G U t C i j) ∧ gf_tri (gm_N G) (gm_R G) 16777216 (gr_F G U t C i j) := by
  have vn : ∀ L, gf_r (gm_N G) 16777216 L → ∀ n e k, 0 ≤ n → n < gm_N G → i ≤ e → e ≤ k → k ≤ j → 0 ≤ (fun n e k => if e = i ∧ k = j then L n else C n e k : Int → Int → Int → Int) n e k := fun L hL n e k n0 n1 e0 ek kj => by
    show 0 ≤ (if e = i ∧ k = j then L n else C n e k)
    by_cases c : e = i ∧ k = j
    · rw [if_pos c]
      exact (hL n n0 n1).1
    · rw [if_neg c]
      exact hC n e k n0 n1 e0 ek kj c
  have smn : ∀ L, gf_r (gm_N G) 16777216 L → ∀ r, 0 ≤ r → r < gm_R G → ∀ c, gr_In i j (gm_s G r) c → 0 ≤ gr_sm G t (fun n e k => if e = i ∧ k = j then L n else C n e k) r c (gm_s G r).toNat := fun L hL r r0 r1 c hc => by
    have s0 := (hG.2.2.2.2.1 r r0 r1).2.2.1
    refine gr_sm_0 hG r0 r1 _ (by omega) (fun x x0 x1 n n0 n1 => ?_)
    have y1 := gr_In_rng s0 hc (d := x) x0 (by omega)
    have y2 := gr_In_rng s0 hc (d := x + 1) (by omega) (by omega)
    have y3 := hc.2.2 x x0 (by omega)
    exact vn L hL n _ _ n0 n1 y1.1 y3 y2.2
  have smt : ∀ L S' Z : Int → Int, (∀ n, 0 ≤ n → n < gm_N G → S' n ≤ L n ∧ S' n ≤ Z n ∧ (S' n < L n → S' n + 1 ≤ Z n)) → ∀ r, 0 ≤ r → r < gm_R G → ∀ c, gr_sm G t (fun n e k => if e = i ∧ k = j then S' n else C n e k) r c (gm_s G r).toNat ≤ gr_sm G t (fun n e k => if e = i ∧ k = j then L n else C n e k) r c (gm_s G r).toNat ∧ gr_sm G t (fun n e k => if e = i ∧ k = j then S' n else C n e k) r c (gm_s G r).toNat ≤ gr_sm G t (fun n e k => if e = i ∧ k = j then Z n else C n e k) r c (gm_s G r).toNat ∧ (gr_sm G t (fun n e k => if e = i ∧ k = j then S' n else C n e k) r c (gm_s G r).toNat < gr_sm G t (fun n e k => if e = i ∧ k = j then L n else C n e k) r c (gm_s G r).toNat → gr_sm G t (fun n e k => if e = i ∧ k = j then S' n else C n e k) r c (gm_s G r).toNat + 1 ≤ gr_sm G t (fun n e k => if e = i ∧ k = j then Z n else C n e k) r c (gm_s G r).toNat) := fun L S' Z hh r r0 r1 c => by
    refine gsum_tri _ (fun d d0 d1 => ?_)
    have nn := gm_n_rng hG r0 r1 (d := d) d0 (by omega)
    unfold gr_pc
    by_cases q : gm_n G r d = -1
    · rw [if_pos q, if_pos q, if_pos q]
      exact ⟨Int.le_refl _, Int.le_refl _, fun y => absurd y (Int.lt_irrefl _)⟩
    · rw [if_neg q, if_neg q, if_neg q]
      dsimp only
      by_cases q2 : c d = i ∧ c (d + 1) = j
      · rw [if_pos q2, if_pos q2, if_pos q2]
        exact hh _ (by omega) (by omega)
      · rw [if_neg q2, if_neg q2, if_neg q2]
        exact ⟨Int.le_refl _, Int.le_refl _, fun y => absurd y (Int.lt_irrefl _)⟩
  refine ⟨⟨fun r r0 r1 => ?_, fun r L r0 r1 _ => ?_, fun r L Z r0 r1 l1 z1 le => ?_⟩, fun r S' L r0 r1 s1 l1 le hl => ?_⟩
  · obtain ⟨p1, p2, _⟩ := hG.2.2.2.2.1 r r0 r1
    exact ⟨p1, p2⟩
  · by_cases u : U r
    · rw [gr_F_t u]
      split
      · omega
      · obtain ⟨h1, h2, _⟩ := gmn_sp (A := gr_A G t (fun n e k => if e = i ∧ k = j then L n else C n e k) r i (gm_s G r) j) (K := 16777216) (by decide)
        exact ⟨h1, h2⟩
    · rw [gr_F_f u]
      decide
  · by_cases u : U r
    · rw [gr_F_t u, gr_F_t u]
      split
      · exact Int.le_refl _
      · exact gmn_mono (In := gr_In i j (gm_s G r)) (by decide) (fun c hc => ⟨smn L l1 r r0 r1 c hc, (smt Z L Z (fun n n0 n1 => by have := le n n0 n1; exact ⟨this, this, fun y => by omega⟩) r r0 r1 c).1⟩)
    · rw [gr_F_f u, gr_F_f u]
      exact Int.le_refl _
  · by_cases u : U r
    · rw [gr_F_t u, gr_F_t u] at hl
      rw [gr_F_t u, gr_F_t u]
      by_cases q : gm_s G r = 0
      · rw [if_pos q, if_pos q] at hl
        omega
      · rw [if_neg q, if_neg q] at hl
        rw [if_neg q, if_neg q]
        refine gmn_tri (In := gr_In i j (gm_s G r)) (by decide) (fun c hc => ?_) hl
        have h1 := smn S' s1 r r0 r1 c hc
        have h2 := smt L S' (fun n => if L n = S' n then S' n else S' n + 1) (fun n n0 n1 => by
          have := le n n0 n1
          try dsimp only
          split <;> omega) r r0 r1 c
        exact ⟨h1, h2.1, h2.2.1, h2.2.2⟩
    · rw [gr_F_f u, gr_F_f u] at hl
      exact absurd hl (Int.lt_irrefl _)

