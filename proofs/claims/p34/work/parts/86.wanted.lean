/-! WANTED LETTERS: the class's table -/
theorem gw_A_cg {G : gm_G} (hG : gm_ok G) {z : Int} {t : Int → Int} {S : Int → Int} {k : Int} {V W : Int → Int → Int} {r i d : Int} (r0 : 0 ≤ r) (r1 : r < gm_R G) (d1 : d ≤ gm_s G r) (h : ∀ n e, 0 ≤ n → n < gm_N G → i ≤ e → e < k → V n e = W n e) (w : Int) : gw_A G z t S k V r i d w ↔ gw_A G z t S k W r i d w := by
  constructor
  · rintro ⟨c, c0, c1, ⟨e, e0, e1, h1, h2, h3⟩ | y⟩
    · have nn := gm_n_rng hG r0 r1 (d := c) c0 (by omega)
      exact ⟨c, c0, c1, Or.inl ⟨e, e0, e1, h1, h2, by rw [← h _ e (by omega) (by omega) e0 e1]; exact h3⟩⟩
    · exact ⟨c, c0, c1, Or.inr y⟩
  · rintro ⟨c, c0, c1, ⟨e, e0, e1, h1, h2, h3⟩ | y⟩
    · have nn := gm_n_rng hG r0 r1 (d := c) c0 (by omega)
      exact ⟨c, c0, c1, Or.inl ⟨e, e0, e1, h1, h2, by rw [h _ e (by omega) (by omega) e0 e1]; exact h3⟩⟩
    · exact ⟨c, c0, c1, Or.inr y⟩
theorem gw_F_cg {G : gm_G} (hG : gm_ok G) {z : Int} {t : Int → Int} {S : Int → Int} {k i : Int} {P P2 : Int → Int → Int} {r : Int} {L : Int → Int} (r0 : 0 ≤ r) (r1 : r < gm_R G) (h : ∀ n e, i < e → e < k → P n e = P2 n e) : gw_F G z t S k i P r L = gw_F G z t S k i P2 r L := by
  refine gmn_cg (gw_A_cg hG r0 r1 (Int.le_refl _) (fun n e n0 n1 e0 e1 => ?_))
  by_cases c : e = i
  · rw [if_pos c, if_pos c]
  · rw [if_neg c, if_neg c]
    exact h n e (by omega) e1
/-- the numbers of all names at the place i are the last ones -/
def gw_fin (G : gm_G) (z : Int) (t : Int → Int) (S : Int → Int) (k : Int) (P : Int → Int → Int) (i : Int) : Prop := gf_r (gm_N G) 16777216 (fun n => P n i) ∧ gf_cl (gm_R G) (gm_o G) (gw_F G z t S k i P) (fun n => P n i) ∧ gf_so (gm_N G) (gm_R G) 16777216 (gm_o G) (gw_F G z t S k i P) (fun n => P n i)
def gw_P (G : gm_G) (z : Int) (t : Int → Int) (S : Int → Int) (k : Int) (P : Int → Int → Int) : Prop := (∀ n, 0 ≤ n → n < gm_N G → P n k = S n) ∧ ∀ i, 0 ≤ i → i < k → gw_fin G z t S k P i
theorem gw_fin_cg {G : gm_G} (hG : gm_ok G) {z : Int} {t : Int → Int} {S : Int → Int} {k i : Int} {P P2 : Int → Int → Int} (h : ∀ n e, i ≤ e → e < k → P n e = P2 n e) (ik : i < k) (hf : gw_fin G z t S k P i) : gw_fin G z t S k P2 i := by
  obtain ⟨h1, h2, h3⟩ := hf
  have ec : (fun n => P n i) = (fun n => P2 n i) := funext (fun n => h n i (Int.le_refl _) ik)
  have ef : ∀ r L, 0 ≤ r → r < gm_R G → gw_F G z t S k i P r L = gw_F G z t S k i P2 r L := fun r L r0 r1 => gw_F_cg hG r0 r1 (fun n e e0 e1 => h n e (by omega) e1)
  unfold gw_fin
  rw [← ec]
  refine ⟨h1, fun r r0 r1 => ?_, fun Z z1 z2 => h3 Z z1 (fun r r0 r1 => ?_)⟩
  · rw [← ef r _ r0 r1]
    exact h2 r r0 r1
  · rw [ef r _ r0 r1]
    exact z2 r r0 r1
theorem gw_findWanted {m : gh_M} {G : gm_G} {Q : Int → gh_M → Prop} (hG : gm_ok G) (hC : gm_C m G) (ht : gt_t m) (hs : gt_full G m) (hL : gm_Lr G (m 21)) {k : Int} (k0 : 0 ≤ k) (k1 : k ≤ m 26 3) (h : ∀ m1 P, gx [38] m m1 → gw_P G (m 26 3) (m 27) (m 21) k P → Q (if P 0 0 < 16777216 then P 0 0 else -1) m1) : w_Wants_findWanted k m Q := by
  have hN0 := hG.1
  have hN := hG.2.1
  have hR0 := hG.2.2.1
  have hR := hG.2.2.2.1
  have ht2 := ht.2.1
  refine ⟨fun n m1 => 0 ≤ n ∧ n ≤ gm_N G ∧ gx [38] m m1 ∧ (∀ i, 0 ≤ i → i < n → m1 38 (i * 9 + k) = m 21 i) ∧ ∀ i e, 0 ≤ i → i < gm_N G → 0 ≤ e → e < k → m1 38 (i * 9 + e) = 16777216, fun n _ => (30 - n).toNat, ⟨by omega, by omega, gx_fil gx_rf (List.mem_singleton.mpr rfl), fun i a b => by omega, fun i e i0 i1 e0 e1 => ?_⟩, ?_⟩
  · unfold gh_fil
    rw [if_pos ⟨rfl, by omega, by omega⟩]
  rintro n m1 ⟨n0, n1, hx, ha, hb⟩
  unfold f_Wants_findWanted_11
  rw [(gm_C_x hx (by decide) hC).1, hx 21 (by decide)]
  refine ⟨fun c => ⟨by omega, by omega, by omega, by omega, by omega, by omega, by omega, ⟨by omega, by omega, gx_u hx (List.mem_singleton.mpr rfl), fun i i0 i1 => ?_, fun i e i0 i1 e0 e1 => ?_⟩, by (try dsimp only); omega⟩, fun c => ⟨by omega, ?_⟩⟩
  · by_cases e : i = n
    · rw [e, gh_u_s]
    · rw [gh_u_i (by omega)]
      exact ha i i0 (by omega)
  · rw [gh_u_i (by omega)]
    exact hb i e i0 i1 e0 e1
  rintro _ rfl
  refine ⟨fun i m2 => -1 ≤ i ∧ i < k ∧ gx [38] m m2 ∧ (∀ n, 0 ≤ n → n < gm_N G → m2 38 (n * 9 + k) = m 21 n) ∧ (∀ n e, 0 ≤ n → n < gm_N G → 0 ≤ e → e ≤ i → m2 38 (n * 9 + e) = 16777216) ∧ ∀ e, i < e → e < k → gw_fin G (m 26 3) (m 27) (m 21) k (fun n e => m2 38 (n * 9 + e)) e, fun i _ => (i + 2).toNat, ⟨by omega, by omega, hx, fun n n0 n1 => ha n n0 (by omega), fun n e n0 n1 e0 e1 => hb n e n0 n1 e0 (by omega), fun e a b => by omega⟩, ?_⟩
  rintro i m2 ⟨i0, i1, hx2, hk, hf, hd⟩
  unfold f_Wants_findWanted_52
  refine ⟨fun c2 => ?_, fun c2 => ?_⟩
  · have := h m2 (fun n e => m2 38 (n * 9 + e)) hx2 ⟨hk, fun e e0 e1 => hd e (by omega) e1⟩
    exact this
  have ii : 0 ≤ i := by omega
  have later : ∀ n e, 0 ≤ n → n < gm_N G → i < e → e < k → 0 ≤ m2 38 (n * 9 + e) ∧ m2 38 (n * 9 + e) ≤ 16777216 := fun n e n0 n1 e0 e1 => (hd e e0 e1).1 n n0 n1
  obtain ⟨sys, tri⟩ := gw_sys hG (z := m 26 3) (t := m 27) hL i1 (P := fun n e => m2 38 (n * 9 + e)) later
  obtain ⟨S, s1, s2, s3⟩ := gf_ex (by decide) sys
  have far : ∀ n, 0 ≤ n → n < gm_N G → m2 38 (n * 9 + i) = 16777216 := fun n n0 n1 => hf n i n0 n1 ii (Int.le_refl _)
  refine ⟨fun v m3 => 0 ≤ v ∧ v ≤ gm_N G ∧ gx [38] m m3 ∧ (∀ n e, 0 ≤ e → e ≤ 8 → e ≠ i → m3 38 (n * 9 + e) = m2 38 (n * 9 + e)) ∧ gf_r (gm_N G) 16777216 (fun n => m3 38 (n * 9 + i)) ∧ gf_so (gm_N G) (gm_R G) 16777216 (gm_o G) (gw_F G (m 26 3) (m 27) (m 21) k i (fun n e => m2 38 (n * 9 + e))) (fun n => m3 38 (n * 9 + i)) ∧ ((∀ n, 0 ≤ n → n < gm_N G → m3 38 (n * 9 + i) = S n) ∨ v ≤ gct (fun n => decide (m3 38 (n * 9 + i) = S n)) (gm_N G).toNat), fun v _ => (30 - v).toNat, ⟨by omega, by omega, hx2, fun _ _ _ _ _ => rfl, fun n n0 n1 => ?_, fun Z z1 _ n n0 n1 => ?_, Or.inr (by omega)⟩, ?_⟩
  · show 0 ≤ m2 38 (n * 9 + i) ∧ m2 38 (n * 9 + i) ≤ 16777216
    rw [far n n0 n1]
    decide
  · show Z n ≤ m2 38 (n * 9 + i)
    rw [far n n0 n1]
    exact (z1 n n0 n1).2
  rintro v m3 ⟨v0, v1, hx3, ag, lr, ls, lc⟩
  have c3 := gm_C_x hx3 (by decide) hC
  unfold f_Wants_findWanted_58
  rw [c3.1]
  refine ⟨fun c4 => ?_, fun c4 => ⟨by omega, ⟨by omega, by omega, hx3, fun n n0 n1 => ?_, fun n e n0 n1 e0 e1 => ?_, fun e e0 e1 => ?_⟩, by (try dsimp only); omega⟩⟩
  · refine ⟨fun r m4 => 0 ≤ r ∧ r ≤ gm_R G ∧ gx [38] m m4 ∧ (∀ n e, 0 ≤ e → e ≤ 8 → e ≠ i → m4 38 (n * 9 + e) = m2 38 (n * 9 + e)) ∧ gf_ps (gm_N G) (gm_R G) 16777216 (gm_o G) (gw_F G (m 26 3) (m 27) (m 21) k i (fun n e => m2 38 (n * 9 + e))) S (fun n => m3 38 (n * 9 + i)) (fun n => m4 38 (n * 9 + i)) r, fun r _ => (30 - r).toNat, ⟨by omega, by omega, hx3, ag, gf_ps_0 lr ls⟩, ?_⟩
    rintro r m4 ⟨r0, r1, hx4, ag4, ps⟩
    have c4' := gm_C_x hx4 (by decide) hC
    have f26 : m4 26 = m 26 := hx4 26 (by decide)
    have f27 : m4 27 = m 27 := hx4 27 (by decide)
    have f31 : m4 31 = m 31 := hx4 31 (by decide)
    have f21 : m4 21 = m 21 := hx4 21 (by decide)
    have ht4 : gt_t m4 := by
      unfold gt_t
      rw [f26, f27]
      exact ht
    have hs4 : gt_full G m4 := by
      unfold gt_full gt_tab
      rw [f26, f27, f31]
      exact hs
    unfold f_Wants_findWanted_72
    rw [c4'.2.1]
    refine ⟨fun c5 => ?_, fun c5 => ⟨by omega, ⟨by omega, by omega, hx4, ag4, ps.1, ps.2.1, ?_⟩, by (try dsimp only); omega⟩⟩
    · obtain ⟨p1, p2, p3, p4, p5⟩ := hG.2.2.2.2.1 r r0 c5
      rw [(c4'.2.2 r r0 c5).1]
      refine ⟨r0, by omega, by omega, by omega, ?_⟩
      rintro _ rfl
      refine ⟨by omega, by omega, ?_⟩
      refine gw_byRow hG c4' ht4 hs4 (by rw [f21]; exact hL) r0 c5 ii i1 (by rw [f26]; exact k1) (fun n e n0 n1 e0 e1 => ?_) ?_
      · by_cases q : e = i
        · rw [q]
          exact ps.1 n n0 n1
        · rw [ag4 n e (by omega) (by omega) q]
          exact later n e n0 n1 (by omega) e1
      · rw [f26, f27, f21]
        have eq : gmn (gw_A G (m 26 3) (m 27) (m 21) k (fun n e => m4 38 (n * 9 + e)) r i (gm_s G r)) 16777216 = gw_F G (m 26 3) (m 27) (m 21) k i (fun n e => m2 38 (n * 9 + e)) r (fun n => m4 38 (n * 9 + i)) := by
          refine gmn_cg (gw_A_cg hG r0 c5 (Int.le_refl _) (fun n e n0 n1 e0 e1 => ?_))
          show m4 38 (n * 9 + e) = if e = i then m4 38 (n * 9 + i) else m2 38 (n * 9 + e)
          by_cases q : e = i
          · rw [if_pos q, q]
          · rw [if_neg q]
            exact ag4 n e (by omega) (by omega) q
        rw [eq]
        have col : (fun n => (gh_u m4 38 (gm_o G r * 9 + i) (min (m4 38 (gm_o G r * 9 + i)) (gw_F G (m 26 3) (m 27) (m 21) k i (fun n e => m2 38 (n * 9 + e)) r (fun n => m4 38 (n * 9 + i))))) 38 (n * 9 + i)) = gm_upd (fun n => m4 38 (n * 9 + i)) (gm_o G r) (min (m4 38 (gm_o G r * 9 + i)) (gw_F G (m 26 3) (m 27) (m 21) k i (fun n e => m2 38 (n * 9 + e)) r (fun n => m4 38 (n * 9 + i)))) := by
          funext n
          unfold gm_upd
          by_cases q : n = gm_o G r
          · rw [if_pos q, q, gh_u_s]
          · rw [if_neg q, gh_u_i (by omega)]
        refine ⟨by omega, by omega, by omega, ⟨by omega, by omega, gx_u hx4 (List.mem_singleton.mpr rfl), fun n e e0 e1 ne => ?_, ?_⟩, by (try dsimp only); omega⟩
        · rw [gh_u_i (by omega)]
          exact ag4 n e e0 e1 ne
        · rw [col]
          exact gf_ps_s sys s1 s2 lr r0 c5 ps
    · have er : r = gm_R G := by omega
      rw [er] at ps
      rcases lc with lc | lc
      · refine Or.inl (fun n n0 n1 => ?_)
        have a := ps.2.2.1 n n0 n1
        have b := ps.2.1 S s1 s2 n n0 n1
        have c := lc n n0 n1
        dsimp only at a b
        omega
      · rcases gf_ps_e sys tri s1 s2 s3 lr ls ps with q | q
        · refine Or.inl (fun n n0 n1 => ?_)
          have a := ps.2.2.1 n n0 n1
          have b := ps.2.1 S s1 s2 n n0 n1
          have c := q n n0 n1
          dsimp only at a b c
          omega
        · right
          have q2 : gct (fun n => decide (m3 38 (n * 9 + i) = S n)) (gm_N G).toNat < gct (fun n => decide (m4 38 (n * 9 + i) = S n)) (gm_N G).toNat := q
          omega
  · rw [ag n k k0 (by omega) (by omega)]
    exact hk n n0 n1
  · rw [ag n e e0 (by omega) (by omega)]
    exact hf n e n0 n1 e0 (by omega)
  · have all : ∀ n, 0 ≤ n → n < gm_N G → m3 38 (n * 9 + i) = S n := by
      rcases lc with lc | lc
      · exact lc
      · exact fun n n0 n1 => of_decide_eq_true (gct_full (p := fun n => decide (m3 38 (n * 9 + i) = S n)) (gm_N G).toNat (by omega) n n0 (by omega))
    by_cases q : e = i
    · rw [q]
      refine gw_fin_cg hG (P := fun n e => if e = i then m3 38 (n * 9 + i) else m2 38 (n * 9 + e)) (fun n e e0 e1 => ?_) i1 ?_
      · by_cases q2 : e = i
        · rw [if_pos q2, q2]
        · rw [if_neg q2]
          exact (ag n e (by omega) (by omega) q2).symm
      · have ef : ∀ r L, 0 ≤ r → r < gm_R G → gw_F G (m 26 3) (m 27) (m 21) k i (fun n e => if e = i then m3 38 (n * 9 + i) else m2 38 (n * 9 + e)) r L = gw_F G (m 26 3) (m 27) (m 21) k i (fun n e => m2 38 (n * 9 + e)) r L := fun r L r0 r1 => gw_F_cg hG r0 r1 (fun n e e0 e1 => if_neg (by omega))
        have ec : (fun n => if i = i then m3 38 (n * 9 + i) else m2 38 (n * 9 + i)) = fun n => m3 38 (n * 9 + i) := funext (fun n => if_pos rfl)
        unfold gw_fin
        rw [ec]
        refine ⟨lr, fun r r0 r1 => ?_, fun Z z1 z2 => ls Z z1 (fun r r0 r1 => ?_)⟩
        · rw [ef r _ r0 r1]
          obtain ⟨p1, p2⟩ := sys.1 r r0 r1
          have a := s2 r r0 r1
          have b := sys.2.2 r S (fun n => m3 38 (n * 9 + i)) r0 r1 s1 lr (fun n n0 n1 => by have := all n n0 n1; (try dsimp only); omega)
          have c := all _ p1 p2
          try dsimp only
          omega
        · rw [← ef r _ r0 r1]
          exact z2 r r0 r1
    · exact gw_fin_cg hG (P := fun n e => m2 38 (n * 9 + e)) (fun n e' e0' e1' => (ag n e' (by omega) (by omega) (by omega)).symm) e1 (hd e (by omega) e1)

