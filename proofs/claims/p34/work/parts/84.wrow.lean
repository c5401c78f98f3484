/-! WANTED LETTERS: a rule's row, the class's way -/
def gw_mn (A : Int → Prop) (v K : Int) : Prop := 0 ≤ v ∧ v ≤ K ∧ (v = K ∨ A v) ∧ ∀ w, 0 ≤ w → A w → v ≤ w
theorem gw_mn_0 {A : Int → Prop} {K : Int} (hK : 0 ≤ K) (h : ∀ w, ¬ A w) : gw_mn A K K := ⟨hK, Int.le_refl _, Or.inl rfl, fun w _ a => absurd a (h w)⟩
theorem gw_mn_cg {A B : Int → Prop} {v K : Int} (h : ∀ w, A w ↔ B w) (hm : gw_mn A v K) : gw_mn B v K :=
  ⟨hm.1, hm.2.1, hm.2.2.1.imp id (h v).mp, fun w w0 b => hm.2.2.2 w w0 ((h w).mpr b)⟩
theorem gw_mn_add {A B : Int → Prop} {v x K : Int} (x0 : 0 ≤ x) (h : ∀ w, B w ↔ A w ∨ w = x) (hm : gw_mn A v K) : gw_mn B (min v x) K := by
  obtain ⟨h1, h2, h3, h4⟩ := hm
  refine ⟨by omega, by omega, ?_, fun w w0 b => ?_⟩
  · by_cases c : v ≤ x
    · have e : min v x = v := by omega
      rw [e]
      exact h3.imp id (fun y => (h v).mpr (Or.inl y))
    · have e : min v x = x := by omega
      rw [e]
      exact Or.inr ((h x).mpr (Or.inr rfl))
  · rcases (h w).mp b with y | y
    · have := h4 w w0 y
      omega
    · omega
theorem gw_mn_eq {A : Int → Prop} {v K : Int} (h : gw_mn A v K) : v = gmn A K := gmn_uniq (by have := h.1; have := h.2.1; omega) h.2.1 h.1 h.2.2.1 (fun w w0 _ b => h.2.2.2 w w0 b)
/-- what a row wants from i on, if its part d goes on beyond the first k letters, or is the last within -/
def gw_a (G : gm_G) (z : Int) (t : Int → Int) (S : Int → Int) (k : Int) (V : Int → Int → Int) (r i d e w : Int) : Prop := gm_n G r d ≠ -1 ∧ gt_row G z t (gt_M G z t) r d i e ∧ w = V (gm_n G r d) e + gm_lr G S r (d + 1)
def gw_A (G : gm_G) (z : Int) (t : Int → Int) (S : Int → Int) (k : Int) (V : Int → Int → Int) (r i d w : Int) : Prop := ∃ c, 0 ≤ c ∧ c < d ∧ ((∃ e, i ≤ e ∧ e < k ∧ gw_a G z t S k V r i c e w) ∨ (gt_row G z t (gt_M G z t) r (c + 1) i k ∧ w = gm_lr G S r (c + 1)))
theorem gw_A_s {G : gm_G} {z : Int} {t : Int → Int} {S : Int → Int} {k : Int} {V : Int → Int → Int} {r i d w : Int} (d0 : 0 ≤ d) : gw_A G z t S k V r i (d + 1) w ↔ gw_A G z t S k V r i d w ∨ ((∃ e, i ≤ e ∧ e < k ∧ gw_a G z t S k V r i d e w) ∨ (gt_row G z t (gt_M G z t) r (d + 1) i k ∧ w = gm_lr G S r (d + 1))) := by
  constructor
  · rintro ⟨c, c0, c1, h⟩
    by_cases e : c = d
    · rw [e] at h
      exact Or.inr h
    · exact Or.inl ⟨c, c0, by omega, h⟩
  · rintro (⟨c, c0, c1, h⟩ | h)
    · exact ⟨c, c0, by omega, h⟩
    · exact ⟨d, d0, by omega, h⟩
/-- behind a beginning that makes nothing there is none -/
theorem gt_row_none {G : gm_G} {z : Int} {t : Int → Int} {A : Int → Int → Int → Prop} {r i d : Int} (d0 : 0 ≤ d) (h : ∀ q, ¬ gt_row G z t A r d i q) : ∀ c, d ≤ c → ∀ q, ¬ gt_row G z t A r c i q := by
  have st : ∀ (k : Nat) q, ¬ gt_row G z t A r (d + k) i q := by
    intro k
    induction k with
    | zero =>
      intro q y
      have e : d + ((0 : Nat) : Int) = d := by omega
      rw [e] at y
      exact h q y
    | succ k ih =>
      intro q y
      have ee : d + ((k + 1 : Nat) : Int) = (d + k) + 1 := by omega
      rw [ee, gt_row_s (by omega)] at y
      obtain ⟨p, y1, _⟩ := y
      exact ih p y1
  intro c dc q
  have e : c = d + ((c - d).toNat : Nat) := by omega
  rw [e]
  exact st _ q
theorem gw_byRow {m : gh_M} {G : gm_G} {Q : Int → Prop} (hG : gm_ok G) (hC : gm_C m G) (ht : gt_t m) (hs : gt_full G m) (hL : gm_Lr G (m 21)) {r i k : Int} (r0 : 0 ≤ r) (r1 : r < gm_R G) (i0 : 0 ≤ i) (ik : i < k) (k1 : k ≤ m 26 3) (hV : ∀ n e, 0 ≤ n → n < gm_N G → i ≤ e → e < k → 0 ≤ m 38 (n * 9 + e) ∧ m 38 (n * 9 + e) ≤ 16777216) (h : Q (gmn (gw_A G (m 26 3) (m 27) (m 21) k (fun n e => m 38 (n * 9 + e)) r i (gm_s G r)) 16777216)) : w_Wants_wantedByRow r i k m Q := by
  have hN := hG.2.1
  have hR := hG.2.2.2.1
  obtain ⟨p1, p2, p3, p4, p5⟩ := hG.2.2.2.2.1 r r0 r1
  have ht2 := ht.2.1
  have e2 := (hC.2.2 r r0 r1).2.1
  have b1 : gbs 9 (gh_ishl_f 1 i) := gbs_one i0 (by omega) (by decide)
  have rng : ∀ d q, gt_row G (m 26 3) (m 27) (gt_M G (m 26 3) (m 27)) r d i q → i ≤ q ∧ q ≤ m 26 3 := fun d q y => gt_row_M hG (by omega) y
  unfold w_Wants_wantedByRow
  rintro _ rfl
  refine ⟨fun v P d => 0 ≤ d ∧ d ≤ gm_s G r ∧ gbs 9 P ∧ (∀ q, 0 ≤ q → (gb P q ↔ gt_row G (m 26 3) (m 27) (gt_M G (m 26 3) (m 27)) r d i q)) ∧ gw_mn (gw_A G (m 26 3) (m 27) (m 21) k (fun n e => m 38 (n * 9 + e)) r i d) v 16777216, fun _ _ d => (10 - d).toNat, ⟨by omega, p3, b1, fun q q0 => ?_, gw_mn_0 (by decide) (fun w ⟨c, c0, c1, _⟩ => by omega)⟩, ?_⟩
  · rw [gb_ishl1 i0 (by omega) q0, gt_row_0]
    exact eq_comm
  rintro v P d ⟨d0, d1, hP1, hP2, hm⟩
  unfold f_Wants_wantedByRow_12
  rw [e2]
  refine ⟨r0, by omega, fun c => ?_, fun c => ?_⟩
  · have fin : gw_mn (gw_A G (m 26 3) (m 27) (m 21) k (fun n e => m 38 (n * 9 + e)) r i (gm_s G r)) v 16777216 := by
      by_cases ed : d = gm_s G r
      · rw [← ed]
        exact hm
      · have p0 : P = 0 := by omega
        have none := gt_row_none (c := d) d0 (fun q y => by
          have rg := rng d q y
          have := (hP2 q (by omega)).mpr y
          rw [p0] at this
          exact gb_0 q this)
        have none2 := gt_row_none (A := gt_M G (m 26 3) (m 27)) (G := G) (z := m 26 3) (t := m 27) (r := r) (i := i) (d := d) d0 (fun q y => by
          have rg := rng d q y
          have := (hP2 q (by omega)).mpr y
          rw [p0] at this
          exact gb_0 q this)
        refine gw_mn_cg (fun w => ⟨fun ⟨c, c0, c1, y⟩ => ⟨c, c0, by omega, y⟩, fun yy => ?_⟩) hm
        obtain ⟨c, c0, c1, y⟩ := yy
        by_cases q : c < d
        · exact ⟨c, c0, q, y⟩
        · rcases y with ⟨e, _, _, _, y, _⟩ | ⟨y, _⟩
          · exact absurd y (none2 c (by omega) e)
          · exact absurd y (none2 (c + 1) (by omega) k)
    rw [gw_mn_eq fin]
    exact h
  · have c1 : d < gm_s G r := by omega
    obtain ⟨k1', x1'⟩ := gm_nameAt hG hC r0 r1 d0 c1
    obtain ⟨k2', x2'⟩ := gm_partAt hG hC r0 r1 d0 c1
    refine ⟨k1', ?_⟩
    rintro _ rfl
    rw [x1']
    have lrb := gm_lr_0 hG hL r0 r1 (a := d + 1) (by omega)
    have nn := gm_n_rng hG r0 r1 d0 c1
    refine ⟨by omega, gm_leastOfRow hG hC hL r0 r1 (by omega) (by omega) ?_⟩
    refine ⟨fun v e => i ≤ e ∧ e ≤ k ∧ gw_mn (fun w => gw_A G (m 26 3) (m 27) (m 21) k (fun n e => m 38 (n * 9 + e)) r i d w ∨ ∃ e', i ≤ e' ∧ e' < e ∧ gw_a G (m 26 3) (m 27) (m 21) k (fun n e => m 38 (n * 9 + e)) r i d e' w) v 16777216, fun _ e => (20 - e).toNat, ⟨by omega, by omega, gw_mn_cg (fun w => ⟨Or.inl, fun y => y.elim id (fun ⟨e', y1, y2, _⟩ => by omega)⟩) hm⟩, ?_⟩
    rintro u e ⟨ie, ek, hu⟩
    unfold f_Wants_wantedByRow_60
    rw [x2']
    refine ⟨fun u' => gw_mn (fun w => gw_A G (m 26 3) (m 27) (m 21) k (fun n e => m 38 (n * 9 + e)) r i d w ∨ ∃ e', i ≤ e' ∧ e' < k ∧ gw_a G (m 26 3) (m 27) (m 21) k (fun n e => m 38 (n * 9 + e)) r i d e' w) u' 16777216, fun u' hu' => ⟨k2', ?_⟩, fun c2 => gw_mn_cg (fun w => or_congr Iff.rfl ⟨fun ⟨e', y1, y2, y⟩ => ⟨e', y1, by omega, y⟩, fun yy => ?_⟩) hu, fun c2 => ?_⟩
    · refine gt_beyond hG hC ht (gt_full_s hs) r0 r1 d0 c1 hP1 (fun W w1 w2 => ?_)
      have hW : ∀ q, 0 ≤ q → (gb W q ↔ gt_row G (m 26 3) (m 27) (gt_M G (m 26 3) (m 27)) r (d + 1) i q) := fun q q0 => by
        rw [w2 q q0, gt_row_s d0]
        have tm : ∀ p, gt_pm G (m 26 3) (m 27) (gt_tab G m) r d p q ↔ gt_pm G (m 26 3) (m 27) (gt_M G (m 26 3) (m 27)) r d p q := fun p =>
          ⟨gt_pm_mono (fun _ => (hs.2 _ _ _).mp), gt_pm_mono (fun _ => (hs.2 _ _ _).mpr)⟩
        constructor
        · rintro ⟨p, y1, y2, y3, y4⟩
          exact ⟨p, (hP2 p y1).mp y3, (tm p).mp y4⟩
        · rintro ⟨p, y1, y2⟩
          have := rng d p y1
          exact ⟨p, by omega, this.2, (hP2 p (by omega)).mpr y1, (tm p).mpr y2⟩
      have tst := gb_test0 (i := k) (gbs_le w1 (by decide : 9 ≤ 31)) (by omega) (by omega)
      refine ⟨fun u'' => gw_mn (gw_A G (m 26 3) (m 27) (m 21) k (fun n e => m 38 (n * 9 + e)) r i (d + 1)) u'' 16777216, fun u'' y => ⟨by omega, ⟨by omega, by omega, w1, hW, y⟩, by (try dsimp only); omega⟩, fun c3 => ?_, fun c3 => ?_⟩
      · have no : ¬ gt_row G (m 26 3) (m 27) (gt_M G (m 26 3) (m 27)) r (d + 1) i k := fun y => tst.mp c3 ((hW k (by omega)).mpr y)
        refine gw_mn_cg (fun w => ?_) hu'
        rw [gw_A_s d0]
        exact or_congr Iff.rfl ⟨Or.inl, fun y => y.elim id (fun y => absurd y.1 no)⟩
      · have yes : gt_row G (m 26 3) (m 27) (gt_M G (m 26 3) (m 27)) r (d + 1) i k := (hW k (by omega)).mp (Classical.byContradiction (fun y => c3 (tst.mpr y)))
        rintro _ rfl
        refine gw_mn_add lrb.1 (fun w => ?_) hu'
        rw [gw_A_s d0]
        constructor
        · rintro (y | y | y)
          · exact Or.inl (Or.inl y)
          · exact Or.inl (Or.inr y)
          · exact Or.inr y.2
        · rintro ((y | y) | y)
          · exact Or.inl y
          · exact Or.inr (Or.inl y)
          · exact Or.inr (Or.inr ⟨yes, y⟩)
    · obtain ⟨e', y1, y2, y⟩ := yy
      refine ⟨e', y1, ?_, y⟩
      rcases c2 with c2 | c2
      · omega
      · exact absurd c2 y.1
    · have c3 : e < k ∧ gm_n G r d ≠ -1 := by omega
      have tst := gb_test0 (i := e) (gbs_le hP1 (by decide : 9 ≤ 31)) (by omega) (by omega)
      have vb := hV (gm_n G r d) e (by omega) (by omega) ie c3.1
      refine ⟨fun u' => gw_mn (fun w => gw_A G (m 26 3) (m 27) (m 21) k (fun n e => m 38 (n * 9 + e)) r i d w ∨ ∃ e', i ≤ e' ∧ e' < e + 1 ∧ gw_a G (m 26 3) (m 27) (m 21) k (fun n e => m 38 (n * 9 + e)) r i d e' w) u' 16777216, fun u' y => ⟨by omega, ⟨by omega, by omega, y⟩, by (try dsimp only); omega⟩, fun c4 => ?_, fun c4 => ⟨by omega, by omega, by omega, by omega, by omega, ?_⟩⟩
      · refine gw_mn_cg (fun w => or_congr Iff.rfl ⟨fun ⟨e', y1, y2, y⟩ => ⟨e', y1, by omega, y⟩, fun yy => ?_⟩) hu
        obtain ⟨e', y1, y2, y⟩ := yy
        refine ⟨e', y1, ?_, y⟩
        by_cases q : e' = e
        · rw [q] at y
          exact absurd ((hP2 e (by omega)).mpr y.2.1) (tst.mp c4)
        · omega
      · have yes : gt_row G (m 26 3) (m 27) (gt_M G (m 26 3) (m 27)) r d i e := (hP2 e (by omega)).mp (Classical.byContradiction (fun y => c4 (tst.mpr y)))
        rintro _ rfl
        refine gw_mn_add (by omega) (fun w => ?_) hu
        constructor
        · rintro (y | ⟨e', y1, y2, y⟩)
          · exact Or.inl (Or.inl y)
          · by_cases q : e' = e
            · rw [q] at y
              exact Or.inr y.2.2
            · exact Or.inl (Or.inr ⟨e', y1, by omega, y⟩)
        · rintro ((y | ⟨e', y1, y2, y⟩) | y)
          · exact Or.inl y
          · exact Or.inr ⟨e', y1, by omega, y⟩
          · exact Or.inr ⟨e, ie, by omega, c3.2, yes, y⟩

