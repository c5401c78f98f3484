/-! WANTED LETTERS: the equality -/
theorem gw_Fle {G : gm_G} {z : Int} {t : Int → Int} {S : Int → Int} {k i : Int} {P : Int → Int → Int} {r w : Int} {L : Int → Int} (w0 : 0 ≤ w) (h : gw_A G z t S k (fun n e => if e = i then L n else P n e) r i (gm_s G r) w) : gw_F G z t S k i P r L ≤ w :=
  (gmn_sp (A := gw_A G z t S k (fun n e => if e = i then L n else P n e) r i (gm_s G r)) (K := 16777216) (by decide)).2.2.2 w w0 h
/-- behind a beginning that ends at k, the rest is wanted -/
theorem gw_Y {G : gm_G} (hG : gm_ok G) {z : Int} {t : Int → Int} {S : Int → Int} (s1 : gm_Lr G S) (s2 : gm_Lcl G S) {k : Int} {P : Int → Int → Int} (hP : gw_P G z t S k P) {r d i : Int} (r0 : 0 ≤ r) (r1 : r < gm_R G) (d0 : 0 ≤ d) (d1 : d ≤ gm_s G r) (i0 : 0 ≤ i) (i1 : i ≤ k) (h : gt_row G z t (gt_M G z t) r d i k) : P (gm_o G r) i ≤ gm_lr G S r d := by
  obtain ⟨p1, p2, p3, p4, p5⟩ := hG.2.2.2.2.1 r r0 r1
  have lr := gm_lr_0 hG s1 r0 r1 d0
  by_cases c : i = k
  · rw [c, hP.1 _ p1 p2]
    rw [c] at h
    have h1 := gt_row_least hG s1 s2 r0 r1 d.toNat k (by omega) h
    have e : ((d.toNat : Nat) : Int) = d := by omega
    rw [e] at h1
    have h2 := s2 r r0 r1
    unfold gm_lr at h2 ⊢
    omega
  · have dd : 1 ≤ d := Classical.byContradiction (fun y => by
      have : d = 0 := by omega
      rw [this, gt_row_0] at h
      exact c h)
    have cl := (hP.2 i i0 (by omega)).2.1 r r0 r1
    have le := gw_Fle (G := G) (z := z) (t := t) (S := S) (k := k) (i := i) (P := P) (r := r) (w := gm_lr G S r d) (L := fun n => P n i) lr.1 ⟨d - 1, by omega, by omega, Or.inr ⟨by rw [show d - 1 + 1 = d by omega]; exact h, by rw [show d - 1 + 1 = d by omega]⟩⟩
    exact Int.le_trans cl le
theorem gw_X {G : gm_G} (hG : gm_ok G) {z : Int} {t : Int → Int} {S : Int → Int} (s1 : gm_Lr G S) (s2 : gm_Lcl G S) {k : Int} {P : Int → Int → Int} (hP : gw_P G z t S k P) {r d i j : Int} (r0 : 0 ≤ r) (r1 : r < gm_R G) (d0 : 0 ≤ d) (d1 : d < gm_s G r) (hn : gm_n G r d ≠ -1) (i0 : 0 ≤ i) (ij : i ≤ j) (jk : j ≤ k) (h : gt_row G z t (gt_M G z t) r d i j) : P (gm_o G r) i ≤ gm_lr G S r (d + 1) + P (gm_n G r d) j := by
  have nn := gm_n_rng hG r0 r1 d0 d1
  have lr := gm_lr_0 hG s1 r0 r1 (a := d + 1) (by omega)
  by_cases c : j = k
  · rw [c] at h
    have h1 := gw_Y hG s1 s2 hP r0 r1 d0 (by omega) i0 (by omega) h
    have h2 := gm_lr_S hG s1 r0 r1 d0 d1 hn
    rw [c, hP.1 _ (by omega) (by omega)]
    omega
  · have fin := hP.2 i i0 (by omega)
    have pj := (hP.2 j (by omega) (by omega)).1 (gm_n G r d) (by omega) (by omega)
    have pj2 : 0 ≤ P (gm_n G r d) j := pj.1
    have le := gw_Fle (G := G) (z := z) (t := t) (S := S) (k := k) (i := i) (P := P) (r := r) (w := P (gm_n G r d) j + gm_lr G S r (d + 1)) (L := fun n => P n i) (by omega) ⟨d, d0, d1, Or.inl ⟨j, ij, by omega, hn, h, by
      dsimp only
      by_cases q : j = i
      · rw [if_pos q, q]
      · rw [if_neg q]⟩⟩
    have cl := fin.2.1 r r0 r1
    have cl2 : P (gm_o G r) i ≤ gw_F G z t S k i P r (fun n => P n i) := cl
    omega
