/-! WANTED LETTERS: the equality -/
theorem gw_Fle {G : gm_G} {z : Int} {t : Int → Int} {S : Int → Int} {k i : Int} {P : Int → Int → Int} {r w : Int} {L : Int → Int} (w0 : 0 ≤ w) (h : gw_A G z t S k (fun n e => if e = i then L n else P n e) r i (gm_s G r) w) : gw_F G z t S k i P r L ≤ w :=
  (gmn_sp (A := gw_A G z t S k (fun n e => if e = i then L n else P n e) r i (gm_s G r)) (K := 16777216) (by decide)).2.2.2 w w0 h
/-- behind a beginning that ends at k, the rest is wanted -/
theorem gw_Y {G : gm_G} (hG : gm_ok G) {z : Int} {t : Int → Int} {S : Int → Int} (s1 : gm_Lr G S) (s2 : gm_Lcl G S) {k : Int} {P : Int → Int → Int} (hP : gw_P G z t S k P) {r d i : Int} (r0 : 0 ≤ r) (r1 : r < gm_R G) (d0 : 0 ≤ d) (d1 : d ≤ gm_s G r) (i0 : 0 ≤ i) (i1 : i ≤ k) (h : gt_row G z t (gt_M G z t) r d i k) : P (gm_o G r) i ≤ gm_lr G S r d := by
  obtain ⟨p1, p2, p3, p4, p5⟩ := hG.2.2.2.2.1 r r0 r1
  have lr := gm_lr_0 hG s1 r0 r1 d0
  by_cases c : i = k
  · rw [c, hP.1 _ p1 p2]
    rw [c] at h
    have h1 := gt_row_least hG s1 s2 r0 r1 d.toNat k (by omega) h
    have e : ((d.toNat : Nat) : Int) = d := by omega
    rw [e] at h1
    have h2 := s2 r r0 r1
    unfold gm_lr at h2 ⊢
    omega
  · have dd : 1 ≤ d := Classical.byContradiction (fun y => by
      have : d = 0 := by omega
      rw [this, gt_row_0] at h
      exact c h)
    have cl := (hP.2 i i0 (by omega)).2.1 r r0 r1
    have le := gw_Fle (G := G) (z := z) (t := t) (S := S) (k := k) (i := i) (P := P) (r := r) (w := gm_lr G S r d) (L := fun n => P n i) lr.1 ⟨d - 1, by omega, by omega, Or.inr ⟨by rw [show d - 1 + 1 = d by omega]; exact h, by rw [show d - 1 + 1 = d by omega]⟩⟩
    exact Int.le_trans cl le
theorem gw_X {G : gm_G} (hG : gm_ok G) {z : Int} {t : Int → Int} {S : Int → Int} (s1 : gm_Lr G S) (s2 : gm_Lcl G S) {k : Int} {P : Int → Int → Int} (hP : gw_P G z t S k P) {r d i j : Int} (r0 : 0 ≤ r) (r1 : r < gm_R G) (d0 : 0 ≤ d) (d1 : d < gm_s G r) (hn : gm_n G r d ≠ -1) (i0 : 0 ≤ i) (ij : i ≤ j) (jk : j ≤ k) (h : gt_row G z t (gt_M G z t) r d i j) : P (gm_o G r) i ≤ gm_lr G S r (d + 1) + P (gm_n G r d) j := by
  have nn := gm_n_rng hG r0 r1 d0 d1
  have lr := gm_lr_0 hG s1 r0 r1 (a := d + 1) (by omega)
  by_cases c : j = k
  · rw [c] at h
    have h1 := gw_Y hG s1 s2 hP r0 r1 d0 (by omega) i0 (by omega) h
    have h2 := gm_lr_S hG s1 r0 r1 d0 d1 hn
    rw [c, hP.1 _ (by omega) (by omega)]
    omega
  · have fin := hP.2 i i0 (by omega)
    have pj := (hP.2 j (by omega) (by omega)).1 (gm_n G r d) (by omega) (by omega)
    have pj2 : 0 ≤ P (gm_n G r d) j := pj.1
    have le := gw_Fle (G := G) (z := z) (t := t) (S := S) (k := k) (i := i) (P := P) (r := r) (w := P (gm_n G r d) j + gm_lr G S r (d + 1)) (L := fun n => P n i) (by omega) ⟨d, d0, d1, Or.inl ⟨j, ij, by omega, hn, h, by
      dsimp only
      by_cases q : j = i
      · rw [if_pos q, q]
      · rw [if_neg q]⟩⟩
    have cl := fin.2.1 r r0 r1
    have cl2 : P (gm_o G r) i ≤ gw_F G z t S k i P r (fun n => P n i) := cl
    omega
def gw_Z (N k : Int) (f : Int → Int → Int) (x : Int) : Int := if x / 9 < N ∧ x % 9 ≤ k then f (x / 9) (x % 9) else 0
theorem gw_Z_at {N k : Int} {f : Int → Int → Int} {n j : Int} (n1 : n < N) (j0 : 0 ≤ j) (j1 : j ≤ k) (k8 : k ≤ 8) : gw_Z N k f (9 * n + j) = f n j := by
  have e1 : (9 * n + j) / 9 = n := by omega
  have e2 : (9 * n + j) % 9 = j := by omega
  unfold gw_Z
  rw [e1, e2, if_pos ⟨n1, j1⟩]
theorem gw_Z_r {N k : Int} {f : Int → Int → Int} (h : ∀ n j, 0 ≤ n → n < N → 0 ≤ j → j ≤ k → 0 ≤ f n j ∧ f n j ≤ 1000000000) : gv_r (gw_Z N k f) := by
  intro x x0 x1
  unfold gw_Z
  split
  · next e => exact h _ _ (by omega) e.1 (by omega) e.2
  · decide
theorem gw_eq {G : gm_G} (hG : gm_ok G) {z : Int} {t : Int → Int} {S M W : Int → Int} (s1 : gm_Lr G S) (s2 : gm_Lcl G S) (s3 : gm_Lso G S) (hM : ∀ i, 0 ≤ i → i < gm_N G → M i = gm_mv (S i)) {k : Int} (k0 : 0 ≤ k) (k1 : k ≤ z) (z8 : z ≤ 8) {P : Int → Int → Int} (hP : gw_P G z t S k P) (w1 : gv_r W) (w0 : W 0 = 0) (w2 : gv_cl G z t M k (fun _ _ _ => True) W) (w3 : gv_so G z t M k W) : gmn (gv_B G z t M k W (fun _ _ _ => True)) 1000000000 = gm_mv (P 0 0) := by
  have hN0 := hG.1
  have hN := hG.2.1
  have pb : ∀ n i, 0 ≤ n → n < gm_N G → 0 ≤ i → i ≤ k → 0 ≤ P n i ∧ P n i ≤ 16777216 := fun n i n0 n1 i0 i1 => by
    by_cases c : i = k
    · rw [c, hP.1 n n0 n1]
      exact s1 n n0 n1
    · exact (hP.2 i i0 (by omega)).1 n n0 n1
  have pf : ∀ n i, 0 ≤ n → n < gm_N G → 0 ≤ i → i ≤ k → P n i < 16777216 → P n i ≤ 12648448 := fun n i n0 n1 i0 i1 h => by
    have := gw_bd hG s1 s2 s3 hP (k - i).toNat i i0 (by omega) n n0 n1 h
    have b := gf_bnd_le (B := 65536) (C := 196608) (by decide) (8 * (k - i).toNat) 64 (by omega)
    have e : gf_bnd 65536 196608 64 = 12648448 := by decide
    omega
  have rm : ∀ r a, 0 ≤ r → r < gm_R G → 0 ≤ a → 0 ≤ gm_lr G S r a ∧ gm_lr G S r a ≤ 16777216 ∧ (gm_lr G S r a < 16777216 → gm_lr G S r a ≤ 262144) ∧ gm_lk 1000000000 G M r a = gm_mv (gm_lr G S r a) := fun r a r0 r1 a0 => by
    have h1 := gm_lr_0 hG s1 r0 r1 a0
    have h2 := gm_rowM hG s1 s2 s3 hM r0 r1 a0
    exact ⟨h1.1, h1.2, h2.1, h2.2⟩
  have mvt : ∀ v, v < 16777216 → gm_mv v = v := fun v h => if_pos h
  have mvf : ∀ v, ¬ v < 16777216 → gm_mv v = 1000000000 := fun v h => if_neg h
  obtain ⟨g1, g2, g3, g4⟩ := gmn_sp (A := gv_B G z t M k W (fun _ _ _ => True)) (K := 1000000000) (by decide)
  have p00 := pb 0 0 (by omega) (by omega) (by omega) k0
  by_cases fin : P 0 0 < 16777216
  · rw [mvt _ fin]
    -- not less
    have A : P 0 0 ≤ gmn (gv_B G z t M k W (fun _ _ _ => True)) 1000000000 := by
      have zat : ∀ n j, n < gm_N G → 0 ≤ j → j ≤ k → gw_Z (gm_N G) k (fun n j => max 0 (P 0 0 - P n j)) (9 * n + j) = max 0 (P 0 0 - P n j) := fun n j a b c => gw_Z_at a b c (by omega)
      have zw := w3 (gw_Z (gm_N G) k (fun n j => max 0 (P 0 0 - P n j))) (gw_Z_r (fun n j n0 n1 j0 j1 => by have := pb n j n0 n1 j0 j1; (try dsimp only); omega)) (by
        have := zat 0 0 (by omega) (by omega) k0
        have e : (9 * 0 + 0 : Int) = 0 := rfl
        rw [e] at this
        rw [this]
        omega) (fun r d i j r0 r1 d0 d1 _ hn i0 ij jk row => by
          have nn := gm_n_rng hG r0 r1 d0 d1
          obtain ⟨p1, p2, _⟩ := hG.2.2.2.2.1 r r0 r1
          rw [zat _ _ (by omega) (by omega) jk, zat _ _ p2 i0 (by omega)]
          obtain ⟨l1, l2, l3, l4⟩ := rm r (d + 1) r0 r1 (by omega)
          have x := gw_X hG s1 s2 hP r0 r1 d0 d1 hn i0 ij jk row
          have b1 := pb (gm_n G r d) j (by omega) (by omega) (by omega) jk
          rw [l4]
          unfold gm_mv
          split <;> omega)
      rcases g3 with e | ⟨r, d, i, r0, r1, d0, d1, i0, i1, _, row, e⟩
      · omega
      · obtain ⟨p1, p2, _⟩ := hG.2.2.2.2.1 r r0 r1
        have y := gw_Y hG s1 s2 hP r0 r1 d0 d1 i0 i1 row
        have zz := zw (9 * gm_o G r + i) (by omega) (by omega)
        rw [zat _ _ p2 i0 i1] at zz
        obtain ⟨l1, l2, l3, l4⟩ := rm r d r0 r1 d0
        rw [l4] at e
        unfold gm_mv at e
        split at e <;> omega
    -- not more
    have B : min (gmn (gv_B G z t M k W (fun _ _ _ => True)) 1000000000) 16777216 ≤ P 0 0 := by
      have key : ∀ (c : Nat) (i : Int), 0 ≤ i → i + c = k → ∀ n, 0 ≤ n → n < gm_N G → max 0 (min (gmn (gv_B G z t M k W (fun _ _ _ => True)) 1000000000) 16777216 - W (9 * n + i)) ≤ P n i := by
        intro c
        induction c using Nat.strongRecOn with
        | _ c ih =>
          intro i i0 ik n n0 n1
          by_cases c0 : c = 0
          · have ei : i = k := by omega
            rw [ei, hP.1 n n0 n1]
            have sb := s1 n n0 n1
            by_cases q : S n < 16777216
            · obtain ⟨r, r0, r1, r2, r3, r4⟩ := gm_L_step hG s1 s2 s3 (L := gm_upd S n 16777216) (fun j j0 j1 => by
                have := s1 j j0 j1
                unfold gm_upd
                split <;> omega) (fun j j0 j1 => by
                have := s1 j j0 j1
                unfold gm_upd
                split
                · next e => rw [e]; omega
                · exact Int.le_refl _) n0 n1 (by unfold gm_upd; rw [if_pos rfl]; omega)
              have er : gm_o G r = n := Classical.byContradiction (fun y => r2 (if_neg y))
              obtain ⟨l1, l2, l3, l4⟩ := rm r 0 r0 r1 (by omega)
              obtain ⟨p1, p2, p3, _⟩ := hG.2.2.2.2.1 r r0 r1
              have cand := g4 (min (gm_lk 1000000000 G M r 0 + W (9 * gm_o G r + k)) 1000000000) (by have := w1 (9 * gm_o G r + k) (by omega) (by omega); rw [l4]; unfold gm_mv; split <;> omega) ⟨r, 0, k, r0, r1, by omega, p3, k0, Int.le_refl _, trivial, rfl, rfl⟩
              rw [l4, er, ← r3, er, mvt _ q] at cand
              omega
            · have := w1 (9 * n + k) (by omega) (by omega)
              omega
          · have ik2 : i < k := by omega
            obtain ⟨f1, f2, f3⟩ := hP.2 i i0 ik2
            refine f3 (fun n => max 0 (min (gmn (gv_B G z t M k W (fun _ _ _ => True)) 1000000000) 16777216 - W (9 * n + i))) (fun j j0 j1 => ?_) (fun r r0 r1 => ?_) n n0 n1
            · have := w1 (9 * j + i) (by omega) (by omega)
              dsimp only
              omega
            · obtain ⟨p1, p2, p3, _⟩ := hG.2.2.2.2.1 r r0 r1
              have wo := w1 (9 * gm_o G r + i) (by omega) (by omega)
              rw [gw_F_eq (by omega)]
              obtain ⟨a1, a2, a3, a4⟩ := gmn_sp (A := fun w => ∃ a, gw_In G z t k r i a ∧ w = gw_val G S k (fun n e => if e = i then max 0 (min (gmn (gv_B G z t M k W (fun _ _ _ => True)) 1000000000) 16777216 - W (9 * n + i)) else P n e) r a) (K := 16777216) (by decide)
              rcases a3 with e | ⟨a, ⟨h1, h2, h3, h4, h5, h6⟩, e⟩
              · dsimp only
                rw [e]
                omega
              · dsimp only
                rw [e]
                obtain ⟨l1, l2, l3, l4⟩ := rm r (a.1 + 1) r0 r1 (by omega)
                unfold gw_val
                by_cases q : a.2 < k
                · have nn := gm_n_rng hG r0 r1 h1 h2
                  obtain ⟨n2, row⟩ := h5 q
                  have wc := w2 r a.1 i a.2 r0 r1 h1 h2 trivial n2 i0 h3 (by omega) row
                  have wa := w1 (9 * gm_n G r a.1 + a.2) (by omega) (by omega)
                  rw [l4] at wc
                  rw [if_pos q]
                  dsimp only
                  have vv : max 0 (min (gmn (gv_B G z t M k W (fun _ _ _ => True)) 1000000000) 16777216 - W (9 * gm_n G r a.1 + a.2)) ≤ (if a.2 = i then max 0 (min (gmn (gv_B G z t M k W (fun _ _ _ => True)) 1000000000) 16777216 - W (9 * gm_n G r a.1 + i)) else P (gm_n G r a.1) a.2) := by
                    by_cases q2 : a.2 = i
                    · rw [if_pos q2, q2]
                      exact Int.le_refl _
                    · rw [if_neg q2]
                      exact ih (k - a.2).toNat (by omega) a.2 (by omega) (by omega) _ (by omega) (by omega)
                  by_cases q3 : gm_lr G S r (a.1 + 1) < 16777216
                  · rw [mvt _ q3] at wc
                    omega
                  · omega
                · have ek : a.2 = k := by omega
                  have row := h6 ek
                  rw [if_neg q]
                  have cand := g4 (min (gm_lk 1000000000 G M r (a.1 + 1) + W (9 * gm_o G r + i)) 1000000000) (by rw [l4]; unfold gm_mv; split <;> omega) ⟨r, a.1 + 1, i, r0, r1, by omega, by omega, i0, by omega, trivial, row, rfl⟩
                  rw [l4] at cand
                  by_cases q3 : gm_lr G S r (a.1 + 1) < 16777216
                  · rw [mvt _ q3] at cand
                    omega
                  · omega
      have := key k.toNat 0 (by omega) (by omega) 0 (by omega) (by omega)
      have e : (9 * 0 + 0 : Int) = 0 := rfl
      rw [e, w0] at this
      omega
    omega
  · rw [mvf _ fin]
    have zat : ∀ n j, n < gm_N G → 0 ≤ j → j ≤ k → gw_Z (gm_N G) k (fun n j => if P n j < 16777216 then 1000000000 else 0) (9 * n + j) = if P n j < 16777216 then 1000000000 else 0 := fun n j a b c => gw_Z_at a b c (by omega)
    have zw := w3 (gw_Z (gm_N G) k (fun n j => if P n j < 16777216 then 1000000000 else 0)) (gw_Z_r (fun n j n0 n1 j0 j1 => by (try dsimp only); split <;> decide)) (by
      have := zat 0 0 (by omega) (by omega) k0
      have e : (9 * 0 + 0 : Int) = 0 := rfl
      rw [e, if_neg fin] at this
      rw [this]
      decide) (fun r d i j r0 r1 d0 d1 _ hn i0 ij jk row => by
        have nn := gm_n_rng hG r0 r1 d0 d1
        obtain ⟨p1, p2, _⟩ := hG.2.2.2.2.1 r r0 r1
        rw [zat _ _ (by omega) (by omega) jk, zat _ _ p2 i0 (by omega)]
        obtain ⟨l1, l2, l3, l4⟩ := rm r (d + 1) r0 r1 (by omega)
        have x := gw_X hG s1 s2 hP r0 r1 d0 d1 hn i0 ij jk row
        have b1 := pf (gm_n G r d) j (by omega) (by omega) (by omega) jk
        rw [l4]
        unfold gm_mv
        by_cases c1 : P (gm_n G r d) j < 16777216
        · rw [if_pos c1]
          by_cases c2 : gm_lr G S r (d + 1) < 16777216
          · rw [if_pos c2, if_pos (by have := b1 c1; have := l3 c2; omega)]
            omega
          · rw [if_neg c2]
            split <;> omega
        · rw [if_neg c1]
          split <;> split <;> omega)
    rcases g3 with e | ⟨r, d, i, r0, r1, d0, d1, i0, i1, _, row, e⟩
    · exact e
    · obtain ⟨p1, p2, _⟩ := hG.2.2.2.2.1 r r0 r1
      have y := gw_Y hG s1 s2 hP r0 r1 d0 d1 i0 i1 row
      have zz := zw (9 * gm_o G r + i) (by omega) (by omega)
      rw [zat _ _ p2 i0 i1] at zz
      have wo := w1 (9 * gm_o G r + i) (by omega) (by omega)
      obtain ⟨l1, l2, l3, l4⟩ := rm r d r0 r1 d0
      rw [l4] at e
      by_cases c2 : gm_lr G S r d < 16777216
      · rw [mvt _ c2] at e
        rw [if_pos (by omega)] at zz
        omega
      · rw [mvf _ c2] at e
        omega
