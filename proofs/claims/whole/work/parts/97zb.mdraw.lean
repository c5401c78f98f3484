/-! MADE TEXTS: the model draws -/
/-- the parts from a place on, the next one first -/
def gz_fw (a : Int → Int) (b : Int) : List Int → Prop
  | [] => True
  | p :: K => a b = p ∧ gz_fw a (b + 1) K
theorem gz_fw_mv {a c : Int → Int} : ∀ (L : List Int) (b e : Int), (∀ x : Int, 0 ≤ x → x < L.length → c (e + x) = a (b + x)) → gz_fw a b L → gz_fw c e L
  | [], _, _, _, _ => trivial
  | p :: K, b, e, h, ⟨h1, h2⟩ => by
    have l1 : ((p :: K).length : Int) = K.length + 1 := by
      show ((K.length + 1 : Nat) : Int) = _
      omega
    refine ⟨?_, gz_fw_mv K (b + 1) (e + 1) (fun x x0 x1 => ?_) h2⟩
    · have := h 0 (Int.le_refl _) (by omega)
      have e1 : e + 0 = e := by omega
      have e2 : b + 0 = b := by omega
      rw [e1, e2] at this
      exact this.trans h1
    · have := h (x + 1) (by omega) (by omega)
      have e1 : e + (x + 1) = e + 1 + x := by omega
      have e2 : b + (x + 1) = b + 1 + x := by omega
      rw [e1, e2] at this
      exact this
theorem gz_fw_app {a : Int → Int} {B : List Int} : ∀ (A : List Int) (b : Int), gz_fw a b A → gz_fw a (b + A.length) B → gz_fw a b (A ++ B)
  | [], b, _, h => by
    have e : b + (([] : List Int).length : Int) = b := by
      show b + ((0 : Nat) : Int) = b
      omega
    rw [e] at h
    exact h
  | p :: K, b, ⟨h1, h2⟩, h => by
    have e : b + ((p :: K).length : Int) = b + 1 + K.length := by
      show b + ((K.length + 1 : Nat) : Int) = _
      omega
    rw [e] at h
    exact ⟨h1, gz_fw_app K (b + 1) h2 h⟩
theorem gz_fw_pt {G : gm_G} {r : Int} {a : Int → Int} {b : Int} : ∀ c : Nat, (c : Int) ≤ gm_s G r → (∀ d, 0 ≤ d → d < gm_s G r → a (b + d) = gm_p G r d) → gz_fw a (b + (gm_s G r - c)) (gz_pt G r c)
  | 0, _, _ => trivial
  | c + 1, hc, h => by
    have e : b + (gm_s G r - ((c + 1 : Nat) : Int)) = b + (gm_s G r - ((c : Int) + 1)) := by omega
    have e2 : b + (gm_s G r - ((c : Int) + 1)) + 1 = b + (gm_s G r - c) := by omega
    rw [e]
    refine ⟨h _ (by omega) (by omega), ?_⟩
    rw [e2]
    exact gz_fw_pt c (by omega) h
theorem gz_replaceBy {G : gm_G} {m : gh_M} {Q : Int → gh_M → Prop} {pl r p : Int} {K : List Int} (hG : gm_ok G) (hD : gm_D m G) (r0 : 0 ≤ r) (r1 : r < gm_R G) (pl0 : 0 ≤ pl) (e82 : m 63 82 = pl + 1 + K.length) (len : pl + 1 + K.length ≤ 250) (fw : gz_fw (m 117) pl (p :: K)) (H : ∀ m2, gx [63, 117] m m2 → (∀ y, y ≠ 82 → m2 63 y = m 63 y) → m2 63 82 = pl + gm_s G r + K.length → (∀ x, x < pl → m2 117 x = m 117 x) → gz_fw (m2 117) pl (gz_pt G r (gm_s G r).toNat ++ K) → Q 0 m2) : w_Model_replaceBy pl r m Q := by
  have hR := hG.2.2.2.1
  obtain ⟨p1, p2, p3, p4, p5⟩ := hG.2.2.2.2.1 r r0 r1
  have es := (hD.2.2 r r0 r1).2.1
  -- behind the moves
  have fin : ∀ m3 : gh_M, gx [117] m m3 → (∀ x, x < pl → m3 117 x = m 117 x) → (∀ x : Int, 0 ≤ x → x < K.length → m3 117 (pl + gm_s G r + x) = m 117 (pl + 1 + x)) → gh_i (m3 63 82 + (gm_s G r - 1)) ∧ gh_M1 (fun K102 v4 m => f_Model_replaceBy_102 pl r Q K102 v4 m) 0 (gh_u m3 63 82 (m3 63 82 + (gm_s G r - 1))) := by
    intro m3 hx3 low mv
    have e63 : m3 63 82 = pl + 1 + K.length := by
      rw [hx3 63 (by decide)]
      exact e82
    refine ⟨by omega, ?_⟩
    obtain ⟨mm, hmm⟩ : ∃ mm, mm = gh_u m3 63 82 (m3 63 82 + (gm_s G r - 1)) := ⟨_, rfl⟩
    rw [← hmm]
    have xm : gx [63] m3 mm := by
      rw [hmm]
      exact gx_one _ _ _ _
    have om : ∀ y, y ≠ 82 → mm 63 y = m 63 y := fun y yn => by
      rw [hmm, gh_u_i yn, hx3 63 (by decide)]
    have m82 : mm 63 82 = pl + gm_s G r + K.length := by
      rw [hmm, gh_u_s]
      omega
    have m117 : mm 117 = m3 117 := xm 117 (by decide)
    clear hmm
    have Dk : ∀ m4 : gh_M, gx [117] mm m4 → gm_D m4 G := fun m4 hx4 => by
      obtain ⟨d1, d2, d3⟩ := hD
      refine ⟨by rw [hx4 63 (by decide), om 26 (by decide)]; exact d1, by rw [hx4 63 (by decide), om 27 (by decide)]; exact d2, ?_⟩
      rw [hx4 79 (by decide), hx4 80 (by decide), hx4 81 (by decide), xm 79 (by decide), xm 80 (by decide), xm 81 (by decide), hx3 79 (by decide), hx3 80 (by decide), hx3 81 (by decide)]
      exact d3
    refine ⟨fun d m4 => 0 ≤ d ∧ d ≤ gm_s G r ∧ gx [117] mm m4 ∧ (∀ x, x < pl ∨ pl + gm_s G r ≤ x → m4 117 x = m3 117 x) ∧ ∀ e, 0 ≤ e → e < d → m4 117 (pl + e) = gm_p G r e, fun d _ => (10 - d).toNat, ⟨Int.le_refl _, p3, gx_rf, fun x _ => by rw [m117], fun e a b => by omega⟩, ?_⟩
    rintro d m4 ⟨d0, d1, hx4, o4, k4⟩
    obtain ⟨q1, q2, q3⟩ := (Dk m4 hx4).2.2 r r0 r1
    unfold f_Model_replaceBy_102
    rw [q2]
    refine ⟨r0, by omega, fun c => ?_, fun c => ?_⟩
    · rw [q3 d d0 c]
      refine ⟨by omega, by omega, by omega, by omega, by omega, by omega, by omega, by omega, ⟨by omega, by omega, gx_u hx4 (by decide), fun x hx => ?_, fun e a b => ?_⟩, by (try dsimp only); omega⟩
      · rw [gh_u_i (by omega)]
        exact o4 x hx
      · by_cases u : e = d
        · rw [u, gh_u_s]
        · rw [gh_u_i (by omega)]
          exact k4 e a (by omega)
    · refine H m4 (gx_t (gx_t (gx_sub hx3 (by decide)) (gx_sub xm (by decide))) (gx_sub hx4 (by decide))) (fun y yn => by rw [hx4 63 (by decide)]; exact om y yn) (by rw [hx4 63 (by decide)]; exact m82) (fun x x1 => by rw [o4 x (Or.inl x1)]; exact low x x1) ?_
      have h1 := gz_fw_pt (G := G) (r := r) (a := m4 117) (b := pl) (gm_s G r).toNat (by omega) (fun e a b => k4 e a (by omega))
      have e1 : pl + (gm_s G r - ((gm_s G r).toNat : Int)) = pl := by omega
      rw [e1] at h1
      refine gz_fw_app _ pl h1 (gz_fw_mv K (pl + 1) _ (fun x x0 x1 => ?_) fw.2)
      have e2 : pl + ((gz_pt G r (gm_s G r).toNat).length : Int) + x = pl + gm_s G r + x := by
        rw [gz_pt_len]
        omega
      rw [e2, o4 _ (Or.inr (by omega))]
      exact mv x x0 x1
  unfold w_Model_replaceBy
  rw [es]
  refine ⟨r0, by omega, by omega, ?_⟩
  intro more hmore
  rw [hmore]
  clear hmore more
  -- to the right, where it grows
  refine ⟨fun m3 => gx [117] m m3 ∧ (∀ x, x < pl → m3 117 x = m 117 x) ∧ (gm_s G r = 0 → ∀ x : Int, 0 ≤ x → x < K.length → m3 117 (pl + x) = m 117 (pl + 1 + x)) ∧ (gm_s G r ≠ 0 → m3 = m), fun m3 ⟨j1, j2, j3, j4⟩ => ?_, fun c => ?_, fun c => ⟨gx_rf, fun _ _ => rfl, fun y => by omega, fun _ => rfl⟩⟩
  · have e63 : m3 63 82 = pl + 1 + K.length := by
      rw [j1 63 (by decide)]
      exact e82
    rw [e63]
    refine ⟨by omega, ?_⟩
    intro v4 hv4
    refine ⟨fun v m4 => pl ≤ v ∧ v ≤ pl + K.length ∧ gx [117] m m4 ∧ (∀ x, x < pl → m4 117 x = m 117 x) ∧ (gm_s G r = 0 → m4 = m3 ∧ v = pl + K.length) ∧ (0 < gm_s G r → (∀ x, x ≤ v → m4 117 x = m 117 x) ∧ ∀ x, v < x → x ≤ pl + K.length → m4 117 (x + (gm_s G r - 1)) = m 117 x), fun v _ => (v + 1).toNat, ⟨by omega, by omega, j1, j2, fun _ => ⟨rfl, by omega⟩, fun y => ⟨fun x _ => by rw [j4 (by omega)], fun x a b => by omega⟩⟩, ?_⟩
    rintro v m4 ⟨v0, v1, hx4, o4, z4, k4⟩
    unfold f_Model_replaceBy_57
    refine ⟨fun m5 => m5 = m4 ∧ (v ≤ pl ∨ gm_s G r - 1 ≤ 0), fun m5 ⟨hm5, hv⟩ => ?_, fun z => ⟨rfl, z⟩, fun c => ⟨by omega, by omega, by omega, by omega, by omega, by omega, ⟨by omega, by omega, gx_u hx4 (by decide), fun x x1 => ?_, fun y => by omega, fun y => ⟨fun x x1 => ?_, fun x x0 x1 => ?_⟩⟩, by (try dsimp only); omega⟩⟩
    · rw [hm5]
      refine fin m4 hx4 o4 (fun x x0 x1 => ?_)
      by_cases q : gm_s G r = 0
      · rw [q, (z4 q).1]
        have e : pl + 0 + x = pl + x := by omega
        rw [e]
        exact j3 q x x0 x1
      · have kk := k4 (by omega)
        have e : pl + 1 + x + (gm_s G r - 1) = pl + gm_s G r + x := by omega
        by_cases q2 : v < pl + 1 + x
        · have := kk.2 (pl + 1 + x) q2 (by omega)
          rw [e] at this
          exact this
        · have q1 : gm_s G r = 1 := by omega
          have e3 : pl + gm_s G r + x = pl + 1 + x := by omega
          rw [e3]
          exact kk.1 _ (by omega)
    · rw [gh_u_i (by omega)]
      exact o4 x x1
    · rw [gh_u_i (by omega)]
      exact (k4 y).1 x (by omega)
    · by_cases q : x = v
      · rw [q, gh_u_s]
        exact (k4 y).1 v (Int.le_refl _)
      · rw [gh_u_i (by omega)]
        exact (k4 y).2 x (by omega) x1
  · -- to the left
    have s0 : gm_s G r = 0 := by omega
    refine ⟨fun v m3 => pl ≤ v ∧ v ≤ pl + K.length ∧ gx [117] m m3 ∧ (∀ x, x < pl ∨ v ≤ x → m3 117 x = m 117 x) ∧ ∀ x, pl ≤ x → x < v → m3 117 x = m 117 (x + 1), fun v _ => (400 - v).toNat, ⟨Int.le_refl _, by omega, gx_rf, fun _ _ => rfl, fun x a b => by omega⟩, ?_⟩
    rintro v m3 ⟨v0, v1, hx3, o3, k3⟩
    unfold f_Model_replaceBy_16
    rw [hx3 63 (by decide), e82]
    refine ⟨by omega, fun c2 => ⟨by omega, by omega, by omega, by omega, by omega, by omega, ⟨by omega, by omega, gx_u hx3 (by decide), fun x hx => ?_, fun x a b => ?_⟩, by (try dsimp only); omega⟩, fun c2 => ⟨hx3, fun x x1 => o3 x (Or.inl x1), fun _ x x0 x1 => ?_, fun y => absurd s0 y⟩⟩
    · rw [gh_u_i (by omega)]
      exact o3 x (by omega)
    · by_cases q : x = v
      · rw [q, gh_u_s]
        exact o3 _ (Or.inr (by omega))
      · rw [gh_u_i q]
        exact k3 x a (by omega)
    · have := k3 (pl + x) (by omega) (by omega)
      have e : pl + x + 1 = pl + 1 + x := by omega
      rw [e] at this
      exact this
theorem gz_usefulRulesOf {G : gm_G} {U : Int → Prop} {m : gh_M} {Q : Int → Prop} {n : Int} (hG : gm_ok G) (hr : gm_rg G (m 77) (m 78)) (hU : ∀ r, 0 ≤ r → r < gm_R G → (m 83 r ≠ 0 ↔ U r)) (n0 : 0 ≤ n) (n1 : n < gm_N G) (H : Q (gz_cr G U n)) : w_Model_usefulRulesOf n m Q := by
  have hN := hG.2.1
  have hR := hG.2.2.2.1
  obtain ⟨g1, g2, g3, g4⟩ := hr n n0 n1
  have nn : ∀ k : Nat, (k : Int) ≤ gm_R G → 0 ≤ gsum (fun r => gt_ib (U r ∧ gm_o G r = n)) k ∧ gsum (fun r => gt_ib (U r ∧ gm_o G r = n)) k ≤ k := fun k hk => by
    have a := gsum_nn (f := fun r => gt_ib (U r ∧ gm_o G r = n)) k (fun i _ _ => gz_01 (b := fun r => U r ∧ gm_o G r = n) i)
    have b := gsum_le (f := fun r => gt_ib (U r ∧ gm_o G r = n)) (B := 1) k (fun i _ _ => by
      have := gt_ib_01 (P := U i ∧ gm_o G i = n)
      (try dsimp only)
      omega)
    omega
  refine ⟨n0, by omega, ?_⟩
  intro v3 hv3
  refine ⟨fun c r => m 77 n ≤ r ∧ r ≤ m 77 n + m 78 n ∧ c = gsum (fun r => gt_ib (U r ∧ gm_o G r = n)) r.toNat, fun c r => (30 - r).toNat, ⟨by omega, by omega, ?_⟩, ?_⟩
  · rw [gsum_z _ (fun i i0 i1 => gt_ib_f (fun y => by
      have := (g4 i i0 (by omega)).mp y.2
      omega))]
  rintro c r ⟨r0, r1, hc⟩
  have b := nn r.toNat (by omega)
  unfold f_Model_usefulRulesOf_9
  refine ⟨n0, by omega, n0, by omega, by omega, fun lt => ?_, fun ge => ?_⟩
  · have ro : gm_o G r = n := (g4 r (by omega) (by omega)).mpr ⟨r0, lt⟩
    have e : (if ¬ m 83 r = 0 then (1 : Int) else 0) = gt_ib (U r ∧ gm_o G r = n) := by
      have u := hU r (by omega) (by omega)
      by_cases w : m 83 r = 0
      · rw [if_neg (fun y => y w), gt_ib_f (fun y => u.mpr y.1 w)]
      · rw [if_pos w, gt_ib_t ⟨u.mp w, ro⟩]
    have f01 := gt_ib_01 (P := U r ∧ gm_o G r = n)
    rw [e]
    refine ⟨by omega, by omega, by omega, ?_⟩
    intro c' hc'
    refine ⟨by omega, ⟨by omega, by omega, ?_⟩, by (try dsimp only); omega⟩
    have e1 : (r + 1).toNat = r.toNat + 1 := by omega
    have e2 : ((r.toNat : Nat) : Int) = r := by omega
    rw [hc', hc, e1]
    show _ = gsum _ r.toNat + gt_ib (U ((r.toNat : Nat) : Int) ∧ gm_o G ((r.toNat : Nat) : Int) = n)
    rw [e2]
  · have e : c = gz_cr G U n := by
      unfold gz_cr
      have e1 : (gm_R G).toNat = r.toNat + ((gm_R G).toNat - r.toNat) := by omega
      rw [hc, e1, gsum_ext _ (fun i i0 i1 => gt_ib_f (fun y => by
        have := (g4 i (by omega) (by omega)).mp y.2
        omega))]
    rw [e]
    exact H
theorem gz_usefulRuleOf {G : gm_G} {U : Int → Prop} {m : gh_M} {Q : Int → Prop} {n x r : Int} (hG : gm_ok G) (hr : gm_rg G (m 77) (m 78)) (hU : ∀ r, 0 ≤ r → r < gm_R G → (m 83 r ≠ 0 ↔ U r)) (n0 : 0 ≤ n) (n1 : n < gm_N G) (hl : gz_nth (fun r => U r ∧ gm_o G r = n) (gm_R G) x r) (H : Q r) : w_Model_usefulRuleOf n x m Q := by
  have hN := hG.2.1
  have hR := hG.2.2.2.1
  obtain ⟨g1, g2, g3, g4⟩ := hr n n0 n1
  obtain ⟨l0, l1, lb, lx⟩ := hl
  have lx : x = gsum (fun r => gt_ib (U r ∧ gm_o G r = n)) r.toNat := lx
  have lr := (g4 r l0 l1).mp lb.2
  refine ⟨n0, by omega, ?_⟩
  intro v3 hv3
  refine ⟨fun q left => m 77 n ≤ q ∧ q ≤ r ∧ left = x - gsum (fun r => gt_ib (U r ∧ gm_o G r = n)) q.toNat, fun q left => (30 - q).toNat, ⟨by omega, by omega, ?_⟩, ?_⟩
  · rw [gsum_z _ (fun i i0 i1 => gt_ib_f (fun y => by
      have := (g4 i i0 (by omega)).mp y.2
      omega))]
    omega
  rintro q left ⟨q0, q1, hleft⟩
  have u := hU q (by omega) (by omega)
  have qo : gm_o G q = n := (g4 q (by omega) (by omega)).mpr ⟨q0, by omega⟩
  have e2 : ((q.toNat : Nat) : Int) = q := by omega
  have lt : q < r → gsum (fun r => gt_ib (U r ∧ gm_o G r = n)) q.toNat + gt_ib (U q ∧ gm_o G q = n) ≤ x := fun c => by
    have g := gsum_step (F := fun r => gt_ib (U r ∧ gm_o G r = n)) (a := q.toNat) (b := r.toNat) (fun i _ _ => gz_01 (b := fun r => U r ∧ gm_o G r = n) i) (by omega)
    rw [e2] at g
    (try dsimp only at g)
    omega
  have e : (if ¬ m 83 q = 0 then (1 : Int) else 0) = gt_ib (U q ∧ gm_o G q = n) := by
    by_cases w : m 83 q = 0
    · rw [if_neg (fun y => y w), gt_ib_f (fun y => u.mpr y.1 w)]
    · rw [if_pos w, gt_ib_t ⟨u.mp w, qo⟩]
  have g0 := gsum_nn (f := fun r => gt_ib (U r ∧ gm_o G r = n)) q.toNat (fun i _ _ => gz_01 (b := fun r => U r ∧ gm_o G r = n) i)
  have gx1 := gsum_le (f := fun r => gt_ib (U r ∧ gm_o G r = n)) (B := 1) r.toNat (fun i _ _ => by
    have := gt_ib_01 (P := U i ∧ gm_o G i = n)
    (try dsimp only)
    omega)
  have f01 := gt_ib_01 (P := U q ∧ gm_o G q = n)
  unfold f_Model_usefulRuleOf_10
  refine ⟨by omega, by omega, q < r, fun c => ⟨by omega, by omega, by rw [e]; have := lt c; omega, ?_⟩, fun t => ?_, fun t => ?_⟩
  · intro left' hl'
    refine ⟨by omega, ⟨by omega, by omega, ?_⟩, by (try dsimp only); omega⟩
    have e1 : (q + 1).toNat = q.toNat + 1 := by omega
    rw [hl', e, hleft, e1]
    show _ = x - (gsum _ q.toNat + gt_ib (U ((q.toNat : Nat) : Int) ∧ gm_o G ((q.toNat : Nat) : Int) = n))
    rw [e2]
    omega
  · have eq : q = r := by
      by_cases c : q < r
      · have := lt c
        rw [gt_ib_t ⟨u.mp t.1, qo⟩] at this
        omega
      · omega
    rw [eq]
    exact H
  · by_cases c : q = r
    · refine absurd ⟨u.mpr (by rw [c]; exact lb.1), ?_⟩ t
      rw [c] at hleft
      omega
    · omega
theorem gz_lettersIn {m : gh_M} {Q : Int → Prop} {p : Int} (hp : gbs 26 p) (H : Q (gz_cl p)) : w_Model_lettersIn p m Q := by
  refine ⟨fun c l => 0 ≤ l ∧ l ≤ 26 ∧ c = gsum (fun i => gt_ib (gb p i)) l.toNat, fun c l => (30 - l).toNat, ⟨Int.le_refl _, by decide, rfl⟩, ?_⟩
  rintro c l ⟨l0, l1, hc⟩
  have a := gsum_nn (f := fun i => gt_ib (gb p i)) l.toNat (fun i _ _ => gz_01 i)
  have b := gsum_le (f := fun i => gt_ib (gb p i)) (B := 1) l.toNat (fun i _ _ => by
    have := gt_ib_01 (P := gb p i)
    (try dsimp only)
    omega)
  unfold f_Model_lettersIn_4
  refine ⟨fun c2 => ?_, fun c2 => ?_⟩
  · have t1 := gb_test1 (gbs_le hp (by decide)) l0 (by omega : l < 32)
    have t0 := gb_test0 (gbs_le hp (by decide)) l0 (by omega : l < 32)
    have e : gh_iand_f (gh_ishr_f p l) 1 = gt_ib (gb p l) := by
      by_cases u : gb p l
      · rw [gt_ib_t u]
        exact t1.mpr u
      · rw [gt_ib_f u]
        exact t0.mpr u
    have f01 := gt_ib_01 (P := gb p l)
    rw [e]
    refine ⟨by omega, ?_⟩
    intro c' hc'
    refine ⟨by omega, ⟨by omega, by omega, ?_⟩, by (try dsimp only); omega⟩
    have e1 : (l + 1).toNat = l.toNat + 1 := by omega
    have e2 : ((l.toNat : Nat) : Int) = l := by omega
    rw [hc', hc, e1]
    show _ = gsum _ l.toNat + gt_ib (gb p ((l.toNat : Nat) : Int))
    rw [e2]
  · have e : l = 26 := by omega
    rw [e] at hc
    have e2 : c = gz_cl p := hc
    rw [e2]
    exact H
theorem gz_letterOf {m : gh_M} {Q : Int → Prop} {p x l : Int} (hp : gbs 26 p) (hl : gz_nth (gb p) 26 x l) (H : Q l) : w_Model_letterOf p x m Q := by
  obtain ⟨l0, l1, lb, lx⟩ := hl
  refine ⟨fun q left => 0 ≤ q ∧ q ≤ l ∧ left = x - gsum (fun i => gt_ib (gb p i)) q.toNat, fun q left => (30 - q).toNat, ⟨Int.le_refl _, l0, by
    show x = x - gsum _ 0
    have e : gsum (fun i => gt_ib (gb p i)) 0 = 0 := rfl
    omega⟩, ?_⟩
  rintro q left ⟨q0, q1, hleft⟩
  have t1 := gb_test1 (gbs_le hp (by decide)) q0 (by omega : q < 32)
  have t0 := gb_test0 (gbs_le hp (by decide)) q0 (by omega : q < 32)
  have e : gh_iand_f (gh_ishr_f p q) 1 = gt_ib (gb p q) := by
    by_cases u : gb p q
    · rw [gt_ib_t u]
      exact t1.mpr u
    · rw [gt_ib_f u]
      exact t0.mpr u
  have e2 : ((q.toNat : Nat) : Int) = q := by omega
  have lt : q < l → gsum (fun i => gt_ib (gb p i)) q.toNat + gt_ib (gb p q) ≤ x := fun c => by
    have g := gsum_step (F := fun i => gt_ib (gb p i)) (a := q.toNat) (b := l.toNat) (fun i _ _ => gz_01 i) (by omega)
    rw [e2] at g
    (try dsimp only at g)
    omega
  have g0 := gsum_nn (f := fun i => gt_ib (gb p i)) q.toNat (fun i _ _ => gz_01 i)
  have g1 := gsum_le (f := fun i => gt_ib (gb p i)) (B := 1) l.toNat (fun i _ _ => by
    have := gt_ib_01 (P := gb p i)
    (try dsimp only)
    omega)
  have f01 := gt_ib_01 (P := gb p q)
  unfold f_Model_letterOf_4
  refine ⟨q < l, fun c => ⟨by rw [e]; have := lt c; omega, ?_⟩, fun t => ?_, fun t => ?_⟩
  · intro left' hl'
    refine ⟨by omega, ⟨by omega, by omega, ?_⟩, by (try dsimp only); omega⟩
    have e1 : (q + 1).toNat = q.toNat + 1 := by omega
    rw [hl', e, hleft, e1]
    show _ = x - (gsum _ q.toNat + gt_ib (gb p ((q.toNat : Nat) : Int)))
    rw [e2]
    omega
  · have bq : gb p q := Classical.byContradiction (fun y => t.1 (t0.mpr y))
    have eq : q = l := by
      by_cases c : q < l
      · have := lt c
        rw [gt_ib_t bq] at this
        omega
      · omega
    rw [eq]
    exact H
  · by_cases c : q = l
    · refine absurd ⟨fun y => t0.mp y (by rw [c]; exact lb), ?_⟩ t
      rw [c] at hleft
      omega
    · omega
theorem gz_drawText {G : gm_G} {U : Int → Prop} {S : Int → Int} {m : gh_M} {Q : Int → gh_M → Prop} {seed : Int} (hG : gm_ok G) (hD : gm_D m G) (hr : gm_rg G (m 77) (m 78)) (hU : ∀ r, 0 ≤ r → r < gm_R G → (m 83 r ≠ 0 ↔ U r)) (f1 : gm_Lr G S) (f2 : gm_Lcl G S) (f3 : gm_Lso G S) (hUS : ∀ r, 0 ≤ r → r < gm_R G → (U r ↔ gm_lr G S r 0 < 16777216)) (e0 : S 0 < 16777216) (es : m 63 83 = seed) (s0 : 0 ≤ seed) (s1 : seed < 65536) (H1 : ∀ (m2 : gh_M) (tc : Int) (tr : Int → Int), gz_good G U seed tc tr → gx [63, 117] m m2 → (∀ y, y ≠ 82 → y ≠ 83 → m2 63 y = m 63 y) → 0 ≤ tc → tc ≤ 8 → (∀ x, 0 ≤ x → x < tc → m2 117 x = tr x ∧ 0 ≤ tr x ∧ tr x < 26) → Q tc m2) (H2 : ∀ m2 : gh_M, gz_bad G U seed → gx [63, 117] m m2 → (∀ y, y ≠ 82 → y ≠ 83 → m2 63 y = m 63 y) → Q (-1) m2) : w_Model_drawText m Q := by
  have hN0 := hG.1
  have hN := hG.2.1
  have hR := hG.2.2.2.1
  obtain ⟨mm, hmm⟩ : ∃ mm, mm = gh_u (gh_u m 117 0 (-1)) 63 82 1 := ⟨_, rfl⟩
  unfold w_Model_drawText
  rw [← hmm]
  have xm : gx [63, 117] m mm := by
    rw [hmm]
    exact gx_u (gx_u gx_rf (by decide)) (by decide)
  have om : ∀ y, y ≠ 82 → mm 63 y = m 63 y := fun y a => by
    rw [hmm, gh_u_i a, gh_u_a (by decide)]
  have m82 : mm 63 82 = 1 := by
    rw [hmm, gh_u_s]
  have m117 : mm 117 0 = -1 := by
    rw [hmm, gh_u_a (by decide), gh_u_s]
  clear hmm
  refine ⟨fun pl u m2 => 0 ≤ u ∧ u ≤ 60 ∧ (0 ≤ pl ∧ pl ≤ 8) ∧ ∃ L : List Int, gz_run G U seed u.toNat (m2 63 83) pl (m2 117) L ∧ (0 ≤ m2 63 83 ∧ m2 63 83 < 65536) ∧ gz_fw (m2 117) pl L ∧ m2 63 82 = pl + L.length ∧ pl + L.length ≤ 1 + 3 * u ∧ (∀ p, p ∈ L → (-gm_N G ≤ p ∧ p < 0 ∧ S (-1 - p) < 16777216) ∨ (0 < p ∧ p < 67108864)) ∧ gx [63, 117] m m2 ∧ (∀ y, y ≠ 82 → y ≠ 83 → m2 63 y = m 63 y), fun pl u _ => (100 - u).toNat, ⟨Int.le_refl _, by decide, by omega, [-1], ⟨by rw [om 83 (by decide)]; exact es, rfl, rfl⟩, by rw [om 83 (by decide)]; omega, ⟨m117, trivial⟩, m82, by decide, fun p hp => ?_, xm, fun y a _ => om y a⟩, ?_⟩
  · rcases List.mem_cons.mp hp with e | e
    · rw [e]
      exact Or.inl ⟨by omega, by decide, e0⟩
    · exact absurd e List.not_mem_nil
  clear m82 m117 om xm mm
  rintro pl u m2 ⟨u0, u1, plr, L, run, sr, fw, e82, len, okL, hx, o⟩
  have Dk : ∀ m3 : gh_M, gx [63, 117] m m3 → (∀ y, y ≠ 82 → y ≠ 83 → m3 63 y = m 63 y) → gm_D m3 G := fun m3 hx3 o3 => by
    obtain ⟨d1, d2, d3⟩ := hD
    refine ⟨by rw [o3 26 (by decide) (by decide)]; exact d1, by rw [o3 27 (by decide) (by decide)]; exact d2, ?_⟩
    rw [hx3 79 (by decide), hx3 80 (by decide), hx3 81 (by decide)]
    exact d3
  have eu : (u + 1).toNat = u.toNat + 1 := by omega
  unfold f_Model_drawText_16
  cases L with
  | nil =>
    have e82' : m2 63 82 = pl := by
      have : (([] : List Int).length : Int) = 0 := rfl
      omega
    refine ⟨fun y => absurd y (by omega), fun _ => H1 m2 pl (m2 117) ⟨u.toNat, _, run, by omega, plr.2⟩ hx o plr.1 plr.2 (fun x x0 x1 => ⟨rfl, gz_run_l _ _ _ _ _ run x x0 x1⟩)⟩
  | cons p K =>
    have ln : ((p :: K).length : Int) = K.length + 1 := by
      show ((K.length + 1 : Nat) : Int) = _
      omega
    have okp := okL p List.mem_cons_self
    refine ⟨fun _ => ⟨fun y => ?_, fun y => ?_⟩, fun y => absurd (by omega) y⟩
    · have e : u.toNat = 60 := by omega
      rw [e] at run
      exact H2 m2 ⟨60, _, _, _, p, K, run, Or.inl rfl⟩ hx o
    refine ⟨by omega, plr.1, by omega, ?_⟩
    rw [fw.1]
    intro v3 hv3
    rw [hv3]
    clear hv3 v3
    have drw : ∀ (cnt : Int) (Q1 : Int → gh_M → Prop), 0 < cnt → (∀ s2 m3, s2 = (25173 * m2 63 83 + 13849) % 65536 → 0 ≤ s2 / 16 % cnt → s2 / 16 % cnt < cnt → m3 = gh_u m2 63 83 s2 → Q1 (s2 / 16 % cnt) m3) → w_Model_draw cnt m2 Q1 := by
      intro cnt Q1 c0 H3
      unfold w_Model_draw
      exact ⟨by omega, by omega, by omega, by omega, by omega, c0, H3 _ _ rfl (Int.emod_nonneg _ (by omega)) (Int.emod_lt_of_pos _ c0) rfl⟩
    refine ⟨fun pl' m3 => 0 ≤ u + 1 ∧ u + 1 ≤ 60 ∧ (0 ≤ pl' ∧ pl' ≤ 8) ∧ ∃ L : List Int, gz_run G U seed (u + 1).toNat (m3 63 83) pl' (m3 117) L ∧ (0 ≤ m3 63 83 ∧ m3 63 83 < 65536) ∧ gz_fw (m3 117) pl' L ∧ m3 63 82 = pl' + L.length ∧ pl' + L.length ≤ 1 + 3 * (u + 1) ∧ (∀ p, p ∈ L → (-gm_N G ≤ p ∧ p < 0 ∧ S (-1 - p) < 16777216) ∨ (0 < p ∧ p < 67108864)) ∧ gx [63, 117] m m3 ∧ (∀ y, y ≠ 82 → y ≠ 83 → m3 63 y = m 63 y), fun pl' m3 w => ⟨w, by (try dsimp only); omega⟩, fun w => ⟨by omega, by omega, ?_⟩, fun w => ?_⟩
    · -- a name
      have pn : -gm_N G ≤ p ∧ S (-1 - p) < 16777216 := by
        rcases okp with z | z
        · exact ⟨z.1, z.2.2⟩
        · omega
      have n0 : 0 ≤ -1 - p := by omega
      have n1 : -1 - p < gm_N G := by omega
      have hr2 : ∀ m3 : gh_M, gx [63, 117] m m3 → gm_rg G (m3 77) (m3 78) ∧ ∀ r, 0 ≤ r → r < gm_R G → (m3 83 r ≠ 0 ↔ U r) := fun m3 hx3 => by
        rw [hx3 77 (by decide), hx3 78 (by decide), hx3 83 (by decide)]
        exact ⟨hr, hU⟩
      refine gz_usefulRulesOf hG (hr2 m2 hx).1 (hr2 m2 hx).2 n0 n1 ?_
      have pos : 0 < gz_cr G U (-1 - p) := by
        obtain ⟨r, r0, r1, ro, rl⟩ := gz_rule_x hG f1 f2 f3 n0 n1 pn.2
        have g := gsum_ge (f := fun r => gt_ib (U r ∧ gm_o G r = -1 - p)) (gm_R G).toNat (fun i _ _ => gz_01 (b := fun r => U r ∧ gm_o G r = -1 - p) i) r r0 (by omega)
        (try dsimp only at g)
        rw [gt_ib_t ⟨(hUS r r0 r1).mpr rl, ro⟩] at g
        show 0 < gsum _ _
        omega
      refine drw _ _ pos (fun s2 m3 hs2 x0 x1 hm3 => ?_)
      have x3 : gx [63] m2 m3 := by
        rw [hm3]
        exact gx_one _ _ _ _
      have o3 : ∀ y, y ≠ 83 → m3 63 y = m2 63 y := fun y a => by
        rw [hm3, gh_u_i a]
      have e83 : m3 63 83 = s2 := by
        rw [hm3, gh_u_s]
      have xm3 : gx [63, 117] m m3 := gx_t hx (gx_sub x3 (by decide))
      have om3 : ∀ y, y ≠ 82 → y ≠ 83 → m3 63 y = m 63 y := fun y a b => by
        rw [o3 y b]
        exact o y a b
      obtain ⟨r, hl⟩ := gz_nth_x (b := fun r => U r ∧ gm_o G r = -1 - p) (gm_R G).toNat x0 x1
      have eR : (((gm_R G).toNat : Nat) : Int) = gm_R G := by
        have := hG.2.2.1
        omega
      rw [eR] at hl
      have r0 := hl.1
      have r1 := hl.2.1
      refine gz_usefulRuleOf hG (hr2 m3 xm3).1 (hr2 m3 xm3).2 n0 n1 hl ?_
      obtain ⟨p1, p2, p3, p4, p5⟩ := hG.2.2.2.2.1 r r0 r1
      refine gz_replaceBy (K := K) (p := p) hG (Dk m3 xm3 om3) r0 r1 plr.1 (by rw [o3 82 (by decide)]; omega) (by omega) (by rw [x3 117 (by decide)]; exact fw) (fun m4 hx4 o4 e4 low fw4 => ?_)
      have lnx : ((gz_pt G r (gm_s G r).toNat ++ K).length : Int) = gm_s G r + K.length := by
        rw [List.length_append, gz_pt_len]
        omega
      refine ⟨by omega, by omega, plr, gz_pt G r (gm_s G r).toNat ++ K, ?_, by rw [o4 83 (by decide), e83]; omega, fw4, by omega, by omega, fun q hq => ?_, gx_t xm3 hx4, fun y a b => by rw [o4 y a]; exact om3 y a b⟩
      · rw [eu, o4 83 (by decide), e83]
        exact ⟨m2 63 83, pl, p :: K, gz_run_cg _ _ _ _ (fun x x0 x1 => by rw [low x x1, x3 117 (by decide)]) run, hs2, Or.inl ⟨w, rfl, r, hl, rfl⟩⟩
      · rcases List.mem_append.mp hq with hq | hq
        · exact gz_lokp hG f1 r0 r1 ((hUS r r0 r1).mp hl.2.2.1.1) hq
        · exact okL q (List.mem_cons_of_mem _ hq)
    · -- a letter
      have p0 : 0 < p ∧ p < 67108864 := by
        rcases okp with z | z
        · omega
        · exact z
      have gp : gbs 26 p := ⟨by omega, by omega⟩
      refine gz_lettersIn gp ?_
      have pos : 0 < gz_cl p := by
        have ⟨i, i0, i1, ib⟩ : ∃ i : Int, 0 ≤ i ∧ i < 26 ∧ gb p i := by
          refine Classical.byContradiction (fun no => ?_)
          have : p = 0 := gb_ext gp (gbs_0 26) (fun i i0 i1 => ⟨fun z => absurd ⟨i, i0, i1, z⟩ no, fun z => absurd z (gb_0 i)⟩)
          omega
        have g := gsum_ge (f := fun i => gt_ib (gb p i)) 26 (fun i _ _ => gz_01 i) i i0 i1
        (try dsimp only at g)
        rw [gt_ib_t ib] at g
        show 0 < gsum _ 26
        omega
      refine drw _ _ pos (fun s2 m3 hs2 x0 x1 hm3 => ?_)
      have x3 : gx [63] m2 m3 := by
        rw [hm3]
        exact gx_one _ _ _ _
      have o3 : ∀ y, y ≠ 83 → m3 63 y = m2 63 y := fun y a => by
        rw [hm3, gh_u_i a]
      have e83 : m3 63 83 = s2 := by
        rw [hm3, gh_u_s]
      have om3 : ∀ y, y ≠ 82 → y ≠ 83 → m3 63 y = m 63 y := fun y a b => by
        rw [o3 y b]
        exact o y a b
      obtain ⟨l, hl⟩ := gz_nth_x (b := gb p) 26 x0 x1
      refine gz_letterOf gp hl ⟨plr.1, by omega, by omega, fun z => ?_, fun z => ?_⟩
      · have x4 : gx [63, 117] m (gh_u m3 117 pl l) := gx_u (gx_t hx (gx_sub x3 (by decide))) (by decide)
        refine ⟨by omega, by omega, by omega, K, ?_, by rw [gh_u_a (by decide), e83]; omega, gz_fw_mv K (pl + 1) (pl + 1) (fun x x0 x1 => ?_) fw.2, by rw [gh_u_a (by decide), o3 82 (by decide)]; omega, by omega, fun q hq => okL q (List.mem_cons_of_mem _ hq), x4, fun y a b => by rw [gh_u_a (by decide)]; exact om3 y a b⟩
        · rw [eu, gh_u_a (by decide), e83]
          refine ⟨m2 63 83, pl, p :: K, gz_run_cg _ _ _ _ (fun x x0 x1 => by rw [gh_u_i (by omega), x3 117 (by decide)]) run, hs2, Or.inr ⟨p0.1, by omega, rfl, ?_, rfl⟩⟩
          rw [gh_u_s]
          exact hl
        · rw [gh_u_i (by omega), x3 117 (by decide)]
      · exact H2 _ ⟨u.toNat, _, pl, _, p, K, run, Or.inr ⟨by omega, by omega, p0.1⟩⟩ (gx_u (gx_t hx (gx_sub x3 (by decide))) (by decide)) (fun y a b => by rw [gh_u_a (by decide)]; exact om3 y a b)
