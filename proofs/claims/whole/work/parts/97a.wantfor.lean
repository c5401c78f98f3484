/-! TREES: what the model piles up -/
theorem gct_cg {f g : Int → Bool} : ∀ n : Nat, (∀ i : Int, 0 ≤ i → i < n → f i = g i) → gct f n = gct g n := by
  intro n h
  have a := gct_mono (p := f) (q := g) n (fun i i0 i1 y => by rw [← h i i0 i1]; exact y)
  have b := gct_mono (p := g) (q := f) n (fun i i0 i1 y => by rw [h i i0 i1]; exact y)
  omega
theorem gct_one {f g : Int → Bool} {x : Int} : ∀ n : Nat, 0 ≤ x → x < n → (∀ i : Int, 0 ≤ i → i < n → i ≠ x → g i = f i) → f x = false → g x = true → gct g n = gct f n + 1
  | 0, a, b, _, _, _ => by omega
  | n + 1, a, b, h, h1, h2 => by
    show gct g n + (g n).toNat = gct f n + (f n).toNat + 1
    by_cases q : x = n
    · have e := gct_cg (f := g) (g := f) n (fun i i0 i1 => h i i0 (by omega) (by omega))
      rw [← q, h1, h2, e]
      rfl
    · have e := gct_one n a (by omega) (fun i i0 i1 ne => h i i0 (by omega) ne) h1 h2
      rw [h n (by omega) (by omega) (by omega), e]
      omega
noncomputable def gk_kr (k : Int) : Nat := gk_rk (k / 256 % 81 / 9) (k / 256 % 9) (gb (k % 256))
def gk_kf (i j A c : Int) : Int := 256 * c + if c % 81 = (if i = j then 0 else 9 * i + j) then A else 0
theorem gk_nk_kr {n p q B : Int} (n0 : 0 ≤ n) (n1 : n < 8) (p0 : 0 ≤ p) (pq : p ≤ q) (q8 : q ≤ 8) (B0 : 0 ≤ B) (B1 : B < 256) : gk_kr (gk_nk n p q B) = gk_rk p q (gb B) := by
  obtain ⟨a1, a2, a3, a4, a5, a6, a7⟩ := gk_nk_d n0 n1 p0 pq q8 B0 B1
  unfold gk_kr
  rw [a4, a5, a6]
  by_cases u : p = q
  · rw [if_pos u, if_pos u]
    unfold gk_rk
    rw [u]
    have : (q - q).toNat = 0 := by omega
    rw [this]
    rfl
  · rw [if_neg u, if_neg u]
theorem gk_nk_kf {n p q i j A : Int} (n0 : 0 ≤ n) (n1 : n < 8) (i0 : 0 ≤ i) (ip : i ≤ p) (pq : p ≤ q) (qj : q ≤ j) (j8 : j ≤ 8) : gk_kf i j A (81 * n + if p = q then 0 else 9 * p + q) = gk_nk n p q (if p = i ∧ q = j then A else 0) := by
  unfold gk_kf gk_nk
  congr 1
  by_cases w : p = i ∧ q = j
  · rw [if_pos w, w.1, w.2]
    have e : (81 * n + if i = j then 0 else 9 * i + j) % 81 = if i = j then 0 else 9 * i + j := by split <;> omega
    rw [e, if_pos rfl]
  · rw [if_neg w]
    refine if_neg ?_
    by_cases u : p = q
    · rw [if_pos u]
      by_cases v : i = j
      · omega
      · rw [if_neg v]
        omega
    · rw [if_neg u]
      by_cases v : i = j
      · omega
      · rw [if_neg v]
        omega
theorem gk_kf_inj {i j A c d : Int} (A0 : 0 ≤ A) (A1 : A < 256) (h : gk_kf i j A c = gk_kf i j A d) : c = d := by
  unfold gk_kf at h
  generalize hx : (if c % 81 = (if i = j then 0 else 9 * i + j) then A else 0) = x at h
  generalize hy : (if d % 81 = (if i = j then 0 else 9 * i + j) then A else 0) = y at h
  have x0 : 0 ≤ x ∧ x < 256 := by
    rw [← hx]
    split <;> omega
  have y0 : 0 ≤ y ∧ y < 256 := by
    rw [← hy]
    split <;> omega
  omega
def gk_ws (G : gm_G) (z : Int) (t : Int → Int) (m : gh_M) (n i j A : Int) (RK : Nat) (L : Int → Int → Int → Int → Prop) (m1 : gh_M) : Prop := gx [63, 106, 107] m m1 ∧ (∀ x, x ≠ 64 → x ≠ 66 → m1 63 x = m 63 x) ∧ m1 63 64 = m 63 64 + 1 ∧ (∀ x, m1 106 x ≤ m1 63 64) ∧ (m1 63 66 - m 63 66 = gct (fun c => decide (m1 106 (gk_kf i j A c) = m1 63 64)) 648) ∧ (∀ x, x < m 63 66 → m1 107 x = m 107 x) ∧ (∀ x, m 63 66 ≤ x → x < m1 63 66 → gk_vk G z (m1 107 x) ∧ gk_kr (m1 107 x) < RK ∧ m 105 (m1 107 x) < 0) ∧ (m1 63 66 = m 63 66 → m1 106 = m 106 ∧ ∀ r d p q, L r d p q → 0 ≤ r → r < gm_R G → gm_o G r = n → 0 ≤ d → d < gm_s G r → i ≤ p → gt_row G z t (gt_M G z t) r d i p → p ≤ q → q ≤ j → gk_nd G z t m r d p q i j A)
theorem gk_ws_w {G : gm_G} {z : Int} {t : Int → Int} {m m1 : gh_M} {n i j A : Int} {RK : Nat} {L L2 : Int → Int → Int → Int → Prop} (h : gk_ws G z t m n i j A RK L m1) (hL : m1 63 66 = m 63 66 → ∀ r d p q, L2 r d p q → 0 ≤ r → r < gm_R G → gm_o G r = n → 0 ≤ d → d < gm_s G r → i ≤ p → gt_row G z t (gt_M G z t) r d i p → p ≤ q → q ≤ j → L r d p q ∨ gk_nd G z t m r d p q i j A) : gk_ws G z t m n i j A RK L2 m1 := by
  obtain ⟨a1, a2, a3, a4, a5, a6, a7, a8⟩ := h
  refine ⟨a1, a2, a3, a4, a5, a6, a7, fun e => ⟨(a8 e).1, fun r d p q l r0 r1 ro d0 d1 ip w pq qj => ?_⟩⟩
  rcases hL e r d p q l r0 r1 ro d0 d1 ip w pq qj with y | y
  · exact (a8 e).2 r d p q y r0 r1 ro d0 d1 ip w pq qj
  · exact y
/-- one key -/
theorem gk_want {G : gm_G} {z : Int} {t : Int → Int} {m m1 : gh_M} {Q : Int → gh_M → Prop} {n i j A r d p q : Int} {RK : Nat} {L : Int → Int → Int → Int → Prop} (hG : gm_ok G) (r0 : 0 ≤ r) (r1 : r < gm_R G) (d0 : 0 ≤ d) (d1 : d < gm_s G r) (z8 : z ≤ 8) (i0 : 0 ≤ i) (ip : i ≤ p) (pq : p ≤ q) (qj : q ≤ j) (jz : j ≤ z) (hA : gbs 8 A) (h1 : gk_rk i j (gb A) < RK) (wt : ∀ x, m 106 x ≤ m 63 64) (pb : m 63 66 - 1 + 648 * (RK : Int) ≤ 51840) (p0 : 1 ≤ m 63 66) (ws : gk_ws G z t m n i j A RK L m1) (hn : gm_n G r d ≠ -1) (mm : gt_M G z t (gm_n G r d) p q) (na : ¬ (p = i ∧ q = j ∧ gb A (gm_n G r d))) (H : ∀ m2, gk_ws G z t m n i j A RK (fun r' d' p' q' => L r' d' p' q' ∨ (r' = r ∧ d' = d ∧ p' = p ∧ q' = q)) m2 → Q 0 m2) : w_Model_want (gk_nk (gm_n G r d) p q (if p = i ∧ q = j then A else 0)) m1 Q := by
  have hN := hG.2.1
  have nn := gm_n_rng hG r0 r1 d0 d1
  have A1 : A < 256 := hA.2
  have hB : gbs 8 (if p = i ∧ q = j then A else 0) := by
    split
    · exact hA
    · exact gbs_0 8
  have nb : ¬ gb (if p = i ∧ q = j then A else 0) (gm_n G r d) := by
    split
    · next u => exact fun v => na ⟨u.1, u.2, v⟩
    · exact gb_0 _
  have vk := gk_nk_v hG (z := z) (by omega) z8 (n := gm_n G r d) (by omega) (by omega) (by omega : 0 ≤ p) pq (by omega) hB nb
  have kr : gk_kr (gk_nk (gm_n G r d) p q (if p = i ∧ q = j then A else 0)) < RK := by
    rw [gk_nk_kr (n := gm_n G r d) (by omega) (by omega) (by omega : 0 ≤ p) pq (by omega) hB.1 hB.2]
    by_cases u : p = i ∧ q = j
    · rw [if_pos u, u.1, u.2]
      exact h1
    · have := gk_rk_in (A := gb A) (B := gb (if p = i ∧ q = j then A else 0)) ip pq qj u
      omega
  have kf := gk_nk_kf (n := gm_n G r d) (A := A) (by omega) (by omega) i0 ip pq qj (by omega)
  have ws0 := ws
  obtain ⟨a1, a2, a3, a4, a5, a6, a7, a8⟩ := ws
  generalize hK : gk_nk (gm_n G r d) p q (if p = i ∧ q = j then A else 0) = K at *
  have e105 : m1 105 = m 105 := a1 105 (by decide)
  have ndK : 0 ≤ m 105 K → gk_nd G z t m r d p q i j A := fun y _ _ _ => by
    rw [hK]
    exact y
  have gl := gct_le (fun c => decide (m1 106 (gk_kf i j A c) = m1 63 64)) 648
  refine ⟨fun _ => ⟨vk.1, vk.2.1, fun _ => ⟨vk.1, vk.2.1⟩⟩, fun c => H m1 (gk_ws_w ws0 (fun e r' d' p' q' l x0 x1 x2 x3 x4 x5 x6 x7 x8 => ?_)), fun c => ⟨vk.1, vk.2.1, by omega, by omega, by omega, H _ ?_⟩⟩
  · rcases l with l | ⟨l1, l2, l3, l4⟩
    · exact Or.inl l
    · rw [l1, l2, l3, l4]
      rcases c with c | c | c
      · have := vk.1
        omega
      · refine Or.inr (ndK ?_)
        rw [e105] at c
        omega
      · have := (a8 e).1
        rw [this] at c
        have := wt K
        omega
  · have un : m1 105 K < 0 := Classical.byContradiction (fun y => c (Or.inr (Or.inl y)))
    have ne : m1 106 K ≠ m1 63 64 := fun y => c (Or.inr (Or.inr y))
    have f63 : ∀ x, x ≠ 66 → (gh_u (gh_u (gh_u m1 106 K (m1 63 64)) 107 (m1 63 66) K) 63 66 (m1 63 66 + 1)) 63 x = m1 63 x := fun x y => by
      rw [gh_u_i y, gh_u_a (by decide), gh_u_a (by decide)]
    have f66 : (gh_u (gh_u (gh_u m1 106 K (m1 63 64)) 107 (m1 63 66) K) 63 66 (m1 63 66 + 1)) 63 66 = m1 63 66 + 1 := gh_u_s _ _ _ _
    have f106 : ∀ x, (gh_u (gh_u (gh_u m1 106 K (m1 63 64)) 107 (m1 63 66) K) 63 66 (m1 63 66 + 1)) 106 x = if x = K then m1 63 64 else m1 106 x := fun x => by
      rw [gh_u_a (by decide), gh_u_a (by decide)]
      by_cases y : x = K
      · rw [if_pos y, y, gh_u_s]
      · rw [if_neg y, gh_u_i y]
    have f107 : ∀ x, (gh_u (gh_u (gh_u m1 106 K (m1 63 64)) 107 (m1 63 66) K) 63 66 (m1 63 66 + 1)) 107 x = if x = m1 63 66 then K else m1 107 x := fun x => by
      rw [gh_u_a (by decide)]
      by_cases y : x = m1 63 66
      · rw [if_pos y, y, gh_u_s]
      · rw [if_neg y, gh_u_i y, gh_u_a (by decide)]
    have fx : gx [63, 106, 107] m (gh_u (gh_u (gh_u m1 106 K (m1 63 64)) 107 (m1 63 66) K) 63 66 (m1 63 66 + 1)) := gx_u (gx_u (gx_u a1 (by decide)) (by decide)) (by decide)
    have cc := gct_one (f := fun c => decide (m1 106 (gk_kf i j A c) = m1 63 64)) (g := fun c => decide ((if gk_kf i j A c = K then m1 63 64 else m1 106 (gk_kf i j A c)) = m1 63 64)) (x := 81 * gm_n G r d + if p = q then 0 else 9 * p + q) 648 (by split <;> omega) (by split <;> omega) (fun c' _ _ cn => by
      (try dsimp only)
      rw [if_neg (fun y => cn (gk_kf_inj hA.1 A1 (y.trans kf.symm)))]) (decide_eq_false (by rw [kf]; exact ne)) (decide_eq_true (by rw [kf, if_pos rfl]))
    refine ⟨fx, fun x y1 y2 => (f63 x y2).trans (a2 x y1 y2), (f63 64 (by decide)).trans a3, fun x => ?_, ?_, fun x y => ?_, fun x y1 y2 => ?_, fun e => ?_⟩
    · rw [f106, f63 64 (by decide)]
      split
      · exact Int.le_refl _
      · exact a4 x
    · rw [f66, f63 64 (by decide)]
      have e2 : (fun c => decide ((gh_u (gh_u (gh_u m1 106 K (m1 63 64)) 107 (m1 63 66) K) 63 66 (m1 63 66 + 1)) 106 (gk_kf i j A c) = m1 63 64)) = (fun c => decide ((if gk_kf i j A c = K then m1 63 64 else m1 106 (gk_kf i j A c)) = m1 63 64)) := funext (fun c => by rw [f106])
      rw [e2, cc]
      omega
    · rw [f107, if_neg (by omega)]
      exact a6 x y
    · rw [f107]
      rw [f66] at y2
      by_cases y : x = m1 63 66
      · rw [if_pos y]
        refine ⟨vk, kr, ?_⟩
        rw [← e105]
        exact un
      · rw [if_neg y]
        exact a7 x y1 (by omega)
    · rw [f66] at e
      omega
theorem gk_wantFor {G : gm_G} {z : Int} {t : Int → Int} {U : Int → Prop} {s : Prop} {m : gh_M} {Q : Int → gh_M → Prop} {n i j A : Int} {RK : Nat} (hG : gm_ok G) (mx : gk_mx G z t U s m) (n0 : 0 ≤ n) (n1 : n < gm_N G) (i0 : 0 ≤ i) (ij : i ≤ j) (jz : j ≤ z) (hA : gbs 8 A) (h1 : gk_rk i j (gb A) < RK) (wt : ∀ x, m 106 x ≤ m 63 64) (wa : m 63 64 < 2147483647) (a0 : 0 ≤ m 63 64) (pb : m 63 66 - 1 + 648 * (RK : Int) ≤ 51840) (p0 : 1 ≤ m 63 66) (H : ∀ m2, gk_ws G z t m n i j A RK (fun _ _ _ _ => True) m2 → Q 0 m2) : w_Model_wantFor n i j A m Q := by
  have hN := hG.2.1
  have hR := hG.2.2.2.1
  have z8 := mx.2.1.2.2.1
  obtain ⟨g1, g2, g3, g4⟩ := mx.2.2.2 n n0 n1
  refine ⟨by omega, n0, by omega, ?_⟩
  rintro _ rfl
  have keep : ∀ {L m1}, gk_ws G z t m n i j A RK L m1 → gk_mx G z t U s m1 := fun ws => gk_mx_x ws.1 (by decide) (fun x hx => ws.2.1 x (by omega) (by omega)) mx
  have ws0 : gk_ws G z t m n i j A RK (fun r _ _ _ => r < m 77 n) (gh_u m 63 64 (m 63 64 + 1)) := by
    have hx : gx [63] m (gh_u m 63 64 (m 63 64 + 1)) := gx_one _ _ _ _
    have e106 := hx 106 (by decide)
    have e66 : (gh_u m 63 64 (m 63 64 + 1)) 63 66 = m 63 66 := gh_u_i (by decide)
    have e64 : (gh_u m 63 64 (m 63 64 + 1)) 63 64 = m 63 64 + 1 := gh_u_s _ _ _ _
    refine ⟨gx_sub hx (by decide), fun x y _ => gh_u_i y, e64, fun x => ?_, ?_, fun x _ => by rw [hx 107 (by decide)], fun x y1 y2 => ?_, fun _ => ⟨e106, fun r d p q l r0 r1 ro _ _ _ _ _ _ => ?_⟩⟩
    · rw [e106, e64]
      have := wt x
      omega
    · rw [e66, e64, e106]
      have e0 : gct (fun c => decide (m 106 (gk_kf i j A c) = m 63 64 + 1)) 648 = gct (fun _ => false) 648 := gct_cg 648 (fun c _ _ => decide_eq_false (fun y => by
        have := wt (gk_kf i j A c)
        omega))
      have e1 : gct (fun _ => false) 648 = 0 := by decide +kernel
      rw [e0, e1]
      omega
    · rw [e66] at y2
      omega
    · have := (g4 r r0 r1).mp ro
      omega
  refine ⟨fun r m1 => m 77 n ≤ r ∧ r ≤ m 77 n + m 78 n ∧ gk_ws G z t m n i j A RK (fun r' _ _ _ => r' < r) m1, fun r _ => (30 - r).toNat, ⟨Int.le_refl _, by omega, ws0⟩, ?_⟩
  rintro r m1 ⟨ra, rb, ws1⟩
  have mx1 := keep ws1
  unfold f_Model_wantFor_18
  rw [ws1.1 77 (by decide), ws1.1 78 (by decide)]
  refine ⟨n0, by omega, n0, by omega, by omega, fun c => ?_, fun c => H m1 (gk_ws_w ws1 (fun _ r' d p q _ x0 x1 x2 _ _ _ _ _ _ => Or.inl ?_))⟩
  rotate_left
  · have := (g4 r' x0 x1).mp x2
    omega
  have r0 : 0 ≤ r := by omega
  have r1 : r < gm_R G := by omega
  obtain ⟨p1, p2, p3, p4, p5⟩ := hG.2.2.2.2.1 r r0 r1
  obtain ⟨eo, es, ep⟩ := mx.1.2.2 r r0 r1
  refine ⟨fun d m2 => 0 ≤ d ∧ d ≤ gm_s G r ∧ gk_ws G z t m n i j A RK (fun r' d' _ _ => r' < r ∨ (r' = r ∧ d' < d)) m2, fun d _ => (10 - d).toNat, ⟨Int.le_refl _, p3, gk_ws_w ws1 (fun _ r' d p q l x0 x1 x2 x3 _ _ _ _ _ => Or.inl (by omega))⟩, ?_⟩
  rintro d m2 ⟨d0, d1, ws2⟩
  unfold f_Model_wantFor_39
  rw [ws2.1 80 (by decide), es]
  refine ⟨r0, by omega, fun c2 => ?_, fun c2 => ⟨by omega, ⟨by omega, by omega, gk_ws_w ws2 (fun _ r' d' p q l x0 x1 x2 x3 x4 _ _ _ _ => Or.inl ?_)⟩, by (try dsimp only); omega⟩⟩
  rotate_left
  · by_cases q : r' = r
    · rw [q] at x4
      omega
    · omega
  refine ⟨fun p m3 => i ≤ p ∧ p ≤ j + 1 ∧ gk_ws G z t m n i j A RK (fun r' d' p' _ => r' < r ∨ (r' = r ∧ (d' < d ∨ (d' = d ∧ p' < p)))) m3, fun p _ => (20 - p).toNat, ⟨Int.le_refl _, by omega, gk_ws_w ws2 (fun _ r' d' p q l x0 x1 x2 x3 _ _ _ _ _ => Or.inl (by omega))⟩, ?_⟩
  rintro p m3 ⟨pa, pb', ws3⟩
  unfold f_Model_wantFor_54
  refine ⟨fun c3 => ?_, fun c3 => ⟨by omega, ⟨by omega, by omega, gk_ws_w ws3 (fun _ r' d' p' q l x0 x1 x2 x3 x4 x5 x6 x7 x8 => Or.inl (by omega))⟩, by (try dsimp only); omega⟩⟩
  refine ⟨fun q m4 => p ≤ q ∧ q ≤ j + 1 ∧ gk_ws G z t m n i j A RK (fun r' d' p' q' => r' < r ∨ (r' = r ∧ (d' < d ∨ (d' = d ∧ (p' < p ∨ (p' = p ∧ q' < q)))))) m4, fun q _ => (20 - q).toNat, ⟨Int.le_refl _, by omega, gk_ws_w ws3 (fun _ r' d' p' q l x0 x1 x2 x3 _ _ _ x7 _ => Or.inl (by omega))⟩, ?_⟩
  rintro q m4 ⟨qa, qb, ws4⟩
  have mx4 := keep ws4
  have bg := mx.2.2.1.2.2.1 r d i p r0 r1 d0 (by omega) i0 (by omega) (by omega) (by omega)
  unfold f_Model_wantFor_64
  rw [ws4.1 98 (by decide), ws4.1 81 (by decide), ep d d0 c2]
  refine ⟨fun m5 => gk_ws G z t m n i j A RK (fun r' d' p' _ => r' < r ∨ (r' = r ∧ (d' < d ∨ (d' = d ∧ p' < p + 1)))) m5, fun m5 ws5 => ⟨by omega, ⟨by omega, by omega, ws5⟩, by (try dsimp only); omega⟩, fun _ => ⟨⟨by omega, by omega, by omega, by omega, by omega, by omega⟩, by omega, by omega⟩, fun c4 => gk_ws_w ws4 (fun _ r' d' p' q' l x0 x1 x2 x3 x4 x5 x6 x7 x8 => ?_), fun c4 => ⟨by omega, by omega, by omega, by omega, ?_⟩⟩
  · by_cases u : r' = r ∧ d' = d ∧ p' = p ∧ q ≤ q'
    · rcases c4 with c4 | c4
      · omega
      · rw [u.1, u.2.1, u.2.2.1] at x6
        exact absurd c4 (bg.mpr x6)
    · exact Or.inl (by omega)
  · have c5 : q ≤ j := by omega
    refine gk_keyWithin hG mx4 r0 r1 d0 c2 i0 pa qa c5 jz hA (fun y => ⟨fun u => absurd (show ((-1 : Int) < 0) by decide) u, fun _ => ⟨by omega, ⟨by omega, by omega, gk_ws_w ws4 (fun _ r' d' p' q' l x0 x1 x2 x3 x4 x5 x6 x7 x8 => ?_)⟩, by (try dsimp only); omega⟩, fun u => absurd (Or.inl (by decide)) u⟩) (fun y1 y2 y3 => gk_want hG r0 r1 d0 c2 z8 i0 pa qa c5 jz hA h1 wt pb p0 ws4 y1 y2 y3 (fun m5 ws5 => ⟨by omega, ⟨by omega, by omega, gk_ws_w ws5 (fun _ r' d' p' q' l x0 x1 x2 x3 x4 x5 x6 x7 x8 => Or.inl (by omega))⟩, by (try dsimp only); omega⟩))
    by_cases u : r' = r ∧ d' = d ∧ p' = p ∧ q' = q
    · obtain ⟨u1, u2, u3, u4⟩ := u
      rw [u1, u2, u3, u4]
      refine Or.inr (fun v1 v2 v3 => ?_)
      rcases y with y | y | y
      · exact absurd y v1
      · exact absurd v2 y
      · exact absurd y v3
    · exact Or.inl (by omega)
