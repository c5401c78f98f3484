/-! TREES: the class counts by a rule -/
abbrev gk_fl : List Int := [0, 41, 42, 43, 44, 66, 67]
/-- grammar, text, chart and facts are in their cells -/
def gk_cx (G : gm_G) (z : Int) (t : Int → Int) (O : Int → Int) (m : gh_M) : Prop := gm_C m G ∧ gt_t m ∧ gt_full G m ∧ gm_rg G (m 14) (m 15) ∧ m 26 3 = z ∧ m 27 = t ∧ m 24 = O
theorem gk_cx_x {G : gm_G} {z : Int} {t O : Int → Int} {S : List Int} {m m2 : gh_M} (hx : gx S m m2) (hS : (13 : Int) ∉ S ∧ (14 : Int) ∉ S ∧ (15 : Int) ∉ S ∧ (16 : Int) ∉ S ∧ (17 : Int) ∉ S ∧ (19 : Int) ∉ S ∧ (24 : Int) ∉ S ∧ (26 : Int) ∉ S ∧ (27 : Int) ∉ S ∧ (31 : Int) ∉ S) (h : gk_cx G z t O m) : gk_cx G z t O m2 := by
  obtain ⟨s13, s14, s15, s16, s17, s19, s24, s26, s27, s31⟩ := hS
  obtain ⟨h1, h2, h3, h4, h5, h6, h7⟩ := h
  refine ⟨gm_C_x hx ⟨s13, s16, s17, s19⟩ h1, ?_, ?_, ?_, ?_, ?_, ?_⟩
  · unfold gt_t
    rw [hx 26 s26, hx 27 s27]
    exact h2
  · unfold gt_full gt_tab
    rw [hx 26 s26, hx 27 s27, hx 31 s31]
    exact h3
  · rw [hx 14 s14, hx 15 s15]
    exact h4
  · rw [hx 26 s26]
    exact h5
  · rw [hx 27 s27]
    exact h6
  · rw [hx 24 s24]
    exact h7
/-- what the forest keeps for later is where it should be -/
def gk_mem (gk_K : Int) (m : gh_M) : Prop := (m 0 3 = gk_K ∧ m 41 7 = 45 ∧ m 41 8 = 46 ∧ m 0 1 = 66 ∧ m 0 0 = 6047 ∧ m 0 90 = 3 ∧ m 0 91 = 0 ∧ m 0 92 = 1 ∧ m 0 93 = 0) ∨ (m 0 3 = gk_K ∧ m 41 7 = 66 ∧ m 41 8 = 67 ∧ m 0 1 = 68 ∧ m 0 0 = 14239 ∧ m 0 132 = 3 ∧ m 0 133 = 4096 ∧ m 0 134 = 1 ∧ m 0 135 = 4096)
/-- the trees of names with names above them, that are kept -/
def gk_un (G : gm_G) (z : Int) (t : Int → Int) (ci cj : Int) (m : gh_M) : Prop := m 41 7 = 66 → ∀ n h, 0 ≤ n → n < gm_N G → 0 < h → h < 256 → (m 67 (n * 256 + h) = m 41 10 → m 66 (n * 256 + h) = gk_C G z t n 0 0 (gb h)) ∧ (ci < cj → m 67 ((8 + n) * 256 + h) = m 41 9 → m 66 ((8 + n) * 256 + h) = gk_C G z t n ci cj (gb h))
def gk_pl (G : gm_G) (z : Int) (t : Int → Int) (i j : Int) (m : gh_M) : Prop := ∀ n k e, 0 ≤ n → n < gm_N G → i ≤ k → k ≤ e → e ≤ j → ¬ (k = i ∧ e = j) → m 42 ((n * 9 + k) * 9 + e) = gk_C G z t n k e (fun _ => False)
def gk_pc (G : gm_G) (z : Int) (t : Int → Int) (i j : Int) (m : gh_M) : Prop := ∀ n, 0 ≤ n → n < gm_N G → m 42 ((n * 9 + i) * 9 + j) = -1 ∨ m 42 ((n * 9 + i) * 9 + j) = gk_C G z t n i j (fun _ => False)
/-- no turn is told that is not yet -/
def gk_tg (m : gh_M) : Prop := 1 ≤ m 41 10 ∧ m 41 10 ≤ m 41 9 ∧ (m 41 7 = 66 → ∀ x, m 67 x ≤ m 41 9)
def gk_st (gk_K : Int) (G : gm_G) (z : Int) (t : Int → Int) (i j ci cj : Int) (m : gh_M) : Prop := gk_mem gk_K m ∧ gk_un G z t ci cj m ∧ gk_pl G z t i j m ∧ gk_pc G z t i j m ∧ 1 ≤ m 41 9 ∧ gk_tg m
theorem gk_st_x {gk_K : Int} {G : gm_G} {z : Int} {t : Int → Int} {i j ci cj : Int} {S : List Int} {m m2 : gh_M} (hx : gx S m m2) (hS : (0 : Int) ∉ S ∧ (41 : Int) ∉ S ∧ (42 : Int) ∉ S ∧ (66 : Int) ∉ S ∧ (67 : Int) ∉ S) (h : gk_st gk_K G z t i j ci cj m) : gk_st gk_K G z t i j ci cj m2 := by
  unfold gk_st gk_mem gk_un gk_pl gk_pc gk_tg at h ⊢
  rw [hx 0 hS.1, hx 41 hS.2.1, hx 42 hS.2.2.1, hx 66 hS.2.2.2.1, hx 67 hS.2.2.2.2]
  exact h
/-- what a count at a depth leaves as it was -/
def gk_fx (D i j : Int) (m m2 : gh_M) : Prop := gx gk_fl m m2 ∧ (∀ x, x ≠ 7 → x ≠ 8 → m2 41 x = m 41 x) ∧ (∀ x, x < D * 45 → m2 43 x = m 43 x) ∧ (∀ x, x < D * 4 → m2 44 x = m 44 x) ∧ (∀ x, x % 81 ≠ 9 * i + j → m2 42 x = m 42 x) ∧ ∀ x, 0 ≤ m 42 x → m2 42 x = m 42 x
theorem gk_fx_rf {D i j : Int} {m : gh_M} : gk_fx D i j m m := ⟨gx_rf, fun _ _ _ => rfl, fun _ _ => rfl, fun _ _ => rfl, fun _ _ => rfl, fun _ _ => rfl⟩
theorem gk_fx_tr {D D2 i j : Int} (hD : D ≤ D2) {m m1 m2 : gh_M} (h1 : gk_fx D i j m m1) (h2 : gk_fx D2 i j m1 m2) : gk_fx D i j m m2 :=
  ⟨gx_tr (T := gk_fl) h1.1 h2.1, fun x a b => (h2.2.1 x a b).trans (h1.2.1 x a b), fun x a => (h2.2.2.1 x (by omega)).trans (h1.2.2.1 x a), fun x a => (h2.2.2.2.1 x (by omega)).trans (h1.2.2.2.1 x a), fun x a => (h2.2.2.2.2.1 x a).trans (h1.2.2.2.2.1 x a), fun x a => (h2.2.2.2.2.2 x (by rw [h1.2.2.2.2.2 x a]; exact a)).trans (h1.2.2.2.2.2 x a)⟩
/-- names over which others stand; names that make the empty row -/
def gk_fa (G : gm_G) (E : Int) (O : Int → Int) : Prop := gm_Ecl G E ∧ (∀ n, 0 ≤ n → n < gm_N G → gbs (gm_N G).toNat (O n)) ∧ gm_tcp (gm_N G) (gm_ob G E (gm_R G) 0) O
theorem gk_times {a b : Int} (a0 : 0 ≤ a) (a1 : a ≤ 1000000000000000000) (b0 : 0 < b) : k_Forest_times a b ∧ x_Forest_times a b = min (a * b) 1000000000000000000 := by
  have le := Int.le_ediv_iff_mul_le (a := a) (b := 1000000000000000000) (c := b) b0
  have ab : 0 ≤ a * b := Int.mul_nonneg a0 (Int.le_of_lt b0)
  constructor
  · unfold k_Forest_times
    exact fun _ _ => ⟨b0, fun q => ⟨by have := le.mp q; omega, by have := le.mp q; omega⟩⟩
  · unfold x_Forest_times
    by_cases q : a = 0
    · rw [if_pos q, q, Int.zero_mul]
      decide
    · rw [if_neg q, if_neg (by omega)]
      by_cases q2 : a ≤ 1000000000000000000 / b
      · rw [if_pos q2]
      · rw [if_neg q2]
        have : ¬ a * b ≤ 1000000000000000000 := fun y => q2 (le.mpr y)
        omega
/-- the parts ahead of one that begins where the row does are names that make the empty row -/
theorem gk_row_ii {G : gm_G} (hG : gm_ok G) {z : Int} {t : Int → Int} {E : Int} (e1 : gm_Ecl G E) {r i : Int} (iz : i ≤ z) : ∀ d : Nat, gt_rw (gt_pm G z t (gt_M G z t) r) d i i → ∀ e : Int, 0 ≤ e → e < d → gm_n G r e ≠ -1 ∧ gb E (gm_n G r e)
  | 0, _, e, a, b => by omega
  | d + 1, w, e, a, b => by
    obtain ⟨p, w1, w2⟩ := w
    have r1 := gt_row_le iz (fun n p q y => (gt_M_rng hG y).2.2.2) d p w1
    rcases w2 with ⟨_, y, _⟩ | ⟨y1, y2⟩
    · omega
    · have r2 := gt_M_rng hG y2
      have pi : p = i := by omega
      rw [pi] at w1 y2
      by_cases q : e = d
      · rw [q]
        exact ⟨y1, gk_ME hG e1 y2⟩
      · exact gk_row_ii hG e1 iz d w1 e a (by omega)
theorem gk_row_i {G : gm_G} (hG : gm_ok G) {z : Int} {t : Int → Int} {E : Int} (e1 : gm_Ecl G E) {r i d : Int} (iz : i ≤ z) (d0 : 0 ≤ d) (w : gt_row G z t (gt_M G z t) r d i i) {e : Int} (a : 0 ≤ e) (b : e < d) : gm_n G r e ≠ -1 ∧ gb E (gm_n G r e) := gk_row_ii hG e1 iz d.toNat w e a (by omega)
/-- so are the parts behind one that ends where the row does -/
theorem gk_R_j {G : gm_G} (hG : gm_ok G) {z : Int} {t : Int → Int} {E : Int} (e1 : gm_Ecl G E) {r i j d : Int} {B : Int → Prop} (w : gk_R G z t r i j B d j ≠ 0) {e : Int} (a : d ≤ e) (b : e < gm_s G r) : gm_n G r e ≠ -1 ∧ gb E (gm_n G r e) := by
  have o := gk_W_1 _ w e (by omega) b
  rcases gk_own_pm (fun n i j A => gk_C_M) o with ⟨_, y, _⟩ | ⟨y1, y2⟩
  · omega
  · exact ⟨y1, gk_ME hG e1 y2⟩
theorem gk_ofPart {REC : Int → Int → Int → Int → Int → gh_M → (Int → gh_M → Prop) → Prop} {G : gm_G} {z : Int} {t O : Int → Int} {m : gh_M} {Q : Int → gh_M → Prop} {r i j D B d k e : Int} (hG : gm_ok G) (r0 : 0 ≤ r) (r1 : r < gm_R G) (i0 : 0 ≤ i) (ik : i ≤ k) (ke : k ≤ e) (ej : e ≤ j) (jz : j ≤ z) (D0 : 0 ≤ D) (D8 : D < 8) (d0 : 0 ≤ d) (d1 : d < gm_s G r) (cx : gk_cx G z t O m) (pl : gk_pl G z t i j m) (h0 : ¬ (gm_n G r d ≠ -1 ∧ k = i ∧ e = j) → Q (gk_own G z t (gk_C G z t) r i j (gb B) d k e) m) (h1 : gm_n G r d ≠ -1 → k = i → e = j → REC (gm_n G r d) i j B (D + 1) m (fun x y => Q x y)) : w_Forest_countOfPart REC (gm_p G r d) k e i j B D m Q := by
  have hN := hG.2.1
  obtain ⟨c1, c2, c3, c4, c5, c6, c7⟩ := cx
  have z8 : z ≤ 8 := by
    have := c2.2.1
    omega
  obtain ⟨kk, xx⟩ := gm_nameOf hG c1 r0 r1 d0 d1
  have nn := gm_n_rng hG r0 r1 d0 d1
  have pp := gm_p_n hG r0 r1 d0 d1
  refine ⟨kk, ?_⟩
  rintro _ rfl
  rw [xx]
  refine ⟨fun q => ⟨by omega, fun _ _ _ => by omega, ?_⟩, fun q => ⟨Q (m 42 ((gm_n G r d * 9 + k) * 9 + e)) m, fun y => ⟨⟨by omega, by omega, by omega, by omega⟩, by omega, by omega, y⟩, fun y => ⟨by omega, ?_⟩, fun y => ?_⟩⟩
  · have e1 : (if e = k + 1 ∧ p_Text_fits (gm_p G r d) k m then (1 : Int) else 0) = gk_own G z t (gk_C G z t) r i j (gb B) d k e := by
      unfold gk_own
      rw [if_pos q]
      by_cases w : e = k + 1
      · have lt := c2.2.2 k (by omega) (by omega)
        rw [c6] at lt
        have tst := gb_test0 (x := gm_p G r d) (i := t k) ⟨by omega, by omega⟩ lt.1 (by omega)
        by_cases w2 : gb (gm_p G r d) (t k)
        · rw [gt_ib_t ⟨w, by omega, w2⟩, if_pos ⟨w, by omega, by omega, fun y => by rw [c6] at y; exact tst.mp y w2⟩]
        · rw [gt_ib_f (fun y => w2 y.2.2), if_neg (fun y => y.2.2.2 (by rw [c6]; exact tst.mpr w2))]
      · rw [gt_ib_f (fun y => w y.1), if_neg (fun y => w y.1)]
    rw [e1]
    exact h0 (fun y => y.1 q)
  · exact h1 q y.1 y.2
  · have e1 : m 42 ((gm_n G r d * 9 + k) * 9 + e) = gk_own G z t (gk_C G z t) r i j (gb B) d k e := by
      unfold gk_own
      rw [if_neg q, if_neg y]
      exact pl _ k e (by omega) (by omega) ik ke ej y
    (try dsimp only)
    rw [e1]
    exact h0 (fun w => y ⟨w.2.1, w.2.2⟩)
theorem gk_byRule {gk_K : Int} {REC : Int → Int → Int → Int → Int → gh_M → (Int → gh_M → Prop) → Prop} {G : gm_G} {z : Int} {t : Int → Int} {E : Int} {O : Int → Int} {m : gh_M} {Q : Int → gh_M → Prop} {r i j D B ci cj : Int} (hG : gm_ok G) (fa : gk_fa G E O) (r0 : 0 ≤ r) (r1 : r < gm_R G) (i0 : 0 ≤ i) (ij : i ≤ j) (jz : j ≤ z) (D0 : 0 ≤ D) (D8 : D < 8) (hrec : ∀ d m1 Q1, 0 ≤ d → d < gm_s G r → gm_n G r d ≠ -1 → (gt_M G z t (gm_n G r d) i j → gm_er G E r 0 d) → gk_cx G z t O m1 → gk_st gk_K G z t i j ci cj m1 → (∀ m2, gk_fx (D + 1) i j m1 m2 → gk_st gk_K G z t i j ci cj m2 → Q1 (gk_C G z t (gm_n G r d) i j (gb B)) m2) → REC (gm_n G r d) i j B (D + 1) m1 Q1) (cx : gk_cx G z t O m) (st : gk_st gk_K G z t i j ci cj m) (h : ∀ m2, gk_fx D i j m m2 → gk_st gk_K G z t i j ci cj m2 → (∀ d k, 0 ≤ d → d ≤ gm_s G r → i ≤ k → k ≤ j → gt_row G z t (gt_M G z t) r d i k → m2 43 (D * 45 + d * 9 + k) = gk_R G z t r i j (gb B) d k) → Q (gk_R G z t r i j (gb B) 0 i) m2) : w_Forest_countByRule REC r i j B D m Q := by
  have hN := hG.2.1
  have hR := hG.2.2.2.1
  obtain ⟨p1, p2, p3, p4, p5⟩ := hG.2.2.2.2.1 r r0 r1
  have z8 : z ≤ 8 := by
    have := cx.2.1.2.1
    have := cx.2.2.2.2.1
    omega
  have b1 : gbs 9 (gh_ishl_f 1 i) := gbs_one i0 (by omega) (by decide)
  have cx0 : ∀ m1, gx [44] m m1 → gk_cx G z t O m1 := fun m1 hx => gk_cx_x hx (by decide) cx
  have e17 := (cx.1.2.2 r r0 r1).2.1
  unfold w_Forest_countByRule
  refine ⟨by omega, ?_⟩
  rintro _ rfl
  refine ⟨r0, by omega, ?_⟩
  rintro _ rfl
  rintro _ rfl
  rw [e17]
  refine ⟨fun P d m1 => 0 ≤ d ∧ d ≤ gm_s G r ∧ gbs 9 P ∧ (∀ q, 0 ≤ q → (gb P q ↔ gt_row G z t (gt_M G z t) r d i q)) ∧ gx [44] m m1 ∧ (∀ x, x < D * 4 → m1 44 x = m 44 x) ∧ ∀ e, 0 ≤ e → e < d → gbs 9 (m1 44 (D * 4 + e)) ∧ ∀ q, 0 ≤ q → (gb (m1 44 (D * 4 + e)) q ↔ gt_row G z t (gt_M G z t) r e i q), fun _ d _ => (10 - d).toNat, ⟨by omega, p3, b1, fun q q0 => ?_, gx_rf, fun _ _ => rfl, fun e a b => by omega⟩, ?_⟩
  · rw [gb_ishl1 i0 (by omega) q0, gt_row_0]
    exact eq_comm
  rintro P d m1 ⟨d0, d1, hP, hq, hx, h44, hst⟩
  unfold f_Forest_countByRule_26
  refine ⟨fun c => ?_, fun c => ?_⟩
  · have hx2 : gx [44] m (gh_u m1 44 (D * 4 + d) P) := gx_u hx (List.mem_singleton.mpr rfl)
    have cx2 := cx0 _ hx2
    obtain ⟨kk, xx⟩ := gm_partAt hG cx2.1 r0 r1 d0 c
    refine ⟨by omega, by omega, by omega, by omega, kk, ?_⟩
    rw [xx]
    refine gt_beyond hG cx2.1 cx2.2.1 (gt_full_s cx2.2.2.1) r0 r1 d0 c hP (fun V h1 h2 => ⟨by omega, ⟨by omega, by omega, h1, fun q q0 => ?_, hx2, fun x xl => ?_, fun e e0 e1 => ?_⟩, by (try dsimp only); omega⟩)
    · rw [h2 q q0, gt_row_s d0, cx2.2.2.2.2.1, cx2.2.2.2.2.2.1]
      have tm : ∀ n p q, gt_tab G (gh_u m1 44 (D * 4 + d) P) n p q ↔ gt_M G z t n p q := fun n p q => by
        have := cx2.2.2.1.2 n p q
        rw [cx2.2.2.2.2.1, cx2.2.2.2.2.2.1] at this
        exact this
      constructor
      · rintro ⟨p, y1, y2, y3, y4⟩
        exact ⟨p, (hq p y1).mp y3, gt_pm_mono (fun _ => (tm _ p q).mp) y4⟩
      · rintro ⟨p, y1, y2⟩
        have rg := gt_row_M hG (by omega) y1
        exact ⟨p, by omega, rg.2, (hq p (by omega)).mpr y1, gt_pm_mono (fun _ => (tm _ p q).mpr) y2⟩
    · rw [gh_u_i (by omega)]
      exact h44 x xl
    · by_cases q : e = d
      · rw [q, gh_u_s]
        exact ⟨hP, hq⟩
      · rw [gh_u_i (by omega)]
        exact hst e e0 (by omega)
  have ed : d = gm_s G r := by omega
  refine ⟨fun k m2 => i ≤ k ∧ k ≤ j + 1 ∧ gx [43] m1 m2 ∧ (∀ x, x < D * 45 → m2 43 x = m1 43 x) ∧ ∀ k', i ≤ k' → k' < k → m2 43 (D * 45 + gm_s G r * 9 + k') = if k' = j then 1 else 0, fun k _ => (20 - k).toNat, ⟨by omega, by omega, gx_rf, fun _ _ => rfl, fun k' a b => by omega⟩, ?_⟩
  rintro k m2 ⟨k0, k1, hx2, h43, hk⟩
  unfold f_Forest_countByRule_77
  refine ⟨fun c2 => ⟨by omega, by omega, by omega, by omega, by omega, by omega, ⟨by omega, by omega, gx_u hx2 (List.mem_singleton.mpr rfl), fun x xl => ?_, fun k' a b => ?_⟩, by (try dsimp only); omega⟩, fun c2 => ?_⟩
  · rw [gh_u_i (by omega)]
    exact h43 x xl
  · by_cases q : k' = k
    · rw [q, gh_u_s]
    · rw [gh_u_i (by omega)]
      exact hk k' a (by omega)
  refine ⟨by omega, ?_⟩
  rintro _ rfl
  -- what holds while the table of ways is filled
  have inv0 : ∃ BI : Int → Int → gh_M → Prop, BI = fun d k m3 => gk_fx D i j m m3 ∧ gk_st gk_K G z t i j ci cj m3 ∧ (∀ e, 0 ≤ e → e < gm_s G r → gbs 9 (m3 44 (D * 4 + e)) ∧ ∀ q, 0 ≤ q → (gb (m3 44 (D * 4 + e)) q ↔ gt_row G z t (gt_M G z t) r e i q)) ∧ ∀ d' k', 0 ≤ d' → d' ≤ gm_s G r → i ≤ k' → k' ≤ j → (d < d' ∨ (d' = d ∧ k' < k)) → gt_row G z t (gt_M G z t) r d' i k' → m3 43 (D * 45 + d' * 9 + k') = gk_R G z t r i j (gb B) d' k' := ⟨_, rfl⟩
  obtain ⟨BI, hBI⟩ := inv0
  have BI0 : BI (gm_s G r - 1) i m2 := by
    rw [hBI]
    have hxx : gx [44, 43] m m2 := fun a ha => (hx2 a (fun y => ha (by rw [List.mem_singleton.mp y]; decide))).trans (hx a (fun y => ha (by rw [List.mem_singleton.mp y]; decide)))
    refine ⟨⟨gx_sub hxx (by decide), fun x _ _ => by rw [hxx 41 (by decide)], fun x xl => (h43 x xl).trans (by rw [hx 43 (by decide)]), fun x xl => by rw [hx2 44 (by decide)]; exact h44 x xl, fun x _ => by rw [hxx 42 (by decide)], fun x _ => by rw [hxx 42 (by decide)]⟩, gk_st_x hxx (by decide) st, fun e e0 e1 => ?_, fun d' k' a b c' d'' o w => ?_⟩
    · rw [hx2 44 (by decide)]
      exact hst e e0 (by omega)
    · by_cases q : d' = gm_s G r
      · rw [q, gk_R_e]
        exact hk k' c' (by omega)
      · omega
  refine ⟨fun d m3 => -1 ≤ d ∧ d < gm_s G r ∧ BI d i m3, fun d _ => (d + 2).toNat, ⟨by omega, by omega, BI0⟩, ?_⟩
  rintro d3 m3 ⟨d30, d31, B3⟩
  unfold f_Forest_countByRule_122
  refine ⟨fun c3 => ⟨by omega, by omega, by omega, ?_⟩, fun c3 => ?_⟩
  · rw [hBI] at B3
    obtain ⟨b1, b2, b3, b4⟩ := B3
    have all : ∀ d k, 0 ≤ d → d ≤ gm_s G r → i ≤ k → k ≤ j → gt_row G z t (gt_M G z t) r d i k → m3 43 (D * 45 + d * 9 + k) = gk_R G z t r i j (gb B) d k := fun d' k' a b c' d'' w => b4 d' k' a b c' d'' (Or.inl (by omega)) w
    have e0 := all 0 i (Int.le_refl _) p3 (Int.le_refl _) ij rfl
    have e1 : D * 45 + 0 * 9 + i = D * 45 + i := by omega
    rw [e1] at e0
    rw [e0]
    exact h m3 b1 b2 all
  refine ⟨fun k m4 => i ≤ k ∧ k ≤ j + 1 ∧ BI d3 k m4, fun k _ => (20 - k).toNat, ⟨by omega, by omega, B3⟩, ?_⟩
  rintro k4 m4 ⟨k40, k41, B4⟩
  unfold f_Forest_countByRule_130
  refine ⟨fun c4 => ⟨by omega, by omega, by omega, by omega, ?_⟩, fun c4 => ⟨by omega, ⟨by omega, by omega, ?_⟩, by (try dsimp only); omega⟩⟩
  rotate_left
  · rw [hBI] at B4 ⊢
    exact ⟨B4.1, B4.2.1, B4.2.2.1, fun d' k' a b c' d'' o w => B4.2.2.2 d' k' a b c' d'' (by omega) w⟩
  have B4' := B4
  rw [hBI] at B4'
  obtain ⟨s1, s2⟩ := B4'.2.2.1 d3 (by omega) d31
  have tst := gb_test0 (x := m4 44 (D * 4 + d3)) (i := k4) (gbs_le s1 (by decide)) (by omega) (by omega)
  rintro _ rfl
  refine ⟨fun w e m5 => k4 ≤ e ∧ e ≤ j + 1 ∧ BI d3 k4 m5 ∧ w = min (gsum (fun x => min (gk_own G z t (gk_C G z t) r i j (gb B) d3 k4 (k4 + x) * gk_R G z t r i j (gb B) (d3 + 1) (k4 + x)) 1000000000000000000) (e - k4).toNat) 1000000000000000000, fun _ e _ => (20 - e).toNat, ⟨by omega, by omega, B4, ?_⟩, ?_⟩
  · have : (k4 - k4).toNat = 0 := by omega
    rw [this]
    rfl
  rintro w e m5 ⟨e0, e1, B5, hw⟩
  unfold f_Forest_countByRule_170
  refine ⟨fun w m6 => BI d3 k4 m6 ∧ (gt_row G z t (gt_M G z t) r d3 i k4 → w = gk_R G z t r i j (gb B) d3 k4), fun w m6 ⟨B6, hw6⟩ => ⟨by omega, by omega, by omega, by omega, by omega, by omega, ⟨by omega, by omega, ?_⟩, by (try dsimp only); omega⟩, fun c5 => ⟨B5, fun row => ?_⟩, fun c5 => ?_⟩
  · rw [hBI] at B6 ⊢
    obtain ⟨b1, b2, b3, b4⟩ := B6
    have hx6 : gx [43] m6 (gh_u m6 43 (D * 45 + d3 * 9 + k4) w) := gx_one _ _ _ _
    refine ⟨⟨gx_u b1.1 (by decide), fun x x7 x8 => by rw [hx6 41 (by decide)]; exact b1.2.1 x x7 x8, fun x xl => by rw [gh_u_i (by omega)]; exact b1.2.2.1 x xl, fun x xl => by rw [hx6 44 (by decide)]; exact b1.2.2.2.1 x xl, fun x xl => by rw [hx6 42 (by decide)]; exact b1.2.2.2.2.1 x xl, fun x xl => by rw [hx6 42 (by decide)]; exact b1.2.2.2.2.2 x xl⟩, gk_st_x hx6 (by decide) b2, fun e e0 e1 => by rw [hx6 44 (by decide)]; exact b3 e e0 e1, fun d' k' a b c' d'' o y => ?_⟩
    by_cases q : d' = d3 ∧ k' = k4
    · rw [q.1, q.2, gh_u_s]
      rw [q.1, q.2] at y
      exact hw6 y
    · rw [gh_u_i (by omega)]
      exact b4 d' k' a b c' d'' (by omega) y
  · rcases c5 with c5 | c5
    · have ee : e = j + 1 := by omega
      rw [hw, ee, gk_R_s (by omega) d31]
    · have : ¬ gh_iand_f (gh_ishr_f (m4 44 (D * 4 + d3)) k4) 1 = 0 := fun y => tst.mp y ((s2 k4 (by omega)).mpr row)
      rw [if_pos this] at c5
      exact absurd c5 (by decide)
  have ej : e ≤ j := by omega
  have row : gt_row G z t (gt_M G z t) r d3 i k4 := by
    refine (s2 k4 (by omega)).mp (Classical.byContradiction (fun y => c5 (Or.inr ?_)))
    rw [if_neg (fun u => u (tst.mpr y))]
  have B5' := B5
  rw [hBI] at B5'
  obtain ⟨b1, b2, b3, b4⟩ := B5'
  refine ⟨by omega, by omega, by omega, by omega, by omega, by omega, ?_⟩
  rintro _ rfl
  have Rb := gk_R_b hG (z := z) (t := t) (i := i) (j := j) (B := gb B) (d := d3 + 1) (k := e) r0 r1 (by omega)
  have ob := gk_own_nn (G := G) (z := z) (t := t) (T := gk_C G z t) (fun n i j A => (gk_C_b hG n i j A).1) r i j (gb B) d3 k4 e
  have ob1 : gk_own G z t (gk_C G z t) r i j (gb B) d3 k4 e ≤ 1000000000000000000 := by
    unfold gk_own
    have f01 := gt_ib_01 (P := e = k4 + 1 ∧ k4 < z ∧ gb (gm_p G r d3) (t k4))
    split
    · omega
    · split <;> exact (gk_C_b hG _ _ _ _).2
  have rv0 : gt_pm G z t (gt_M G z t) r d3 k4 e → m5 43 (D * 45 + (d3 + 1) * 9 + e) = gk_R G z t r i j (gb B) (d3 + 1) e := fun y =>
    b4 (d3 + 1) e (by omega) (by omega) (by omega) ej (Or.inl (by omega)) ((gt_row_s (by omega)).mpr ⟨k4, row, y⟩)
  have rv : gk_own G z t (gk_C G z t) r i j (gb B) d3 k4 e ≠ 0 → m5 43 (D * 45 + (d3 + 1) * 9 + e) = gk_R G z t r i j (gb B) (d3 + 1) e := fun y => rv0 (gk_own_pm (fun n i j A => gk_C_M) y)
  have step : (e + 1 - k4).toNat = (e - k4).toNat + 1 := by omega
  have g0 : 0 ≤ gsum (fun x => min (gk_own G z t (gk_C G z t) r i j (gb B) d3 k4 (k4 + x) * gk_R G z t r i j (gb B) (d3 + 1) (k4 + x)) 1000000000000000000) (e - k4).toNat := gsum_nn _ (fun x x0 x1 => by
    have a := gk_own_nn (G := G) (z := z) (t := t) (T := gk_C G z t) (fun n i j A => (gk_C_b hG n i j A).1) r i j (gb B) d3 k4 (k4 + x)
    have b := (gk_R_b hG (z := z) (t := t) (i := i) (j := j) (B := gb B) (d := d3 + 1) (k := k4 + x) r0 r1 (by omega)).1
    have := Int.mul_nonneg a b
    (try dsimp only)
    omega)
  have nxt : ∀ w2, w2 = min (w + min (gk_own G z t (gk_C G z t) r i j (gb B) d3 k4 e * gk_R G z t r i j (gb B) (d3 + 1) e) 1000000000000000000) 1000000000000000000 → w2 = min (gsum (fun x => min (gk_own G z t (gk_C G z t) r i j (gb B) d3 k4 (k4 + x) * gk_R G z t r i j (gb B) (d3 + 1) (k4 + x)) 1000000000000000000) (e + 1 - k4).toNat) 1000000000000000000 := by
    intro w2 hw2
    rw [step]
    show w2 = min (gsum _ _ + min (gk_own G z t (gk_C G z t) r i j (gb B) d3 k4 (k4 + ((e - k4).toNat : Int)) * gk_R G z t r i j (gb B) (d3 + 1) (k4 + ((e - k4).toNat : Int))) 1000000000000000000) 1000000000000000000
    have e3 : k4 + ((e - k4).toNat : Int) = e := by omega
    have ab := Int.mul_nonneg ob Rb.1
    rw [e3, hw2, hw]
    omega
  refine ⟨fun w2 m6 => BI d3 k4 m6 ∧ w2 = min (gsum (fun x => min (gk_own G z t (gk_C G z t) r i j (gb B) d3 k4 (k4 + x) * gk_R G z t r i j (gb B) (d3 + 1) (k4 + x)) 1000000000000000000) (e + 1 - k4).toNat) 1000000000000000000, fun w2 m6 y => ⟨by omega, ⟨by omega, by omega, y.1, y.2⟩, by (try dsimp only); omega⟩, fun c6 => ⟨B5, nxt w ?_⟩, fun c6 => ?_⟩
  · have : gk_own G z t (gk_C G z t) r i j (gb B) d3 k4 e * gk_R G z t r i j (gb B) (d3 + 1) e = 0 := by
      by_cases q : gk_own G z t (gk_C G z t) r i j (gb B) d3 k4 e = 0
      · rw [q, Int.zero_mul]
      · have := rv q
        have z0 : gk_R G z t r i j (gb B) (d3 + 1) e = 0 := by omega
        rw [z0, Int.mul_zero]
    rw [this]
    omega
  · have cx5 : gk_cx G z t O m5 := gk_cx_x b1.1 (by decide) cx
    obtain ⟨kk, xx⟩ := gm_partAt hG cx5.1 r0 r1 (d := d3) (by omega) d31
    refine ⟨kk, ?_⟩
    rw [xx]
    have fin : ∀ m6, BI d3 k4 m6 → k_Forest_times (gk_own G z t (gk_C G z t) r i j (gb B) d3 k4 e) (m5 43 (D * 45 + (d3 + 1) * 9 + e)) ∧ k_Forest_plus w (x_Forest_times (gk_own G z t (gk_C G z t) r i j (gb B) d3 k4 e) (m5 43 (D * 45 + (d3 + 1) * 9 + e))) ∧ ∀ w2, w2 = x_Forest_plus w (x_Forest_times (gk_own G z t (gk_C G z t) r i j (gb B) d3 k4 e) (m5 43 (D * 45 + (d3 + 1) * 9 + e))) → BI d3 k4 m6 ∧ w2 = min (gsum (fun x => min (gk_own G z t (gk_C G z t) r i j (gb B) d3 k4 (k4 + x) * gk_R G z t r i j (gb B) (d3 + 1) (k4 + x)) 1000000000000000000) (e + 1 - k4).toNat) 1000000000000000000 := by
      intro m6 B6
      obtain ⟨t1, t2⟩ := gk_times (a := gk_own G z t (gk_C G z t) r i j (gb B) d3 k4 e) (b := m5 43 (D * 45 + (d3 + 1) * 9 + e)) ob ob1 (by omega)
      have t3 : gk_own G z t (gk_C G z t) r i j (gb B) d3 k4 e * m5 43 (D * 45 + (d3 + 1) * 9 + e) = gk_own G z t (gk_C G z t) r i j (gb B) d3 k4 e * gk_R G z t r i j (gb B) (d3 + 1) e := by
        by_cases q : gk_own G z t (gk_C G z t) r i j (gb B) d3 k4 e = 0
        · rw [q, Int.zero_mul, Int.zero_mul]
        · rw [rv q]
      have ab := Int.mul_nonneg ob Rb.1
      rw [t3] at t2
      refine ⟨t1, ?_, ?_⟩
      · rw [t2]
        unfold k_Forest_plus
        exact ⟨by omega, by omega⟩
      · rw [t2]
        unfold x_Forest_plus
        exact fun w2 y => ⟨B6, nxt w2 y⟩
    refine gk_ofPart hG r0 r1 i0 (by omega) (by omega) ej jz D0 D8 (by omega) d31 cx5 b2.2.2.1 (fun _ => fin m5 B5) (fun n1 ki ej2 => ?_)
    have er : gt_M G z t (gm_n G r d3) i j → gm_er G E r 0 d3 := by
      intro mm x x0 x1 xn
      by_cases lt : x < d3
      · rw [ki] at row
        exact gk_row_i hG fa.1 (by omega) (by omega) row x0 lt
      · have v := rv0 (Or.inr ⟨n1, by rw [ki, ej2]; exact mm⟩)
        have v2 : gk_R G z t r i j (gb B) (d3 + 1) e ≠ 0 := by omega
        rw [ej2] at v2
        exact gk_R_j hG fa.1 v2 (by omega) x1
    refine hrec d3 m5 _ (by omega) d31 n1 er cx5 b2 (fun m6 fx6 st6 => ?_)
    have oe : gk_C G z t (gm_n G r d3) i j (gb B) = gk_own G z t (gk_C G z t) r i j (gb B) d3 k4 e := by
      unfold gk_own
      rw [if_neg n1, if_pos ⟨ki, ej2⟩]
    rw [oe]
    refine fin m6 ?_
    rw [hBI]
    refine ⟨gk_fx_tr (by omega) b1 fx6, st6, fun x x0 x1 => by rw [fx6.2.2.2.1 _ (by omega)]; exact b3 x x0 x1, fun d' k' a b c' d'' o y => by rw [fx6.2.2.1 _ (by omega)]; exact b4 d' k' a b c' d'' o y⟩

