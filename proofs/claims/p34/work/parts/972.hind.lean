/-! TREES: what their number does not ask for -/
theorem gk_T_0 {G : gm_G} {z : Int} {t : Int → Int} {f : Nat} {n i j : Int} {A : Int → Prop} (h : ¬ gt_M G z t n i j) : gk_T G z t f n i j A = 0 := by
  cases f with
  | zero => rfl
  | succ f =>
    show gt_if _ _ = 0
    exact gt_if_f (fun y => h y.2)
theorem gk_C_0 {G : gm_G} {z : Int} {t : Int → Int} {n i j : Int} {A : Int → Prop} (h : ¬ gt_M G z t n i j) : gk_C G z t n i j A = 0 := gk_T_0 h
theorem gk_C_M {G : gm_G} {z : Int} {t : Int → Int} {n i j : Int} {A : Int → Prop} (h : gk_C G z t n i j A ≠ 0) : gt_M G z t n i j := Classical.byContradiction (fun y => h (gk_C_0 y))
/-- a part that has a tree makes the letters -/
theorem gk_own_pm {G : gm_G} {z : Int} {t : Int → Int} {T : Int → Int → Int → (Int → Prop) → Int} (hT : ∀ n i j A, T n i j A ≠ 0 → gt_M G z t n i j) {r i j : Int} {B : Int → Prop} {d k e : Int} (h : gk_own G z t T r i j B d k e ≠ 0) : gt_pm G z t (gt_M G z t) r d k e := by
  unfold gk_own at h
  by_cases w : gm_n G r d = -1
  · rw [if_pos w] at h
    refine Or.inl ⟨w, ?_⟩
    exact Classical.byContradiction (fun y => h (gt_ib_f y))
  · rw [if_neg w] at h
    refine Or.inr ⟨w, ?_⟩
    by_cases q : k = i ∧ e = j
    · rw [if_pos q] at h
      rw [q.1, q.2]
      exact hT _ _ _ _ h
    · rw [if_neg q] at h
      exact hT _ _ _ _ h
theorem gk_cut {G : gm_G} (hG : gm_ok G) {z z2 c : Int} {t t2 : Int → Int} (c1 : c ≤ z) (c2 : c ≤ z2) (ht : ∀ p, 0 ≤ p → p < c → t p = t2 p) : ∀ (f : Nat) (n i j : Int) (A : Int → Prop), 0 ≤ i → j ≤ c → gk_T G z t f n i j A = gk_T G z2 t2 f n i j A
  | 0, _, _, _, _, _, _ => rfl
  | f + 1, n, i, j, A, i0, jc => by
    have mm := gt_M_cut2 hG c1 c2 ht (n := n) (i := i) (j := j) jc
    have e := gk_body_cg hG (z := z) (z2 := z2) (t := t) (t2 := t2) (T := gk_T G z t f) (T2 := gk_T G z2 t2 f) (n := n) (i := i) (j := j) (A := A) (A2 := A) (fun r d k e r0 r1 ro d0 d1 ik ke ej => by
      unfold gk_own
      by_cases w : gm_n G r d = -1
      · rw [if_pos w, if_pos w]
        refine gt_ib_cg ⟨fun ⟨a, b, x⟩ => ⟨a, by omega, ?_⟩, fun ⟨a, b, x⟩ => ⟨a, by omega, ?_⟩⟩
        · rw [← ht k (by omega) (by omega)]
          exact x
        · rw [ht k (by omega) (by omega)]
          exact x
      · rw [if_neg w, if_neg w]
        by_cases w2 : k = i ∧ e = j
        · rw [if_pos w2, if_pos w2]
          exact gk_cut hG c1 c2 ht f _ i j _ i0 jc
        · rw [if_neg w2, if_neg w2]
          exact gk_cut hG c1 c2 ht f _ k e _ (by omega) (by omega))
    show gt_if _ (min _ _) = gt_if _ (min _ _)
    rw [e]
    exact gt_if_cg ⟨fun y => ⟨y.1, mm.mp y.2⟩, fun y => ⟨y.1, mm.mpr y.2⟩⟩
theorem gk_C_cut {G : gm_G} (hG : gm_ok G) {z z2 c : Int} {t t2 : Int → Int} (c1 : c ≤ z) (c2 : c ≤ z2) (ht : ∀ p, 0 ≤ p → p < c → t p = t2 p) {n i j : Int} {A : Int → Prop} (i0 : 0 ≤ i) (jc : j ≤ c) : gk_C G z t n i j A = gk_C G z2 t2 n i j A := gk_cut hG c1 c2 ht 100 n i j A i0 jc
/-- names that make the empty row have all that is closed under rows of them -/
theorem gk_Mpp {G : gm_G} (hG : gm_ok G) {z : Int} {t : Int → Int} {X : Int → Prop} (hX : ∀ r, 0 ≤ r → r < gm_R G → (∀ d, 0 ≤ d → d < gm_s G r → gm_n G r d ≠ -1 ∧ X (gm_n G r d)) → X (gm_o G r)) {n p : Int} (h : gt_M G z t n p p) : X n := by
  have key : gt_cl G z t (fun n i j => i ≤ j ∧ (i = j → X n)) := by
    intro r i j r0 r1 i0 i1 w
    have p3 := (hG.2.2.2.2.1 r r0 r1).2.2.1
    have st : ∀ (k : Nat) (q : Int), (k : Int) ≤ gm_s G r → gt_rw (gt_pm G z t (fun n i j => i ≤ j ∧ (i = j → X n)) r) k i q → i ≤ q ∧ (i = q → ∀ d : Int, 0 ≤ d → d < k → gm_n G r d ≠ -1 ∧ X (gm_n G r d)) := by
      intro k
      induction k with
      | zero =>
        intro q _ e
        have e2 : i = q := e
        exact ⟨by omega, fun _ d a b => by omega⟩
      | succ k ih =>
        rintro q hk ⟨u, w1, w2⟩
        obtain ⟨h1, h2⟩ := ih u (by omega) w1
        rcases w2 with ⟨_, a1, a2, _⟩ | ⟨a1, a2, a3⟩
        · exact ⟨by omega, fun e => by omega⟩
        · refine ⟨by omega, fun e d d0 d1 => ?_⟩
          by_cases dk : d = k
          · rw [dk]
            exact ⟨a1, a3 (by omega)⟩
          · exact h2 (by omega) d d0 (by omega)
    obtain ⟨h1, h2⟩ := st (gm_s G r).toNat j (by omega) w
    exact ⟨h1, fun e => hX r r0 r1 (fun d d0 d1 => h2 e d d0 (by omega))⟩
  exact (h _ key).2 rfl
theorem gk_Mpk {G : gm_G} (hG : gm_ok G) {z : Int} {t : Int → Int} {n p k : Int} (k0 : 0 ≤ k) (k1 : k ≤ z) (h : gt_M G z t n p p) : gt_M G z t n k k := by
  refine gk_Mpp hG (X := fun n => gt_M G z t n k k) (fun r r0 r1 w => ?_) h
  have p3 := (hG.2.2.2.2.1 r r0 r1).2.2.1
  refine gt_M_cl r k k r0 r1 k0 k1 ?_
  have st : ∀ c : Nat, (c : Int) ≤ gm_s G r → gt_rw (gt_pm G z t (gt_M G z t) r) c k k := by
    intro c
    induction c with
    | zero => exact fun _ => rfl
    | succ c ih => exact fun hc => ⟨k, ih (by omega), Or.inr (w c (by omega) (by omega))⟩
  exact st (gm_s G r).toNat (by omega)
theorem gk_ME {G : gm_G} (hG : gm_ok G) {z : Int} {t : Int → Int} {E : Int} (e1 : gm_Ecl G E) {n p : Int} (h : gt_M G z t n p p) : gb E n :=
  gk_Mpp hG (X := gb E) (fun r r0 r1 w => e1 r r0 r1 (fun d d0 d1 _ => w d d0 d1)) h
/-- over no letters the place makes no difference -/
theorem gk_W_pp {own own2 : Int → Int → Int → Int} {s i k : Int} (h : ∀ d, own d i i = own2 d k k) : ∀ n : Nat, gk_W own s i n i = gk_W own2 s k n k
  | 0 => by
    show (if i = i then (1 : Int) else 0) = if k = k then 1 else 0
    rw [if_pos rfl, if_pos rfl]
  | n + 1 => by
    have e1 : (i + 1 - i).toNat = 1 := by omega
    have e2 : (k + 1 - k).toNat = 1 := by omega
    have e3 : gk_W own s i n i = gk_W own2 s k n k := gk_W_pp h n
    show min (gsum _ (i + 1 - i).toNat) _ = min (gsum _ (k + 1 - k).toNat) _
    rw [e1, e2]
    show min (0 + min (own _ i (i + ((0 : Nat) : Int)) * gk_W own s i n (i + ((0 : Nat) : Int))) _) _ = min (0 + min (own2 _ k (k + ((0 : Nat) : Int)) * gk_W own2 s k n (k + ((0 : Nat) : Int))) _) _
    have e4 : i + ((0 : Nat) : Int) = i := by omega
    have e5 : k + ((0 : Nat) : Int) = k := by omega
    rw [e4, e5, h, e3]
theorem gk_pp {G : gm_G} (hG : gm_ok G) {z : Int} {t : Int → Int} {i k : Int} (i0 : 0 ≤ i) (i1 : i ≤ z) (k0 : 0 ≤ k) (k1 : k ≤ z) : ∀ (f : Nat) (n : Int) (A : Int → Prop), gk_T G z t f n i i A = gk_T G z t f n k k A
  | 0, _, _ => rfl
  | f + 1, n, A => by
    have mm : gt_M G z t n i i ↔ gt_M G z t n k k := ⟨gk_Mpk hG k0 k1, gk_Mpk hG i0 i1⟩
    have e : gsum (fun r => gt_if (gm_o G r = n) (gk_W (gk_own G z t (gk_T G z t f) r i i (fun x => A x ∨ x = n)) (gm_s G r) i (gm_s G r).toNat i)) (gm_R G).toNat = gsum (fun r => gt_if (gm_o G r = n) (gk_W (gk_own G z t (gk_T G z t f) r k k (fun x => A x ∨ x = n)) (gm_s G r) k (gm_s G r).toNat k)) (gm_R G).toNat := by
      refine gsum_cg _ (fun r r0 r1 => ?_)
      (try dsimp only)
      rw [gk_W_pp (fun d => ?_)]
      unfold gk_own
      by_cases w : gm_n G r d = -1
      · rw [if_pos w, if_pos w, gt_ib_f (fun y => by omega), gt_ib_f (fun y => by omega)]
      · rw [if_neg w, if_neg w, if_pos ⟨rfl, rfl⟩, if_pos ⟨rfl, rfl⟩]
        exact gk_pp hG i0 i1 k0 k1 f _ _
    show gt_if _ (min _ _) = gt_if _ (min _ _)
    rw [e]
    exact gt_if_cg ⟨fun y => ⟨y.1, mm.mp y.2⟩, fun y => ⟨y.1, mm.mpr y.2⟩⟩
theorem gk_C_pp {G : gm_G} (hG : gm_ok G) {z : Int} {t : Int → Int} {i k : Int} (i0 : 0 ≤ i) (i1 : i ≤ z) (k0 : 0 ≤ k) (k1 : k ≤ z) {n : Int} {A : Int → Prop} : gk_C G z t n i i A = gk_C G z t n k k A := gk_pp hG i0 i1 k0 k1 100 n A
theorem gk_W_1 {own : Int → Int → Int → Int} {s j : Int} : ∀ n : Nat, gk_W own s j n j ≠ 0 → ∀ d, s - n ≤ d → d < s → own d j j ≠ 0
  | 0, _, d, a, b => by omega
  | n + 1, h, d, a, b => by
    have e1 : (j + 1 - j).toNat = 1 := by omega
    have h2 : min (gsum (fun x => min (own (s - ((n : Int) + 1)) j (j + x) * gk_W own s j n (j + x)) 1000000000000000000) (j + 1 - j).toNat) 1000000000000000000 ≠ 0 := h
    rw [e1] at h2
    have h3 : min (0 + min (own (s - ((n : Int) + 1)) j (j + ((0 : Nat) : Int)) * gk_W own s j n (j + ((0 : Nat) : Int))) 1000000000000000000) 1000000000000000000 ≠ 0 := h2
    have e4 : j + ((0 : Nat) : Int) = j := by omega
    rw [e4] at h3
    have x1 : own (s - ((n : Int) + 1)) j j ≠ 0 := fun y => by
      rw [y, Int.zero_mul] at h3
      exact h3 (by decide)
    have x2 : gk_W own s j n j ≠ 0 := fun y => by
      rw [y, Int.mul_zero] at h3
      exact h3 (by decide)
    by_cases q : d = s - ((n : Int) + 1)
    · rw [q]
      exact x1
    · exact gk_W_1 n x2 d (by omega) b
/-- names that can not be below a name over the same letters make no difference -/
theorem gk_hind {G : gm_G} (hG : gm_ok G) {z : Int} {t : Int → Int} {E : Int} {O : Int → Int → Prop} (e1 : gm_Ecl G E) (o1 : ∀ r d, 0 ≤ r → r < gm_R G → 0 ≤ d → d < gm_s G r → gm_n G r d ≠ -1 → gm_er G E r 0 d → O (gm_o G r) (gm_n G r d)) (o2 : ∀ a b c, 0 ≤ a → a < gm_N G → 0 ≤ b → b < gm_N G → 0 ≤ c → c < gm_N G → O a b → O b c → O a c) : ∀ (f : Nat) (n i j : Int) (A B : Int → Prop), 0 ≤ n → n < gm_N G → (A n ↔ B n) → (∀ m, 0 ≤ m → m < gm_N G → O n m → (A m ↔ B m)) → gk_T G z t f n i j A = gk_T G z t f n i j B
  | 0, _, _, _, _, _, _, _, _, _ => rfl
  | f + 1, n, i, j, A, B, n0, n1, hn, hm => by
    have e : gsum (fun r => gt_if (gm_o G r = n) (gk_W (gk_own G z t (gk_T G z t f) r i j (fun x => A x ∨ x = n)) (gm_s G r) j (gm_s G r).toNat i)) (gm_R G).toNat = gsum (fun r => gt_if (gm_o G r = n) (gk_W (gk_own G z t (gk_T G z t f) r i j (fun x => B x ∨ x = n)) (gm_s G r) j (gm_s G r).toNat i)) (gm_R G).toNat := by
      refine gsum_cg _ (fun r r0 r1 => ?_)
      (try dsimp only)
      by_cases ro : gm_o G r = n
      · rw [gt_if_t ro, gt_if_t ro]
        have r1' : r < gm_R G := by omega
        have p3 := (hG.2.2.2.2.1 r r0 r1').2.2.1
        have TM : ∀ n i j A, gk_T G z t f n i j A ≠ 0 → gt_M G z t n i j := fun n i j A y => Classical.byContradiction (fun w => y (gk_T_0 w))
        have key : ∀ (c : Nat) (k : Int), (c : Int) ≤ gm_s G r → i ≤ k → (k = i → ∀ d, 0 ≤ d → d < gm_s G r - c → gm_n G r d ≠ -1 ∧ gb E (gm_n G r d)) → gk_W (gk_own G z t (gk_T G z t f) r i j (fun x => A x ∨ x = n)) (gm_s G r) j c k = gk_W (gk_own G z t (gk_T G z t f) r i j (fun x => B x ∨ x = n)) (gm_s G r) j c k := by
          intro c
          induction c with
          | zero => exact fun k _ _ _ => rfl
          | succ c ih =>
            intro k hc ik hk
            have e2 : gsum (fun x => min (gk_own G z t (gk_T G z t f) r i j (fun x => A x ∨ x = n) (gm_s G r - ((c : Int) + 1)) k (k + x) * gk_W (gk_own G z t (gk_T G z t f) r i j (fun x => A x ∨ x = n)) (gm_s G r) j c (k + x)) 1000000000000000000) (j + 1 - k).toNat = gsum (fun x => min (gk_own G z t (gk_T G z t f) r i j (fun x => B x ∨ x = n) (gm_s G r - ((c : Int) + 1)) k (k + x) * gk_W (gk_own G z t (gk_T G z t f) r i j (fun x => B x ∨ x = n)) (gm_s G r) j c (k + x)) 1000000000000000000) (j + 1 - k).toNat := by
              refine gsum_cg _ (fun x x0 x1 => ?_)
              (try dsimp only)
              have d0 : 0 ≤ gm_s G r - ((c : Int) + 1) := by omega
              have d1 : gm_s G r - ((c : Int) + 1) < gm_s G r := by omega
              generalize hd : gm_s G r - ((c : Int) + 1) = d at d0 d1
              have nx : gt_M G z t (gm_n G r d) k (k + x) ∧ gm_n G r d ≠ -1 ∨ x ≠ 0 → gk_W (gk_own G z t (gk_T G z t f) r i j (fun x => A x ∨ x = n)) (gm_s G r) j c (k + x) = gk_W (gk_own G z t (gk_T G z t f) r i j (fun x => B x ∨ x = n)) (gm_s G r) j c (k + x) := fun y => by
                refine ih (k + x) (by omega) (by omega) (fun ek d' d0' d1' => ?_)
                rcases y with ⟨y, y2⟩ | y
                · by_cases q : d' = d
                  · have x00 : x = 0 := by omega
                    have ee : k + x = k := by omega
                    rw [ee] at y
                    rw [q]
                    exact ⟨y2, gk_ME hG e1 y⟩
                  · exact hk (by omega) d' d0' (by omega)
                · omega
              by_cases w : gm_n G r d = -1
              · have oe : gk_own G z t (gk_T G z t f) r i j (fun x => A x ∨ x = n) d k (k + x) = gk_own G z t (gk_T G z t f) r i j (fun x => B x ∨ x = n) d k (k + x) := by
                  unfold gk_own
                  rw [if_pos w, if_pos w]
                rw [oe]
                by_cases o0 : gk_own G z t (gk_T G z t f) r i j (fun x => B x ∨ x = n) d k (k + x) = 0
                · rw [o0, Int.zero_mul, Int.zero_mul]
                · rcases gk_own_pm TM o0 with ⟨_, y, _⟩ | ⟨y, _⟩
                  · rw [nx (Or.inr (by omega))]
                  · exact absurd w y
              · by_cases q : k = i ∧ k + x = j
                · have oA : gk_own G z t (gk_T G z t f) r i j (fun x => A x ∨ x = n) d k (k + x) = gk_T G z t f (gm_n G r d) i j (fun x => A x ∨ x = n) := by
                    unfold gk_own
                    rw [if_neg w, if_pos q]
                  have oB : gk_own G z t (gk_T G z t f) r i j (fun x => B x ∨ x = n) d k (k + x) = gk_T G z t f (gm_n G r d) i j (fun x => B x ∨ x = n) := by
                    unfold gk_own
                    rw [if_neg w, if_pos q]
                  rw [oA, oB]
                  by_cases mm : gt_M G z t (gm_n G r d) i j
                  · have wc := nx (Or.inl ⟨by rw [q.2, q.1]; exact mm, w⟩)
                    rw [wc]
                    by_cases wz : gk_W (gk_own G z t (gk_T G z t f) r i j (fun x => B x ∨ x = n)) (gm_s G r) j c (k + x) = 0
                    · rw [wz, Int.mul_zero, Int.mul_zero]
                    · rw [q.2] at wz
                      have later := gk_W_1 c wz
                      have er : gm_er G E r 0 d := by
                        intro d' d0' d1' dn
                        by_cases lt : d' < d
                        · exact hk q.1 d' d0' (by omega)
                        · have o := later d' (by omega) d1'
                          rcases gk_own_pm TM o with ⟨_, y, _⟩ | ⟨y1, y2⟩
                          · omega
                          · exact ⟨y1, gk_ME hG e1 y2⟩
                      have oo := o1 r d r0 r1' d0 d1 w er
                      rw [ro] at oo
                      have nn := gm_n_rng hG r0 r1' d0 d1
                      have hm1 := hm (gm_n G r d) (by omega) (by omega) oo
                      rw [gk_hind hG e1 o1 o2 f (gm_n G r d) i j (fun x => A x ∨ x = n) (fun x => B x ∨ x = n) (by omega) (by omega) (by
                        (try dsimp only)
                        rw [hm1]) (fun m2 m0 m1 o => by
                        have := hm m2 m0 m1 (o2 n (gm_n G r d) m2 n0 n1 (by omega) (by omega) m0 m1 oo o)
                        (try dsimp only)
                        rw [this])]
                  · rw [gk_T_0 mm, gk_T_0 mm, Int.zero_mul, Int.zero_mul]
                · have oA : ∀ X : Int → Prop, gk_own G z t (gk_T G z t f) r i j X d k (k + x) = gk_T G z t f (gm_n G r d) k (k + x) (fun _ => False) := fun X => by
                    unfold gk_own
                    rw [if_neg w, if_neg q]
                  rw [oA, oA]
                  by_cases mm : gt_M G z t (gm_n G r d) k (k + x)
                  · rw [nx (Or.inl ⟨mm, w⟩)]
                  · rw [gk_T_0 mm, Int.zero_mul, Int.zero_mul]
            show min (gsum _ _) _ = min (gsum _ _) _
            rw [e2]
        exact key (gm_s G r).toNat i (by omega) (Int.le_refl _) (fun _ d d0 d1 => by omega)
      · rw [gt_if_f ro, gt_if_f ro]
    show gt_if _ (min _ _) = gt_if _ (min _ _)
    rw [e]
    exact gt_if_cg ⟨fun y => ⟨fun w => y.1 (hn.mpr w), y.2⟩, fun y => ⟨fun w => y.1 (hn.mp w), y.2⟩⟩
/-- sets alike on the names give the same number -/
theorem gk_C_cg {G : gm_G} (hG : gm_ok G) {z : Int} {t : Int → Int} {E : Int} (e1 : gm_Ecl G E) {n i j : Int} {A B : Int → Prop} (n0 : 0 ≤ n) (n1 : n < gm_N G) (h : ∀ m, 0 ≤ m → m < gm_N G → (A m ↔ B m)) : gk_C G z t n i j A = gk_C G z t n i j B :=
  gk_hind hG e1 (O := fun _ _ => True) (fun _ _ _ _ _ _ _ _ => trivial) (fun _ _ _ _ _ _ _ _ _ _ _ => trivial) 100 n i j A B n0 n1 (h n n0 n1) (fun m m0 m1 _ => h m m0 m1)
theorem gk_R_cg {G : gm_G} (hG : gm_ok G) {z : Int} {t : Int → Int} {E : Int} (e1 : gm_Ecl G E) {r i j d k : Int} {A B : Int → Prop} (r0 : 0 ≤ r) (r1 : r < gm_R G) (d0 : 0 ≤ d) (ik : i ≤ k) (h : ∀ m, 0 ≤ m → m < gm_N G → (A m ↔ B m)) : gk_R G z t r i j A d k = gk_R G z t r i j B d k := by
  have p3 := (hG.2.2.2.2.1 r r0 r1).2.2.1
  refine gk_W_cg (i := i) _ k (by omega) ik (fun d' k' e' x0 x1 _ _ _ => ?_)
  unfold gk_own
  by_cases w : gm_n G r d' = -1
  · rw [if_pos w, if_pos w]
  · rw [if_neg w, if_neg w]
    by_cases q : k' = i ∧ e' = j
    · have nn := gm_n_rng hG r0 r1 (d := d') (by omega) x1
      rw [if_pos q, if_pos q]
      exact gk_C_cg hG e1 (by omega) (by omega) h
    · rw [if_neg q, if_neg q]

