/-! CHANGES: the class's numbers as the greatest of one system -/
def gr_U (G : gm_G) (t : Int → Int) (z : Int) (Z : Int → Int → Int → Int) : Prop := ∀ r i j, 0 ≤ r → r < gm_R G → 0 ≤ i → i ≤ j → j ≤ z → (gm_s G r = 0 → Z (gm_o G r) i j ≤ j - i) ∧ ∀ c, gm_s G r ≠ 0 → gr_In i j (gm_s G r) c → Z (gm_o G r) i j ≤ gr_sm G t Z r c (gm_s G r).toNat
def gr_b (G : gm_G) (z K : Int) (Z : Int → Int → Int → Int) : Prop := ∀ n i j, 0 ≤ n → n < gm_N G → 0 ≤ i → i ≤ j → j ≤ z → 0 ≤ Z n i j ∧ Z n i j ≤ K
theorem gr_sm_le {G : gm_G} (hG : gm_ok G) {t : Int → Int} {C D : Int → Int → Int → Int} {r i j : Int} (r0 : 0 ≤ r) (r1 : r < gm_R G) {c : Int → Int} (hc : gr_In i j (gm_s G r) c) (h : ∀ n e k, 0 ≤ n → n < gm_N G → i ≤ e → e ≤ k → k ≤ j → C n e k ≤ D n e k) : gr_sm G t C r c (gm_s G r).toNat ≤ gr_sm G t D r c (gm_s G r).toNat := by
  have s0 := (hG.2.2.2.2.1 r r0 r1).2.2.1
  refine (gsum_tri (q := fun d => gr_pc G t D r d (c d) (c (d + 1)) + 1) _ (fun d d0 d1 => ?_)).1
  have y1 := gr_In_rng s0 hc (d := d) d0 (by omega)
  have y2 := gr_In_rng s0 hc (d := d + 1) (by omega) (by omega)
  have y3 := hc.2.2 d d0 (by omega)
  have nn := gm_n_rng hG r0 r1 (d := d) d0 (by omega)
  (try dsimp only)
  unfold gr_pc
  by_cases q : gm_n G r d = -1
  · rw [if_pos q, if_pos q]
    omega
  · rw [if_neg q, if_neg q]
    have := h (gm_n G r d) (c d) (c (d + 1)) (by omega) (by omega) y1.1 y3 y2.2
    omega
/-- over no letters a row takes the letters of its parts -/
theorem gr_sm_jj {G : gm_G} (hG : gm_ok G) {t : Int → Int} {C : Int → Int → Int → Int} {r j : Int} (r0 : 0 ≤ r) (r1 : r < gm_R G) {c : Int → Int} (hc : gr_In j j (gm_s G r) c) : gr_sm G t C r c (gm_s G r).toNat = gm_ls G (fun n => C n j j) r 0 (gm_s G r - 0).toNat := by
  have s0 := (hG.2.2.2.2.1 r r0 r1).2.2.1
  have st : ∀ n : Nat, (n : Int) ≤ gm_s G r → gr_sm G t C r c n + gm_ls G (fun n => C n j j) r n (gm_s G r - n).toNat = gm_ls G (fun n => C n j j) r 0 (gm_s G r - 0).toNat := by
    intro n
    induction n with
    | zero =>
      intro _
      show 0 + gm_ls G (fun n => C n j j) r 0 (gm_s G r - 0).toNat = _
      omega
    | succ n ih =>
      intro hn
      have h1 := ih (by omega)
      rw [gm_ls_S (by omega : (n : Int) < gm_s G r)] at h1
      have y1 := gr_In_rng s0 hc (d := n) (by omega) (by omega)
      have y2 := gr_In_rng s0 hc (d := (n : Int) + 1) (by omega) (by omega)
      have e1 : c n = j := by omega
      have e2 : c ((n : Int) + 1) = j := by omega
      have pc : gr_pc G t C r n (c n) (c ((n : Int) + 1)) = gm_lv G (fun n => C n j j) r n := by
        rw [e1, e2]
        unfold gr_pc gm_lv
        by_cases q : gm_n G r n = -1
        · rw [if_pos q, if_pos q, gt_ib_f (fun ⟨l, a, b, _⟩ => by omega)]
          omega
        · rw [if_neg q, if_neg q]
      show (gr_sm G t C r c n + gr_pc G t C r n (c n) (c ((n : Int) + 1))) + gm_ls G (fun n => C n j j) r ((n + 1 : Nat) : Int) (gm_s G r - ((n + 1 : Nat) : Int)).toNat = _
      have e3 : ((n + 1 : Nat) : Int) = (n : Int) + 1 := by omega
      rw [pc, e3]
      omega
  have := st (gm_s G r).toNat (by omega)
  have e : (((gm_s G r).toNat : Nat) : Int) = gm_s G r := by omega
  rw [e, gm_ls_E (Int.le_refl _)] at this
  omega
theorem gr_far {G : gm_G} (hG : gm_ok G) {U : Int → Prop} {S : Int → Int} {t : Int → Int} {C : Int → Int → Int → Int} (s1 : gm_Lr G S) (s2 : gm_Lcl G S) (hU : ∀ r, 0 ≤ r → r < gm_R G → (U r ↔ gm_lr G S r 0 < 16777216)) {j i : Int} (hp : gr_P G U S t C j) (i0 : 0 ≤ i) (ij : i ≤ j) {n : Int} (n0 : 0 ≤ n) (n1 : n < gm_N G) (h : S n = 16777216) : C n i j = 16777216 := by
  by_cases q : i = j
  · rw [q, hp.1 n n0 n1]
    exact h
  · obtain ⟨f1, f2, f3⟩ := hp.2 i i0 (by omega)
    have := f3 (fun m => if S m = 16777216 then 16777216 else 0) (fun m _ _ => by dsimp only; split <;> decide) (fun r r0 r1 => by
      obtain ⟨p1, p2, p3, p4, p5⟩ := hG.2.2.2.2.1 r r0 r1
      dsimp only
      by_cases u : U r
      · rw [if_neg (by have := s2 r r0 r1; have := (hU r r0 r1).mp u; omega), gr_F_t u]
        split
        · omega
        · exact (gmn_sp (by decide)).1
      · rw [gr_F_f u]
        split <;> decide) n n0 n1
    have b := (f1 n n0 n1).2
    dsimp only at this b
    rw [if_pos h] at this
    omega
theorem gr_U_C {G : gm_G} (hG : gm_ok G) {U : Int → Prop} {S : Int → Int} {t : Int → Int} {C : Int → Int → Int → Int} (s1 : gm_Lr G S) (s2 : gm_Lcl G S) (s3 : gm_Lso G S) (hU : ∀ r, 0 ≤ r → r < gm_R G → (U r ↔ gm_lr G S r 0 < 16777216)) {z : Int} (hp : ∀ j, 0 ≤ j → j ≤ z → gr_P G U S t C j) (hb : gr_b G z 16777216 C) : gr_U G t z C := by
  intro r i j r0 r1 i0 ij jz
  obtain ⟨p1, p2, p3, p4, p5⟩ := hG.2.2.2.2.1 r r0 r1
  have pj := hp j (by omega) jz
  by_cases q : i = j
  · rw [q, pj.1 _ p1 p2]
    have sl := s2 r r0 r1
    refine ⟨fun e => ?_, fun c sc hc => ?_⟩
    · unfold gm_lr at sl
      rw [gm_ls_E (by omega)] at sl
      omega
    · rw [gr_sm_jj hG r0 r1 hc]
      have e : gm_ls G (fun n => C n j j) r 0 (gm_s G r - 0).toNat = gm_ls G S r 0 (gm_s G r - 0).toNat := gm_ls_eq _ _ (fun d d0 d1 dn => by
        have nn := gm_n_rng hG r0 r1 (d := d) d0 (by omega)
        exact pj.1 _ (by omega) (by omega))
      rw [e]
      unfold gm_lr at sl
      omega
  · have fin := pj.2 i i0 (by omega)
    have cl := fin.2.1 r r0 r1
    by_cases u : U r
    · rw [gr_F_t u] at cl
      refine ⟨fun e => ?_, fun c sc hc => ?_⟩
      · rw [if_pos e] at cl
        exact cl
      · rw [if_neg sc] at cl
        have e : gr_sm G t C r c (gm_s G r).toNat = gr_sm G t (fun n e k => if e = i ∧ k = j then C n i j else C n e k) r c (gm_s G r).toNat := gr_sm_eq hG r0 r1 p3 (Int.le_refl _) hc (fun _ _ _ => rfl) (fun n e k n0 n1 e0 ek kj => by
          by_cases q : e = i ∧ k = j
          · rw [if_pos q, q.1, q.2]
          · rw [if_neg q])
        rw [e]
        refine Int.le_trans cl ((gmn_sp (by decide)).2.2.2 _ ?_ ⟨c, hc, rfl⟩)
        rw [← e]
        refine gr_sm_0 hG r0 r1 _ (by omega) (fun x x0 x1 n n0 n1 => ?_)
        have y1 := gr_In_rng p3 hc (d := x) x0 (by omega)
        have y2 := gr_In_rng p3 hc (d := x + 1) (by omega) (by omega)
        have y3 := hc.2.2 x x0 (by omega)
        exact (hb n _ _ n0 n1 (by omega) y3 (by omega)).1
    · have far : ¬ gm_lr G S r 0 < 16777216 := fun y => u ((hU r r0 r1).mpr y)
      have up := (hb _ i j p1 p2 i0 ij jz).2
      rcases gm_row_cases hG s1 s2 s3 r0 r1 (Int.le_refl 0) with ⟨h1, h2, h3⟩ | ⟨⟨e, h1, h2, h3, h4⟩, h5⟩
      · unfold gm_lr at far
        omega
      · refine ⟨fun e => by omega, fun c sc hc => ?_⟩
        have nn := gm_n_rng hG r0 r1 (d := e) h1 h2
        have y1 := gr_In_rng p3 hc (d := e) h1 (by omega)
        have y2 := gr_In_rng p3 hc (d := e + 1) (by omega) (by omega)
        have y3 := hc.2.2 e h1 h2
        have cf : gr_pc G t C r e (c e) (c (e + 1)) = 16777216 := by
          unfold gr_pc
          rw [if_neg h3]
          exact gr_far hG s1 s2 hU (hp (c (e + 1)) (by omega) (by omega)) (by omega) y3 (by omega) (by omega) h4
        have one : ∀ (n : Nat), (n : Int) ≤ gm_s G r → 0 ≤ gr_sm G t C r c n ∧ (e < n → 16777216 ≤ gr_sm G t C r c n) := by
          intro n
          induction n with
          | zero => exact fun _ => ⟨Int.le_refl _, fun y => by omega⟩
          | succ n ih =>
            intro hn
            have h6 := ih (by omega)
            have w1 := gr_In_rng p3 hc (d := n) (by omega) (by omega)
            have w2 := gr_In_rng p3 hc (d := (n : Int) + 1) (by omega) (by omega)
            have w3 := hc.2.2 n (by omega) (by omega)
            have pn := gr_pc_0 hG (t := t) (C := C) r0 r1 (d := n) (e := c n) (k := c ((n : Int) + 1)) (by omega) (by omega) (fun m m0 m1 => (hb m _ _ m0 m1 (by omega) w3 (by omega)).1)
            show 0 ≤ gr_sm G t C r c n + gr_pc G t C r n (c n) (c ((n : Int) + 1)) ∧ (e < ((n + 1 : Nat) : Int) → 16777216 ≤ gr_sm G t C r c n + gr_pc G t C r n (c n) (c ((n : Int) + 1)))
            refine ⟨by omega, fun y => ?_⟩
            by_cases q : e = n
            · rw [← q, cf]
              rw [← q] at h6
              omega
            · have := h6.2 (by omega)
              omega
        have := (one (gm_s G r).toNat (by omega)).2 (by omega)
        omega
theorem gr_U_le {G : gm_G} (hG : gm_ok G) {U : Int → Prop} {S : Int → Int} {t : Int → Int} {C : Int → Int → Int → Int} (s3 : gm_Lso G S) {z : Int} (hp : ∀ j, 0 ≤ j → j ≤ z → gr_P G U S t C j) {Z : Int → Int → Int → Int} (zb : gr_b G z 16777216 Z) (zu : gr_U G t z Z) : ∀ (w : Nat) (n i j : Int), 0 ≤ n → n < gm_N G → 0 ≤ i → i + w = j → j ≤ z → Z n i j ≤ C n i j := by
  intro w
  induction w using Nat.strongRecOn with
  | _ w ih =>
    intro n i j n0 n1 i0 iw jz
    have pj := hp j (by omega) jz
    by_cases q : i = j
    · rw [q, pj.1 n n0 n1]
      refine s3 (fun m => Z m j j) (fun m m0 m1 => zb m j j m0 m1 (by omega) (Int.le_refl _) jz) (fun r r0 r1 => ?_) n n0 n1
      obtain ⟨p1, p2, p3, p4, p5⟩ := hG.2.2.2.2.1 r r0 r1
      have u := zu r j j r0 r1 (by omega) (Int.le_refl _) jz
      have zbo := (zb _ j j p1 p2 (by omega) (Int.le_refl _) jz).2
      unfold gm_lr
      by_cases s0 : gm_s G r = 0
      · have := u.1 s0
        rw [gm_ls_E (by omega)]
        dsimp only
        omega
      · have hc : gr_In j j (gm_s G r) (fun _ => j) := ⟨rfl, rfl, fun _ _ _ => Int.le_refl _⟩
        have := u.2 _ s0 hc
        rw [gr_sm_jj hG r0 r1 hc] at this
        dsimp only
        omega
    · have fin := pj.2 i i0 (by omega)
      refine fin.2.2 (fun m => Z m i j) (fun m m0 m1 => zb m i j m0 m1 i0 (by omega) jz) (fun r r0 r1 => ?_) n n0 n1
      obtain ⟨p1, p2, p3, p4, p5⟩ := hG.2.2.2.2.1 r r0 r1
      have u := zu r i j r0 r1 i0 (by omega) jz
      have zbo := (zb _ i j p1 p2 i0 (by omega) jz).2
      by_cases us : U r
      · rw [gr_F_t us]
        by_cases s0 : gm_s G r = 0
        · rw [if_pos s0]
          exact u.1 s0
        · rw [if_neg s0]
          obtain ⟨a1, a2, a3, a4⟩ := gmn_sp (A := gr_A G t (fun n e k => if e = i ∧ k = j then Z n i j else C n e k) r i (gm_s G r) j) (K := 16777216) (by decide)
          rcases a3 with e | ⟨c, hc, e⟩
          · dsimp only
            omega
          · dsimp only
            rw [e]
            refine Int.le_trans (u.2 c s0 hc) (gr_sm_le hG r0 r1 hc (fun m e k m0 m1 e0 ek kj => ?_))
            by_cases q2 : e = i ∧ k = j
            · rw [if_pos q2, q2.1, q2.2]
              exact Int.le_refl _
            · rw [if_neg q2]
              exact ih (k - e).toNat (by omega) m e k m0 m1 (by omega) (by omega) (by omega)
      · rw [gr_F_f us]
        exact zbo
/-- a letter more in front costs one at most -/
theorem gr_ab {G : gm_G} (hG : gm_ok G) {U : Int → Prop} {S : Int → Int} {t : Int → Int} {C : Int → Int → Int → Int} (s3 : gm_Lso G S) {z : Int} (hp : ∀ j, 0 ≤ j → j ≤ z → gr_P G U S t C j) (hb : gr_b G z 16777216 C) (hu : gr_U G t z C) {n p q : Int} (n0 : 0 ≤ n) (n1 : n < gm_N G) (p0 : 1 ≤ p) (pq : p ≤ q) (qz : q ≤ z) : C n (p - 1) q ≤ 1 + C n p q := by
  have key := gr_U_le hG s3 hp (Z := fun n p q => if 1 ≤ p then max (C n p q) (C n (p - 1) q - 1) else C n p q) (fun m i j m0 m1 i0 ij jz => by
    have b1 := hb m i j m0 m1 i0 ij jz
    dsimp only
    by_cases c : 1 ≤ i
    · have b2 := hb m (i - 1) j m0 m1 (by omega) (by omega) jz
      rw [if_pos c]
      omega
    · rw [if_neg c]
      exact b1) (fun r i j r0 r1 i0 ij jz => by
    obtain ⟨p1, p2, p3, p4, p5⟩ := hG.2.2.2.2.1 r r0 r1
    have u1 := hu r i j r0 r1 i0 ij jz
    dsimp only
    by_cases c : 1 ≤ i
    · have u2 := hu r (i - 1) j r0 r1 (by omega) (by omega) jz
      rw [if_pos c]
      refine ⟨fun e => ?_, fun cc sc hc => ?_⟩
      · have := u1.1 e
        have := u2.1 e
        omega
      · have h1 := u1.2 cc sc hc
        have le1 := gr_sm_le hG (t := t) (C := C) (D := fun n p q => if 1 ≤ p then max (C n p q) (C n (p - 1) q - 1) else C n p q) r0 r1 hc (fun m e k m0 m1 e0 ek kj => by
          (try dsimp only)
          split <;> omega)
        have hc2 : gr_In (i - 1) j (gm_s G r) (fun x => if x = 0 then i - 1 else cc x) := by
          refine ⟨if_pos rfl, ?_, fun d d0 d1 => ?_⟩
          · show (if gm_s G r = 0 then i - 1 else cc (gm_s G r)) = j
            rw [if_neg sc]
            exact hc.2.1
          · show (if d = 0 then i - 1 else cc d) ≤ (if d + 1 = 0 then i - 1 else cc (d + 1))
            rw [if_neg (by omega : ¬ d + 1 = 0)]
            have := hc.2.2 d d0 d1
            by_cases d00 : d = 0
            · rw [if_pos d00]
              rw [d00, hc.1] at this
              rw [d00]
              omega
            · rw [if_neg d00]
              exact this
        have h2 := u2.2 _ sc hc2
        -- the first part takes one more
        have st : ∀ k : Nat, (k : Int) + 1 ≤ gm_s G r → gr_sm G t C r (fun x => if x = 0 then i - 1 else cc x) (k + 1) ≤ 1 + gr_sm G t (fun n p q => if 1 ≤ p then max (C n p q) (C n (p - 1) q - 1) else C n p q) r cc (k + 1) := by
          intro k
          induction k with
          | zero =>
            intro _
            show 0 + gr_pc G t C r (0 : Nat) (if ((0 : Nat) : Int) = 0 then i - 1 else cc (0 : Nat)) (if ((0 : Nat) : Int) + 1 = 0 then i - 1 else cc (((0 : Nat) : Int) + 1)) ≤ 1 + (0 + gr_pc G t _ r (0 : Nat) (cc (0 : Nat)) (cc (((0 : Nat) : Int) + 1)))
            have e0 : ((0 : Nat) : Int) = 0 := rfl
            rw [e0, if_pos rfl, if_neg (by decide), hc.1]
            have y1 := gr_In_rng p3 hc (d := 0 + 1) (by omega) (by omega)
            unfold gr_pc
            by_cases q : gm_n G r 0 = -1
            · rw [if_pos q, if_pos q]
              have i1 := gt_ib_01 (P := gr_ft G t r 0 (i - 1) (cc (0 + 1)))
              have i2 := gt_ib_01 (P := gr_ft G t r 0 i (cc (0 + 1)))
              by_cases ff : gr_ft G t r 0 i (cc (0 + 1))
              · rw [gt_ib_t ff, gt_ib_t (show gr_ft G t r 0 (i - 1) (cc (0 + 1)) from ⟨ff.choose, by have := ff.choose_spec.1; omega, ff.choose_spec.2⟩)]
                omega
              · rw [gt_ib_f ff]
                omega
            · rw [if_neg q, if_neg q]
              (try dsimp only)
              rw [if_pos c]
              omega
          | succ k ih =>
            intro hk
            have h3 := ih (by omega)
            show gr_sm G t C r (fun x => if x = 0 then i - 1 else cc x) (k + 1) + gr_pc G t C r ((k + 1 : Nat) : Int) (if ((k + 1 : Nat) : Int) = 0 then i - 1 else cc ((k + 1 : Nat) : Int)) (if ((k + 1 : Nat) : Int) + 1 = 0 then i - 1 else cc (((k + 1 : Nat) : Int) + 1)) ≤ 1 + (gr_sm G t _ r cc (k + 1) + gr_pc G t _ r ((k + 1 : Nat) : Int) (cc ((k + 1 : Nat) : Int)) (cc (((k + 1 : Nat) : Int) + 1)))
            rw [if_neg (by omega), if_neg (by omega)]
            have pl : gr_pc G t C r ((k + 1 : Nat) : Int) (cc ((k + 1 : Nat) : Int)) (cc (((k + 1 : Nat) : Int) + 1)) ≤ gr_pc G t (fun n p q => if 1 ≤ p then max (C n p q) (C n (p - 1) q - 1) else C n p q) r ((k + 1 : Nat) : Int) (cc ((k + 1 : Nat) : Int)) (cc (((k + 1 : Nat) : Int) + 1)) := by
              unfold gr_pc
              by_cases q : gm_n G r ((k + 1 : Nat) : Int) = -1
              · rw [if_pos q, if_pos q]
                exact Int.le_refl _
              · rw [if_neg q, if_neg q]
                (try dsimp only); split <;> omega
            omega
        have e : (gm_s G r).toNat = ((gm_s G r).toNat - 1) + 1 := by omega
        have h4 := st ((gm_s G r).toNat - 1) (by omega)
        rw [← e] at h4
        omega
    · rw [if_neg c]
      refine ⟨u1.1, fun cc sc hc => Int.le_trans (u1.2 cc sc hc) (gr_sm_le hG r0 r1 hc (fun m e k m0 m1 e0 ek kj => by
        (try dsimp only)
        split <;> omega))⟩) (q - p).toNat n p q n0 n1 (by omega) (by omega) qz
  (try dsimp only at key)
  rw [if_pos p0] at key
  omega

