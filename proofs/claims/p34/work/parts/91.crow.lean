/-- a letter of the set stands between -/
def gr_ft (G : gm_G) (t : Int → Int) (r d e k : Int) : Prop := ∃ l, e ≤ l ∧ l < k ∧ gb (gm_p G r d) (t l)
/-- what it takes to let the part d make the letters from e up to k -/
noncomputable def gr_pc (G : gm_G) (t : Int → Int) (C : Int → Int → Int → Int) (r d e k : Int) : Int := if gm_n G r d = -1 then max (k - e) 1 - gt_ib (gr_ft G t r d e k) else C (gm_n G r d) e k
def gr_In (i j : Int) (s : Int) (c : Int → Int) : Prop := c 0 = i ∧ c s = j ∧ ∀ d, 0 ≤ d → d < s → c d ≤ c (d + 1)
noncomputable def gr_sm (G : gm_G) (t : Int → Int) (C : Int → Int → Int → Int) (r : Int) (c : Int → Int) (n : Nat) : Int := gsum (fun d => gr_pc G t C r d (c d) (c (d + 1))) n
/-- the costs of the first d parts from i up to k -/
def gr_A (G : gm_G) (t : Int → Int) (C : Int → Int → Int → Int) (r i d k w : Int) : Prop := ∃ c, gr_In i k d c ∧ w = gr_sm G t C r c d.toNat
theorem gr_In_le {i j s : Int} {c : Int → Int} (h : gr_In i j s c) : ∀ (a b : Nat), (a + b : Nat) ≤ s → c a ≤ c (a + b : Nat) := by
  intro a b
  induction b with
  | zero => exact fun _ => Int.le_refl _
  | succ b ih =>
    intro hs
    have h1 := ih (by omega)
    have h2 := h.2.2 (a + b : Nat) (by omega) (by omega)
    have e : (((a + (b + 1) : Nat)) : Int) = ((a + b : Nat) : Int) + 1 := by omega
    rw [e]
    omega
theorem gr_In_rng {i j s : Int} (s0 : 0 ≤ s) {c : Int → Int} (h : gr_In i j s c) {d : Int} (d0 : 0 ≤ d) (d1 : d ≤ s) : i ≤ c d ∧ c d ≤ j := by
  have h1 := gr_In_le h 0 d.toNat (by omega)
  have h2 := gr_In_le h d.toNat (s - d).toNat (by omega)
  have e1 : ((0 + d.toNat : Nat) : Int) = d := by omega
  have e2 : ((d.toNat + (s - d).toNat : Nat) : Int) = s := by omega
  have e3 : ((d.toNat : Nat) : Int) = d := by omega
  have e4 : ((0 : Nat) : Int) = 0 := rfl
  rw [e1, e4, h.1] at h1
  rw [e2, e3, h.2.1] at h2
  exact ⟨h1, h2⟩
theorem gr_sm_cg {G : gm_G} {t : Int → Int} {C : Int → Int → Int → Int} {r : Int} {c c2 : Int → Int} (n : Nat) (h : ∀ d : Int, 0 ≤ d → d ≤ n → c d = c2 d) : gr_sm G t C r c n = gr_sm G t C r c2 n :=
  gsum_cg n (fun d d0 d1 => by rw [h d d0 (by omega), h (d + 1) (by omega) (by omega)])
/-- one part more -/
theorem gr_A_s {G : gm_G} {t : Int → Int} {C : Int → Int → Int → Int} {r i d k w : Int} (d0 : 0 ≤ d) : gr_A G t C r i (d + 1) k w ↔ ∃ e u, e ≤ k ∧ gr_A G t C r i d e u ∧ w = u + gr_pc G t C r d e k := by
  have e1 : (d + 1).toNat = d.toNat + 1 := by omega
  have e2 : ((d.toNat : Nat) : Int) = d := by omega
  constructor
  · rintro ⟨c, ⟨c0, c1, c2⟩, rfl⟩
    refine ⟨c d, gr_sm G t C r c d.toNat, ?_, ⟨c, ⟨c0, rfl, fun x x0 x1 => c2 x x0 (by omega)⟩, rfl⟩, ?_⟩
    · have := c2 d d0 (by omega)
      omega
    · unfold gr_sm
      rw [e1]
      show gsum _ d.toNat + gr_pc G t C r (d.toNat : Nat) (c (d.toNat : Nat)) (c ((d.toNat : Nat) + 1)) = _
      rw [e2, c1]
  · rintro ⟨e, u, ek, ⟨c, ⟨c0, c1, c2⟩, rfl⟩, rfl⟩
    refine ⟨fun x => if x ≤ d then c x else k, ⟨?_, ?_, fun x x0 x1 => ?_⟩, ?_⟩
    · show (if (0 : Int) ≤ d then c 0 else k) = i
      rw [if_pos d0]
      exact c0
    · show (if d + 1 ≤ d then c (d + 1) else k) = k
      rw [if_neg (by omega)]
    · show (if x ≤ d then c x else k) ≤ (if x + 1 ≤ d then c (x + 1) else k)
      rw [if_pos (by omega)]
      by_cases q : x + 1 ≤ d
      · rw [if_pos q]
        exact c2 x x0 (by omega)
      · rw [if_neg q]
        have : x = d := by omega
        rw [this, c1]
        exact ek
    · rw [e1]
      have s1 : gr_sm G t C r (fun x => if x ≤ d then c x else k) d.toNat = gr_sm G t C r c d.toNat := gr_sm_cg _ (fun x x0 x1 => if_pos (by omega))
      show gr_sm G t C r c d.toNat + gr_pc G t C r d e k = gr_sm G t C r (fun x => if x ≤ d then c x else k) d.toNat + gr_pc G t C r (d.toNat : Nat) (if ((d.toNat : Nat) : Int) ≤ d then c (d.toNat : Nat) else k) (if ((d.toNat : Nat) : Int) + 1 ≤ d then c ((d.toNat : Nat) + 1) else k)
      rw [s1, e2, if_pos (Int.le_refl _), if_neg (by omega), c1]
theorem gr_A_0 {G : gm_G} {t : Int → Int} {C : Int → Int → Int → Int} {r i k w : Int} : gr_A G t C r i 0 k w ↔ k = i ∧ w = 0 := by
  constructor
  · rintro ⟨c, ⟨c0, c1, _⟩, rfl⟩
    exact ⟨by omega, rfl⟩
  · rintro ⟨rfl, rfl⟩
    exact ⟨fun _ => k, ⟨rfl, rfl, fun d d0 d1 => by omega⟩, rfl⟩
/-- what the part d takes is no less than nothing -/
theorem gr_pc_0 {G : gm_G} (hG : gm_ok G) {t : Int → Int} {C : Int → Int → Int → Int} {r d e k : Int} (r0 : 0 ≤ r) (r1 : r < gm_R G) (d0 : 0 ≤ d) (d1 : d < gm_s G r) (hC : ∀ n, 0 ≤ n → n < gm_N G → 0 ≤ C n e k) : 0 ≤ gr_pc G t C r d e k := by
  have nn := gm_n_rng hG r0 r1 d0 d1
  unfold gr_pc
  split
  · have := gt_ib_01 (P := gr_ft G t r d e k)
    omega
  · exact hC _ (by omega) (by omega)
theorem gr_sm_0 {G : gm_G} (hG : gm_ok G) {t : Int → Int} {C : Int → Int → Int → Int} {r : Int} (r0 : 0 ≤ r) (r1 : r < gm_R G) {c : Int → Int} (n : Nat) (hn : (n : Int) ≤ gm_s G r) (hC : ∀ d : Int, 0 ≤ d → d < n → ∀ m, 0 ≤ m → m < gm_N G → 0 ≤ C m (c d) (c (d + 1))) : 0 ≤ gr_sm G t C r c n :=
  gsum_nn n (fun d d0 d1 => gr_pc_0 hG r0 r1 d0 (by omega) (hC d d0 d1))
/-- a place in the class's table of costs -/
theorem gr_costUpTo {m : gh_M} {G : gm_G} {Q : Int → Prop} (hG : gm_ok G) (hC : gm_C m G) (ht : gt_t m) {r d i k : Int} (r0 : 0 ≤ r) (r1 : r < gm_R G) (d0 : 0 ≤ d) (d1 : d < gm_s G r) (i0 : 0 ≤ i) (ik : i ≤ k) (k1 : k ≤ m 26 3) (hb : ∀ e, i ≤ e → e ≤ k → 0 ≤ m 40 e ∧ m 40 e ≤ 16777216) (hV : ∀ n e, 0 ≤ n → n < gm_N G → i ≤ e → e ≤ k → 0 ≤ m 39 ((n * 9 + e) * 9 + k) ∧ m 39 ((n * 9 + e) * 9 + k) ≤ 16777216) (h : Q (gmn (fun w => ∃ e, i ≤ e ∧ e ≤ k ∧ w = m 40 e + gr_pc G (m 27) (fun n e k => m 39 ((n * 9 + e) * 9 + k)) r d e k) 16777216)) : w_Wants_costUpTo (gm_p G r d) i k m Q := by
  have hN := hG.2.1
  have ht2 := ht.2.1
  obtain ⟨kk, xx⟩ := gm_nameOf hG hC r0 r1 d0 d1
  have nn := gm_n_rng hG r0 r1 d0 d1
  have pp := gm_p_n hG r0 r1 d0 d1
  refine ⟨kk, ?_⟩
  rintro _ rfl
  rw [xx]
  refine ⟨fun v f e => i - 1 ≤ e ∧ e ≤ k ∧ f = (if gm_n G r d = -1 then gt_ib (gr_ft G (m 27) r d (e + 1) k) else 0) ∧ gw_mn (fun w => ∃ e', e < e' ∧ e' ≤ k ∧ w = m 40 e' + gr_pc G (m 27) (fun n e k => m 39 ((n * 9 + e) * 9 + k)) r d e' k) v 16777216, fun _ _ e => (e + 2).toNat, ⟨by omega, by omega, ?_, gw_mn_0 (by decide) (fun w ⟨e', a, b, _⟩ => by omega)⟩, ?_⟩
  · split
    · exact (gt_ib_f (fun ⟨l, a, b, _⟩ => by omega)).symm
    · rfl
  rintro v f e ⟨e0, e1, hf, hv⟩
  unfold f_Wants_costUpTo_20
  refine ⟨fun c => ?_, fun c => ⟨by omega, ?_⟩⟩
  · have ei : e = i - 1 := by omega
    have hv2 : gw_mn (fun w => ∃ e, i ≤ e ∧ e ≤ k ∧ w = m 40 e + gr_pc G (m 27) (fun n e k => m 39 ((n * 9 + e) * 9 + k)) r d e k) v 16777216 := gw_mn_cg (fun w => ⟨fun ⟨e', a, b, q⟩ => ⟨e', by omega, b, q⟩, fun ⟨e', a, b, q⟩ => ⟨e', by omega, b, q⟩⟩) hv
    rw [gw_mn_eq hv2]
    exact h
  rintro _ rfl
  refine ⟨fun _ _ _ _ => by omega, ?_⟩
  -- whether the set fits from here on
  have f01 : f = 0 ∨ f = 1 := by
    rw [hf]
    split
    · exact gt_ib_01
    · exact Or.inl rfl
  have fit : gh_ior_f f (if ¬ k - e ≤ 0 ∧ gm_n G r d = -1 ∧ p_Text_fits (gm_p G r d) e m then (1 : Int) else 0) = (if gm_n G r d = -1 then gt_ib (gr_ft G (m 27) r d e k) else 0) := by
    by_cases q : gm_n G r d = -1
    · rw [if_pos q] at hf ⊢
      by_cases q2 : k - e ≤ 0
      · rw [if_neg (fun y => y.1 q2)]
        have e3 : gt_ib (gr_ft G (m 27) r d e k) = 0 := gt_ib_f (fun ⟨l, a, b, _⟩ => by omega)
        have e4 : f = 0 := hf.trans (gt_ib_f (fun ⟨l, a, b, _⟩ => by omega))
        rw [e3, e4]
        decide +kernel
      · have lt := ht.2.2 e (by omega) (by omega)
        have tst := gb_test0 (x := gm_p G r d) (i := m 27 e) ⟨by omega, by omega⟩ lt.1 (by omega)
        by_cases q3 : gb (gm_p G r d) (m 27 e)
        · rw [if_pos ⟨q2, q, by omega, by omega, fun y => tst.mp y q3⟩, gt_ib_t ⟨e, Int.le_refl _, by omega, q3⟩]
          rcases f01 with u | u <;> rw [u] <;> decide +kernel
        · rw [if_neg (fun y => y.2.2.2.2 (tst.mpr q3))]
          have e3 : gt_ib (gr_ft G (m 27) r d e k) = f := by
            rw [hf]
            refine gt_ib_cg ⟨fun ⟨l, a, b, y⟩ => ?_, fun ⟨l, a, b, y⟩ => ⟨l, by omega, b, y⟩⟩
            by_cases le : l = e
            · rw [le] at y
              exact absurd y q3
            · exact ⟨l, by omega, b, y⟩
          rw [e3]
          rcases f01 with u | u <;> rw [u] <;> decide +kernel
    · rw [if_neg q] at hf ⊢
      rw [if_neg (fun y => q y.2.1), hf]
      decide +kernel
  rw [fit]
  rintro _ rfl
  have hbe := hb e (by omega) e1
  have own : (if gm_n G r d = -1 then max (k - e) 1 - (if gm_n G r d = -1 then gt_ib (gr_ft G (m 27) r d e k) else 0) else m 39 ((gm_n G r d * 9 + e) * 9 + k)) = gr_pc G (m 27) (fun n e k => m 39 ((n * 9 + e) * 9 + k)) r d e k := by
    unfold gr_pc
    by_cases q : gm_n G r d = -1
    · rw [if_pos q, if_pos q, if_pos q]
    · rw [if_neg q, if_neg q]
  have pc0 : 0 ≤ gr_pc G (m 27) (fun n e k => m 39 ((n * 9 + e) * 9 + k)) r d e k := gr_pc_0 hG r0 r1 d0 d1 (fun n n0 n1 => (hV n e n0 n1 (by omega) e1).1)
  have pc1 : gr_pc G (m 27) (fun n e k => m 39 ((n * 9 + e) * 9 + k)) r d e k ≤ 16777216 := by
    unfold gr_pc
    split
    · have := gt_ib_01 (P := gr_ft G (m 27) r d e k)
      omega
    · exact (hV _ e (by omega) (by omega) (by omega) e1).2
  have ib := gt_ib_01 (P := gr_ft G (m 27) r d e k)
  refine ⟨by omega, by omega, fun v' => gw_mn (fun w => ∃ e', e - 1 < e' ∧ e' ≤ k ∧ w = m 40 e' + gr_pc G (m 27) (fun n e k => m 39 ((n * 9 + e) * 9 + k)) r d e' k) v' 16777216, fun v' y => ⟨by omega, ⟨by omega, by omega, ?_, gw_mn_cg (fun w => ⟨fun ⟨e', a, b, q⟩ => ⟨e', by omega, b, q⟩, fun ⟨e', a, b, q⟩ => ⟨e', by omega, b, q⟩⟩) y⟩, by (try dsimp only); omega⟩, fun c2 => ⟨⟨fun q => by rw [if_pos q]; omega, fun q => by omega⟩, ?_⟩, fun c2 => ?_⟩
  · have : e + -1 + 1 = e := by omega
    rw [this]
  · rw [own]
    rintro _ rfl
    refine ⟨by omega, by omega, by omega, ?_⟩
    rintro _ rfl
    refine gw_mn_add (by omega) (fun w => ?_) hv
    constructor
    · rintro ⟨e', a, b, q⟩
      by_cases u : e' = e
      · rw [u] at q
        exact Or.inr q
      · exact Or.inl ⟨e', by omega, b, q⟩
    · rintro (⟨e', a, b, q⟩ | q)
      · exact ⟨e', by omega, b, q⟩
      · exact ⟨e, by omega, e1, q⟩
  · have mn : min v (m 40 e + gr_pc G (m 27) (fun n e k => m 39 ((n * 9 + e) * 9 + k)) r d e k) = v := by omega
    rw [← mn]
    refine gw_mn_add (by omega) (fun w => ?_) hv
    constructor
    · rintro ⟨e', a, b, q⟩
      by_cases u : e' = e
      · rw [u] at q
        exact Or.inr q
      · exact Or.inl ⟨e', by omega, b, q⟩
    · rintro (⟨e', a, b, q⟩ | q)
      · exact ⟨e', by omega, b, q⟩
      · exact ⟨e, by omega, e1, q⟩

