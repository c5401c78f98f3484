theorem gl_covers {G : gm_G} {m : gh_M} (hG : gm_ok G) (ht : gt_t m) (ch : gt_ch G m) {n i k : Int} (n0 : 0 ≤ n) (n1 : n < gm_N G) (i0 : 0 ≤ i) (i1 : i ≤ m 26 3) (k0 : 0 ≤ k) (k1 : k ≤ m 26 3) : k_Chart_covers n i k ∧ (p_Chart_covers n i k m ↔ gt_M G (m 26 3) (m 27) n i k) := by
  have hN := hG.2.1
  have t8 := ht.2.1
  have b := gb_test0 (x := m 31 (n * 9 + i)) (i := k) (gbs_le (ch.1.1 (n * 9 + i) (by omega) (by omega)) (by decide)) k0 (by omega)
  have c := ch.1.2 n i k
  unfold k_Chart_covers p_Chart_covers
  refine ⟨⟨by omega, by omega, by omega, by omega⟩, ?_⟩
  rw [← c]
  unfold gt_tab
  refine ⟨fun z => ⟨n0, n1, i0, by omega, k0, ?_⟩, fun z y => b.mp y z.2.2.2.2.2⟩
  by_cases q : gb (m 31 (n * 9 + i)) k
  · exact q
  · exact absurd (b.mpr q) z
theorem gl_ifib {P : Prop} {c : Prop} [Decidable c] (h : c ↔ P) : (if c then (1 : Int) else 0) = gt_ib P := by
  by_cases u : c
  · rw [if_pos u, gt_ib_t (h.mp u)]
  · rw [if_neg u, gt_ib_f (fun z => u (h.mpr z))]
def gl_nv (G : gm_G) (A : gh_M) (k v : Int) : Prop := gbs 27 v ∧ ∀ c, 0 ≤ c → (gb v c ↔ gt_nx G (A 26 3) (A 27) (fun r i => 0 ≤ r ∧ r < gm_R G ∧ gb (A 20 5) r ∧ gt_S G (A 26 3) (A 27) (gb (A 20 5)) True (gm_o G r) i) k c ∨ (c = 26 ∧ gt_M G (A 26 3) (A 27) 0 0 k))
theorem gl_nv_u {G : gm_G} {A : gh_M} {k v v2 : Int} (h : gl_nv G A k v) (h2 : gl_nv G A k v2) : v = v2 := gb_ext h.1 h2.1 (fun i i0 _ => (h.2 i i0).trans (h2.2 i i0).symm)
noncomputable def gl_iv (G : gm_G) (A : gh_M) (k : Int) : Int := gt_isum G (A 26 3) (A 27) (fun r i => 0 ≤ r ∧ r < gm_R G ∧ gt_S G (A 26 3) (A 27) (fun _ => True) True (gm_o G r) i) k
