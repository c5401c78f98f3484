/-- the names Z, that the letter c may follow, are closed for the rule r -/
def gm_wr (G : gm_G) (E : Int) (F : Int → Int) (r c : Int) (Z : Int → Prop) : Prop := ∀ d, 0 ≤ d → d < gm_s G r → gm_n G r d ≠ -1 → (gm_fr G E F r (d + 1) (gm_s G r) c → Z (gm_n G r d)) ∧ (gm_er G E r (d + 1) (-1) → Z (gm_o G r) → Z (gm_n G r d))
/-- one row more: the row n with X -/
theorem gm_row_or {N : Int} {k : Nat} (hk : k ≤ 31) {A : Int → Int} {n X : Int} (hA : ∀ j, 0 ≤ j → j < N → gbs k (A j)) (n0 : 0 ≤ n) (n1 : n < N) (hX : gbs k X) : (∀ j, 0 ≤ j → j < N → gbs k (gm_upd A n (gh_ior_f (A n) X) j)) ∧ ∀ j c, 0 ≤ j → j < N → (gb (gm_upd A n (gh_ior_f (A n) X) j) c ↔ gb (A j) c ∨ (j = n ∧ gb X c)) := by
  refine ⟨fun j j0 j1 => ?_, fun j c j0 j1 => ?_⟩
  · unfold gm_upd
    split
    · exact gbs_or hk (hA n n0 n1) hX
    · exact hA j j0 j1
  · unfold gm_upd
    split
    · next e =>
      subst e
      rw [gb_ior hk (hA j j0 j1) hX]
      exact ⟨fun z => z.imp id (fun y => ⟨rfl, y⟩), fun z => z.imp id (fun y => y.2)⟩
    · next e =>
      exact ⟨Or.inl, fun z => z.elim id (fun y => absurd y.1 e)⟩
theorem gm_followInRow {m : gh_M} {G : gm_G} {Q : Int → gh_M → Prop} (hG : gm_ok G) (hC : gm_C m G) (hE : gbs 8 (m 20 1)) (hF : ∀ n, 0 ≤ n → n < gm_N G → gbs 26 (m 22 n)) (hW : ∀ n, 0 ≤ n → n < gm_N G → gbs 27 (m 23 n)) {r : Int} (r0 : 0 ≤ r) (r1 : r < gm_R G) (h : ∀ m1, gx [23] m m1 → (∀ n, 0 ≤ n → n < gm_N G → gbs 27 (m1 23 n)) → (∀ n c, 0 ≤ n → n < gm_N G → gb (m 23 n) c → gb (m1 23 n) c) → (∀ c Z, 0 ≤ c → gm_wr G (m 20 1) (m 22) r c Z → (∀ n, 0 ≤ n → n < gm_N G → gb (m 23 n) c → Z n) → ∀ n, 0 ≤ n → n < gm_N G → gb (m1 23 n) c → Z n) → (∀ d c, 0 ≤ c → 0 ≤ d → d < gm_s G r → gm_n G r d ≠ -1 → (gm_fr G (m 20 1) (m 22) r (d + 1) (gm_s G r) c → gb (m1 23 (gm_n G r d)) c) ∧ (gm_er G (m 20 1) r (d + 1) (-1) → gb (m 23 (gm_o G r)) c → gb (m1 23 (gm_n G r d)) c)) → Q 0 m1) : w_Facts_followInRow r m Q := by
  have hN := hG.2.1
  have hR := hG.2.2.2.1
  obtain ⟨p1, p2, p3, p4, p5⟩ := hG.2.2.2.2.1 r r0 r1
  refine ⟨fun d m2 => 0 ≤ d ∧ d ≤ gm_s G r ∧ gx [23] m m2 ∧ (∀ n, 0 ≤ n → n < gm_N G → gbs 27 (m2 23 n)) ∧ (∀ n c, 0 ≤ n → n < gm_N G → gb (m 23 n) c → gb (m2 23 n) c) ∧ (∀ c Z, 0 ≤ c → gm_wr G (m 20 1) (m 22) r c Z → (∀ n, 0 ≤ n → n < gm_N G → gb (m 23 n) c → Z n) → ∀ n, 0 ≤ n → n < gm_N G → gb (m2 23 n) c → Z n) ∧ ∀ e c, 0 ≤ c → 0 ≤ e → e < d → gm_n G r e ≠ -1 → (gm_fr G (m 20 1) (m 22) r (e + 1) (gm_s G r) c → gb (m2 23 (gm_n G r e)) c) ∧ (gm_er G (m 20 1) r (e + 1) (-1) → gb (m 23 (gm_o G r)) c → gb (m2 23 (gm_n G r e)) c), fun d _ => (10 - d).toNat, ⟨Int.le_refl _, p3, gx_rf, hW, fun _ _ _ _ z => z, fun _ _ _ _ z => z, fun e c _ a b => by omega⟩, ?_⟩
  rintro d m2 ⟨d0, d1, hx, hb, hm, hs, hp⟩
  unfold f_Facts_followInRow_2
  have cm := gm_C_x hx (by decide) hC
  have e20 : m2 20 = m 20 := hx 20 (by decide)
  have e22 : m2 22 = m 22 := hx 22 (by decide)
  rw [(cm.2.2 r r0 r1).1, (cm.2.2 r r0 r1).2.1]
  refine ⟨r0, by omega, fun c => ?_, fun c => ?_⟩
  · obtain ⟨k1, x1⟩ := gm_nameAt hG cm r0 r1 (d := d) d0 c
    refine ⟨k1, ?_⟩
    rintro _ rfl
    rw [x1]
    have hn := gm_n_rng hG r0 r1 (d := d) d0 c
    refine ⟨fun m3 => gx [23] m m3 ∧ (∀ n, 0 ≤ n → n < gm_N G → gbs 27 (m3 23 n)) ∧ (∀ n c, 0 ≤ n → n < gm_N G → gb (m2 23 n) c → gb (m3 23 n) c) ∧ (∀ c Z, 0 ≤ c → gm_wr G (m 20 1) (m 22) r c Z → (∀ n, 0 ≤ n → n < gm_N G → gb (m 23 n) c → Z n) → ∀ n, 0 ≤ n → n < gm_N G → gb (m3 23 n) c → Z n) ∧ (gm_n G r d ≠ -1 → ∀ c, 0 ≤ c → (gm_fr G (m 20 1) (m 22) r (d + 1) (gm_s G r) c → gb (m3 23 (gm_n G r d)) c) ∧ (gm_er G (m 20 1) r (d + 1) (-1) → gb (m2 23 (gm_o G r)) c → gb (m3 23 (gm_n G r d)) c)), ?_, fun z => ⟨hx, hb, fun _ _ _ _ y => y, hs, fun y => absurd z y⟩, fun z => ?_⟩
    · rintro m3 ⟨a1, a2, a3, a4, a5⟩
      refine ⟨⟨by omega, by omega⟩, ⟨by omega, by omega, a1, a2, fun n l n0 n1 y => a3 n l n0 n1 (hm n l n0 n1 y), a4, fun e l l0 e0 e1 e2 => ?_⟩, by show (10 - (d + 1)).toNat < (10 - d).toNat; omega⟩
      by_cases q : e = d
      · subst q
        exact ⟨(a5 e2 l l0).1, fun y1 y2 => (a5 e2 l l0).2 y1 (hm _ l p1 p2 y2)⟩
      · have w := gm_n_rng hG r0 r1 (d := e) e0 (by omega)
        obtain ⟨w1, w2⟩ := hp e l l0 e0 (by omega) e2
        exact ⟨fun y => a3 _ l (by omega) (by omega) (w1 y), fun y1 y2 => a3 _ l (by omega) (by omega) (w2 y1 y2)⟩
    · have n0 : 0 ≤ gm_n G r d := by omega
      have n1 : gm_n G r d < gm_N G := by omega
      refine ⟨n0, by omega, ⟨by omega, by omega⟩, gm_firstOfRow hG cm (by rw [e20]; exact hE) (by rw [e22]; exact hF) r0 r1 (by omega) (by omega) (fun X hX hl => ⟨n0, by omega, ⟨by omega, by omega⟩, ?_⟩)⟩
      rw [e20, e22] at hl
      have hX2 : gbs 27 X := gbs_le hX (by decide)
      obtain ⟨t1, t2⟩ := gm_row_or (N := gm_N G) (by decide : (27 : Nat) ≤ 31) hb n0 n1 hX2
      have hx3 := gx_u (i := gm_n G r d) (v := gh_ior_f (m2 23 (gm_n G r d)) X) hx (List.mem_singleton.mpr rfl)
      have cm3 := gm_C_x hx3 (by decide) hC
      have s3 : ∀ l Z, 0 ≤ l → gm_wr G (m 20 1) (m 22) r l Z → (∀ n, 0 ≤ n → n < gm_N G → gb (m 23 n) l → Z n) → ∀ n, 0 ≤ n → n < gm_N G → gb (gm_upd (m2 23) (gm_n G r d) (gh_ior_f (m2 23 (gm_n G r d)) X) n) l → Z n := by
        intro l Z l0 hZ hb0 n n0 n1 y
        rcases (t2 n l n0 n1).mp y with y9 | ⟨rfl, y9⟩
        · exact hs l Z l0 hZ hb0 n n0 n1 y9
        · exact (hZ d d0 c z).1 ((hl l l0).mp y9)
      refine gm_isEmptyRow hG cm3 (by rw [hx3 20 (by decide)]; exact hE) r0 r1 (by omega) (by omega) (fun y => ?_) (fun y => ?_)
      · rw [hx3 20 (by decide)] at y
        refine ⟨fun w => absurd w (by decide), fun _ => ⟨n0, by omega, r0, by omega, p1, by omega, n0, by omega, gx_u hx3 (List.mem_singleton.mpr rfl), ?_⟩⟩
        rw [gm_u_rowa, gm_u_rowa]
        have e1 : gh_ior_f (m2 23 (gm_n G r d)) X = gm_upd (m2 23) (gm_n G r d) (gh_ior_f (m2 23 (gm_n G r d)) X) (gm_n G r d) := (if_pos rfl).symm
        obtain ⟨u1, u2⟩ := gm_row_or (N := gm_N G) (by decide : (27 : Nat) ≤ 31) t1 n0 n1 (t1 (gm_o G r) p1 p2)
        rw [← e1] at u1 u2
        refine ⟨u1, fun n l a b w => (u2 n l a b).mpr (Or.inl ((t2 n l a b).mpr (Or.inl w))), fun l Z l0 hZ hb0 n a b w => ?_, fun _ l l0 => ⟨fun w => (u2 _ l n0 n1).mpr (Or.inl ((t2 _ l n0 n1).mpr (Or.inr ⟨rfl, (hl l l0).mpr w⟩))), fun _ w => (u2 _ l n0 n1).mpr (Or.inr ⟨rfl, (t2 _ l p1 p2).mpr (Or.inl w)⟩)⟩⟩
        rcases (u2 n l a b).mp w with w9 | ⟨rfl, w9⟩
        · exact s3 l Z l0 hZ hb0 n a b w9
        · exact (hZ d d0 c z).2 y (s3 l Z l0 hZ hb0 _ p1 p2 w9)
      · rw [hx3 20 (by decide)] at y
        refine ⟨fun _ => ⟨hx3, ?_⟩, fun w => absurd rfl w⟩
        rw [gm_u_rowa]
        exact ⟨t1, fun n l a b w => (t2 n l a b).mpr (Or.inl w), s3, fun _ l l0 => ⟨fun w => (t2 _ l n0 n1).mpr (Or.inr ⟨rfl, (hl l l0).mpr w⟩), fun w => absurd w y⟩⟩
  · have e : d = gm_s G r := by omega
    subst e
    exact h m2 hx hb hm hs (fun e l l0 e0 e1 e2 => hp e l l0 e0 e1 e2)

