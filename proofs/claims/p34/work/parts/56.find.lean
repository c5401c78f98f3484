/-! FIND: all facts of a grammar -/
def gm_fct (G : gm_G) (m : gh_M) : Prop := (gbs (gm_N G).toNat (m 20 1) ∧ gm_Ecl G (m 20 1) ∧ gm_Eso G (m 20 1)) ∧ (gm_Lr G (m 21) ∧ gm_Lcl G (m 21) ∧ gm_Lso G (m 21)) ∧ (gbs (gm_N G).toNat (m 20 2) ∧ ∀ i, 0 ≤ i → i < gm_N G → (gb (m 20 2) i ↔ m 21 i < 16777216)) ∧ (gbs 20 (m 20 5) ∧ ∀ r, 0 ≤ r → (gb (m 20 5) r ↔ r < gm_R G ∧ gm_lr G (m 21) r 0 < 16777216)) ∧ (gbs (gm_N G).toNat (m 20 3) ∧ gm_Scl G 1048575 (m 20 3) ∧ gm_Sso G 1048575 (m 20 3)) ∧ (gbs (gm_N G).toNat (m 20 4) ∧ (¬ gb (m 20 2) 0 → m 20 4 = 0) ∧ (gb (m 20 2) 0 → gm_Scl G (m 20 5) (m 20 4) ∧ gm_Sso G (m 20 5) (m 20 4)))
def gm_fct2 (G : gm_G) (m : gh_M) : Prop := ((∀ n, 0 ≤ n → n < gm_N G → gbs (gm_N G).toNat (m 24 n)) ∧ gm_tcp (gm_N G) (gm_ob G (m 20 1) (gm_R G) 0) (m 24)) ∧ ((∀ n, 0 ≤ n → n < gm_N G → gbs 26 (m 22 n)) ∧ (∀ c, 0 ≤ c → gm_fc G (m 20 1) (m 20 5) c (fun n => gb (m 22 n) c)) ∧ (∀ c, 0 ≤ c → ∀ Z, gm_fc G (m 20 1) (m 20 5) c Z → ∀ n, 0 ≤ n → n < gm_N G → gb (m 22 n) c → Z n)) ∧ ((∀ n, 0 ≤ n → n < gm_N G → gbs 27 (m 23 n)) ∧ (∀ c, 0 ≤ c → gm_wc G (m 20 1) (m 22) (m 20 5) (m 20 4) c (fun n => gb (m 23 n) c)) ∧ (∀ c, 0 ≤ c → ∀ Z, gm_wc G (m 20 1) (m 22) (m 20 5) (m 20 4) c Z → ∀ n, 0 ≤ n → n < gm_N G → gb (m 23 n) c → Z n)) ∧ ∀ r, 0 ≤ r → r < gm_R G → gbs 27 (m 25 r) ∧ ∀ c, 0 ≤ c → (gb (m 25 r) c ↔ gm_tb G (m 20 1) (m 22) (m 20 5) (m 20 4) (m 23) r c)
theorem gm_find2 {m0 m : gh_M} {G : gm_G} {Q : Int → gh_M → Prop} (hG : gm_ok G) (hC : gm_C m G) (hx : gx [20, 21, 22, 23, 24, 25] m0 m) (hf : gm_fct G m) (h : ∀ m1, gx [20, 21, 22, 23, 24, 25] m0 m1 → gm_fct G m1 → gm_fct2 G m1 → Q 0 m1) : w_Facts_findOver m (fun _ m973 => w_Facts_findFirst m973 (fun _ m975 => w_Facts_findFollow m975 (fun _ m977 => w_Facts_findTable m977 (fun _ m979 => Q 0 m979)))) := by
  have hN := hG.2.1
  have f1 := hf.1.1
  have f4 := hf.2.2.2.1.1
  have f6 := hf.2.2.2.2.2.1
  have k : (gm_N G).toNat ≤ 8 := by omega
  refine gm_findOver hG hC (gbs_le f1 k) (fun m1 x1 o1 o2 => ?_)
  have c1 := gm_C_x x1 (by decide) hC
  have e1 := x1 20 (by decide)
  refine gm_findFirst hG c1 (by rw [e1]; exact gbs_le f1 k) (by rw [e1]; exact f4) (fun m2 x2 a1 a2 a3 => ?_)
  have c2 := gm_C_x x2 (by decide) c1
  have e2 : m2 20 = m 20 := (x2 20 (by decide)).trans e1
  refine gm_findFollow hG c2 (by rw [e2]; exact gbs_le f1 k) (by rw [e2]; exact f4) (by rw [e2]; exact gbs_le f6 k) a1 (fun m3 x3 b1 b2 b3 => ?_)
  have c3 := gm_C_x x3 (by decide) c2
  have e3 : m3 20 = m 20 := (x3 20 (by decide)).trans e2
  have g3 : m3 22 = m2 22 := x3 22 (by decide)
  refine gm_findTable hG c3 (by rw [e3]; exact gbs_le f1 k) (by rw [e3]; exact f4) (by rw [e3]; exact gbs_le f6 k) (by rw [g3]; exact a1) b1 (fun m4 x4 t => ?_)
  have e4 : m4 20 = m 20 := (x4 20 (by decide)).trans e3
  have h21 : m4 21 = m 21 := (((x4 21 (by decide)).trans (x3 21 (by decide))).trans (x2 21 (by decide))).trans (x1 21 (by decide))
  have h22 : m4 22 = m2 22 := (x4 22 (by decide)).trans g3
  have h23 : m4 23 = m3 23 := x4 23 (by decide)
  have h24 : m4 24 = m1 24 := ((x4 24 (by decide)).trans (x3 24 (by decide))).trans (x2 24 (by decide))
  rw [e1] at a2 a3
  rw [e2] at b2 b3
  rw [e3, g3] at t
  refine h m4 (gx_tr (T := [25]) (gx_tr (T := [25]) (gx_tr (T := [25]) (gx_tr (T := [25]) hx (gx_sub x1 (by decide))) (gx_sub x2 (by decide))) (gx_sub x3 (by decide))) (gx_sub x4 (by decide))) ?_ ?_
  · unfold gm_fct
    rw [e4, h21]
    exact hf
  · unfold gm_fct2
    rw [e4, h22, h23, h24]
    exact ⟨⟨o1, o2⟩, ⟨a1, a2, a3⟩, ⟨b1, b2, b3⟩, t⟩

