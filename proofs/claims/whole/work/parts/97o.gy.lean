/-! THE PROPER GRAMMAR: its rows, and what has them -/
/-- the parts of a rule that are kept, the last one first -/
noncomputable def gy_sel (G : gm_G) (r : Int) (b : Int → Prop) : Nat → List Int
  | 0 => []
  | d + 1 => @ite _ (b d) (Classical.propDecidable _) (gm_p G r d :: gy_sel G r b d) (gy_sel G r b d)
theorem gy_sel_t {G : gm_G} {r : Int} {b : Int → Prop} {d : Nat} (h : b d) : gy_sel G r b (d + 1) = gm_p G r d :: gy_sel G r b d := if_pos h
theorem gy_sel_f {G : gm_G} {r : Int} {b : Int → Prop} {d : Nat} (h : ¬ b d) : gy_sel G r b (d + 1) = gy_sel G r b d := if_neg h
theorem gy_sel_cg {G : gm_G} {r : Int} {b b2 : Int → Prop} : ∀ d : Nat, (∀ x : Int, 0 ≤ x → x < d → (b x ↔ b2 x)) → gy_sel G r b d = gy_sel G r b2 d
  | 0, _ => rfl
  | d + 1, h => by
    have ih := gy_sel_cg (G := G) (r := r) d (fun x a c => h x a (by omega))
    have hd := h d (by omega) (by omega)
    by_cases c : b d
    · rw [gy_sel_t c, gy_sel_t (hd.mp c), ih]
    · rw [gy_sel_f c, gy_sel_f (fun y => c (hd.mpr y)), ih]
theorem gy_sel_mem {G : gm_G} {r p : Int} {b : Int → Prop} : ∀ d : Nat, p ∈ gy_sel G r b d → ∃ e : Int, 0 ≤ e ∧ e < d ∧ b e ∧ p = gm_p G r e
  | 0, h => absurd h List.not_mem_nil
  | d + 1, h => by
    by_cases c : b d
    · rw [gy_sel_t c] at h
      rcases List.mem_cons.mp h with h | h
      · exact ⟨d, by omega, by omega, c, h⟩
      · obtain ⟨e, a1, a2, a3⟩ := gy_sel_mem d h
        exact ⟨e, a1, by omega, a3⟩
    · rw [gy_sel_f c] at h
      obtain ⟨e, a1, a2, a3⟩ := gy_sel_mem d h
      exact ⟨e, a1, by omega, a3⟩
theorem gy_sel_len {G : gm_G} {r : Int} {b : Int → Prop} : ∀ d : Nat, (gy_sel G r b d).length ≤ d
  | 0 => Nat.le_refl _
  | d + 1 => by
    have ih := gy_sel_len (G := G) (r := r) (b := b) d
    by_cases c : b d
    · rw [gy_sel_t c]
      show (gy_sel G r b d).length + 1 ≤ d + 1
      omega
    · rw [gy_sel_f c]
      omega
theorem gy_sel_nil {G : gm_G} {r : Int} {b : Int → Prop} : ∀ d : Nat, gy_sel G r b d = [] → ∀ e : Int, 0 ≤ e → e < d → ¬ b e
  | 0, _, e, a, c => by omega
  | d + 1, h, e, a, c => by
    by_cases q : b d
    · rw [gy_sel_t q] at h
      exact absurd h (List.cons_ne_nil _ _)
    · rw [gy_sel_f q] at h
      by_cases u : e = d
      · rw [u]
        exact q
      · exact gy_sel_nil d h e a (by omega)
/-- the parts that are not kept are empty names -/
def gy_can (G : gm_G) (E r : Int) (b : Int → Prop) : Prop := ∀ d, 0 ≤ d → d < gm_s G r → b d ∨ (gm_n G r d ≠ -1 ∧ gb E (gm_n G r d))
/-- a row that is left of a rule of the name -/
def gy_lf (G : gm_G) (E : Int) (U V : Int → Prop) (n : Int) (L : List Int) : Prop := ∃ r w, 0 ≤ r ∧ r < gm_R G ∧ gm_o G r = n ∧ U r ∧ V n ∧ 0 ≤ w ∧ w < 16 ∧ gy_can G E r (gb w) ∧ L = gy_sel G r (gb w) (gm_s G r).toNat ∧ L ≠ []
/-- parts as they stand in a grammar -/
def gy_ok (G : gm_G) (L : List Int) : Prop := ∀ p, p ∈ L → (-gm_N G ≤ p ∧ p < 0) ∨ (0 < p ∧ p < 2 ^ 26)
theorem gy_sel_ok {G : gm_G} (hG : gm_ok G) {r : Int} {b : Int → Prop} (r0 : 0 ≤ r) (r1 : r < gm_R G) {d : Nat} (hd : (d : Int) ≤ gm_s G r) : gy_ok G (gy_sel G r b d) := fun p hp => by
  obtain ⟨e, a1, a2, a3, a4⟩ := gy_sel_mem d hp
  rw [a4]
  exact (hG.2.2.2.2.1 r r0 r1).2.2.2.2 e a1 (by omega)
theorem gy_lf_ok {G : gm_G} (hG : gm_ok G) {E n : Int} {U V : Int → Prop} {L : List Int} (h : gy_lf G E U V n L) : gy_ok G L ∧ (L.length : Int) ≤ 4 ∧ (0 ≤ n ∧ n < gm_N G) := by
  obtain ⟨r, w, r0, r1, ro, _, _, _, _, _, hL, _⟩ := h
  obtain ⟨p1, p2, p3, p4, p5⟩ := hG.2.2.2.2.1 r r0 r1
  rw [hL]
  refine ⟨gy_sel_ok hG r0 r1 (by omega), ?_, by omega, by omega⟩
  have := gy_sel_len (G := G) (r := r) (b := gb w) (gm_s G r).toNat
  omega
def gy_un (L : List Int) : Prop := ∃ p, L = [p] ∧ p < 0
/-- what leads from name to name -/
def gy_tc (N : Int) (P : Int → Int → Prop) (n i : Int) : Prop := ∀ Z : Int → Int → Prop, (∀ n i, 0 ≤ n → n < N → 0 ≤ i → P n i → Z n i) → (∀ n j i, 0 ≤ n → n < N → 0 ≤ j → j < N → 0 ≤ i → Z n j → Z j i → Z n i) → Z n i
theorem gy_tc_p {N : Int} {P : Int → Int → Prop} {T : Int → Int} (h : gm_tcp N P T) {n i : Int} (n0 : 0 ≤ n) (n1 : n < N) (i0 : 0 ≤ i) : gb (T n) i ↔ gy_tc N P n i :=
  ⟨fun y Z z1 z2 => h.2.2 Z z1 z2 n i n0 n1 i0 y, fun y => y (fun n i => gb (T n) i) h.1 h.2.1⟩
/-- the name has the row, in the proper grammar -/
def gy_hs (G : gm_G) (E : Int) (U V : Int → Prop) (n : Int) (L : List Int) : Prop := ¬ gy_un L ∧ ∃ i, (0 ≤ i ∧ i < gm_N G) ∧ (n = i ∨ gy_tc (gm_N G) (fun a b => gy_lf G E U V a [-1 - b]) n i) ∧ gy_lf G E U V i L
/-- names that end; rows that do -/
def gy_es (N : Int) (H : Int → List Int → Prop) (n : Int) : Prop := ∀ Z : Int → Prop, (∀ n L, 0 ≤ n → n < N → H n L → (∀ p, p ∈ L → p < 0 → Z (-1 - p)) → Z n) → Z n
def gy_ed (N : Int) (H : Int → List Int → Prop) (L : List Int) : Prop := ∀ p, p ∈ L → p < 0 → gy_es N H (-1 - p)
theorem gy_es_cl {N : Int} {H : Int → List Int → Prop} {n : Int} {L : List Int} (n0 : 0 ≤ n) (n1 : n < N) (h : H n L) (e : gy_ed N H L) : gy_es N H n := fun Z hZ => hZ n L n0 n1 h (fun p a b => e p a b Z hZ)
/-- names of the proper grammar -/
def gy_pr (N : Int) (H : Int → List Int → Prop) (n : Int) : Prop := ∀ Z : Int → Prop, (gy_es N H 0 → Z 0) → (∀ n L p, 0 ≤ n → n < N → H n L → gy_ed N H L → Z n → p ∈ L → p < 0 → Z (-1 - p)) → Z n
theorem gy_pr_0 {N : Int} {H : Int → List Int → Prop} (h : gy_es N H 0) : gy_pr N H 0 := fun _ z1 _ => z1 h
theorem gy_pr_s {N : Int} {H : Int → List Int → Prop} {n p : Int} {L : List Int} (n0 : 0 ≤ n) (n1 : n < N) (h : H n L) (e : gy_ed N H L) (hn : gy_pr N H n) (hp : p ∈ L) (p0 : p < 0) : gy_pr N H (-1 - p) := fun Z z1 z2 => z2 n L p n0 n1 h e (hn Z z1 z2) hp p0
/-- rows of the proper grammar -/
def gy_P (G : gm_G) (E : Int) (U V : Int → Prop) (n : Int) (L : List Int) : Prop := gy_hs G E U V n L ∧ gy_pr (gm_N G) (gy_hs G E U V) n ∧ gy_ed (gm_N G) (gy_hs G E U V) L
/-- SUMS OVER ROWS, in whatever order they are told -/
theorem gsum_add {f g : Int → Int} : ∀ n : Nat, gsum (fun x => f x + g x) n = gsum f n + gsum g n
  | 0 => rfl
  | n + 1 => by
    have ih := gsum_add (f := f) (g := g) n
    show gsum (fun x => f x + g x) n + (f n + g n) = gsum f n + f n + (gsum g n + g n)
    omega
theorem gsum_com {F : Int → Int → Int} {b : Nat} : ∀ a : Nat, gsum (fun x => gsum (fun y => F x y) b) a = gsum (fun y => gsum (fun x => F x y) a) b
  | 0 => (gsum_z b (fun _ _ _ => rfl)).symm
  | a + 1 => by
    have ih := gsum_com (F := F) (b := b) a
    show gsum (fun x => gsum (fun y => F x y) b) a + gsum (fun y => F a y) b = gsum (fun y => gsum (fun x => F x y) a + F a y) b
    rw [gsum_add, ih]
theorem gsum_pick {f : Int → Int} {n : Nat} {k : Int} (k0 : 0 ≤ k) (k1 : k < n) (h : ∀ i : Int, 0 ≤ i → i < n → i ≠ k → f i = 0) : gsum f n = f k := by
  have e := gsum_upd (f := fun _ => 0) (g := f) (x := k) n k0 k1 (fun i a b c => h i a b c)
  rw [gsum_z n (fun _ _ _ => rfl)] at e
  have e2 : (fun _ => (0 : Int)) k = 0 := rfl
  omega
def gy_nm (f : List Int → Int) (v : Int) : Prop := ∃ (q : Nat) (rw : Int → List Int), (∀ a b : Int, 0 ≤ a → a < q → 0 ≤ b → b < q → rw a = rw b → a = b) ∧ (∀ L, f L ≠ 0 → ∃ a : Int, 0 ≤ a ∧ a < q ∧ rw a = L) ∧ v = gsum (fun a => f (rw a)) q
theorem gy_nm_cg {f g : List Int → Int} {v : Int} (e : ∀ L, f L = g L) (h : gy_nm f v) : gy_nm g v := by
  have : f = g := funext e
  rw [← this]
  exact h
theorem gy_nm_u {f : List Int → Int} {v w : Int} (h1 : gy_nm f v) (h2 : gy_nm f w) : v = w := by
  obtain ⟨a, ra, a1, a2, a3⟩ := h1
  obtain ⟨b, rb, b1, b2, b3⟩ := h2
  have e1 : gsum (fun x => f (ra x)) a = gsum (fun x => gsum (fun y => gt_if (ra x = rb y) (f (ra x))) b) a := gsum_cg _ (fun x x0 x1 => by
    (try dsimp only)
    by_cases c : f (ra x) = 0
    · rw [gsum_z b (fun y _ _ => by
        (try dsimp only)
        rw [c]
        by_cases u : ra x = rb y
        · exact gt_if_t u
        · exact gt_if_f u)]
      exact c
    · obtain ⟨y, y0, y1, y2⟩ := b2 _ c
      rw [gsum_pick (k := y) y0 y1 (fun i i0 i1 i2 => gt_if_f (fun u => i2 (b1 i y i0 i1 y0 y1 (u.symm.trans y2.symm))))]
      exact (gt_if_t y2.symm).symm)
  have e2 : gsum (fun y => f (rb y)) b = gsum (fun y => gsum (fun x => gt_if (ra x = rb y) (f (ra x))) a) b := gsum_cg _ (fun y y0 y1 => by
    (try dsimp only)
    by_cases c : f (rb y) = 0
    · rw [gsum_z a (fun x _ _ => by
        (try dsimp only)
        by_cases u : ra x = rb y
        · rw [gt_if_t u, u]
          exact c
        · exact gt_if_f u)]
      exact c
    · obtain ⟨x, x0, x1, x2⟩ := a2 _ c
      rw [gsum_pick (k := x) x0 x1 (fun i i0 i1 i2 => gt_if_f (fun u => i2 (a1 i x i0 i1 x0 x1 (u.trans x2.symm)))), gt_if_t x2, x2])
  rw [a3, b3, e1, e2, gsum_com]
/-- what is told of the proper grammar: pairs, names, parts -/
noncomputable def gy_f (G : gm_G) (E : Int) (U V : Int → Prop) (L : List Int) : Int := gsum (fun n => gt_ib (gy_P G E U V n L)) (gm_N G).toNat
def gy_res (G : gm_G) (E : Int) (U V : Int → Prop) (a b c : Int) : Prop := gy_nm (gy_f G E U V) a ∧ b = gsum (fun n => gt_ib (∃ L, gy_P G E U V n L)) (gm_N G).toNat ∧ gy_nm (fun L => gy_f G E U V L * L.length) c
theorem gy_res_u {G : gm_G} {E : Int} {U V : Int → Prop} {a b c a2 b2 c2 : Int} (h : gy_res G E U V a b c) (h2 : gy_res G E U V a2 b2 c2) : a = a2 ∧ b = b2 ∧ c = c2 := ⟨gy_nm_u h.1 h2.1, h.2.1.trans h2.2.1.symm, gy_nm_u h.2.2 h2.2.2⟩
