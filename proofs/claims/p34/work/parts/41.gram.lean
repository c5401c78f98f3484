/-! THE GRAMMAR as one value: names, rules, a rule's name, its size, its parts (a name n as -1 - n, a set as its bits) -/
abbrev gm_G : Type := Int × Int × (Int → Int) × (Int → Int) × (Int → Int → Int)
def gm_N (G : gm_G) : Int := G.1
def gm_R (G : gm_G) : Int := G.2.1
def gm_o (G : gm_G) (r : Int) : Int := G.2.2.1 r
def gm_s (G : gm_G) (r : Int) : Int := G.2.2.2.1 r
def gm_p (G : gm_G) (r d : Int) : Int := G.2.2.2.2 r d
def gm_rok (G : gm_G) (r : Int) : Prop := 0 ≤ gm_o G r ∧ gm_o G r < gm_N G ∧ 0 ≤ gm_s G r ∧ gm_s G r ≤ 4 ∧ ∀ d, 0 ≤ d → d < gm_s G r → (-gm_N G ≤ gm_p G r d ∧ gm_p G r d < 0) ∨ (0 < gm_p G r d ∧ gm_p G r d < 2 ^ 26)
def gm_ok (G : gm_G) : Prop := 1 ≤ gm_N G ∧ gm_N G ≤ 8 ∧ 0 ≤ gm_R G ∧ gm_R G ≤ 20 ∧ (∀ r, 0 ≤ r → r < gm_R G → gm_rok G r) ∧ ∀ r q, 0 ≤ r → r ≤ q → q < gm_R G → gm_o G r ≤ gm_o G q
/-- the class's cells hold this grammar -/
def gm_C (m : gh_M) (G : gm_G) : Prop := m 13 1 = gm_N G ∧ m 13 2 = gm_R G ∧ ∀ r, 0 ≤ r → r < gm_R G → m 16 r = gm_o G r ∧ m 17 r = gm_s G r ∧ ∀ d, 0 ≤ d → d < gm_s G r → m 19 (r * 4 + d) = gm_p G r d
/-- the name of a part, -1 of a set -/
def gm_n (G : gm_G) (r d : Int) : Int := if gm_p G r d < 0 then -1 - gm_p G r d else -1
theorem gm_partAt {m : gh_M} {G : gm_G} (hG : gm_ok G) (hC : gm_C m G) {r d : Int} (r0 : 0 ≤ r) (r1 : r < gm_R G) (d0 : 0 ≤ d) (d1 : d < gm_s G r) : k_Grammar_partAt r d m ∧ x_Grammar_partAt r d m = gm_p G r d := by
  obtain ⟨g1, g2, g3, g4, g5, g6⟩ := hG
  obtain ⟨c1, c2, c3⟩ := hC
  obtain ⟨e1, e2, e3⟩ := c3 r r0 r1
  obtain ⟨p1, p2, p3, p4, p5⟩ := g5 r r0 r1
  refine ⟨?_, ?_⟩
  · unfold k_Grammar_partAt gh_i
    rw [c2, e2]
    repeat' (first | refine ⟨?_, ?_⟩ | intro _)
    all_goals omega
  · unfold x_Grammar_partAt
    rw [c2, e2]
    rw [if_neg (by omega), if_pos (by omega), if_neg (by omega), if_pos (by omega)]
    exact e3 d d0 d1
theorem gm_nameAt {m : gh_M} {G : gm_G} (hG : gm_ok G) (hC : gm_C m G) {r d : Int} (r0 : 0 ≤ r) (r1 : r < gm_R G) (d0 : 0 ≤ d) (d1 : d < gm_s G r) : k_Grammar_nameAt r d m ∧ x_Grammar_nameAt r d m = gm_n G r d := by
  obtain ⟨k1, x1⟩ := gm_partAt hG hC r0 r1 d0 d1
  obtain ⟨g1, g2, g3, g4, g5, g6⟩ := hG
  obtain ⟨c1, c2, c3⟩ := hC
  obtain ⟨p1, p2, p3, p4, p5⟩ := g5 r r0 r1
  have p6 := p5 d d0 d1
  refine ⟨?_, ?_⟩
  · unfold k_Grammar_nameAt
    refine ⟨k1, ?_⟩
    rw [x1]
    unfold k_Grammar_nameOf gh_i
    rw [c1]
    repeat' (first | refine ⟨?_, ?_⟩ | intro _)
    all_goals omega
  · unfold x_Grammar_nameAt x_Grammar_nameOf gm_n
    rw [x1, c1]
    by_cases h : gm_p G r d < 0
    · rw [if_pos h, if_pos h, if_neg (by omega)]
    · rw [if_neg h, if_neg h]
theorem gm_n_rng {G : gm_G} (hG : gm_ok G) {r d : Int} (r0 : 0 ≤ r) (r1 : r < gm_R G) (d0 : 0 ≤ d) (d1 : d < gm_s G r) : gm_n G r d = -1 ∨ (0 ≤ gm_n G r d ∧ gm_n G r d < gm_N G) := by
  obtain ⟨g1, g2, g3, g4, g5, g6⟩ := hG
  obtain ⟨p1, p2, p3, p4, p5⟩ := g5 r r0 r1
  have p6 := p5 d d0 d1
  unfold gm_n
  split
  · right; omega
  · left; rfl
/-- memories that agree but for some cells -/
def gx (S : List Int) (m m' : gh_M) : Prop := ∀ a : Int, a ∉ S → m' a = m a
theorem gx_rf {S : List Int} {m : gh_M} : gx S m m := fun _ _ => rfl
theorem gx_u {S : List Int} {m m' : gh_M} {a i v : Int} (h : gx S m m') (ha : a ∈ S) : gx S m (gh_u m' a i v) := by
  intro b hb
  rw [← h b hb]
  funext j
  exact gh_u_a (fun z => hb (z ▸ ha))
theorem gx_fil {S : List Int} {m m' : gh_M} {a n v : Int} (h : gx S m m') (ha : a ∈ S) : gx S m (gh_fil m' a n v) := by
  intro b hb
  rw [← h b hb]
  funext j
  unfold gh_fil
  rw [if_neg (fun z : b = a ∧ 0 ≤ j ∧ j < n => hb (z.1 ▸ ha))]
theorem gx_tr {S T : List Int} {m m1 m2 : gh_M} (h1 : gx S m m1) (h2 : gx S m1 m2) : gx S m m2 := fun a ha => (h2 a ha).trans (h1 a ha)
theorem gx_sub {S T : List Int} {m m' : gh_M} (h : gx S m m') (hs : ∀ a ∈ S, a ∈ T) : gx T m m' := fun a ha => h a (fun z => ha (hs a z))
theorem gm_C_x {S : List Int} {m m' : gh_M} {G : gm_G} (h : gx S m m') (hS : (13 : Int) ∉ S ∧ (16 : Int) ∉ S ∧ (17 : Int) ∉ S ∧ (19 : Int) ∉ S) (hC : gm_C m G) : gm_C m' G := by
  unfold gm_C at hC ⊢
  rw [h 13 hS.1, h 16 hS.2.1, h 17 hS.2.2.1, h 19 hS.2.2.2]
  exact hC

