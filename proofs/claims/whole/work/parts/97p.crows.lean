/-! THE PROPER GRAMMAR: the class's rows are numbers -/
def gy_dg (S : Int → Int) (c p x : Int) : Prop := (p < 0 ∧ x = -p) ∨ (0 < p ∧ 9 ≤ x ∧ x < 9 + c ∧ S (x - 9) = p)
def gy_en (S : Int → Int) (c : Int) : List Int → Int → Prop
  | [], x => x = 0
  | p :: L, x => ∃ y d, gy_en S c L y ∧ gy_dg S c p d ∧ x = y * 128 + d
def gy_p (p : Int) : Prop := (-8 ≤ p ∧ p < 0) ∨ 0 < p
theorem gy_ok_p {G : gm_G} (hG : gm_ok G) {L : List Int} (h : gy_ok G L) : ∀ p, p ∈ L → gy_p p := fun p hp => by
  have := h p hp
  have := hG.2.1
  unfold gy_p
  omega
theorem gy_dg_b {S : Int → Int} {c p x : Int} (c8 : c ≤ 80) (hp : gy_p p) (h : gy_dg S c p x) : 1 ≤ x ∧ x < 128 := by
  unfold gy_p at hp
  unfold gy_dg at h
  omega
theorem gy_dg_p {S : Int → Int} {c p p2 x : Int} (hp : gy_p p) (hp2 : gy_p p2) (h : gy_dg S c p x) (h2 : gy_dg S c p2 x) : p = p2 := by
  unfold gy_p at hp hp2
  rcases h with ⟨a1, a2⟩ | ⟨a1, a2, a3, a4⟩
  · rcases h2 with ⟨b1, b2⟩ | ⟨b1, b2, b3, b4⟩
    · omega
    · omega
  · rcases h2 with ⟨b1, b2⟩ | ⟨b1, b2, b3, b4⟩
    · omega
    · exact a4.symm.trans b4
theorem gy_dg_x {S : Int → Int} {c p x x2 : Int} (inj : ∀ a b, 0 ≤ a → a < c → 0 ≤ b → b < c → S a = S b → a = b) (h : gy_dg S c p x) (h2 : gy_dg S c p x2) : x = x2 := by
  rcases h with ⟨a1, a2⟩ | ⟨a1, a2, a3, a4⟩
  · rcases h2 with ⟨b1, b2⟩ | ⟨b1, b2, b3, b4⟩
    · omega
    · omega
  · rcases h2 with ⟨b1, b2⟩ | ⟨b1, b2, b3, b4⟩
    · omega
    · have := inj (x - 9) (x2 - 9) (by omega) (by omega) (by omega) (by omega) (a4.trans b4.symm)
      omega
theorem gy_dg_up {S S2 : Int → Int} {c c2 p x : Int} (hc : c ≤ c2) (e : ∀ a, 0 ≤ a → a < c → S2 a = S a) (h : gy_dg S c p x) : gy_dg S2 c2 p x := by
  rcases h with h | ⟨a1, a2, a3, a4⟩
  · exact Or.inl h
  · exact Or.inr ⟨a1, a2, by omega, by rw [e _ (by omega) (by omega)]; exact a4⟩
theorem gy_en_up {S S2 : Int → Int} {c c2 : Int} (hc : c ≤ c2) (e : ∀ a, 0 ≤ a → a < c → S2 a = S a) : ∀ (L : List Int) (x : Int), gy_en S c L x → gy_en S2 c2 L x
  | [], _, h => h
  | p :: L, x, ⟨y, d, h1, h2, h3⟩ => ⟨y, d, gy_en_up hc e L y h1, gy_dg_up hc e h2, h3⟩
theorem gy_en_nn {S : Int → Int} {c : Int} (c8 : c ≤ 80) : ∀ (L : List Int) (x : Int), (∀ p, p ∈ L → gy_p p) → gy_en S c L x → 0 ≤ x ∧ (L ≠ [] → 1 ≤ x)
  | [], x, _, h => ⟨by rw [(h : x = 0)]; exact Int.le_refl _, fun y => absurd rfl y⟩
  | p :: L, x, hp, ⟨y, d, h1, h2, h3⟩ => by
    have a := gy_en_nn c8 L y (fun q hq => hp q (List.mem_cons_of_mem _ hq)) h1
    have b := gy_dg_b c8 (hp p List.mem_cons_self) h2
    exact ⟨by omega, fun _ => by omega⟩
theorem gy_en_L {S : Int → Int} {c : Int} (c8 : c ≤ 80) : ∀ (L L2 : List Int) (x : Int), (∀ p, p ∈ L → gy_p p) → (∀ p, p ∈ L2 → gy_p p) → gy_en S c L x → gy_en S c L2 x → L = L2
  | [], [], _, _, _, _, _ => rfl
  | [], p :: L2, x, _, hp2, h, h2 => by
    have a : x = 0 := h
    have b := (gy_en_nn c8 (p :: L2) x hp2 h2).2 (List.cons_ne_nil _ _)
    omega
  | p :: L, [], x, hp, _, h, h2 => by
    have a : x = 0 := h2
    have b := (gy_en_nn c8 (p :: L) x hp h).2 (List.cons_ne_nil _ _)
    omega
  | p :: L, p2 :: L2, x, hp, hp2, ⟨y, d, h1, h2, h3⟩, ⟨y2, d2, k1, k2, k3⟩ => by
    have b := gy_dg_b c8 (hp p List.mem_cons_self) h2
    have b2 := gy_dg_b c8 (hp2 p2 List.mem_cons_self) k2
    have e1 : d = d2 := by omega
    have e2 : y = y2 := by omega
    rw [← e1] at k2
    rw [← e2] at k1
    rw [gy_dg_p (hp p List.mem_cons_self) (hp2 p2 List.mem_cons_self) h2 k2, gy_en_L c8 L L2 y (fun q hq => hp q (List.mem_cons_of_mem _ hq)) (fun q hq => hp2 q (List.mem_cons_of_mem _ hq)) h1 k1]
theorem gy_en_x {S : Int → Int} {c : Int} (inj : ∀ a b, 0 ≤ a → a < c → 0 ≤ b → b < c → S a = S b → a = b) : ∀ (L : List Int) (x x2 : Int), gy_en S c L x → gy_en S c L x2 → x = x2
  | [], x, x2, h, h2 => (h : x = 0).trans (h2 : x2 = 0).symm
  | p :: L, x, x2, ⟨y, d, h1, h2, h3⟩, ⟨y2, d2, k1, k2, k3⟩ => by
    have e1 := gy_dg_x inj h2 k2
    have e2 := gy_en_x inj L y y2 h1 k1
    omega
theorem gy_en_un {S : Int → Int} {c : Int} (c8 : c ≤ 80) {L : List Int} {x : Int} (hp : ∀ p, p ∈ L → gy_p p) (h : gy_en S c L x) : (1 ≤ x ∧ x ≤ 8) ↔ gy_un L := by
  cases L with
  | nil =>
    have a : x = 0 := h
    exact ⟨fun y => by omega, fun ⟨p, y, _⟩ => absurd y.symm (List.cons_ne_nil _ _)⟩
  | cons p L =>
    obtain ⟨y, d, h1, h2, h3⟩ := h
    have b := gy_dg_b c8 (hp p List.mem_cons_self) h2
    have n := gy_en_nn c8 L y (fun q hq => hp q (List.mem_cons_of_mem _ hq)) h1
    constructor
    · intro w
      have e : L = [] := Classical.byContradiction (fun u => by
        have := n.2 u
        omega)
      refine ⟨p, by rw [e], ?_⟩
      rw [e] at h1
      have h1' : y = 0 := h1
      unfold gy_dg at h2
      omega
    · rintro ⟨p2, e, p0⟩
      injection e with e1 e2
      rw [e2] at h1
      have h1' : y = 0 := h1
      have hpp := hp p List.mem_cons_self
      unfold gy_p at hpp
      unfold gy_dg at h2
      omega
theorem gy_en_1 {S : Int → Int} {c p x : Int} (p0 : p < 0) (h : gy_en S c [p] x) : x = -p := by
  obtain ⟨y, d, h1, h2, h3⟩ := h
  have h1' : y = 0 := h1
  unfold gy_dg at h2
  omega
theorem gy_en_lt {S : Int → Int} {c : Int} (c8 : c ≤ 80) {L : List Int} {x : Int} (hp : ∀ p, p ∈ L → gy_p p) (h : gy_en S c L x) (hl : L.length ≤ 4) : x < 268435456 ∧ (L.length ≤ 3 → x < 2097152) := by
  have key : ∀ (L : List Int) (x : Int), (∀ p, p ∈ L → gy_p p) → gy_en S c L x → (L.length = 0 → x < 1) ∧ (L.length ≤ 1 → x < 128) ∧ (L.length ≤ 2 → x < 16384) ∧ (L.length ≤ 3 → x < 2097152) ∧ (L.length ≤ 4 → x < 268435456) := by
    intro L
    induction L with
    | nil =>
      intro x _ h
      have a : x = 0 := h
      omega
    | cons p L ih =>
      rintro x hp ⟨y, d, h1, h2, h3⟩
      have b := gy_dg_b c8 (hp p List.mem_cons_self) h2
      have i := ih y (fun q hq => hp q (List.mem_cons_of_mem _ hq)) h1
      have e : (p :: L).length = L.length + 1 := rfl
      rw [e]
      obtain ⟨i0, i1, i2, i3, i4⟩ := i
      exact ⟨fun w => by omega, fun w => by have := i0 (by omega); omega, fun w => by have := i1 (by omega); omega, fun w => by have := i2 (by omega); omega, fun w => by have := i3 (by omega); omega⟩
  have := key L x hp h
  exact ⟨this.2.2.2.2 hl, this.2.2.2.1⟩
/-- the class's sets -/
def gy_in (G : gm_G) (S : Int → Int) (c x : Int) : Prop := ∃ a, 0 ≤ a ∧ a < c ∧ S a = gm_p G (x / 4) (x % 4)
def gy_tb (G : gm_G) (S : Int → Int) (c : Int) : Prop := 0 ≤ c ∧ (∀ a b, 0 ≤ a → a < c → 0 ≤ b → b < c → S a = S b → a = b) ∧ c ≤ (gct (fun x => @decide (gy_in G S c x) (Classical.propDecidable _)) 80 : Int)
theorem gy_tb_80 {G : gm_G} {S : Int → Int} {c : Int} (h : gy_tb G S c) : c ≤ 80 := by
  have := gct_le (fun x => @decide (gy_in G S c x) (Classical.propDecidable _)) 80
  have := h.2.2
  omega
theorem gy_digitOf {G : gm_G} {m : gh_M} {Q : Int → gh_M → Prop} {r d : Int} (hG : gm_ok G) (r0 : 0 ≤ r) (r1 : r < gm_R G) (d0 : 0 ≤ d) (d1 : d < gm_s G r) (tb : gy_tb G (m 59) (m 58 7)) (H : ∀ m2 x, gx [58, 59] m m2 → (∀ y, y ≠ 7 → m2 58 y = m 58 y) → m 58 7 ≤ m2 58 7 → (∀ a, 0 ≤ a → a < m 58 7 → m2 59 a = m 59 a) → gy_tb G (m2 59) (m2 58 7) → gy_dg (m2 59) (m2 58 7) (gm_p G r d) x → Q x m2) : w_Proper_digitOf (gm_p G r d) m Q := by
  have hR := hG.2.2.2.1
  obtain ⟨p1, p2, p3, p4, p5⟩ := hG.2.2.2.2.1 r r0 r1
  have pp := p5 d d0 d1
  have hN := hG.2.1
  have c8 := gy_tb_80 tb
  obtain ⟨t0, t1, t2⟩ := tb
  refine ⟨fun c => ⟨by omega, H m _ gx_rf (fun _ _ => rfl) (Int.le_refl _) (fun _ _ _ => rfl) ⟨t0, t1, t2⟩ (Or.inl ⟨c, rfl⟩)⟩, fun c => ?_⟩
  refine ⟨fun v => 0 ≤ v ∧ v ≤ m 58 7 ∧ ∀ a, 0 ≤ a → a < v → m 59 a ≠ gm_p G r d, fun v => (100 - v).toNat, ⟨Int.le_refl _, t0, fun a x y => by omega⟩, ?_⟩
  rintro v ⟨v0, v1, hv⟩
  refine ⟨∀ a, 0 ≤ a → a < m 58 7 → m 59 a ≠ gm_p G r d, fun none => ?_, fun c2 => ⟨v0, by omega, fun e => ⟨by omega, H m _ gx_rf (fun _ _ => rfl) (Int.le_refl _) (fun _ _ _ => rfl) ⟨t0, t1, t2⟩ (Or.inr ⟨by omega, by omega, by omega, ?_⟩)⟩, fun e => ⟨by omega, ⟨by omega, by omega, fun a x y => ?_⟩, by (try dsimp only); omega⟩⟩, fun c2 a a0 a1 => hv a a0 (by omega)⟩
  · -- a new one
    have e59 : ∀ a, a < m 58 7 → gm_upd (m 59) (m 58 7) (gm_p G r d) a = m 59 a := fun a x => if_neg (by omega)
    have es : gm_upd (m 59) (m 58 7) (gm_p G r d) (m 58 7) = gm_p G r d := if_pos rfl
    have lt := gct_lt (p := fun x => @decide (gy_in G (m 59) (m 58 7) x) (Classical.propDecidable _)) (q := fun x => @decide (gy_in G (gm_upd (m 59) (m 58 7) (gm_p G r d)) (m 58 7 + 1) x) (Classical.propDecidable _)) 80 (fun i i0 i1 w => by
      obtain ⟨a, a0, a1, a2⟩ := (@decide_eq_true_iff _ (Classical.propDecidable _)).mp w
      exact (@decide_eq_true_iff _ (Classical.propDecidable _)).mpr ⟨a, a0, by omega, by rw [e59 a a1]; exact a2⟩) (4 * r + d) (by omega) (by omega) ((@decide_eq_true_iff _ (Classical.propDecidable _)).mpr ⟨m 58 7, t0, by omega, by
      have x1 : (4 * r + d) / 4 = r := by omega
      have x2 : (4 * r + d) % 4 = d := by omega
      rw [es, x1, x2]⟩) ((@decide_eq_false_iff_not _ (Classical.propDecidable _)).mpr (fun ⟨a, a0, a1, a2⟩ => by
      have x1 : (4 * r + d) / 4 = r := by omega
      have x2 : (4 * r + d) % 4 = d := by omega
      rw [x1, x2] at a2
      exact none a a0 a1 a2))
    have le := gct_le (fun x => @decide (gy_in G (gm_upd (m 59) (m 58 7) (gm_p G r d)) (m 58 7 + 1) x) (Classical.propDecidable _)) 80
    refine ⟨fun m2 => m2 = gh_u (gh_u m 59 (m 58 7) (gm_p G r d)) 58 7 (m 58 7 + 1), fun m2 hm2 => ?_, fun c3 => ⟨t0, c3, by omega, rfl⟩, fun c3 => by omega⟩
    have f59 : m2 59 = gm_upd (m 59) (m 58 7) (gm_p G r d) := by
      rw [hm2]
      funext a
      rw [gh_u_a (by decide), gm_u_rowa]
    have f7 : m2 58 7 = m 58 7 + 1 := by
      rw [hm2, gh_u_s]
    rw [f7]
    refine ⟨by omega, H m2 _ (by rw [hm2]; exact gx_u (gx_u gx_rf (by decide)) (by decide)) (fun y yn => by rw [hm2, gh_u_i yn, gh_u_a (by decide)]) (by omega) (fun a a0 a1 => by rw [f59]; exact e59 a a1) ?_ ?_⟩
    · rw [f59, f7]
      refine ⟨by omega, fun a b a0 a1 b0 b1 e => ?_, by omega⟩
      by_cases qa : a = m 58 7
      · by_cases qb : b = m 58 7
        · omega
        · rw [qa, es, e59 b (by omega)] at e
          exact absurd e.symm (none b b0 (by omega))
      · by_cases qb : b = m 58 7
        · rw [qb, es, e59 a (by omega)] at e
          exact absurd e (none a a0 (by omega))
        · rw [e59 a (by omega), e59 b (by omega)] at e
          exact t1 a b a0 (by omega) b0 (by omega) e
    · rw [f59, f7]
      refine Or.inr ⟨by omega, by omega, by omega, ?_⟩
      have x1 : 8 + (m 58 7 + 1) - 9 = m 58 7 := by omega
      rw [x1]
      exact es
  · have x1 : 9 + v - 9 = v := by omega
    rw [x1]
    exact e
  · by_cases u : a = v
    · rw [u]
      exact e
    · exact hv a x (by omega)
