/-! TREES TOLD TWICE: the law's two arrays -/
theorem gj_S_up {K u u2 : Int} {G : gm_G} {m : gh_M} (h : u ≤ u2) (j : gj_S K u G m) : gj_S K u2 G m := by
  obtain ⟨a1, a2, a3, a4, a5, a6, a7, a8⟩ := j
  exact ⟨a1, a2, a3, a4, a5, a6, by omega, a8⟩
theorem gj_sq {K u : Int} {G : gm_G} {m m1 : gh_M} (e : ∀ a : Int, a < 63 ∨ 65 < a → m1 a = m a) (j : gj_S K u G m) : gj_S K u G m1 := by
  have j0 := j
  obtain ⟨_, _, _, _, ⟨b1, b2, b3⟩, c4, bu, pk⟩ := j
  have e20 := e 20 (by omega)
  have e21 := e 21 (by omega)
  have e26 : m1 26 3 = m 26 3 := by rw [e 26 (by omega)]
  have e27 := e 27 (by omega)
  exact gj_q (fun a p q => e a (by omega)) (by rw [e 41 (by omega)]; exact bu) (gl_c1_x e20 e26 e27 (by rw [e 30 (by omega)]) (fun a p q => e a (by omega)) b1) (gl_c2_x e21 e26 e27 (by rw [e 36 (by omega)]) (e 37 (by omega)) b2) (gl_c3_x e20 e21 e26 e27 (by rw [e 36 (by omega)]) (e 39 (by omega)) b3) (gl_c4_x (e 0 (by omega)) e26 e27 (e 41 (by omega)) (e 42 (by omega)) (e 66 (by omega)) (e 67 (by omega)) c4) (gj_pk_x e26 e27 (by rw [e 47 (by omega)]) pk) j0
theorem gj_sx {K u : Int} {G : gm_G} {m m1 : gh_M} {S : List Int} (x : gx S m m1) (hS : S.all (fun s => decide (63 ≤ s ∧ s ≤ 65)) = true) (j : gj_S K u G m) : gj_S K u G m1 := gj_sq (fun a h => x a (fun z => by
  have := List.all_eq_true.mp hS a z
  simp only [decide_eq_true_eq] at this
  omega)) j
/-- a tree that was told into an array -/
def gj_W (G : gm_G) (m : gh_M) (k : Int) (w : Int → Int) : Prop := ∃ (n : Nat) (tr : Int → Int) (dp : Int), gp_run G (m 26 3) (m 27) k n tr dp [] ∧ 1 ≤ n ∧ n ≤ 300 ∧ w 0 = n ∧ ∀ x : Int, 0 ≤ x → x < n → x < 63 → w (x + 1) = tr x
theorem gj_nl_0 {tr : Int → Int} : ∀ u : Nat, 0 ≤ gj_nl tr u
  | 0 => Int.le_refl _
  | u + 1 => by
    have h := gj_nl_0 (tr := tr) u
    show 0 ≤ gj_nl tr u + (if tr u < 0 then 1 else 0)
    by_cases c : tr u < 0
    · rw [if_pos c]
      omega
    · rw [if_neg c]
      omega
theorem gj_nl_s {tr : Int → Int} {u : Nat} : gj_nl tr (u + 1) = gj_nl tr u + (if tr u < 0 then 1 else 0) := rfl
section G34
variable {K u : Int} {G : gm_G} {m : gh_M} {Q : Int → gh_M → Prop} {v : Int}
theorem gj_rulev (j : gj_S K u G m) (r0 : ¬ v < 0) (r1 : v < gm_R G) : k_House_rule v 0 m ∧ x_House_rule v 0 m = gm_o G v := by
  obtain ⟨j1, ⟨hG, hC, _⟩, _⟩ := j
  have hR := hG.2.2.2.1
  have is : p_House_isRule v m := ⟨r0, by rw [hC.2.1]; exact r1⟩
  refine ⟨⟨fun z => absurd z j1, fun _ _ _ _ _ => ⟨fun _ => ⟨by omega, by omega⟩, fun z => absurd rfl z⟩⟩, ?_⟩
  unfold x_House_rule
  rw [if_neg j1, if_pos is, if_neg (by decide), if_pos (by decide), if_neg j1, if_pos rfl]
  exact (hC.2.2 v (by omega) r1).1
theorem gj_stepv {n : Int} (j1 : m 2 10 ≠ 0) (n1 : 1 ≤ n) (n3 : n ≤ 300) (e4 : m 47 4 = n) (v0 : 0 ≤ v) (v1 : v < n) : k_House_step v m ∧ x_House_step v m = m 48 v := by
  refine ⟨fun _ _ _ _ => ⟨v0, by omega⟩, ?_⟩
  unfold x_House_step
  rw [if_neg j1, if_neg (by omega), if_neg (by omega), if_pos (by omega)]
theorem gj_treeWell64 (j : gj_S K u G m) (hu : u ≤ 2000000) (hv : ¬ v < 0 ∧ v < 1000000000000000000) (lt : v < gk_C G (m 26 3) (m 27) 0 0 (m 26 3) (fun _ => False)) (H : ∀ m1, gj_S K (u + 381) G m1 → (∀ a, ((1 ≤ a ∧ a ≤ 29) ∨ a = 63 ∨ a = 65) → m1 a = m a) → (m1 64 = m 64 ∨ gj_W G m v (m1 64)) → Q 1 m1) : w_Law_isTreeWell_2_64 v (m 26 3) m Q := by
  obtain ⟨hG, t0, t8, tl⟩ := gj_t j
  unfold w_Law_isTreeWell_2_64
  refine gj_pick j hu hv (fun z => absurd lt (by omega)) (fun _ m2 n tr dp run n3 j2 f2 s4 s5 s48 => ?_) (fun _ m2 j2 f2 => ⟨fun _ => H m2 j2 (fun a h => f2 a (by omega)) (Or.inl (f2 64 (by omega))), fun z => absurd rfl z⟩)
  have n1 : 1 ≤ n := by
    cases n with
    | zero => exact absurd run.2 (List.cons_ne_nil _ _).symm
    | succ n => omega
  obtain ⟨nl0, nlz, cv, dp1, each⟩ := gj_run_cv hG (fun x x0 x1 => (tl x x0 x1).1) t0 n tr dp [] run
  have cv : gj_nl tr n = m 26 3 := cv
  have dp1 := dp1 (by omega)
  refine ⟨fun z => absurd z (by omega), fun _ => ?_⟩
  refine ⟨fun y => y = 1, fun y0 hy => ?_, False, fun z => False.elim z, fun z => absurd z (by omega), fun _ => gj_sum6 j2 ?_⟩
  · have hy : y0 = 1 := hy
    rw [hy]
    obtain ⟨m3, hm3⟩ : ∃ m3, m3 = gh_u m2 64 0 (n : Int) := ⟨_, rfl⟩
    rw [← hm3]
    have x3 : gx [64] m2 m3 := by
      rw [hm3]
      exact gx_one _ _ _ _
    have s3 : m3 64 0 = n := by rw [hm3, gh_u_s]
    clear hm3
    refine ⟨fun v6 v7 v8 m' => v7 = 1 ∧ 0 ≤ v8 ∧ v8 ≤ n ∧ v6 = gj_nl tr v8.toNat ∧ gx [64] m2 m' ∧ m' 64 0 = n ∧ ∀ x : Int, 0 ≤ x → x < v8 → x < 63 → m' 64 (x + 1) = tr x, fun _ _ v8 _ => ((n : Int) - v8).toNat, ⟨rfl, Int.le_refl _, by omega, rfl, x3, s3, fun x a b => by omega⟩, ?_⟩
    rintro v6 v7 v8 m4 ⟨e7, a0, a1, e6, x4, s0, sx⟩
    unfold f_Law_isTreeWell_2_64_72
    refine ⟨fun v6' v7' m' => v7' = 1 ∧ v6' = m 26 3 ∧ gx [64] m2 m' ∧ m' 64 0 = n ∧ ∀ x : Int, 0 ≤ x → x < n → x < 63 → m' 64 (x + 1) = tr x, fun v6' v7' m5 ⟨h7, h6, x5, s5', sx5⟩ => ?_, fun stop => ?_, fun go => ?_⟩
    · rw [if_pos ⟨by omega, h6⟩]
      refine H m5 (gj_sx x5 (by decide) j2) (fun a h => (x5 a (fun z => ?_)).trans (f2 a (by omega))) (Or.inr ⟨n, tr, dp, run, n1, by omega, s5', sx5⟩)
      have := List.mem_singleton.mp z
      omega
    · have en : v8.toNat = n := by omega
      exact ⟨e7, by rw [e6, en]; exact cv, x4, s0, fun x p q r => sx x p (by omega) r⟩
    · have lt8 : v8 < n := by omega
      have j4 : gj_S K (u + 381) G m4 := gj_sx x4 (by decide) j2
      have e48 := x4 48 (by decide)
      have st := gj_stepv (v := v8) (m := m4) (n := n) j4.1 (by omega) n3 (by rw [x4 47 (by decide)]; exact s4) a0 lt8
      refine ⟨st.1, fun v9 hv9 => ?_⟩
      have e9 : v9 = tr v8 := by
        rw [hv9, st.2, e48]
        exact s48 v8 a0 lt8
      clear hv9
      have e8 : ((v8.toNat : Nat) : Int) = v8 := by omega
      have ev := each v8.toNat (by omega)
      rw [e8, ← e6, ← e9] at ev
      obtain ⟨evl, evr, ev0⟩ := ev
      have nl1 : gj_nl tr (v8 + 1).toNat = v6 + (if v9 < 0 then 1 else 0) := by
        have e : (v8 + 1).toNat = v8.toNat + 1 := by omega
        rw [e, gj_nl_s, e8, ← e6, ← e9]
      have v60 : 0 ≤ v6 := by
        rw [e6]
        exact gj_nl_0 _
      refine ⟨fun m' => gx [64] m2 m' ∧ m' 64 0 = n ∧ ∀ x : Int, 0 ≤ x → x < v8 + 1 → x < 63 → m' 64 (x + 1) = tr x, fun m5 ⟨x5, s5', sx5⟩ => ?_, fun lt63 => ?_, fun ge63 => ?_⟩
      · have j5 : gj_S K (u + 381) G m5 := gj_sx x5 (by decide) j2
        refine ⟨fun v6' v7' => v7' = 1 ∧ v6' = gj_nl tr (v8 + 1).toNat, fun v6' v7' ⟨h7, h6⟩ => ⟨⟨by omega, by omega⟩, ⟨h7, by omega, by omega, h6, x5, s5', sx5⟩, by (try dsimp only); omega⟩, fun ng => ?_, fun nn => ?_⟩
        · obtain ⟨l1, l2⟩ := evl ng
          have lt5 := gj_letterv (v := v6) j5 (by omega) (by rw [x5 26 (by decide), f2 26 (by decide)]; exact l2)
          have tv := tl v6 v60 l2
          have lv : x_House_letter v6 m5 = m 27 v6 := by rw [lt5.2, x5 27 (by decide), f2 27 (by decide)]
          refine ⟨fun _ => ⟨lt5.1, ⟨by omega, by omega⟩⟩, fun v7' hv7 => ⟨⟨by omega, by omega⟩, ?_, ?_⟩⟩
          · rw [hv7, if_pos ⟨l2, by rw [lv]; omega⟩]
          · rw [nl1, if_pos ng]
        · obtain ⟨r1, r2, r3⟩ := evr nn
          have rl := gj_rulev (v := v9) j5 nn r1
          refine ⟨rl.1, fun _ _ => rl.1, fun v7' hv7 => ⟨?_, ?_⟩⟩
          · have c1 : ¬ x_House_rule v9 0 m5 < 0 := by
              rw [rl.2]
              omega
            have c2 : ¬ v8 ≤ 0 ∨ x_House_rule v9 0 m5 = 0 := by
              by_cases q : v8 ≤ 0
              · right
                rw [rl.2]
                exact r3 (by omega)
              · exact Or.inl q
            rw [hv7, if_pos ⟨c1, c2⟩]
          · have w := nl1
            rw [if_neg nn] at w
            omega
      · refine ⟨⟨by omega, by omega⟩, by omega, by omega, gx_u x4 (by decide), by rw [gh_u_i (by omega)]; exact s0, fun x p q r => ?_⟩
        by_cases h : x = v8
        · rw [h, gh_u_s, e9]
        · rw [gh_u_i (by omega)]
          exact sx x p (by omega) r
      · exact ⟨x4, s0, fun x p q r => sx x p (by omega) r⟩
  · have dpv : x_House_deep m2 = dp := by
      unfold x_House_deep
      rw [if_neg j2.1, if_neg (by omega), s5]
    have stv : x_House_step n m2 = -1001 := by
      unfold x_House_step
      rw [if_neg j2.1, if_neg (by omega), if_neg (by omega), if_neg (by omega)]
    exact ⟨fun _ _ _ _ _ z => absurd z (by omega), fun _ => rfl, fun z => z ⟨s4, by rw [dpv]; omega, stv⟩⟩
theorem gj_treeWell65 (j : gj_S K u G m) (hu : u ≤ 2000000) (hv : ¬ v < 0 ∧ v < 1000000000000000000) (lt : v < gk_C G (m 26 3) (m 27) 0 0 (m 26 3) (fun _ => False)) (H : ∀ m1, gj_S K (u + 381) G m1 → (∀ a, ((1 ≤ a ∧ a ≤ 29) ∨ a = 63 ∨ a = 64) → m1 a = m a) → (m1 65 = m 65 ∨ gj_W G m v (m1 65)) → Q 1 m1) : w_Law_isTreeWell_2_65 v (m 26 3) m Q := by
  obtain ⟨hG, t0, t8, tl⟩ := gj_t j
  unfold w_Law_isTreeWell_2_65
  refine gj_pick j hu hv (fun z => absurd lt (by omega)) (fun _ m2 n tr dp run n3 j2 f2 s4 s5 s48 => ?_) (fun _ m2 j2 f2 => ⟨fun _ => H m2 j2 (fun a h => f2 a (by omega)) (Or.inl (f2 65 (by omega))), fun z => absurd rfl z⟩)
  have n1 : 1 ≤ n := by
    cases n with
    | zero => exact absurd run.2 (List.cons_ne_nil _ _).symm
    | succ n => omega
  obtain ⟨nl0, nlz, cv, dp1, each⟩ := gj_run_cv hG (fun x x0 x1 => (tl x x0 x1).1) t0 n tr dp [] run
  have cv : gj_nl tr n = m 26 3 := cv
  have dp1 := dp1 (by omega)
  refine ⟨fun z => absurd z (by omega), fun _ => ?_⟩
  refine ⟨fun y => y = 1, fun y0 hy => ?_, False, fun z => False.elim z, fun z => absurd z (by omega), fun _ => gj_sum6 j2 ?_⟩
  · have hy : y0 = 1 := hy
    rw [hy]
    obtain ⟨m3, hm3⟩ : ∃ m3, m3 = gh_u m2 65 0 (n : Int) := ⟨_, rfl⟩
    rw [← hm3]
    have x3 : gx [65] m2 m3 := by
      rw [hm3]
      exact gx_one _ _ _ _
    have s3 : m3 65 0 = n := by rw [hm3, gh_u_s]
    clear hm3
    refine ⟨fun v6 v7 v8 m' => v7 = 1 ∧ 0 ≤ v8 ∧ v8 ≤ n ∧ v6 = gj_nl tr v8.toNat ∧ gx [65] m2 m' ∧ m' 65 0 = n ∧ ∀ x : Int, 0 ≤ x → x < v8 → x < 63 → m' 65 (x + 1) = tr x, fun _ _ v8 _ => ((n : Int) - v8).toNat, ⟨rfl, Int.le_refl _, by omega, rfl, x3, s3, fun x a b => by omega⟩, ?_⟩
    rintro v6 v7 v8 m4 ⟨e7, a0, a1, e6, x4, s0, sx⟩
    unfold f_Law_isTreeWell_2_65_72
    refine ⟨fun v6' v7' m' => v7' = 1 ∧ v6' = m 26 3 ∧ gx [65] m2 m' ∧ m' 65 0 = n ∧ ∀ x : Int, 0 ≤ x → x < n → x < 63 → m' 65 (x + 1) = tr x, fun v6' v7' m5 ⟨h7, h6, x5, s5', sx5⟩ => ?_, fun stop => ?_, fun go => ?_⟩
    · rw [if_pos ⟨by omega, h6⟩]
      refine H m5 (gj_sx x5 (by decide) j2) (fun a h => (x5 a (fun z => ?_)).trans (f2 a (by omega))) (Or.inr ⟨n, tr, dp, run, n1, by omega, s5', sx5⟩)
      have := List.mem_singleton.mp z
      omega
    · have en : v8.toNat = n := by omega
      exact ⟨e7, by rw [e6, en]; exact cv, x4, s0, fun x p q r => sx x p (by omega) r⟩
    · have lt8 : v8 < n := by omega
      have j4 : gj_S K (u + 381) G m4 := gj_sx x4 (by decide) j2
      have e48 := x4 48 (by decide)
      have st := gj_stepv (v := v8) (m := m4) (n := n) j4.1 (by omega) n3 (by rw [x4 47 (by decide)]; exact s4) a0 lt8
      refine ⟨st.1, fun v9 hv9 => ?_⟩
      have e9 : v9 = tr v8 := by
        rw [hv9, st.2, e48]
        exact s48 v8 a0 lt8
      clear hv9
      have e8 : ((v8.toNat : Nat) : Int) = v8 := by omega
      have ev := each v8.toNat (by omega)
      rw [e8, ← e6, ← e9] at ev
      obtain ⟨evl, evr, ev0⟩ := ev
      have nl1 : gj_nl tr (v8 + 1).toNat = v6 + (if v9 < 0 then 1 else 0) := by
        have e : (v8 + 1).toNat = v8.toNat + 1 := by omega
        rw [e, gj_nl_s, e8, ← e6, ← e9]
      have v60 : 0 ≤ v6 := by
        rw [e6]
        exact gj_nl_0 _
      refine ⟨fun m' => gx [65] m2 m' ∧ m' 65 0 = n ∧ ∀ x : Int, 0 ≤ x → x < v8 + 1 → x < 63 → m' 65 (x + 1) = tr x, fun m5 ⟨x5, s5', sx5⟩ => ?_, fun lt63 => ?_, fun ge63 => ?_⟩
      · have j5 : gj_S K (u + 381) G m5 := gj_sx x5 (by decide) j2
        refine ⟨fun v6' v7' => v7' = 1 ∧ v6' = gj_nl tr (v8 + 1).toNat, fun v6' v7' ⟨h7, h6⟩ => ⟨⟨by omega, by omega⟩, ⟨h7, by omega, by omega, h6, x5, s5', sx5⟩, by (try dsimp only); omega⟩, fun ng => ?_, fun nn => ?_⟩
        · obtain ⟨l1, l2⟩ := evl ng
          have lt5 := gj_letterv (v := v6) j5 (by omega) (by rw [x5 26 (by decide), f2 26 (by decide)]; exact l2)
          have tv := tl v6 v60 l2
          have lv : x_House_letter v6 m5 = m 27 v6 := by rw [lt5.2, x5 27 (by decide), f2 27 (by decide)]
          refine ⟨fun _ => ⟨lt5.1, ⟨by omega, by omega⟩⟩, fun v7' hv7 => ⟨⟨by omega, by omega⟩, ?_, ?_⟩⟩
          · rw [hv7, if_pos ⟨l2, by rw [lv]; omega⟩]
          · rw [nl1, if_pos ng]
        · obtain ⟨r1, r2, r3⟩ := evr nn
          have rl := gj_rulev (v := v9) j5 nn r1
          refine ⟨rl.1, fun _ _ => rl.1, fun v7' hv7 => ⟨?_, ?_⟩⟩
          · have c1 : ¬ x_House_rule v9 0 m5 < 0 := by
              rw [rl.2]
              omega
            have c2 : ¬ v8 ≤ 0 ∨ x_House_rule v9 0 m5 = 0 := by
              by_cases q : v8 ≤ 0
              · right
                rw [rl.2]
                exact r3 (by omega)
              · exact Or.inl q
            rw [hv7, if_pos ⟨c1, c2⟩]
          · have w := nl1
            rw [if_neg nn] at w
            omega
      · refine ⟨⟨by omega, by omega⟩, by omega, by omega, gx_u x4 (by decide), by rw [gh_u_i (by omega)]; exact s0, fun x p q r => ?_⟩
        by_cases h : x = v8
        · rw [h, gh_u_s, e9]
        · rw [gh_u_i (by omega)]
          exact sx x p (by omega) r
      · exact ⟨x4, s0, fun x p q r => sx x p (by omega) r⟩
  · have dpv : x_House_deep m2 = dp := by
      unfold x_House_deep
      rw [if_neg j2.1, if_neg (by omega), s5]
    have stv : x_House_step n m2 = -1001 := by
      unfold x_House_step
      rw [if_neg j2.1, if_neg (by omega), if_neg (by omega), if_neg (by omega)]
    exact ⟨fun _ _ _ _ _ z => absurd z (by omega), fun _ => rfl, fun z => z ⟨s4, by rw [dpv]; omega, stv⟩⟩
/-- all the trees of the text -/
theorem gj_treesWell (j : gj_S K u G m) (hu : u ≤ 1000000) (e64 : m 64 0 = 0) (e65 : m 65 0 = 0) (H : ∀ m1, gj_S K (u + 1300) G m1 → (∀ a, ((1 ≤ a ∧ a ≤ 29) ∨ a = 63) → m1 a = m a) → Q 1 m1) : w_Law_areTreesWell_2_64_65 (m 26 3) m Q := by
  obtain ⟨hG, t0, t8, tl⟩ := gj_t j
  unfold w_Law_areTreesWell_2_64_65
  refine gj_treesv j (by omega) ⟨by omega, Int.le_refl _⟩ (fun m1 c j1 f1 hc => ?_)
  have cb := gk_C_b hG (z := m 26 3) (t := m 27) 0 0 (m 26 3) (fun _ => False)
  rw [← hc] at cb
  have hC1 : gk_C G (m1 26 3) (m1 27) 0 0 (m1 26 3) (fun _ => False) = c := by rw [f1 26 (by decide), f1 27 (by decide), hc]
  obtain ⟨w, hw⟩ : ∃ w, w = (if c < 1000000000000000000 then c else -2) := ⟨_, rfl⟩
  rw [← hw]
  have wc : (w = c ∧ c < 1000000000000000000) ∨ (w = -2 ∧ c = 1000000000000000000) := by
    rw [hw]
    by_cases q : c < 1000000000000000000
    · rw [if_pos q]
      exact Or.inl ⟨rfl, q⟩
    · rw [if_neg q]
      exact Or.inr ⟨rfl, by omega⟩
  clear hw
  have e26 : m1 26 3 = m 26 3 := by rw [f1 26 (by decide)]
  refine ⟨fun e0 => ?_, fun ne => ?_⟩
  · have c0 : c = 0 := by omega
    refine gj_pick j1 (by omega) ⟨by decide, by decide⟩ (fun _ m2 j2 f2 => ?_) (fun lt => absurd lt (by rw [hC1]; omega)) (fun lt => absurd lt (by rw [hC1]; omega))
    refine ⟨False, fun z => False.elim z, fun _ => gj_sum6 j2 ⟨fun _ => H m2 (gj_S_up (by omega) j2) (fun a h => (f2 a (by omega)).trans (f1 a (by omega))), fun ne => ?_⟩, fun z => absurd rfl z⟩
    refine absurd ?_ (j2.2.2.2.2.2.2.2.2 ne)
    rw [f2 26 (by decide), f2 27 (by decide), hC1]
    exact c0
  · have cp : 0 < c := by omega
    rw [← e26]
    refine gj_treeWell64 j1 (by omega) ⟨by decide, by decide⟩ (by rw [hC1]; exact cp) (fun m2 j2 f2 w2 => ?_)
    have f12 : ∀ a, ((1 ≤ a ∧ a ≤ 29) ∨ a = 63 ∨ a = 65) → m2 a = m a := fun a h => (f2 a h).trans (f1 a (by omega))
    refine ⟨fun y m' => y = 1 ∧ gj_S K (u + 81 + 381 + 381) G m' ∧ (∀ a, ((1 ≤ a ∧ a ≤ 29) ∨ a = 63) → m' a = m a), fun v6 m3 ⟨h6, j3, f3⟩ => ?_, fun st => ?_, fun go => ?_⟩
    · refine ⟨fun _ => False, fun _ h => False.elim h, fun z => absurd z (by omega), fun _ => ?_⟩
      refine ⟨fun m' => gj_S K (u + 1300) G m' ∧ (∀ a, ((1 ≤ a ∧ a ≤ 29) ∨ a = 63) → m' a = m a), fun m' h => H m' h.1 h.2, fun _ => ⟨gj_S_up (by omega) j3, f3⟩, fun nn => ?_⟩
      have hC3 : gk_C G (m3 26 3) (m3 27) 0 0 (m3 26 3) (fun _ => False) = c := by rw [f3 26 (by decide), f3 27 (by decide), hc]
      refine gj_pick j3 (by omega) ⟨nn, by omega⟩ (fun _ m4 j4 f4 => ⟨fun _ => ⟨gj_S_up (by omega) j4, fun a h => (f4 a (by omega)).trans (f3 a h)⟩, fun z => absurd rfl z⟩) (fun lt => absurd lt (by rw [hC3]; omega)) (fun lt => absurd lt (by rw [hC3]; omega))
    · exact ⟨rfl, gj_S_up (by omega) j2, fun a h => f12 a (by omega)⟩
    · refine ⟨⟨by omega, by omega⟩, ?_⟩
      have e26' : m2 26 3 = m1 26 3 := by rw [f2 26 (by decide)]
      rw [← e26']
      refine gj_treeWell65 j2 (by omega) ⟨by omega, by omega⟩ (by rw [f12 26 (by decide), f12 27 (by decide), ← hc]; omega) (fun m3 j3 f3 w3 v7 hv7 => ?_)
      have fin : (1 : Int) = 1 ∧ gj_S K (u + 81 + 381 + 381) G m3 ∧ (∀ a, ((1 ≤ a ∧ a ≤ 29) ∨ a = 63) → m3 a = m a) := ⟨rfl, j3, fun a h => (f3 a (by omega)).trans (f12 a (by omega))⟩
      have e3 : m3 64 = m2 64 := f3 64 (by decide)
      by_cases W : m3 64 0 = m3 65 0 ∧ ¬ m3 64 0 = 0 ∧ m3 64 0 ≤ 63
      · obtain ⟨q1, q2, q3⟩ := W
        have w64 : gj_W G m1 0 (m3 64) := by
          rcases w2 with y | y
          · refine absurd ?_ q2
            rw [e3, y, f1 64 (by decide)]
            exact e64
          · rw [e3]
            exact y
        have w65 : gj_W G m2 (w - 1) (m3 65) := by
          rcases w3 with y | y
          · refine absurd ?_ q2
            rw [q1, y, f12 65 (by decide)]
            exact e65
          · exact y
        obtain ⟨n, tr, dp, run, n1, n3, s0, sx⟩ := w64
        obtain ⟨n', tr', dp', run', n1', n3', s0', sx'⟩ := w65
        have enn : n' = n := by omega
        rw [enn] at run'
        rw [f1 26 (by decide), f1 27 (by decide)] at run
        rw [f12 26 (by decide), f12 27 (by decide)] at run'
        have differ : ∃ x : Nat, x < n ∧ tr x ≠ tr' x := Classical.byContradiction (fun no => by
          have := gj_inj hG (fun x x0 x1 => (tl x x0 x1).1) t0 run run' (fun x hx => Classical.byContradiction (fun y => no ⟨x, hx, y⟩))
          omega)
        obtain ⟨x, hx, ne⟩ := differ
        refine ⟨fun v7 v8 => 1 ≤ v8 ∧ v8 ≤ (n : Int) + 1 ∧ ((x : Int) + 1 < v8 → ¬ v7 = 0), fun _ v8 => ((n : Int) + 1 - v8).toNat, ⟨Int.le_refl _, by omega, fun z => by omega⟩, ?_⟩
        rintro v7 v8 ⟨a0, a1, a2⟩
        unfold f_Law_areTreesWell_2_64_65_106
        refine ⟨fun v7' => ¬ v7' = 0, fun v7' h v6 hv6 => ?_, fun go => ⟨fun _ => ⟨by omega, by omega, by omega, by omega⟩, fun v7' hv7 => ⟨⟨by omega, by omega⟩, ⟨by omega, by omega, fun y => ?_⟩, by (try dsimp only); omega⟩⟩, fun stop => a2 (by omega)⟩
        · rw [hv6, if_pos ⟨by decide, h⟩]
          exact fin
        · have d : ¬ v7 = 0 ∨ ¬ m3 64 v8 = m3 65 v8 := by
            by_cases h : (x : Int) + 1 < v8
            · exact Or.inl (a2 h)
            · have e : v8 = (x : Int) + 1 := by omega
              right
              rw [e, sx x (by omega) (by omega) (by omega), sx' x (by omega) (by omega) (by omega)]
              exact ne
          rw [hv7, if_pos d]
          decide
      · have e7 : v7 = 1 := by
          rw [hv7]
          refine if_pos ?_
          by_cases p1 : m3 64 0 = m3 65 0
          · by_cases p2 : m3 64 0 = 0
            · exact Or.inr (Or.inl p2)
            · exact Or.inr (Or.inr (fun p3 => W ⟨p1, p2, p3⟩))
          · exact Or.inl p1
        refine ⟨fun v7 v8 => v7 = 1 ∧ 1 ≤ v8, fun _ v8 => (64 - v8).toNat, ⟨e7, Int.le_refl _⟩, ?_⟩
        rintro v7 v8 ⟨a7, a0⟩
        unfold f_Law_areTreesWell_2_64_65_106
        refine ⟨fun v7' => v7' = 1, fun v7' h v6 hv6 => ?_, fun go => ⟨fun z => absurd z (by omega), fun v7' hv7 => ⟨⟨by omega, by omega⟩, ⟨?_, by omega⟩, by (try dsimp only); omega⟩⟩, fun stop => a7⟩
        · have h : v7' = 1 := h
          rw [hv6, if_pos ⟨by decide, by omega⟩]
          exact fin
        · rw [hv7]
          exact if_pos (Or.inl (by omega))
/-- all that is told of a text -/
theorem gj_textWell (j : gj_S K u G m) (hu : u ≤ 100000) (H : ∀ m1, gj_S K (u + 3000) G m1 → (∀ a, ((1 ≤ a ∧ a ≤ 29) ∨ a = 63) → m1 a = m a) → Q 1 m1) : w_Law_isTextWell_2_64_65 m Q := by
  obtain ⟨hG, t0, t8, tl⟩ := gj_t j
  unfold w_Law_isTextWell_2_64_65
  refine gj_sum4 j ?_
  refine ⟨fun v4 v5 m' => v4 = 1 ∧ 0 ≤ v5 ∧ v5 ≤ m 26 3 + 1 ∧ gj_S K (u + 81 * v5) G m' ∧ gj_f m m', fun _ v5 _ => (10 - v5).toNat, ⟨rfl, Int.le_refl _, by omega, gj_S_up (by omega) j, gj_fr⟩, ?_⟩
  rintro v4 v5 m1 ⟨e4, a0, a1, j1, f1⟩
  unfold f_Law_isTextWell_2_64_65_12
  have e26 : m1 26 3 = m 26 3 := by rw [f1 26 (by decide)]
  refine ⟨fun le => ?_, fun gt => ?_⟩
  · refine ⟨fun y m' => y = 1 ∧ gj_S K (u + 81 * (v5 + 1)) G m' ∧ gj_f m m', fun y m' ⟨y1, jj, ff⟩ => ⟨⟨by omega, by omega⟩, ⟨y1, by omega, by omega, jj, ff⟩, by (try dsimp only); omega⟩, fun _ => False, fun _ h => False.elim h, fun z => absurd z (by omega), fun _ => ?_⟩
    rw [← e26]
    exact gj_placeWell j1 (by omega) ⟨by omega, by omega⟩ (fun m2 j2 f2 => ⟨fun z => absurd z (by decide), fun _ => ⟨rfl, gj_S_up (by omega) j2, gj_ft f1 f2⟩⟩)
  · refine gj_repair j1 (fun m2 r j2 f2 rv => ?_)
    have f02 := gj_ft f1 f2
    refine gj_end j2 ⟨by omega, by rw [f02 26 (by decide)]; exact Int.le_refl _⟩ (fun m3 e j3 f3 wv => ?_)
    have f03 := gj_ft f02 f3
    obtain ⟨fa, fb, fc⟩ := gj_facts3 j (gj_rv_f f1 rv) (gj_wv_f f02 wv)
    obtain ⟨m4, hm4⟩ : ∃ m4, m4 = gh_u (gh_u m3 64 0 0) 65 0 0 := ⟨_, rfl⟩
    rw [← hm4]
    have x4 : gx [64, 65] m3 m4 := by
      rw [hm4]
      exact gx_u (gx_u gx_rf (by decide)) (by decide)
    have s64 : m4 64 0 = 0 := by rw [hm4, gh_u_a (by decide), gh_u_s]
    have s65 : m4 65 0 = 0 := by rw [hm4, gh_u_s]
    clear hm4
    have j4 : gj_S K (u + 81 * v5) G m4 := gj_sx x4 (by decide) j3
    have f4 : ∀ a, ((1 ≤ a ∧ a ≤ 29) ∨ a = 63) → m4 a = m a := fun a h => (x4 a (fun z => by
      simp only [List.mem_cons, List.not_mem_nil, or_false] at z
      omega)).trans (f03 a (by omega))
    have n26 : m4 26 3 = m 26 3 := by rw [f4 26 (by decide)]
    refine ⟨fun y m' => y = 1 ∧ gj_S K (u + 81 * v5) G m' ∧ (∀ a, ((1 ≤ a ∧ a ≤ 29) ∨ a = 63) → m' a = m a) ∧ m' 64 0 = 0 ∧ m' 65 0 = 0, fun y m5 ⟨y1, j5, f5, z64, z65⟩ => ?_, fun _ => False, fun _ h => False.elim h, fun z => absurd z (by omega), fun _ => ?_⟩
    · refine ⟨fun _ => False, fun _ h => False.elim h, fun z => absurd z (by omega), fun _ => ?_⟩
      have n5 : m5 26 3 = m 26 3 := by rw [f5 26 (by decide)]
      rw [← n5]
      exact gj_treesWell j5 (by omega) z64 z65 (fun m6 j6 f6 => ⟨fun z => absurd z (by decide), fun _ => H m6 (gj_S_up (by omega) j6) (fun a h => (f6 a h).trans (f5 a h))⟩)
    · refine gj_accepts j4 ⟨by omega, by omega⟩ (fun m5 j5 f5 => ?_)
      rw [n26, f4 27 (by decide)]
      have key : (if r = 0 then (1 : Int) else 0) = (if gt_ib (gt_M G (m 26 3) (m 27) 0 0 (m 26 3)) = 1 then (1 : Int) else 0) := by
        by_cases q : r = 0
        · rw [if_pos q, if_pos (gj_ib.1.mpr (fa.mp q))]
        · rw [if_neg q, if_neg (fun y => q (fa.mpr (gj_ib.1.mp y)))]
      refine ⟨fun _ => gj_name j5 (fun r2 h2 => ?_), fun z => absurd key z⟩
      have e21 : m5 21 0 = m 21 0 := by rw [f5 21 (by decide), f4 21 (by decide)]
      rw [e21] at h2
      have key2 : (if r < 0 then (1 : Int) else 0) = (if r2 = 0 then (1 : Int) else 0) := by
        by_cases q : r < 0
        · rw [if_pos q, if_pos (h2.mpr (fb.mp q))]
        · rw [if_neg q, if_neg (fun y => q (fb.mpr (h2.mp y)))]
      exact ⟨fun _ => ⟨rfl, j5, fun a h => (f5 a (by omega)).trans (f4 a h), by rw [f5 64 (by decide)]; exact s64, by rw [f5 65 (by decide)]; exact s65⟩, fun z => absurd ⟨key2, fc⟩ z⟩
end G34
