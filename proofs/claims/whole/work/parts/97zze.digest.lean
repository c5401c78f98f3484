/-! THE DIGEST -/
def gl_fd (f : Int → Int) : Nat → Int → Int
  | 0, v => v
  | k + 1, v => x_House_mix (gl_fd f k v) (f k)
theorem gl_fd_cg {f g : Int → Int} {v : Int} : ∀ n : Nat, (∀ x : Int, 0 ≤ x → x < n → f x = g x) → gl_fd f n v = gl_fd g n v
  | 0, _ => rfl
  | n + 1, h => by
    show x_House_mix (gl_fd f n v) (f n) = x_House_mix (gl_fd g n v) (g n)
    rw [gl_fd_cg n (fun x a b => h x a (by omega)), h n (by omega) (by omega)]
theorem gl_fd_s {f : Int → Int} {v k : Int} (k0 : 0 ≤ k) : gl_fd f (k + 1).toNat v = x_House_mix (gl_fd f k.toNat v) (f k) := by
  have e : (k + 1).toNat = k.toNat + 1 := by omega
  have e2 : ((k.toNat : Nat) : Int) = k := by omega
  rw [e]
  show x_House_mix (gl_fd f k.toNat v) (f ((k.toNat : Nat) : Int)) = _
  rw [e2]
noncomputable def gl_namv (A : gh_M) (v w : Int) : Int := if w = 0 then A 14 v else if w = 1 then A 15 v else if w = 2 then gh_iand_f (gh_ishr_f (A 20 1) v) 1 else if w = 3 then gh_iand_f (gh_ishr_f (A 20 2) v) 1 else if w = 4 then gh_iand_f (gh_ishr_f (A 20 3) v) 1 else if w = 5 then gh_iand_f (gh_ishr_f (A 20 4) v) 1 else if w = 6 then (if A 21 v < 16777216 then A 21 v else -1) else gh_iand_f (gh_ishr_f (A 24 v) v) 1
noncomputable def gl_fn (A : gh_M) : Nat → Int → Int
  | 0, v => v
  | n + 1, v => x_House_mix (x_House_mix (gl_fd (gl_namv A n) 8 (gl_fn A n v)) (A 22 n)) (A 23 n)
theorem gl_fn_s {A : gh_M} {v k : Int} (k0 : 0 ≤ k) : gl_fn A (k + 1).toNat v = x_House_mix (x_House_mix (gl_fd (gl_namv A k) 8 (gl_fn A k.toNat v)) (A 22 k)) (A 23 k) := by
  have e : (k + 1).toNat = k.toNat + 1 := by omega
  have e2 : ((k.toNat : Nat) : Int) = k := by omega
  rw [e]
  show x_House_mix (x_House_mix (gl_fd (gl_namv A ((k.toNat : Nat) : Int)) 8 (gl_fn A k.toNat v)) (A 22 ((k.toNat : Nat) : Int))) (A 23 ((k.toNat : Nat) : Int)) = _
  rw [e2]
def gl_fk (N I E : Int → Int) : Nat → Int → Int
  | 0, v => v
  | k + 1, v => x_House_mix (x_House_mix (x_House_mix (gl_fk N I E k v) (N k)) (I k)) (E k)
theorem gl_fk_cg {N N2 I E E2 : Int → Int} {v : Int} : ∀ n : Nat, (∀ x : Int, 0 ≤ x → x < n → N x = N2 x ∧ E x = E2 x) → gl_fk N I E n v = gl_fk N2 I E2 n v
  | 0, _ => rfl
  | n + 1, h => by
    show x_House_mix (x_House_mix (x_House_mix (gl_fk N I E n v) (N n)) (I n)) (E n) = x_House_mix (x_House_mix (x_House_mix (gl_fk N2 I E2 n v) (N2 n)) (I n)) (E2 n)
    obtain ⟨a, c⟩ := h n (by omega) (by omega)
    rw [gl_fk_cg n (fun x a b => h x a (by omega)), a, c]
theorem gl_fk_s {N I E : Int → Int} {v k : Int} (k0 : 0 ≤ k) : gl_fk N I E (k + 1).toNat v = x_House_mix (x_House_mix (x_House_mix (gl_fk N I E k.toNat v) (N k)) (I k)) (E k) := by
  have e : (k + 1).toNat = k.toNat + 1 := by omega
  have e2 : ((k.toNat : Nat) : Int) = k := by omega
  rw [e]
  show x_House_mix (x_House_mix (x_House_mix (gl_fk N I E k.toNat v) (N ((k.toNat : Nat) : Int))) (I ((k.toNat : Nat) : Int))) (E ((k.toNat : Nat) : Int)) = _
  rw [e2]
noncomputable def gl_sv (G : gm_G) (A : gh_M) (v : Int) : Int := if v = 0 then A 13 0 else if v = 1 then gm_N G else if v = 2 then gm_R G else if v = 3 then gsum (gm_s G) (gm_R G).toNat else if v = 4 then A 26 3 else if v = 5 then gsum (gl_tn A) (gm_N G).toNat else A 47 4
noncomputable def gl_d3 (G : gm_G) (A : gh_M) (v : Int) : Int := gl_fd (A 27) (A 26 3).toNat (gl_fn A (gm_N G).toNat (gl_fd (gl_sv G A) 7 v))
noncomputable def gl_dg (G : gm_G) (A : gh_M) (N E P : Int → Int) (v : Int) : Int := gl_fd P 3 (gl_fd (A 48) (A 47 4).toNat (gl_fk N (gl_iv G A) E (A 26 3 + 1).toNat (gl_d3 G A v)))
theorem gl_tn_A {K u w : Int} {G : gm_G} {A m : gh_M} (j : gl_J K u w G A m) : gl_tn m = gl_tn A := by
  obtain ⟨_, _, _, _, _, _, _, j8, _⟩ := j
  funext n
  unfold gl_tn gl_two
  rw [j8 14 (by decide) (by decide), j8 15 (by decide) (by decide), j8 25 (by decide) (by decide)]
theorem gl_csum {K u w : Int} {G : gm_G} {A m : gh_M} {v : Int} {Q : Int → Prop} (j : gl_J K u w G A m) (v0 : 0 ≤ v) (v6 : v ≤ 6) (H : Q (gl_sv G A v)) : w_House_sum v m Q := by
  have tn := gl_tn_A j
  obtain ⟨hG, hC, hD, h24, e50, ht, pl, nm, rl, e26, e27, _⟩ := gl_J_p j
  obtain ⟨j1, _, _, _, _, _, all, j8, _, j10, _⟩ := j
  have e13 := j8 13 (by decide) (by decide)
  unfold gl_sv at H
  refine ⟨fun _ => ⟨fun z => absurd z j1, fun _ => ⟨fun c => ?_, fun c => ?_, fun c => ?_, fun c => gl_allParts hG hC ?_, fun c => ?_, fun c => gl_clashes all.1 ?_, fun c0 c1 c2 c3 c4 c5 => ?_⟩⟩, fun z => absurd ⟨by omega, by omega⟩ z⟩
  · rw [if_pos c] at H
    rw [e13]
    exact H
  · rw [if_neg (by omega), if_pos c] at H
    rw [hC.1]
    exact H
  · rw [if_neg (by omega), if_neg (by omega), if_pos c] at H
    rw [hC.2.1]
    exact H
  · rw [if_neg (by omega), if_neg (by omega), if_neg (by omega), if_pos c] at H
    exact H
  · rw [if_neg (by omega), if_neg (by omega), if_neg (by omega), if_neg (by omega), if_pos c] at H
    rw [e26]
    exact H
  · rw [if_neg (by omega), if_neg (by omega), if_neg (by omega), if_neg (by omega), if_neg (by omega), if_pos c] at H
    rw [tn]
    exact H
  · rw [if_neg c0, if_neg c1, if_neg c2, if_neg c3, if_neg c4, if_neg c5] at H
    rw [j10]
    exact H
theorem gl_msum {K u w : Int} {G : gm_G} {A m : gh_M} {v : Int} {Q : Int → Prop} (j : gl_J K u w G A m) (v0 : 0 ≤ v) (v6 : v ≤ 6) (H : Q (gl_sv G A v)) : w_Model_sum v m Q := by
  have tn := gl_tn_A j
  obtain ⟨hG, hC, hD, h24, e50, ht, pl, nm, rl, e26, e27, _⟩ := gl_J_p j
  obtain ⟨j1, _, _, _, _, _, all, j8, _, j10, _⟩ := j
  have e13 := j8 13 (by decide) (by decide)
  have e25 : m 63 25 = A 13 0 := by
    rw [← e13]
    exact all.1.2.2.2.2.2.2.1.symm
  have hR0 := hG.2.2.1
  have hR := hG.2.2.2.1
  unfold gl_sv at H
  refine ⟨fun _ => ⟨fun z => absurd z h24, fun _ => ?_⟩, fun z => absurd ⟨by omega, by omega⟩ z⟩
  refine ⟨fun w r => 0 ≤ r ∧ r ≤ gm_R G ∧ w = gsum (gm_s G) r.toNat ∧ 0 ≤ w ∧ w ≤ 4 * r, fun w r => (30 - r).toNat, ⟨Int.le_refl _, hR0, rfl, Int.le_refl _, Int.le_refl _⟩, ?_⟩
  rintro w r ⟨r0, r1, hw, w0, w1⟩
  unfold f_Model_sum_29
  rw [hD.2.1, hD.1]
  refine ⟨fun lt => ?_, fun ge => ⟨fun c => ?_, fun _ => ⟨fun c => ?_, fun _ => ⟨fun c => ?_, fun _ => ⟨fun c => ?_, fun _ => ⟨fun c => ?_, fun _ => ⟨fun c => gl_unclear all.1 ?_, fun _ => ?_⟩⟩⟩⟩⟩⟩⟩
  · have sb := gl_sz_b hG r0 lt
    rw [(hD.2.2 r r0 lt).2.1]
    refine ⟨r0, by omega, by omega, fun v1' hv1' => ⟨by omega, ⟨by omega, by omega, ?_, by omega, by omega⟩, by (try dsimp only); omega⟩⟩
    rw [gl_gs r0, hv1', hw]
  · rw [if_pos c] at H
    rw [e25]
    exact H
  · rw [if_neg (by omega), if_pos c] at H
    exact H
  · rw [if_neg (by omega), if_neg (by omega), if_pos c] at H
    exact H
  · have er : r = gm_R G := by omega
    rw [if_neg (by omega), if_neg (by omega), if_neg (by omega), if_pos c] at H
    rw [hw, er]
    exact H
  · rw [if_neg (by omega), if_neg (by omega), if_neg (by omega), if_neg (by omega), if_pos c] at H
    rw [e50, e26]
    exact H
  · rw [if_neg (by omega), if_neg (by omega), if_neg (by omega), if_neg (by omega), if_neg (by omega), if_pos c] at H
    rw [tn]
    exact H
  · rw [if_neg (by omega), if_neg (by omega), if_neg (by omega), if_neg (by omega), if_neg (by omega), if_neg (by omega)] at H
    rw [all.2.2.2.2.2.2.1, j10]
    exact H
theorem gl_namv_A {K u w : Int} {G : gm_G} {A m : gh_M} (j : gl_J K u w G A m) : gl_namv m = gl_namv A := by
  obtain ⟨_, _, _, _, _, _, _, j8, _⟩ := j
  funext v x
  unfold gl_namv
  rw [j8 14 (by decide) (by decide), j8 15 (by decide) (by decide), j8 20 (by decide) (by decide), j8 21 (by decide) (by decide), j8 24 (by decide) (by decide)]
theorem gl_cname {K u w : Int} {G : gm_G} {A m : gh_M} {v x : Int} {Q : Int → Prop} (j : gl_J K u w G A m) (v0 : 0 ≤ v) (v1 : v < gm_N G) (x0 : 0 ≤ x) (x7 : x ≤ 7) (H : Q (gl_namv A v x)) : w_House_name v x m Q := by
  have nA := gl_namv_A j
  obtain ⟨hG, hC, _⟩ := gl_J_p j
  have hN := hG.2.1
  rw [← nA] at H
  unfold gl_namv at H
  unfold w_House_name
  refine ⟨True, fun _ => ⟨fun _ => ⟨fun z => absurd z j.1, fun _ => ⟨fun c => ⟨v0, by omega, ?_⟩, fun c => ⟨v0, by omega, ?_⟩, fun c => ?_, fun c => ?_, fun c => ?_, fun c => ?_, fun c => ⟨v0, by omega, fun _ => by omega, ?_⟩, fun c0 c1 c2 c3 c4 c5 c6 => ⟨v0, by omega, ?_⟩⟩⟩, fun z => absurd ⟨by omega, x7⟩ z⟩, fun _ => trivial, fun z => absurd (Or.inr (show p_House_isName v m from ⟨by omega, by rw [hC.1]; exact v1⟩)) z⟩
  · rw [if_pos c] at H
    exact H
  · rw [if_neg (by omega), if_pos c] at H
    exact H
  · rw [if_neg (by omega), if_neg (by omega), if_pos c] at H
    exact H
  · rw [if_neg (by omega), if_neg (by omega), if_neg (by omega), if_pos c] at H
    exact H
  · rw [if_neg (by omega), if_neg (by omega), if_neg (by omega), if_neg (by omega), if_pos c] at H
    exact H
  · rw [if_neg (by omega), if_neg (by omega), if_neg (by omega), if_neg (by omega), if_neg (by omega), if_pos c] at H
    exact H
  · rw [if_neg (by omega), if_neg (by omega), if_neg (by omega), if_neg (by omega), if_neg (by omega), if_neg (by omega), if_pos c] at H
    exact H
  · rw [if_neg c0, if_neg c1, if_neg c2, if_neg c3, if_neg c4, if_neg c5, if_neg c6] at H
    exact H
theorem gl_J_I {K u w : Int} {G : gm_G} {A m : gh_M} (j : gl_J K u w G A m) : ∃ b, gl_I K b m := ⟨((u.toNat + w.toNat : Nat) : Int), gl_I_of (gl_J_w (by omega) (by omega) j)⟩
theorem gl_mname {K u w : Int} {G : gm_G} {A m : gh_M} {v x : Int} {Q : Int → Prop} (j : gl_J K u w G A m) (v0 : 0 ≤ v) (v1 : v < gm_N G) (x0 : 0 ≤ x) (x7 : x ≤ 7) (H : Q (gl_namv A v x)) : w_Model_name v x m Q := by
  have nA := gl_namv_A j
  obtain ⟨hG, hC, _⟩ := gl_J_p j
  rw [← nA] at H
  obtain ⟨b, inv⟩ := gl_J_I j
  have h := gl_name (v := v) (w := x) (Q := fun r => ∀ Q2 : Int → Prop, Q2 r → w_Model_name v x m Q2) inv (fun r y => y)
  unfold w_House_name at h
  obtain ⟨J19, h1, h2, _⟩ := h
  obtain ⟨h3, _⟩ := h1 (h2 (Or.inr ⟨by omega, by rw [hC.1]; exact v1⟩))
  obtain ⟨_, h4⟩ := h3 ⟨by omega, x7⟩
  obtain ⟨q0, q1, q2, q3, q4, q5, q6, q7⟩ := h4 j.1
  unfold gl_namv at H
  by_cases c0 : x = 0
  · rw [if_pos c0] at H
    exact (q0 c0).2.2 Q H
  rw [if_neg c0] at H
  by_cases c1 : x = 1
  · rw [if_pos c1] at H
    exact (q1 c1).2.2 Q H
  rw [if_neg c1] at H
  by_cases c2 : x = 2
  · rw [if_pos c2] at H
    exact q2 c2 Q H
  rw [if_neg c2] at H
  by_cases c3 : x = 3
  · rw [if_pos c3] at H
    exact q3 c3 Q H
  rw [if_neg c3] at H
  by_cases c4 : x = 4
  · rw [if_pos c4] at H
    exact q4 c4 Q H
  rw [if_neg c4] at H
  by_cases c5 : x = 5
  · rw [if_pos c5] at H
    exact q5 c5 Q H
  rw [if_neg c5] at H
  by_cases c6 : x = 6
  · rw [if_pos c6] at H
    exact (q6 c6).2.2.2 Q H
  rw [if_neg c6] at H
  exact (q7 c0 c1 c2 c3 c4 c5 c6).2.2 Q H
