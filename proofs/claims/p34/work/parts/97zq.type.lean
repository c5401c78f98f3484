/-! TYPING -/
theorem gl_byte (v : Int) (s : Nat) (hs : s ≤ 24) : gh_iand_f (gh_iushr_f v s) 255 = gh_iand_f (gh_ishr_f v s) 255 := by
  unfold gh_iand_f
  rw [← gh_iushr_e, gh_ishr_e]
  apply congrArg Int32.toInt
  apply Int32.toBitVec_inj.1
  show ((Int32.ofInt v).toBitVec >>> (((nI s).toUInt32 &&& Int32.toUInt32 31).toBitVec % 32)) &&& 255#32 = ((Int32.ofInt v).toBitVec.sshiftRight' ((nI s &&& 31).toBitVec.smod 32)) &&& 255#32
  rw [BitVec.ushiftRight_eq', gb_cntu s (by omega)]
  show _ = ((Int32.ofInt v).toBitVec.sshiftRight ((nI s &&& 31).toBitVec.smod 32).toNat) &&& 255#32
  rw [gb_cnt s (by omega)]
  have m255 : ∀ i, i < 32 → (255#32).getLsbD i = decide (i < 8) := by decide
  apply BitVec.eq_of_getLsbD_eq
  intro i hi
  rw [BitVec.getLsbD_and, BitVec.getLsbD_and, m255 i hi, BitVec.getLsbD_ushiftRight, BitVec.getLsbD_sshiftRight]
  by_cases w : i < 8
  · rw [if_pos (by omega)]
    have h1 : ¬ 32 ≤ i := by omega
    simp [w, h1]
  · simp [w]
/-- the k-th sign of a word -/
def gl_B (v : Int) (k : Nat) : Int := gh_iand_f (gh_ishr_f v ((8 * k : Nat) : Int)) 255
def gl_g (b : Int) : Prop := b = 0 ∨ (32 ≤ b ∧ b ≤ 126)
def gl_ok (v : Int) : Prop := ∀ k : Nat, k < 4 → gl_g (gl_B v k)
def gl_n (v : Int) : Nat → Int
  | 0 => 0
  | k + 1 => gl_n v k + if gl_B v k = 0 then 0 else 1
abbrev gl_P : Type := (Int → Int) × Int
def gl_ap (v : Int) : Nat → gl_P → gl_P
  | 0, p => p
  | k + 1, p => if gl_B v k = 0 then gl_ap v k p else (gm_upd (gl_ap v k p).1 (gl_ap v k p).2 (gl_B v k), (gl_ap v k p).2 + 1)
theorem gl_n_b (v : Int) : ∀ k : Nat, 0 ≤ gl_n v k ∧ gl_n v k ≤ k
  | 0 => ⟨Int.le_refl _, Int.le_refl _⟩
  | k + 1 => by
    have h := gl_n_b v k
    show 0 ≤ gl_n v k + (if gl_B v k = 0 then 0 else 1) ∧ gl_n v k + (if gl_B v k = 0 then 0 else 1) ≤ ((k + 1 : Nat) : Int)
    by_cases u : gl_B v k = 0
    · rw [if_pos u]
      omega
    · rw [if_neg u]
      omega
theorem gl_n_s (v : Int) (k : Nat) : gl_n v k ≤ gl_n v (k + 1) := by
  show gl_n v k ≤ gl_n v k + if gl_B v k = 0 then 0 else 1
  by_cases u : gl_B v k = 0
  · rw [if_pos u]
    omega
  · rw [if_neg u]
    omega
theorem gl_n_up (v : Int) {k : Nat} (hk : k < 4) : gl_n v k + (if gl_B v k = 0 then 0 else 1) ≤ gl_n v 4 := by
  have e1 : gl_n v 1 ≤ gl_n v 2 := gl_n_s v 1
  have e2 : gl_n v 2 ≤ gl_n v 3 := gl_n_s v 2
  have e3 : gl_n v 3 ≤ gl_n v 4 := gl_n_s v 3
  have ck : k = 0 ∨ k = 1 ∨ k = 2 ∨ k = 3 := by omega
  rcases ck with c | c | c | c
  · rw [c]
    show gl_n v 1 ≤ _
    omega
  · rw [c]
    show gl_n v 2 ≤ _
    omega
  · rw [c]
    exact e3
  · rw [c]
    exact Int.le_refl _
theorem gl_ap_2 (v : Int) (p : gl_P) : ∀ k : Nat, (gl_ap v k p).2 = p.2 + gl_n v k
  | 0 => (Int.add_zero _).symm
  | k + 1 => by
    have h := gl_ap_2 v p k
    show (if gl_B v k = 0 then gl_ap v k p else (gm_upd (gl_ap v k p).1 (gl_ap v k p).2 (gl_B v k), (gl_ap v k p).2 + 1)).2 = p.2 + (gl_n v k + if gl_B v k = 0 then 0 else 1)
    by_cases u : gl_B v k = 0
    · rw [if_pos u, if_pos u]
      omega
    · rw [if_neg u, if_neg u]
      (try dsimp only)
      omega
def gl_R (p q : gl_P) : Prop := q.2 = p.2 ∧ 0 ≤ p.2 ∧ ∀ k, 0 ≤ k → k < p.2 → q.1 k = p.1 k ∧ 32 ≤ p.1 k ∧ p.1 k ≤ 126
theorem gl_R_ap {v : Int} (ok : gl_ok v) {p q : gl_P} (h : gl_R p q) : ∀ k : Nat, k ≤ 4 → gl_R (gl_ap v k p) (gl_ap v k q)
  | 0, _ => h
  | k + 1, hk => by
    obtain ⟨h1, h2, h3⟩ := gl_R_ap ok h k (by omega)
    have g := ok k (by omega)
    show gl_R (if gl_B v k = 0 then gl_ap v k p else (gm_upd (gl_ap v k p).1 (gl_ap v k p).2 (gl_B v k), (gl_ap v k p).2 + 1)) (if gl_B v k = 0 then gl_ap v k q else (gm_upd (gl_ap v k q).1 (gl_ap v k q).2 (gl_B v k), (gl_ap v k q).2 + 1))
    by_cases u : gl_B v k = 0
    · rw [if_pos u, if_pos u]
      exact ⟨h1, h2, h3⟩
    · rw [if_neg u, if_neg u]
      have b : 32 ≤ gl_B v k ∧ gl_B v k ≤ 126 := g.resolve_left u
      refine ⟨by (try dsimp only); omega, by (try dsimp only); omega, fun x x0 x1 => ?_⟩
      have x1' : x < (gl_ap v k p).2 + 1 := x1
      show gm_upd (gl_ap v k q).1 (gl_ap v k q).2 (gl_B v k) x = gm_upd (gl_ap v k p).1 (gl_ap v k p).2 (gl_B v k) x ∧ 32 ≤ gm_upd (gl_ap v k p).1 (gl_ap v k p).2 (gl_B v k) x ∧ gm_upd (gl_ap v k p).1 (gl_ap v k p).2 (gl_B v k) x ≤ 126
      rw [h1]
      by_cases w : x = (gl_ap v k p).2
      · rw [w, go_upd_s, go_upd_s]
        exact ⟨rfl, b⟩
      · rw [go_upd_i w, go_upd_i w]
        exact h3 x x0 (by omega)
theorem gl_careSigns {v : Int} {m : gh_M} {Q : Int → Prop} (H1 : gl_ok v → Q 1) (H0 : ¬ gl_ok v → Q 0) : w_Tape_areSigns v m Q := by
  refine ⟨fun s => ∃ k : Nat, k ≤ 4 ∧ s = ((8 * k : Nat) : Int) ∧ ∀ j : Nat, j < k → gl_g (gl_B v j), fun s => (40 - s).toNat, ⟨0, by decide, rfl, fun j h => absurd h (Nat.not_lt_zero j)⟩, ?_⟩
  rintro s ⟨k, k4, hs, hk⟩
  unfold f_Tape_areSigns_2
  refine ⟨fun lt => fun v2 hv2 => ?_, fun ge => H1 (fun j hj => hk j (by omega))⟩
  have e : v2 = gl_B v k := by
    rw [hv2, hs]
    exact gl_byte v (8 * k) (by omega)
  rw [e]
  have ek : s + 8 = ((8 * (k + 1) : Nat) : Int) := by omega
  refine ⟨gl_g (gl_B v k), fun g => ⟨by omega, ⟨k + 1, by omega, ek, fun j hj => ?_⟩, by (try dsimp only); omega⟩, fun g => ?_, fun g => H0 (fun ok => ?_)⟩
  · by_cases u : j = k
    · rw [u]
      exact g
    · exact hk j (by omega)
  · unfold gl_g
    omega
  · have := ok k (by omega)
    unfold gl_g at this
    omega
theorem gl_csignsIn {v : Int} {m : gh_M} {Q : Int → Prop} (H : Q (gl_n v 4)) : w_Tape_signsIn v m Q := by
  refine ⟨fun n s => ∃ k : Nat, k ≤ 4 ∧ s = ((8 * k : Nat) : Int) ∧ n = gl_n v k, fun n s => (40 - s).toNat, ⟨0, by decide, rfl, rfl⟩, ?_⟩
  rintro n s ⟨k, k4, hs, hn⟩
  unfold f_Tape_signsIn_4
  have nb := gl_n_b v k
  refine ⟨fun lt => ?_, fun ge => ?_⟩
  · have e : gh_iand_f (gh_iushr_f v s) 255 = gl_B v k := by
      rw [hs]
      exact gl_byte v (8 * k) (by omega)
    rw [e]
    have ek : s + 8 = ((8 * (k + 1) : Nat) : Int) := by omega
    refine ⟨fun n' => n' = gl_n v (k + 1), fun n' hn' => ⟨by omega, ⟨k + 1, by omega, ek, hn'⟩, by (try dsimp only); omega⟩, fun z => ?_, fun z => ⟨by omega, ?_⟩⟩
    · show n = gl_n v k + if gl_B v k = 0 then 0 else 1
      rw [if_pos z]
      omega
    · show n + 1 = gl_n v k + if gl_B v k = 0 then 0 else 1
      rw [if_neg z]
      omega
  · have e : k = 4 := by omega
    rw [hn, e]
    exact H
theorem gl_u_f {m : gh_M} {a i v : Int} : gh_u m a i v a = gm_upd (m a) i v := funext fun j => by
  unfold gm_upd
  by_cases u : j = i
  · rw [u, gh_u_s, if_pos rfl]
  · rw [gh_u_i u, if_neg u]
theorem gl_cappend {v : Int} {m : gh_M} {Q : Int → gh_M → Prop} (c0 : 0 ≤ m 3 1) (c1 : m 3 1 + gl_n v 4 ≤ 240) (H : ∀ m2, gx [3, 4] m m2 → (∀ y, y ≠ 1 → m2 3 y = m 3 y) → (m2 4, m2 3 1) = gl_ap v 4 (m 4, m 3 1) → Q 0 m2) : w_Tape_append v m Q := by
  refine ⟨fun s m' => ∃ k : Nat, k ≤ 4 ∧ s = ((8 * k : Nat) : Int) ∧ gx [3, 4] m m' ∧ (∀ y, y ≠ 1 → m' 3 y = m 3 y) ∧ (m' 4, m' 3 1) = gl_ap v k (m 4, m 3 1), fun s _ => (40 - s).toNat, ⟨0, by decide, rfl, gx_rf, fun _ _ => rfl, rfl⟩, ?_⟩
  rintro s m' ⟨k, k4, hs, x', o', hp⟩
  unfold f_Tape_append_2
  have nb := gl_n_b v k
  have p1 : m' 4 = (gl_ap v k (m 4, m 3 1)).1 := congrArg Prod.fst hp
  have p2 : m' 3 1 = (gl_ap v k (m 4, m 3 1)).2 := congrArg Prod.snd hp
  have p3 := gl_ap_2 v (m 4, m 3 1) k
  rw [← p2] at p3
  (try dsimp only at p3)
  refine ⟨fun lt => fun v3 hv3 => ?_, fun ge => ?_⟩
  · have e : v3 = gl_B v k := by
      rw [hv3, hs]
      exact gl_byte v (8 * k) (by omega)
    rw [e]
    have up := gl_n_up v (k := k) (by omega)
    have ek : s + 8 = ((8 * (k + 1) : Nat) : Int) := by omega
    refine ⟨fun m3 => gx [3, 4] m m3 ∧ (∀ y, y ≠ 1 → m3 3 y = m 3 y) ∧ (m3 4, m3 3 1) = gl_ap v (k + 1) (m 4, m 3 1), fun m3 j => ⟨by omega, ⟨k + 1, by omega, ek, j⟩, by (try dsimp only); omega⟩, fun z => ?_, fun z => ⟨x', o', ?_⟩⟩
    · rw [if_neg z.1] at up
      refine ⟨by omega, by omega, by omega, gx_u (gx_u x' (by decide)) (by decide), fun y yn => by rw [gh_u_i yn, gh_u_a (by decide)]; exact o' y yn, ?_⟩
      show _ = (if gl_B v k = 0 then gl_ap v k (m 4, m 3 1) else (gm_upd (gl_ap v k (m 4, m 3 1)).1 (gl_ap v k (m 4, m 3 1)).2 (gl_B v k), (gl_ap v k (m 4, m 3 1)).2 + 1))
      have e4 : gh_u (gh_u m' 4 (m' 3 1) (gl_B v k)) 3 1 (m' 3 1 + 1) 4 = gm_upd (m' 4) (m' 3 1) (gl_B v k) := by
        rw [show gh_u (gh_u m' 4 (m' 3 1) (gl_B v k)) 3 1 (m' 3 1 + 1) 4 = gh_u m' 4 (m' 3 1) (gl_B v k) 4 from funext fun x => gh_u_a (by decide)]
        exact gl_u_f
      rw [if_neg z.1, ← p1, ← p2, e4, gh_u_s]
    · show _ = (if gl_B v k = 0 then gl_ap v k (m 4, m 3 1) else (gm_upd (gl_ap v k (m 4, m 3 1)).1 (gl_ap v k (m 4, m 3 1)).2 (gl_B v k), (gl_ap v k (m 4, m 3 1)).2 + 1))
      by_cases u : gl_B v k = 0
      · rw [if_pos u]
        exact hp
      · rw [if_neg u] at up
        exact absurd ⟨u, by omega⟩ z
  · have e : k = 4 := by omega
    rw [e] at hp
    exact H m' x' o' hp
def gl_5 (a b c d e : Int) : Prop := gl_ok a ∧ gl_ok b ∧ gl_ok c ∧ gl_ok d ∧ gl_ok e
def gl_s5 (a b c d e : Int) : Int := gl_n a 4 + gl_n b 4 + gl_n c 4 + gl_n d 4 + gl_n e 4
def gl_a5 (a b c d e : Int) (p : gl_P) : gl_P := gl_ap e 4 (gl_ap d 4 (gl_ap c 4 (gl_ap b 4 (gl_ap a 4 p))))
theorem gl_ctype {a b c d e : Int} {m : gh_M} {Q : Int → gh_M → Prop} (c0 : 0 ≤ m 3 1) (c1 : m 3 1 ≤ 240) (H0 : ¬ gl_5 a b c d e → Q (-1002) m) (H1 : gl_5 a b c d e → 240 < m 3 1 + gl_s5 a b c d e → Q (-1004) m) (H2 : gl_5 a b c d e → m 3 1 + gl_s5 a b c d e ≤ 240 → ∀ m2, gx [3, 4] m m2 → (∀ y, y ≠ 1 → m2 3 y = m 3 y) → (m2 4, m2 3 1) = gl_a5 a b c d e (m 4, m 3 1) → Q (m2 3 1) m2) : w_House_type a b c d e m Q := by
  have na := gl_n_b a 4
  have nb := gl_n_b b 4
  have nc := gl_n_b c 4
  have nd := gl_n_b d 4
  have ne := gl_n_b e 4
  unfold gl_s5 at H1 H2
  unfold w_House_type
  refine gl_careSigns (fun ha => ⟨fun z => absurd z (by decide), fun _ => ?_⟩) (fun ha => ⟨fun _ => H0 (fun w => ha w.1), fun z => absurd rfl z⟩)
  refine gl_careSigns (fun hb => ⟨fun z => absurd z (by decide), fun _ => ?_⟩) (fun hb => ⟨fun _ => H0 (fun w => hb w.2.1), fun z => absurd rfl z⟩)
  refine gl_careSigns (fun hc => ⟨fun z => absurd z (by decide), fun _ => ?_⟩) (fun hc => ⟨fun _ => H0 (fun w => hc w.2.2.1), fun z => absurd rfl z⟩)
  refine gl_careSigns (fun hd => ⟨fun z => absurd z (by decide), fun _ => ?_⟩) (fun hd => ⟨fun _ => H0 (fun w => hd w.2.2.2.1), fun z => absurd rfl z⟩)
  refine gl_careSigns (fun he => ⟨fun z => absurd z (by decide), fun _ => ?_⟩) (fun he => ⟨fun _ => H0 (fun w => he w.2.2.2.2), fun z => absurd rfl z⟩)
  refine gl_csignsIn (gl_csignsIn ⟨by omega, gl_csignsIn ⟨by omega, gl_csignsIn ⟨by omega, gl_csignsIn ⟨by omega, fun v6 hv6 => ⟨by omega, fun le => ?_, fun gt => H1 ⟨ha, hb, hc, hd, he⟩ (by omega)⟩⟩⟩⟩⟩)
  have ap2 := fun v p => gl_ap_2 v p 4
  refine gl_cappend (by omega) (by omega) (fun m1 x1 o1 p1 => ?_)
  have q1 : m1 3 1 = m 3 1 + gl_n a 4 := (congrArg Prod.snd p1).trans (ap2 a _)
  refine gl_cappend (by omega) (by omega) (fun m2 x2 o2 p2 => ?_)
  have q2 : m2 3 1 = m1 3 1 + gl_n b 4 := (congrArg Prod.snd p2).trans (ap2 b _)
  refine gl_cappend (by omega) (by omega) (fun m3 x3 o3 p3 => ?_)
  have q3 : m3 3 1 = m2 3 1 + gl_n c 4 := (congrArg Prod.snd p3).trans (ap2 c _)
  refine gl_cappend (by omega) (by omega) (fun m4 x4 o4 p4 => ?_)
  have q4 : m4 3 1 = m3 3 1 + gl_n d 4 := (congrArg Prod.snd p4).trans (ap2 d _)
  refine gl_cappend (by omega) (by omega) (fun m5 x5 o5 p5 => ?_)
  refine H2 ⟨ha, hb, hc, hd, he⟩ (by omega) m5 (gx_t x1 (gx_t x2 (gx_t x3 (gx_t x4 x5)))) (fun y yn => by rw [o5 y yn, o4 y yn, o3 y yn, o2 y yn, o1 y yn]) ?_
  rw [p5, p4, p3, p2, p1]
  rfl
