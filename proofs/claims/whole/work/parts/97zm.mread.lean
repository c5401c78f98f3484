/-! READING: the model's run -/
def go_fq (m m2 : gh_M) : Prop := gx [63, 65, 66, 67, 68, 69, 70, 71, 72, 73, 74] m m2 ∧ ∀ y : Int, (y < 4 ∨ 22 < y) → m2 63 y = m 63 y
theorem go_fq_t {m m1 m2 : gh_M} (h : go_fq m m1) (h2 : go_fq m1 m2) : go_fq m m2 := ⟨gx_t h.1 h2.1, fun y hy => by rw [h2.2 y hy]; exact h.2 y hy⟩
theorem go_fq_r {m m2 : gh_M} (h : go_fr m m2) : go_fq m m2 := ⟨h.1, fun y hy => h.2 y (by omega)⟩
theorem go_fq_mt {T : Int → Int} {c : Int} {m m2 : gh_M} (h : go_fq m m2) (mt : gr_mt T c m) : gr_mt T c m2 := gr_mt_x (h.2 1 (by decide)) (h.1 64 (by decide)) mt
theorem go_rm_0 {m : gh_M} (h8 : m 63 8 = 0) (h9 : m 63 9 = 0) (h11 : m 63 11 = 0) (h16 : m 63 16 = 0) (h22 : m 63 22 = 0) : go_rm go_S0 m := by
  unfold go_S0 go_rm
  (try dsimp only)
  exact ⟨⟨h8, h9, h11, h16, h22⟩, fun x _ _ => by omega, fun r _ _ => by omega, fun b _ _ _ => by omega, fun x _ _ => by omega, fun z => by omega⟩
theorem go_rm_x {S : go_S} {m m2 : gh_M} (x : ∀ a, 65 ≤ a → a ≤ 74 → m2 a = m a) (o : ∀ y, y ≠ 4 → y ≠ 5 → y ≠ 6 → y ≠ 7 → m2 63 y = m 63 y) (se : ∃ T c, go_se T c 1000000 S.2.2) (h : go_rm S m) : go_rm S m2 := by
  obtain ⟨⟨r1, r2, r3, r4, r5⟩, r6, r7, r8, r9, r10⟩ := h
  obtain ⟨T, c, se⟩ := se
  refine ⟨⟨by rw [o 8 (by decide) (by decide) (by decide) (by decide)]; exact r1, by rw [o 9 (by decide) (by decide) (by decide) (by decide)]; exact r2, by rw [o 11 (by decide) (by decide) (by decide) (by decide)]; exact r3, by rw [o 16 (by decide) (by decide) (by decide) (by decide)]; exact r4, by rw [o 22 (by decide) (by decide) (by decide) (by decide)]; exact r5⟩, by rw [x 65 (by decide) (by decide)]; exact r6, by rw [x 66 (by decide) (by decide), x 67 (by decide) (by decide), x 68 (by decide) (by decide)]; exact r7, by rw [x 70 (by decide) (by decide)]; exact r8, by rw [x 74 (by decide) (by decide)]; exact r9, fun z => ⟨by rw [o 15 (by decide) (by decide) (by decide) (by decide)]; exact (r10 z).1, ?_⟩⟩
  exact go_skm_cg _ se (fun y _ _ => ⟨by rw [x 69 (by decide) (by decide)], by rw [x 71 (by decide) (by decide)], by rw [x 73 (by decide) (by decide)]⟩) (fun y _ _ => by rw [x 72 (by decide) (by decide)]) (r10 z).2
theorem go_row_st {T : Int → Int} {S : go_S} {b : Int} {ps : List Int} {a : Int} {k2 : go_K} {pl kd si e : Int} : ∀ R, R = go_row T S b ps a k2 pl kd si e → R.1 = 0 → R.2.1.1 = 0 ∨ R.2.1.1 = 2 := by
  intro R hR
  unfold go_row at hR
  repeat' split at hR
  all_goals
    rw [hR]
    intro z
    first
      | exact (go_no z (by decide)).elim
      | exact Or.inr rfl
      | exact Or.inl rfl
      | (by_cases u : si = 59
         · refine Or.inl ?_
           show (if si = 59 then (0 : Int) else 2) = 0
           rw [if_pos u]
         · refine Or.inr ?_
           show (if si = 59 then (0 : Int) else 2) = 2
           rw [if_neg u])
theorem go_act_2 {T : Int → Int} {c pos pl kd si e : Int} {S : go_S} (iv : go_iv T c pos S) (s2 : S.1.1 = 2) (f : (go_act T c S pl kd si e).1 = 0) : (go_act T c S pl kd si e).2.1.1 = 0 ∨ (go_act T c S pl kd si e).2.1.1 = 2 := by
  have k0 := (go_act_f iv f).1.1
  have i11 := iv.2.2.2.2.2.2.2.1.2.2.2.1 s2
  unfold go_act at f ⊢
  rw [if_neg k0, if_neg (by omega), if_neg (by omega)] at f ⊢
  obtain ⟨s1, s3, sk⟩ := S
  cases sk with
  | nil => exact absurd rfl i11
  | cons x k2 =>
    obtain ⟨b, ps, a⟩ := x
    exact go_row_st _ rfl f
theorem go_mread {T : Int → Int} {c : Int} {m : gh_M} {Q : Int → gh_M → Prop} (mt : gr_mt T c m) (H : ∀ m2 f pl S, go_fq m m2 → go_res T c f pl S → (f ≠ 0 → m2 63 6 = pl) → (f = 0 → go_rm S m2 ∧ (∃ pos, go_iv T c pos S) ∧ S.1.1 = 0 ∧ 0 < S.1.2.1) → Q f m2) : w_Model_readRows m Q := by
  have c240 := mt.2.2.1
  have c0 := mt.2.1
  unfold w_Model_readRows
  obtain ⟨m1, hm1⟩ : ∃ m1, m1 = gh_u (gh_u (gh_u (gh_u (gh_u (gh_u m 63 4 0) 63 8 0) 63 9 0) 63 11 0) 63 16 0) 63 22 0 := ⟨_, rfl⟩
  rw [← hm1]
  have f1 : go_fq m m1 := by
    rw [hm1]
    refine ⟨gx_u (gx_u (gx_u (gx_u (gx_u (gx_u gx_rf (by decide)) (by decide)) (by decide)) (by decide)) (by decide)) (by decide), fun y hy => ?_⟩
    rw [gh_u_i (by omega), gh_u_i (by omega), gh_u_i (by omega), gh_u_i (by omega), gh_u_i (by omega), gh_u_i (by omega)]
  have s4 : m1 63 4 = 0 := by
    rw [hm1, gh_u_i (by decide), gh_u_i (by decide), gh_u_i (by decide), gh_u_i (by decide), gh_u_i (by decide), gh_u_s]
  have s8 : m1 63 8 = 0 := by
    rw [hm1, gh_u_i (by decide), gh_u_i (by decide), gh_u_i (by decide), gh_u_i (by decide), gh_u_s]
  have s9 : m1 63 9 = 0 := by
    rw [hm1, gh_u_i (by decide), gh_u_i (by decide), gh_u_i (by decide), gh_u_s]
  have s11 : m1 63 11 = 0 := by
    rw [hm1, gh_u_i (by decide), gh_u_i (by decide), gh_u_s]
  have s16 : m1 63 16 = 0 := by
    rw [hm1, gh_u_i (by decide), gh_u_s]
  have s22 : m1 63 22 = 0 := by
    rw [hm1, gh_u_s]
  clear hm1
  have fnx : ∀ m2 m3, go_fq m m2 → gx [63] m2 m3 → (∀ y, y ≠ 4 → y ≠ 5 → y ≠ 6 → y ≠ 7 → m3 63 y = m2 63 y) → go_fq m m3 := fun m2 m3 a x o => go_fq_t a ⟨gx_sub x (by decide), fun y hy => o y (by omega) (by omega) (by omega) (by omega)⟩
  refine gr_next (go_fq_mt f1 mt) (Int.le_refl 0) c0 s4 (fun m2 p0 kd0 si0 e0 tk0 x2 o2 t4 t5 t6 t7 => ?_)
  refine ⟨fun v1 v2 m' => go_fq m m' ∧ ((v2 = 0 ∧ ∃ (N : Nat) (b : Int) (S : go_S) (p kd si e : Int), gr_tk T c b p kd si e ∧ 0 ≤ b ∧ b ≤ c ∧ go_iv T c b S ∧ go_rm S m' ∧ v1 = S.1.1 ∧ m' 63 4 = e ∧ m' 63 5 = kd ∧ m' 63 6 = p ∧ m' 63 7 = si ∧ ∀ n f pl S2, go_out T c n b S f pl S2 → go_out T c (N + n) 0 go_S0 f pl S2) ∨ (v2 ≠ 0 ∧ ∃ N S, go_out T c N 0 go_S0 v2 (m' 63 6) S)), fun v1 v2 m' => if v2 = 0 then (1000 - m' 63 6).toNat else 0, ⟨fnx m1 m2 f1 x2 o2, Or.inl ⟨rfl, 0, 0, go_S0, p0, kd0, si0, e0, tk0, Int.le_refl _, c0, go_iv_0, go_rm_x (fun a a0 a1 => x2 a (fun z => by have := List.mem_singleton.mp z; omega)) o2 ⟨T, c, trivial⟩ (go_rm_0 s8 s9 s11 s16 s22), rfl, t4, t5, t6, t7, fun n f pl S2 h => by rw [Nat.zero_add]; exact h⟩⟩, ?_⟩
  clear fnx x2 o2 t4 t5 t6 t7 m2 tk0 p0 kd0 si0 e0 s4 s8 s9 s11 s16 s22 f1 m1
  rintro v1 v2 m' ⟨fq, inv⟩
  unfold f_Model_readRows_38
  refine ⟨fun v2' m'' => go_fq m m'' ∧ ((v2' = 0 ∧ ∃ N S pl, go_out T c N 0 go_S0 0 pl S ∧ (∃ pos, pos ≤ c ∧ go_iv T c pos S) ∧ go_rm S m'' ∧ S.1.1 = 0 ∧ 0 < S.1.2.1) ∨ (v2' ≠ 0 ∧ ∃ N S, go_out T c N 0 go_S0 v2' (m'' 63 6) S)), ?_, fun cond => ?_, fun cond => ?_⟩
  · rintro v2' m'' ⟨fq', inv'⟩
    rcases inv' with ⟨hz, N, S, pl, out, ⟨pos, pc, iv⟩, rm, st, nt0⟩ | ⟨hz, N, S, out⟩
    · have r22 := rm.1.2.2.2.2
      refine ⟨fun v2 v3 m3 => go_fq m m3 ∧ ((v2 ≠ 0 ∧ ∃ S, go_res T c v2 (m3 63 6) S) ∨ (v2 = 0 ∧ go_rm S m3 ∧ 0 ≤ v3 ∧ v3 ≤ S.1.2.2.2.2.2 ∧ ∀ y, 0 ≤ y → y < v3 → gr_has T c S.1.2.1 S.2.1.1 (S.2.1.2.2.2.2 y))), fun v2 v3 _ => if v2 = 0 then (1000 - v3).toNat else 0, ⟨fq', Or.inr ⟨hz, rm, Int.le_refl _, iv.2.2.2.2.1.1, fun y a b => by omega⟩⟩, ?_⟩
      rintro v2 v3 m3 ⟨fq3, inv3⟩
      unfold f_Model_readRows_190
      rcases inv3 with ⟨nz, S', res⟩ | ⟨z0, rm3, v30, v31, tl⟩
      · exact ⟨fun z => absurd z.2 nz, fun _ => H m3 v2 _ S' fq3 res (fun _ => rfl) (fun z => absurd z nz)⟩
      · have ns240 : S.1.2.2.2.2.2 ≤ 240 := by
          have := iv.2.2.2.2.1.2
          omega
        rw [rm3.1.2.2.2.2]
        refine ⟨fun z => ⟨v30, by omega, ?_⟩, fun z => ?_⟩
        · rw [rm3.2.2.2.2.1 v3 v30 z.1]
          obtain ⟨d, hd⟩ := iv.2.2.2.2.2.2.2.2.2.1 v3 v30 z.1
          refine gr_toldOf (nt := S.1.2.1) (ta := S.2.1.1) (go_fq_mt fq3 mt) iv.2.1 rm3.1.1 rm3.2.1 hd (fun x hx => ⟨fun w2 m4 => w2 = 0 ∧ m4 = m3, fun w2 m4 ⟨a1, a2⟩ => ?_, fun w => ?_, fun _ => ⟨z0, rfl⟩⟩) (fun no => ⟨fun w2 m4 => w2 = 5 ∧ m4 = gh_u m3 63 6 (S.2.1.2.2.2.2 v3), fun w2 m4 ⟨a1, a2⟩ => ?_, fun _ => ⟨v30, by omega, rfl, rfl⟩, fun w => absurd rfl w⟩)
          · rw [a1, a2]
            refine ⟨by omega, ⟨fq3, Or.inr ⟨rfl, rm3, by omega, by omega, fun y y0 y1 => ?_⟩⟩, ?_⟩
            · by_cases u : y = v3
              · rw [u]
                exact ⟨x, hx⟩
              · exact tl y y0 (by omega)
            · (try dsimp only)
              rw [if_pos rfl, if_pos z0]
              omega
          · have := hx.1
            omega
          · rw [a1, a2]
            refine ⟨by omega, ⟨go_fq_t fq3 ⟨gx_u gx_rf (by decide), fun y hy => gh_u_i (by omega)⟩, Or.inl ⟨by decide, S, ?_⟩⟩, ?_⟩
            · rw [gh_u_s]
              exact ⟨N, 0, pl, out, Or.inr (Or.inl ⟨rfl, rfl, v3, ⟨v30, z.1, no, tl⟩, rfl⟩)⟩
            · (try dsimp only)
              rw [if_neg (by decide), if_pos z0]
              omega
        · rw [z0]
          have e3 : v3 = S.1.2.2.2.2.2 := by omega
          rw [e3] at tl
          exact H m3 0 (-1) S fq3 ⟨N, 0, pl, out, Or.inr (Or.inr ⟨rfl, rfl, rfl, tl⟩)⟩ (fun z => absurd rfl z) (fun _ => ⟨rm3, ⟨pos, iv⟩, st, nt0⟩)
    · refine ⟨fun v2 v3 m3 => v2 = v2' ∧ m3 = m'', fun _ _ _ => 0, ⟨rfl, rfl⟩, ?_⟩
      rintro v2 v3 m3 ⟨a1, a2⟩
      unfold f_Model_readRows_190
      rw [a1, a2]
      exact ⟨fun z => absurd z.2 hz, fun _ => H m'' v2' _ S fq' ⟨N, v2', _, out, Or.inl ⟨hz, rfl, rfl⟩⟩ (fun _ => rfl) (fun z => absurd z hz)⟩
  · rcases inv with ⟨z0, N, b, S, p, kd, si, e, tk, b0, bc, iv, rm, hv, t4, t5, t6, t7, ch⟩ | ⟨nz, _⟩
    · have ns : ¬ go_stop S kd := fun z => by
        obtain ⟨z1, z2, z3⟩ := z
        have := rm.1.1
        omega
      have rg := gr_tk_rng b0 bc tk
      have tk0 := tk
      obtain ⟨_, _, _, tk1⟩ := tk0
      have mt' := go_fq_mt fq mt
      have flt : (go_act T c S p kd si e).1 ≠ 0 → ∃ N S', go_out T c N 0 go_S0 (go_act T c S p kd si e).1 p S' := fun w => ⟨N + 1, S, ch 1 _ p S ⟨p, kd, si, e, tk, Or.inr (Or.inl ⟨ns, w, rfl, rfl, rfl⟩)⟩⟩
      have nxt : (go_act T c S p kd si e).1 = 0 → ∀ n f pl S2, go_out T c n e (go_act T c S p kd si e).2 f pl S2 → go_out T c (N + 1 + n) 0 go_S0 f pl S2 := fun w n f pl S2 h => by
        have := ch (n + 1) f pl S2 ⟨p, kd, si, e, tk, Or.inr (Or.inr ⟨ns, w, h⟩)⟩
        have e1 : N + 1 + n = N + (n + 1) := by omega
        rw [e1]
        exact this
      have stp := fun w => go_step iv b0 bc tk w
      have acf := fun w => go_act_f (pl := p) (kd := kd) (si := si) (e := e) iv w
      rw [z0]
      refine ⟨fun v1' v2' m'' => go_fq m m'' ∧ ((v2' = 0 ∧ ∃ (N : Nat) (b : Int) (S : go_S), p < b ∧ b ≤ c ∧ go_iv T c b S ∧ go_rm S m'' ∧ v1' = S.1.1 ∧ m'' 63 4 = b ∧ ∀ n f pl S2, go_out T c n b S f pl S2 → go_out T c (N + n) 0 go_S0 f pl S2) ∨ (v2' ≠ 0 ∧ ∃ N S, go_out T c N 0 go_S0 v2' (m'' 63 6) S)), ?_, fun k0 => ?_, fun k0 => ⟨fun s0 => ?_, fun s0 => ⟨fun s1 => ?_, fun s1 => ?_⟩⟩⟩
      · rintro v1' v2' m'' ⟨fq', inv'⟩
        refine ⟨fun z => ?_, fun z => ?_⟩
        · rcases inv' with ⟨_, N', b', S', pb, bc', iv', rm', hv', t4', ch'⟩ | ⟨nz, _⟩
          · refine gr_next (go_fq_mt fq' mt) (by omega) bc' t4' (fun m3 p' kd' si' e' tk' x3 o3 u4 u5 u6 u7 => ?_)
            have rg' := gr_tk_rng (by omega) bc' tk'
            refine ⟨⟨go_fq_t fq' ⟨gx_sub x3 (by decide), fun y hy => o3 y (by omega) (by omega) (by omega) (by omega)⟩, Or.inl ⟨z, N', b', S', p', kd', si', e', tk', by omega, bc', iv', go_rm_x (fun a a0 a1 => x3 a (fun z => by have := List.mem_singleton.mp z; omega)) o3 ⟨T, c, go_se_big (by have := iv'.2.2.1; have := iv'.2.1.1; omega) iv'.2.2.2.2.2.2.2.1.2.1⟩ rm', hv', u4, u5, u6, u7, ch'⟩⟩, ?_⟩
            (try dsimp only)
            rw [if_pos z, if_pos rfl, u6, t6]
            omega
          · exact absurd z nz
        · rcases inv' with ⟨z1, _⟩ | ⟨nz, N', S', out'⟩
          · exact absurd z1 z
          · refine ⟨⟨fq', Or.inr ⟨z, N', S', out'⟩⟩, ?_⟩
            (try dsimp only)
            rw [if_neg z, if_pos rfl, t6]
            omega
      · have a1 : (go_act T c S p kd si e).1 = 1 := by
          unfold go_act
          rw [if_pos (by omega)]
        have := flt (by omega)
        rw [a1] at this
        refine ⟨fq, Or.inr ⟨by decide, ?_⟩⟩
        rw [t6]
        exact this
      · obtain ⟨⟨st, nt, md, nr, br, ns'⟩, ⟨ta, ow, rl, mb, sa⟩, sk⟩ := S
        have hv' : v1 = st := hv
        have es : st = 0 := by omega
        rw [es] at iv rm flt nxt stp acf
        refine go_mhead mt' iv rm (by omega) tk1 (by omega) t5 t6 (fun w => ⟨fq, Or.inr ⟨w, ?_⟩⟩) (fun w m3 f3 rm3 => ⟨go_fq_t fq (go_fq_r f3), Or.inl ⟨rfl, N + 1, e, _, ?_, (stp w).2.2, (stp w).1, rm3, ?_, by rw [f3.2 4 (by decide)]; exact t4, nxt w⟩⟩)
        · rw [t6]
          exact flt w
        · have := acf w
          have := rg.2.2.2.2.1 this.1.2
          omega
        · unfold go_act at w ⊢
          rw [if_neg (by omega), if_pos rfl] at w ⊢
          by_cases k2 : kd = 2
          · rw [if_pos k2] at w ⊢
            by_cases hs : gr_has T c nt ta p
            · (try dsimp only at w)
              rw [if_pos hs] at w
              exact (go_no w (by decide)).elim
            (try dsimp only at w ⊢)
            rw [if_neg hs] at w ⊢
            by_cases n8 : nt + md = 8
            · rw [if_pos n8] at w
              exact (go_no w (by decide)).elim
            rw [if_neg n8]
          · rw [if_neg k2] at w
            exact (go_no w (by decide)).elim
      · intro v2' hv2'
        obtain ⟨⟨st, nt, md, nr, br, ns'⟩, ⟨ta, ow, rl, mb, sa⟩, sk⟩ := S
        have hv' : v1 = st := hv
        have es : st = 1 := by omega
        rw [es] at iv rm flt nxt stp acf
        have fq3 : go_fq m (gh_u (gh_u (gh_u m' 63 15 0) 71 0 0) 73 0 0) := go_fq_t fq ⟨gx_u (gx_u (gx_u gx_rf (by decide)) (by decide)) (by decide), fun y hy => by rw [gh_u_a (by decide), gh_u_a (by decide), gh_u_i (by omega)]⟩
        refine ⟨fq3, ?_⟩
        by_cases c5 : kd = 5 ∧ si = 58
        · have w : (go_act T c ((1, nt, md, nr, br, ns'), (ta, ow, rl, mb, sa), sk) p kd si e).1 = 0 := by
            unfold go_act
            rw [if_neg (by omega), if_neg (fun z => absurd (show (1 : Int) = 0 from z) (by decide)), if_pos rfl, if_pos c5]
          have es2 : (go_act T c ((1, nt, md, nr, br, ns'), (ta, ow, rl, mb, sa), sk) p kd si e).2 = ((2, nt, md, nr, br, ns'), (ta, ow, rl, mb, sa), [(-1, [], 0)]) := by
            unfold go_act
            rw [if_neg (by omega), if_neg (fun z => absurd (show (1 : Int) = 0 from z) (by decide)), if_pos rfl, if_pos c5]
          refine Or.inl ⟨?_, N + 1, e, _, ?_, (stp w).2.2, (stp w).1, ?_, ?_, ?_, nxt w⟩
          · rw [hv2', if_pos (by omega), if_pos (by omega)]
          · have := acf w
            have := rg.2.2.2.2.1 this.1.2
            omega
          · rw [es2]
            obtain ⟨⟨r1, r2, r3, r4, r5⟩, r6, r7, r8, r9, r10⟩ := rm
            obtain ⟨m3, hm3⟩ : ∃ m3, m3 = gh_u (gh_u (gh_u m' 63 15 0) 71 0 0) 73 0 0 := ⟨_, rfl⟩
            rw [← hm3]
            have x3 : gx [63, 71, 73] m' m3 := by
              rw [hm3]
              exact gx_u (gx_u (gx_u gx_rf (by decide)) (by decide)) (by decide)
            have o63 : ∀ y, y ≠ 15 → m3 63 y = m' 63 y := fun y yn => by
              rw [hm3, gh_u_a (by decide), gh_u_a (by decide), gh_u_i yn]
            have s15 : m3 63 15 = 0 := by
              rw [hm3, gh_u_a (by decide), gh_u_a (by decide), gh_u_s]
            have s71 : m3 71 0 = 0 := by
              rw [hm3, gh_u_a (by decide), gh_u_s]
            have s73 : m3 73 0 = 0 := by
              rw [hm3, gh_u_s]
            clear hm3
            refine ⟨⟨by rw [o63 8 (by decide)]; exact r1, by rw [o63 9 (by decide)]; exact r2, by rw [o63 11 (by decide)]; exact r3, by rw [o63 16 (by decide)]; exact r4, by rw [o63 22 (by decide)]; exact r5⟩, by rw [x3 65 (by decide)]; exact r6, by rw [x3 66 (by decide), x3 67 (by decide), x3 68 (by decide)]; exact r7, fun b' c0' c1' no => ?_, by rw [x3 74 (by decide)]; exact r9, fun _ => ⟨s15, s71, trivial, s73, fun z => absurd rfl z, trivial⟩⟩
            rw [x3 70 (by decide)]
            refine r8 b' c0' c1' (fun l => ?_)
            obtain ⟨_, _, _, _, _, _, _, ⟨_, _, j10, _, j12⟩, _, _, _⟩ := iv
            (try dsimp only at j10 j12 ⊢)
            cases sk with
            | nil => exact id
            | cons x k => exact go_lv_0 (by have := j12 (by decide); omega) j10 c0'
          · rw [es2]
          · rw [gh_u_a (by decide), gh_u_a (by decide), gh_u_i (by decide)]
            exact t4
        · have w : (go_act T c ((1, nt, md, nr, br, ns'), (ta, ow, rl, mb, sa), sk) p kd si e).1 = 2 := by
            unfold go_act
            rw [if_neg (by omega), if_neg (fun z => absurd (show (1 : Int) = 0 from z) (by decide)), if_pos rfl, if_neg c5]
          have ev : v2' = 2 := by
            rw [hv2']
            by_cases u : m' 63 5 = 5
            · rw [if_pos u, if_neg (by omega)]
            · rw [if_neg u]
          refine Or.inr ⟨by omega, ?_⟩
          have := flt (by omega)
          rw [w] at this
          rw [ev, gh_u_a (by decide), gh_u_a (by decide), gh_u_i (by decide), t6]
          exact this
      · intro v3 hv3
        obtain ⟨⟨st, nt, md, nr, br, ns'⟩, ⟨ta, ow, rl, mb, sa⟩, sk⟩ := S
        have hv' : v1 = st := hv
        have i1 : st = 0 ∨ st = 1 ∨ st = 2 := iv.1
        have es : st = 2 := by omega
        rw [es] at iv rm flt nxt stp acf
        refine go_mtakes mt' iv rm b0 rg.1 (fun k1 => ?_) tk1 (by omega) rg.2.2.2.2.2.1 t5 t6 t7 (fun w => ?_) (fun w m3 f3 rm3 => ?_)
        · by_cases u : p = c
          · exact absurd (rg.2.2.1.mpr u) k1
          · omega
        · intro v1' _
          refine ⟨fq, Or.inr ⟨w, ?_⟩⟩
          rw [t6]
          exact flt w
        · intro v1' hv1'
          have af := acf w
          refine ⟨go_fq_t fq (go_fq_r f3), Or.inl ⟨rfl, N + 1, e, _, ?_, (stp w).2.2, (stp w).1, rm3, ?_, by rw [f3.2 4 (by decide)]; exact t4, nxt w⟩⟩
          · have := rg.2.2.2.2.1 af.1.2
            omega
          · have i2 := (stp w).1.1
            rw [t5, t7] at hv3
            have i3 := go_act_2 (pl := p) (kd := kd) (si := si) (e := e) iv rfl w
            by_cases u : kd = 5 ∧ si = 59
            · rw [if_pos u] at hv3
              rw [hv1', hv3, if_neg (by decide)]
              exact (af.2.1.mpr u).symm
            · rw [if_neg u] at hv3
              rw [hv1', hv3, if_pos rfl]
              rcases i3 with i3 | i3
              · exact absurd (af.2.1.mp i3) u
              · exact i3.symm
    · exact absurd cond.1 nz
  · rcases inv with ⟨z0, N, b, S, p, kd, si, e, tk, b0, bc, iv, rm, hv, t4, t5, t6, t7, ch⟩ | ⟨nz, N, S, out⟩
    · have i1 := iv.1
      have i2 := iv.2.1.1
      have r1 := rm.1.1
      have st : go_stop S kd := by
        unfold go_stop
        omega
      exact ⟨fq, Or.inl ⟨z0, N + 1, S, p, ch 1 0 p S ⟨p, kd, si, e, tk, Or.inl ⟨st, rfl, rfl, rfl⟩⟩, ⟨b, bc, iv⟩, rm, st.1, st.2.2⟩⟩
    · exact ⟨fq, Or.inr ⟨nz, N, S, out⟩⟩
