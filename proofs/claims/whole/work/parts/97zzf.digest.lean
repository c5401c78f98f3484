/-! THE DIGEST, ALL OF IT -/
theorem gl_cdigest {K u w v0 : Int} {G : gm_G} {A m : gh_M} {Q : Int → gh_M → Prop} (j : gl_J K u w G A m) (H : ∀ (m1 : gh_M) (N E P : Int → Int), gl_J K u w G A m1 → (∀ k, 0 ≤ k → k ≤ A 26 3 → gl_nv G A k (N k) ∧ gl_wv G (A 21) (A 27) k (E k)) → (∀ v, 0 ≤ v → v ≤ 2 → gl_pv G A v (P v)) → Q (gl_dg G A N E P v0) m1) : gh_L2 (fun K48 v1 v3 => f_House_digest_48 Q m K48 v1 v3) v0 0 := by
  obtain ⟨hG, hC, hD, h24, e50, ht, pl, nm, rl, e26, e27, _⟩ := gl_J_p j
  have hN0 := hG.1
  have hN := hG.2.1
  have t0 := ht.1
  have t8 := ht.2.1
  have j8 := j.2.2.2.2.2.2.2.1
  have e22 := j8 22 (by decide) (by decide)
  have e23 := j8 23 (by decide) (by decide)
  refine ⟨fun v x => 0 ≤ x ∧ x ≤ 7 ∧ v = gl_fd (gl_sv G A) x.toNat v0, fun v x => (20 - x).toNat, ⟨Int.le_refl _, by decide, rfl⟩, ?_⟩
  rintro v x ⟨x0, x7, hv⟩
  unfold f_House_digest_48
  refine ⟨fun le => gl_csum j x0 le (fun v' hv' => ⟨by omega, ⟨by omega, by omega, ?_⟩, by (try dsimp only); omega⟩), fun gt => ?_⟩
  · rw [gl_fd_s x0, hv', hv]
  have ex : x = 7 := by omega
  rw [ex] at hv
  have hv : v = gl_fd (gl_sv G A) 7 v0 := hv
  refine ⟨fun v n => 0 ≤ n ∧ n ≤ gm_N G ∧ v = gl_fn A n.toNat (gl_fd (gl_sv G A) 7 v0), fun v n => (20 - n).toNat, ⟨Int.le_refl _, by omega, hv⟩, ?_⟩
  rintro v n ⟨n0, n1, hv⟩
  unfold f_House_digest_73
  rw [hC.1]
  refine ⟨fun lt => ?_, fun ge => ?_⟩
  · refine ⟨fun y x => 0 ≤ x ∧ x ≤ 8 ∧ y = gl_fd (gl_namv A n) x.toNat v, fun y x => (20 - x).toNat, ⟨Int.le_refl _, by decide, rfl⟩, ?_⟩
    rintro y x ⟨x0, x8, hy⟩
    unfold f_House_digest_87
    refine ⟨fun le => gl_cname j n0 lt x0 le (fun v' hv' => ⟨by omega, ⟨by omega, by omega, ?_⟩, by (try dsimp only); omega⟩), fun gt => ⟨n0, by omega, n0, by omega, fun v' hv' => ⟨by omega, ⟨by omega, by omega, ?_⟩, by (try dsimp only); omega⟩⟩⟩
    · rw [gl_fd_s x0, hv', hy]
    · have ex : x = 8 := by omega
      rw [ex] at hy
      have hy : y = gl_fd (gl_namv A n) 8 v := hy
      rw [gl_fn_s n0, hv', hy, hv, e22, e23]
  have en : n = gm_N G := by omega
  rw [en] at hv
  refine ⟨fun y k => 0 ≤ k ∧ k ≤ A 26 3 ∧ y = gl_fd (A 27) k.toNat v, fun y k => (20 - k).toNat, ⟨Int.le_refl _, by omega, rfl⟩, ?_⟩
  rintro y k ⟨k0, k1, hy⟩
  unfold f_House_digest_149
  rw [e26, e27]
  refine ⟨fun lt => ⟨k0, by omega, fun v' hv' => ⟨by omega, ⟨by omega, by omega, ?_⟩, by (try dsimp only); omega⟩⟩, fun ge => ?_⟩
  · rw [gl_fd_s k0, hv', hy]
  have ek : k = A 26 3 := by omega
  rw [ek, hv] at hy
  have hy : y = gl_d3 G A v0 := hy
  refine gl_refresh j (fun m1 j1 ch x1 => ?_)
  refine ⟨fun v k m' => gl_J K u w G A m' ∧ gt_ch G m' ∧ 0 ≤ k ∧ k ≤ A 26 3 + 1 ∧ ∃ N E : Int → Int, (∀ k', 0 ≤ k' → k' < k → gl_nv G A k' (N k') ∧ gl_wv G (A 21) (A 27) k' (E k')) ∧ v = gl_fk N (gl_iv G A) E k.toNat (gl_d3 G A v0), fun v k _ => (20 - k).toNat, ⟨j1, ch, Int.le_refl _, by omega, fun _ => 0, fun _ => 0, fun k' a b => by omega, hy⟩, ?_⟩
  rintro v k m2 ⟨j2, ch2, k0, k1, N, E, sp, hv⟩
  obtain ⟨_, _, _, _, _, ht2, _, _, _, f26, f27, f20, _⟩ := gl_J_p j2
  have nv : k ≤ A 26 3 → gl_nv G A k (m2 35 k) := fun le => by
    have c := ch2.2.2.2 k k0 (by rw [f26]; exact le)
    rw [f26, f27, f20] at c
    exact c
  have iv : k ≤ A 26 3 → m2 34 k = gl_iv G A k := fun le => by
    have c := ch2.2.2.1 k k0 (by omega)
    rw [f26, f27] at c
    exact c
  unfold f_House_digest_190
  rw [f26]
  refine ⟨fun le => ⟨k0, by omega, k0, by omega, gl_cbehind j2 ch2 ⟨by omega, le⟩ (fun m5 r3 j5 x5 h3 => fun v' hv' => ⟨by omega, ⟨j5, gl_ch_x x5 ch2, by omega, by omega, gm_upd N k (m2 35 k), gm_upd E k r3, fun k' a b => ?_, ?_⟩, by (try dsimp only); omega⟩)⟩, fun gt => ?_⟩
  · by_cases q : k' = k
    · rw [q, go_upd_s, go_upd_s]
      exact ⟨nv le, h3⟩
    · rw [go_upd_i q, go_upd_i q]
      exact sp k' a (by omega)
  · rw [gl_fk_s k0, hv', go_upd_s, go_upd_s, hv, iv le, gl_fk_cg (N := N) (E := E) (N2 := gm_upd N k (m2 35 k)) (E2 := gm_upd E k r3) k.toNat (fun x a b => by rw [go_upd_i (by omega), go_upd_i (by omega)]; exact ⟨rfl, rfl⟩)]
  have ek : k = A 26 3 + 1 := by omega
  rw [ek] at hv sp
  have j10 := j2.2.2.2.2.2.2.2.2.2.1
  have j11 := j2.2.2.2.2.2.2.2.2.2.2
  have p300 := j2.2.2.2.2.2.2.1.2.2.2.2.2.1
  rw [j10] at p300
  refine ⟨fun y i => 0 ≤ i ∧ i ≤ A 47 4 ∧ y = gl_fd (A 48) i.toNat v, fun y i => (400 - i).toNat, ⟨Int.le_refl _, p300.1, rfl⟩, ?_⟩
  rintro y i ⟨i0, i1, hy⟩
  unfold f_House_digest_249
  rw [j10, j11]
  refine ⟨fun lt => ⟨i0, by omega, fun v' hv' => ⟨by omega, ⟨by omega, by omega, ?_⟩, by (try dsimp only); omega⟩⟩, fun ge => ?_⟩
  · rw [gl_fd_s i0, hv', hy]
  have ei : i = A 47 4 := by omega
  rw [ei] at hy
  refine ⟨fun z x m' => gl_J K u w G A m' ∧ 0 ≤ x ∧ x ≤ 3 ∧ ∃ P : Int → Int, (∀ x', 0 ≤ x' → x' < x → gl_pv G A x' (P x')) ∧ z = gl_fd P x.toNat y, fun z x _ => (20 - x).toNat, ⟨j2, Int.le_refl _, by decide, fun _ => 0, fun x' a b => by omega, rfl⟩, ?_⟩
  rintro z x m6 ⟨j6, x0, x1, P, pp, hz⟩
  unfold f_House_digest_283
  refine ⟨fun le => gl_cproper j6 ⟨by omega, le⟩ (fun m7 r j7 hr => fun v' hv' => ⟨by omega, ⟨j7, by omega, by omega, gm_upd P x r, fun x' a b => ?_, ?_⟩, by (try dsimp only); omega⟩), fun gt => ?_⟩
  · by_cases q : x' = x
    · rw [q, go_upd_s]
      exact hr
    · rw [go_upd_i q]
      exact pp x' a (by omega)
  · rw [gl_fd_s x0, hv', go_upd_s, hz, gl_fd_cg (f := P) (g := gm_upd P x r) x.toNat (fun x' a b => by rw [go_upd_i (by omega)])]
  have ex : x = 3 := by omega
  rw [ex] at hz pp
  have hz : z = gl_fd P 3 y := hz
  rw [hz, hy, hv]
  exact H m6 N E P j6 (fun k k0 k1 => sp k k0 (by omega)) (fun v a b => pp v a (by omega))
theorem gl_mdigest {K u w v0 : Int} {G : gm_G} {A m : gh_M} {N E P : Int → Int} {Q : Int → gh_M → Prop} (j : gl_J K u w G A m) (sp : ∀ k, 0 ≤ k → k ≤ A 26 3 → gl_nv G A k (N k) ∧ gl_wv G (A 21) (A 27) k (E k)) (pp : ∀ v, 0 ≤ v → v ≤ 2 → gl_pv G A v (P v)) (H : ∀ m1, gl_J K u w G A m1 → Q (gl_dg G A N E P v0) m1) : gh_L2 (fun K39 v1 v3 => f_Model_digest_39 Q m K39 v1 v3) v0 0 := by
  have hx : x_Model_hash = x_House_mix := rfl
  obtain ⟨hG, hC, hD, h24, e50, ht, pl, nm, rl, e26, e27, _⟩ := gl_J_p j
  have hN0 := hG.1
  have hN := hG.2.1
  have t0 := ht.1
  have t8 := ht.2.1
  have j8 := j.2.2.2.2.2.2.2.1
  have e22 := j8 22 (by decide) (by decide)
  have e23 := j8 23 (by decide) (by decide)
  have mf := j.2.2.2.2.2.2.1.1.2.2.2.2.2.2.2.2.2
  have tx := j.2.2.2.2.2.2.1.2.1.2.2.2.2
  refine ⟨fun v x => 0 ≤ x ∧ x ≤ 7 ∧ v = gl_fd (gl_sv G A) x.toNat v0, fun v x => (20 - x).toNat, ⟨Int.le_refl _, by decide, rfl⟩, ?_⟩
  rintro v x ⟨x0, x7, hv⟩
  unfold f_Model_digest_39
  rw [hx]
  refine ⟨fun le => gl_msum j x0 (by omega) (fun v' hv' => ⟨by omega, ⟨by omega, by omega, ?_⟩, by (try dsimp only); omega⟩), fun gt => ?_⟩
  · rw [gl_fd_s x0, hv', hv]
  have ex : x = 7 := by omega
  rw [ex] at hv
  have hv : v = gl_fd (gl_sv G A) 7 v0 := hv
  unfold w_Model_hashNames
  refine ⟨fun v n => 0 ≤ n ∧ n ≤ gm_N G ∧ v = gl_fn A n.toNat (gl_fd (gl_sv G A) 7 v0), fun v n => (20 - n).toNat, ⟨Int.le_refl _, by omega, hv⟩, ?_⟩
  rintro v n ⟨n0, n1, hv⟩
  unfold f_Model_hashNames_5
  rw [hD.1]
  refine ⟨fun lt => ?_, fun ge => ?_⟩
  · refine ⟨fun y x => 0 ≤ x ∧ x ≤ 8 ∧ y = gl_fd (gl_namv A n) x.toNat v, fun y x => (20 - x).toNat, ⟨Int.le_refl _, by decide, rfl⟩, ?_⟩
    rintro y x ⟨x0, x8, hy⟩
    unfold f_Model_hashNames_17
    rw [hx]
    refine ⟨fun le => gl_mname j n0 lt x0 (by omega) (fun v' hv' => ⟨by omega, ⟨by omega, by omega, ?_⟩, by (try dsimp only); omega⟩), fun gt => ⟨n0, by omega, n0, by omega, fun v' hv' => ⟨by omega, ⟨by omega, by omega, ?_⟩, by (try dsimp only); omega⟩⟩⟩
    · rw [gl_fd_s x0, hv', hy]
    · have ex : x = 8 := by omega
      rw [ex] at hy
      have hy : y = gl_fd (gl_namv A n) 8 v := hy
      rw [gl_fn_s n0, hv', hy, hv, mf.2.2.2.2.2.1 n n0 lt, mf.2.2.2.2.2.2.1 n n0 lt, e22, e23]
  have en : n = gm_N G := by omega
  rw [en] at hv
  refine ⟨fun y k => 0 ≤ k ∧ k ≤ A 26 3 ∧ y = gl_fd (A 27) k.toNat v, fun y k => (20 - k).toNat, ⟨Int.le_refl _, by omega, rfl⟩, ?_⟩
  rintro y k ⟨k0, k1, hy⟩
  unfold f_Model_digest_70
  rw [e50, e26, hx]
  refine ⟨fun lt => ⟨k0, by omega, fun v' hv' => ⟨by omega, ⟨by omega, by omega, ?_⟩, by (try dsimp only); omega⟩⟩, fun ge => ?_⟩
  · rw [gl_fd_s k0, hv', hy, (tx k k0 (by rw [e26]; exact lt)).1, e27]
  have ek : k = A 26 3 := by omega
  rw [ek, hv] at hy
  have hy : y = gl_d3 G A v0 := hy
  refine ⟨fun v k m' => gl_J K u w G A m' ∧ 0 ≤ k ∧ k ≤ A 26 3 + 1 ∧ v = gl_fk N (gl_iv G A) E k.toNat (gl_d3 G A v0), fun v k _ => (20 - k).toNat, ⟨j, Int.le_refl _, by omega, hy⟩, ?_⟩
  rintro v k m2 ⟨j2, k0, k1, hv⟩
  have f50 := (gl_J_p j2).2.2.2.2.1
  have f26 := (gl_J_p j2).2.2.2.2.2.2.2.2.2.1
  unfold f_Model_digest_98
  rw [f50, f26, hx]
  refine ⟨fun le => gl_mnextv j2 ⟨by omega, le⟩ (sp k k0 le).1 (fun m3 j3 => gl_mitemsv j3 ⟨by omega, le⟩ (fun m4 j4 => gl_mendv j4 ⟨by omega, le⟩ (sp k k0 le).2 (fun m5 j5 => fun v' hv' => ⟨by omega, ⟨j5, by omega, by omega, ?_⟩, by (try dsimp only); omega⟩))), fun gt => ?_⟩
  · rw [gl_fk_s k0, hv', hv]
  have ek : k = A 26 3 + 1 := by omega
  rw [ek] at hv
  have j10 := j2.2.2.2.2.2.2.2.2.2.1
  have j11 := j2.2.2.2.2.2.2.2.2.2.2
  obtain ⟨p1, p2, _, p4⟩ := j2.2.2.2.2.2.2.1.2.2.2.2.2
  rw [j10] at p1 p2 p4
  rw [j11] at p4
  refine ⟨fun y i => 0 ≤ i ∧ i ≤ A 47 4 ∧ y = gl_fd (A 48) i.toNat v, fun y i => (400 - i).toNat, ⟨Int.le_refl _, p1.1, rfl⟩, ?_⟩
  rintro y i ⟨i0, i1, hy⟩
  unfold f_Model_digest_143
  rw [p2, hx]
  refine ⟨fun lt => ⟨i0, by omega, fun v' hv' => ⟨by omega, ⟨by omega, by omega, ?_⟩, by (try dsimp only); omega⟩⟩, fun ge => ?_⟩
  · rw [gl_fd_s i0, hv', hy, p4 i i0 lt]
  have ei : i = A 47 4 := by omega
  rw [ei] at hy
  refine gl_mproperv j2 (by decide) (pp 0 (by decide) (by decide)) (gl_mproperv j2 (by decide) (pp 1 (by decide) (by decide)) (gl_mproperv j2 (by decide) (pp 2 (by decide) (by decide)) ?_))
  have e : x_House_mix (x_House_mix (x_House_mix y (P 0)) (P 1)) (P 2) = gl_dg G A N E P v0 := by
    rw [hy, hv]
    rfl
  rw [e]
  exact H m2 j2
theorem gl_digest {K b : Int} {m : gh_M} {Q1 : Int → gh_M → Prop} (inv : gl_I K b m) (H : ∀ r m1, m1 1 = m 1 → m1 0 3 = K → (∀ Q2 : Int → gh_M → Prop, (∀ m2, m2 1 = m 1 → gl_I K (b + 1) m2 → Q2 r m2) → w_Model_digest m1 Q2) → Q1 r m1) : w_House_digest m Q1 := by
  have hx : x_Model_hash = x_House_mix := rfl
  have hK := gl_I_K inv
  have start : ∀ m1, gl_tp m1 → (m1 5 1 = m1 63 2 ∧ m1 5 2 = m1 63 3) → m1 3 = m 3 → m1 5 = m 5 → x_Model_hash (x_Model_hash (x_Model_hash 17 (m1 63 1)) (m1 63 2)) (m1 63 3) = x_House_mix (x_House_mix (x_House_mix 17 (m 3 1)) (m 5 1)) (m 5 2) := fun m1 t f e3 e5 => by
    have e1 : m1 63 1 = m1 3 1 := t.1.1
    rw [hx, e1, ← f.1, ← f.2, e3, e5]
  intro v hv
  refine ⟨fun h => ?_, fun h => ?_⟩
  · have h' : m 63 24 = 0 := by rw [← inv.2.2.1]; exact h
    refine H _ m rfl hK (fun Q2 h2 => ?_)
    intro v' hv'
    refine ⟨fun _ => ?_, fun z => absurd h' z⟩
    rw [hv', start m inv.1 inv.2.1 rfl rfl, ← hv]
    exact h2 m rfl (gl_I_up inv)
  · obtain ⟨G, J⟩ := gl_J_of inv h
    refine gl_cdigest J (fun m1 N E P J1 sp pp => ?_)
    have j8 := J1.2.2.2.2.2.2.2.1
    refine H _ m1 J1.2.2.2.2.2.2.2.2.1 (gl_J_K J1) (fun Q2 h2 => ?_)
    intro v' hv'
    rw [start m1 J1.2.1 J1.2.2.1 (j8 3 (by decide) (by decide)) (j8 5 (by decide) (by decide)), ← hv] at hv'
    rw [hv']
    refine ⟨fun z => absurd z (gl_J_p J1).2.2.2.1, fun _ => gl_mdigest J1 sp pp (fun m2 J2 => h2 m2 J2.2.2.2.2.2.2.2.2.1 (gl_I_of (gl_J_w (by omega) (by omega) J2)))⟩
