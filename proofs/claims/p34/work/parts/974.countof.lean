/-! TREES: the class counts those of a name -/
theorem gsum_ext {f : Int → Int} {n : Nat} : ∀ k : Nat, (∀ i : Int, n ≤ i → i < (n + k : Nat) → f i = 0) → gsum f (n + k) = gsum f n
  | 0, _ => rfl
  | k + 1, h => by
    show gsum f (n + k) + f ((n + k : Nat) : Int) = gsum f n
    rw [gsum_ext k (fun i a b => h i a (by omega)), h _ (by omega) (by omega)]
    omega
theorem gk_recall {gk_K : Int} {G : gm_G} {z : Int} {t : Int → Int} {E : Int} {m : gh_M} {Q : Int → Prop} {n i j ci cj h : Int} (hG : gm_ok G) (e1 : gm_Ecl G E) (n0 : 0 ≤ n) (n1 : n < gm_N G) (i0 : 0 ≤ i) (ij : i ≤ j) (jz : j ≤ z) (z8 : z ≤ 8) (hcc : i < j → ci = i ∧ cj = j) (st : gk_st gk_K G z t i j ci cj m) (hb : gbs 8 h) (H : ∀ r, (r = -1 ∨ r = gk_C G z t n i j (gb h)) → Q r) : w_Forest_recall n i j h m Q := by
  have hN := hG.2.1
  obtain ⟨mem, un, pl, pc, t1, t2⟩ := st
  have h256 : h < 256 := hb.2
  have h0 : 0 ≤ h := hb.1
  refine ⟨fun c => ⟨⟨by omega, by omega, by omega, by omega⟩, by omega, by omega, H _ ?_⟩, fun c => ⟨⟨fun _ => ⟨by omega, by omega, by omega⟩, fun _ => ⟨by omega, by omega, by omega⟩⟩, ?_⟩⟩
  · rcases pc n n0 n1 with y | y
    · exact Or.inl y
    · refine Or.inr (y.trans (gk_C_cg hG e1 n0 n1 (fun m _ _ => ⟨False.elim, fun u => ?_⟩)))
      rw [c] at u
      exact absurd u (gb_0 m)
  rintro _ rfl
  rcases mem with ⟨mK, m1, m2, m3, m4, m5, m6, m7, m8⟩ | ⟨mK, m1, m2, m3, m4, m5, m6, m7, m8⟩
  · rw [m1, m2]
    have e8 : (2 : Int) * 46 + 1 = 93 := by decide
    have e9 : (2 : Int) * 45 + 1 = 91 := by decide
    rw [e8, e9, m8]
    have pos : ¬ (if i = j then (0 + n) * 256 + h else (8 + n) * 256 + h) < 0 := by split <;> omega
    refine ⟨⟨by decide, by omega, by show m 0 (2 * 46) = 1; exact m7⟩, fun y => absurd y pos, ?_⟩
    rw [if_neg pos]
    exact H _ (Or.inl rfl)
  · have un2 := un m1 n h n0 n1 (by omega) h256
    rw [m1, m2]
    have e8 : (2 : Int) * 67 + 1 = 135 := by decide
    have e9 : (2 : Int) * 66 + 1 = 133 := by decide
    rw [e8, e9, m8, m6]
    have isV : gh_isA m 67 1 := ⟨by decide, by omega, by show m 0 (2 * 67) = 1; exact m7⟩
    have isU : gh_isA m 66 3 := ⟨by decide, by omega, by show m 0 (2 * 66) = 3; exact m5⟩
    by_cases q : i = j
    · rw [if_pos q, if_pos q]
      have e0 : (0 + n) * 256 + h = n * 256 + h := by omega
      rw [e0]
      refine ⟨isV, fun _ => ⟨isV, by omega, by omega, fun _ _ => ⟨isU, by omega, by omega⟩, fun y => absurd q y⟩, ?_⟩
      rw [if_pos (by omega)]
      by_cases w : m 67 (n * 256 + h) = m 41 10
      · rw [if_pos w]
        refine H _ (Or.inr ((un2.1 w).trans ?_))
        rw [← q]
        exact gk_C_pp hG (by omega) (by omega) i0 (by omega)
      · rw [if_neg w]
        exact H _ (Or.inl rfl)
    · rw [if_neg q, if_neg q]
      refine ⟨isV, fun _ => ⟨isV, by omega, by omega, fun y => absurd y q, fun _ _ => ⟨isU, by omega, by omega⟩⟩, ?_⟩
      rw [if_pos (by omega)]
      by_cases w : m 67 ((8 + n) * 256 + h) = m 41 9
      · rw [if_pos w]
        obtain ⟨q1, q2⟩ := hcc (by omega)
        refine H _ (Or.inr ((un2.2 (by omega) w).trans ?_))
        rw [q1, q2]
      · rw [if_neg w]
        exact H _ (Or.inl rfl)
theorem gk_al0 {m : gh_M} {κ n i : Int} (h : m 0 1 ≠ 0) : gh_al m κ n 0 i = if i = 0 then m 0 0 + n else if i = 1 then m 0 1 + 1 else if i = 2 * m 0 1 then κ else if i = 2 * m 0 1 + 1 then n else m 0 i := by
  unfold gh_al
  rw [if_neg (fun y => h y.symm), if_pos rfl]
theorem gk_ala {m : gh_M} {κ n a : Int} (h0 : a ≠ 0) (h : a ≠ m 0 1) : gh_al m κ n a = m a := by
  funext i
  unfold gh_al
  rw [if_neg h, if_neg h0]
theorem gk_keep {gk_K : Int} {G : gm_G} {z : Int} {t : Int → Int} {E : Int} {m : gh_M} {Q : Int → gh_M → Prop} {n i j ci cj h v D : Int} (hG : gm_ok G) (e1 : gm_Ecl G E) (n0 : 0 ≤ n) (n1 : n < gm_N G) (i0 : 0 ≤ i) (ij : i ≤ j) (jz : j ≤ z) (z8 : z ≤ 8) (hcc : i < j → ci = i ∧ cj = j) (st : gk_st gk_K G z t i j ci cj m) (hb : gbs 8 h) (hv : v = gk_C G z t n i j (gb h)) (H : ∀ m2, gk_fx D i j m m2 → gk_st gk_K G z t i j ci cj m2 → Q 0 m2) : w_Forest_keep n i j h v m Q := by
  have hN := hG.2.1
  have st0 := st
  obtain ⟨mem, un, pl, pc, t1, t2⟩ := st
  have h256 : h < 256 := hb.2
  have h0 : 0 ≤ h := hb.1
  refine ⟨fun c => ⟨⟨by omega, by omega, by omega, by omega⟩, by omega, by omega, ?_⟩, fun c => ?_⟩
  · have hx : gx [42] m (gh_u m 42 ((n * 9 + i) * 9 + j) v) := gx_one _ _ _ _
    have hC : gk_C G z t n i j (gb h) = gk_C G z t n i j (fun _ => False) := gk_C_cg hG e1 n0 n1 (fun m _ _ => ⟨fun u => by
      rw [c] at u
      exact absurd u (gb_0 m), False.elim⟩)
    refine H _ ⟨gx_sub hx (by decide), fun x _ _ => by rw [hx 41 (by decide)], fun x _ => by rw [hx 43 (by decide)], fun x _ => by rw [hx 44 (by decide)], fun x y => gh_u_i (by omega), fun x y => ?_⟩ ⟨?_, ?_, fun n' k e a b c' d' e' y => ?_, fun n' a b => ?_, ?_, ?_⟩
    · by_cases q : x = (n * 9 + i) * 9 + j
      · rw [q] at y
        rw [q, gh_u_s, hv, hC]
        rcases pc n n0 n1 with u | u
        · omega
        · exact u.symm
      · exact gh_u_i q
    · unfold gk_mem
      rw [hx 0 (by decide), hx 41 (by decide)]
      exact mem
    · unfold gk_un
      rw [hx 66 (by decide), hx 67 (by decide), hx 41 (by decide)]
      exact un
    · rw [gh_u_i (by omega)]
      exact pl n' k e a b c' d' e' y
    · by_cases q : n' = n
      · rw [q, gh_u_s, hv, hC]
        exact Or.inr rfl
      · rw [gh_u_i (by omega)]
        exact pc n' a b
    · rw [hx 41 (by decide)]
      exact t1
    · unfold gk_tg
      rw [hx 41 (by decide), hx 67 (by decide)]
      exact t2
  · have isU : gh_isA m (m 41 7) 3 := by
      rcases mem with ⟨mK, m1, m2, m3, m4, m5, m6, m7, m8⟩ | ⟨mK, m1, m2, m3, m4, m5, m6, m7, m8⟩
      · rw [m1]
        exact ⟨by decide, by omega, by show m 0 (2 * 45) = 3; exact m5⟩
      · rw [m1]
        exact ⟨by decide, by omega, by show m 0 (2 * 66) = 3; exact m5⟩
    refine ⟨isU, fun m2 => gk_fx D i j m m2 ∧ gk_st gk_K G z t i j ci cj m2 ∧ m2 41 7 = 66, fun m2 ⟨fx2, st2, al⟩ => ⟨⟨fun _ => ⟨by omega, by omega, by omega⟩, fun _ => ⟨by omega, by omega, by omega⟩⟩, ?_⟩, fun c2 => ?_, fun c2 => ?_⟩
    · rintro _ rfl
      obtain ⟨mem2, un2, pl2, pc2, t12, t22⟩ := st2
      obtain ⟨m1, m2', m3, m4, m5, m6, m7, m8⟩ : m2 41 7 = 66 ∧ m2 41 8 = 67 ∧ m2 0 1 = 68 ∧ m2 0 0 = 14239 ∧ m2 0 132 = 3 ∧ m2 0 133 = 4096 ∧ m2 0 134 = 1 ∧ m2 0 135 = 4096 := by
        rcases mem2 with y | y
        · have := y.2.1
          omega
        · exact y.2
      have ix0 : 0 ≤ (if i = j then (0 + n) * 256 + h else (8 + n) * 256 + h) := by split <;> omega
      have ix1 : (if i = j then (0 + n) * 256 + h else (8 + n) * 256 + h) < 4096 := by split <;> omega
      rw [m1]
      generalize hix : (if i = j then (0 + n) * 256 + h else (8 + n) * 256 + h) = ix at ix0 ix1
      have hx1 : gx [66] m2 (gh_u m2 66 ix v) := gx_one _ _ _ _
      have e41 : (gh_u m2 66 ix v) 41 = m2 41 := hx1 41 (by decide)
      have e00 : (gh_u m2 66 ix v) 0 = m2 0 := hx1 0 (by decide)
      rw [e41, e00, m2']
      have e8 : (2 : Int) * 67 + 1 = 135 := by decide
      have e9 : (2 : Int) * 66 + 1 = 133 := by decide
      rw [e8, e9, m6, m8]
      refine ⟨⟨by decide, by omega, by show m2 0 (2 * 66) = 3; exact m5⟩, ix0, ix1, ⟨by decide, by rw [e00]; omega, by rw [e00]; show m2 0 (2 * 67) = 1; exact m7⟩, ix0, ix1, ?_⟩
      generalize hw : (if i = j then m2 41 10 else m2 41 9) = w
      have hx2 : gx [66, 67] m2 (gh_u (gh_u m2 66 ix v) 67 ix w) := gx_u (gx_sub hx1 (by decide)) (by decide)
      have r119 : ∀ x, (gh_u (gh_u m2 66 ix v) 67 ix w) 67 x = if x = ix then w else m2 67 x := fun x => by
        by_cases q : x = ix
        · rw [if_pos q, q, gh_u_s]
        · rw [if_neg q, gh_u_i q, hx1 67 (by decide)]
      refine H _ (gk_fx_tr (Int.le_refl D) fx2 ⟨gx_sub hx2 (by decide), fun x _ _ => by rw [hx2 41 (by decide)], fun x _ => by rw [hx2 43 (by decide)], fun x _ => by rw [hx2 44 (by decide)], fun x _ => by rw [hx2 42 (by decide)], fun x _ => by rw [hx2 42 (by decide)]⟩) ⟨?_, ?_, ?_, ?_, ?_, ?_⟩
      · unfold gk_mem
        rw [hx2 0 (by decide), hx2 41 (by decide)]
        exact mem2
      · have r118 : ∀ x, (gh_u (gh_u m2 66 ix v) 67 ix w) 66 x = if x = ix then v else m2 66 x := fun x => by
          rw [gh_u_a (by decide)]
          by_cases q : x = ix
          · rw [if_pos q, q, gh_u_s]
          · rw [if_neg q, gh_u_i q]
        intro _ n' h' a b c' d'
        rw [r119, r119, r118, r118, hx2 41 (by decide)]
        have u2 := un2 m1 n' h' a b c' d'
        by_cases q : i = j
        · rw [if_pos q] at hix
          rw [if_neg (by omega : ¬ (8 + n') * 256 + h' = ix), if_neg (by omega : ¬ (8 + n') * 256 + h' = ix)]
          refine ⟨fun y => ?_, u2.2⟩
          by_cases q2 : n' * 256 + h' = ix
          · have q3 : n' = n := by omega
            have q4 : h' = h := by omega
            rw [if_pos q2, hv, q3, q4, ← q]
            exact gk_C_pp hG i0 (by omega) (by omega) (by omega)
          · rw [if_neg q2] at y ⊢
            exact u2.1 y
        · rw [if_neg q] at hix
          rw [if_neg (by omega : ¬ n' * 256 + h' = ix), if_neg (by omega : ¬ n' * 256 + h' = ix)]
          refine ⟨u2.1, fun yc y => ?_⟩
          by_cases q2 : (8 + n') * 256 + h' = ix
          · have q3 : n' = n := by omega
            have q4 : h' = h := by omega
            obtain ⟨q5, q6⟩ := hcc (by omega)
            rw [if_pos q2, hv, q3, q4, q5, q6]
          · rw [if_neg q2] at y ⊢
            exact u2.2 yc y
      · unfold gk_pl
        rw [hx2 42 (by decide)]
        exact pl2
      · unfold gk_pc
        rw [hx2 42 (by decide)]
        exact pc2
      · rw [hx2 41 (by decide)]
        exact t12
      · obtain ⟨u1, u2, u3⟩ := t22
        unfold gk_tg
        rw [hx2 41 (by decide)]
        refine ⟨u1, u2, fun y x => ?_⟩
        rw [r119]
        have := u3 y x
        split
        · rw [← hw]
          split <;> omega
        · exact this
    · rcases mem with ⟨mK, m1, m2, m3, m4, m5, m6, m7, m8⟩ | ⟨mK, m1, m2, m3, m4, m5, m6, m7, m8⟩
      · -- the tables are made
        have n1 : m 0 1 ≠ 0 := by omega
        have a1c : ∀ x, gh_al m 3 4096 0 x = if x = 0 then m 0 0 + 4096 else if x = 1 then m 0 1 + 1 else if x = 2 * m 0 1 then 3 else if x = 2 * m 0 1 + 1 then 4096 else m 0 x := fun x => gk_al0 n1
        have x1 : gx [0, 66] m (gh_al m 3 4096) := fun a ha => gk_ala (fun y => ha (by rw [y]; decide)) (fun y => ha (by rw [y, m3]; decide))
        have x2 : gx [0, 41, 66] m (gh_u (gh_al m 3 4096) 41 7 (m 0 1)) := gx_u (gx_sub x1 (by decide)) (by decide)
        have a2c : ∀ x, gh_u (gh_al m 3 4096) 41 7 (m 0 1) 0 x = gh_al m 3 4096 0 x := fun x => gh_u_a (by decide)
        have a201 : gh_u (gh_al m 3 4096) 41 7 (m 0 1) 0 1 = 67 := by
          rw [a2c, a1c, if_neg (by decide), if_pos rfl, m3]
          decide
        have a200 : gh_u (gh_al m 3 4096) 41 7 (m 0 1) 0 0 = 10143 := by
          rw [a2c, a1c, if_pos rfl, m4]
          decide
        have a2236 : gh_u (gh_al m 3 4096) 41 7 (m 0 1) 0 132 = 3 := by
          rw [a2c, a1c, if_neg (by decide), if_neg (by decide), m3, if_pos (by decide)]
        have a2237 : gh_u (gh_al m 3 4096) 41 7 (m 0 1) 0 133 = 4096 := by
          rw [a2c, a1c, if_neg (by decide), if_neg (by decide), m3, if_neg (by decide), if_pos (by decide)]
        have a203 : gh_u (gh_al m 3 4096) 41 7 (m 0 1) 0 3 = gk_K := by
          rw [a2c, a1c, if_neg (by decide), if_neg (by decide), m3, if_neg (by decide), if_neg (by decide)]
          exact mK
        have a241 : ∀ x, x ≠ 7 → gh_u (gh_al m 3 4096) 41 7 (m 0 1) 41 x = m 41 x := fun x y => by
          rw [gh_u_i y, x1 41 (by decide)]
        have a2417 : gh_u (gh_al m 3 4096) 41 7 (m 0 1) 41 7 = 66 := by
          rw [gh_u_s, m3]
        generalize hm2 : gh_u (gh_al m 3 4096) 41 7 (m 0 1) = m2 at *
        have n2 : m2 0 1 ≠ 0 := by omega
        have a3c : ∀ x, gh_al m2 1 4096 0 x = if x = 0 then m2 0 0 + 4096 else if x = 1 then m2 0 1 + 1 else if x = 2 * m2 0 1 then 1 else if x = 2 * m2 0 1 + 1 then 4096 else m2 0 x := fun x => gk_al0 n2
        have x3 : gx [0, 67] m2 (gh_al m2 1 4096) := fun a ha => gk_ala (fun y => ha (by rw [y]; decide)) (fun y => ha (by rw [y, a201]; decide))
        have x4 : gx [0, 41, 66, 67] m (gh_u (gh_al m2 1 4096) 41 8 (m2 0 1)) := gx_u (fun a ha => (x3 a (fun y => ha (by
          rcases List.mem_cons.mp y with y | y
          · rw [y]
            decide
          · rw [List.mem_singleton.mp y]
            decide))).trans (x2 a (fun y => ha (by
          rcases List.mem_cons.mp y with y | y
          · rw [y]
            decide
          · rcases List.mem_cons.mp y with y | y
            · rw [y]
              decide
            · rw [List.mem_singleton.mp y]
              decide)))) (by decide)
        have a4c : ∀ x, gh_u (gh_al m2 1 4096) 41 8 (m2 0 1) 0 x = gh_al m2 1 4096 0 x := fun x => gh_u_a (by decide)
        have a441 : ∀ x, x ≠ 8 → gh_u (gh_al m2 1 4096) 41 8 (m2 0 1) 41 x = m2 41 x := fun x y => by
          rw [gh_u_i y, x3 41 (by decide)]
        have a4119 : ∀ x, gh_u (gh_al m2 1 4096) 41 8 (m2 0 1) 67 x = 0 := fun x => by
          rw [gh_u_a (by decide)]
          unfold gh_al
          rw [if_pos a201.symm]
        refine ⟨⟨gx_sub x4 (by decide), fun x x7 x8 => (a441 x x8).trans (a241 x x7), fun x _ => by rw [x4 43 (by decide)], fun x _ => by rw [x4 44 (by decide)], fun x _ => by rw [x4 42 (by decide)], fun x _ => by rw [x4 42 (by decide)]⟩, ⟨Or.inr ⟨?_, (a441 7 (by decide)).trans a2417, by rw [gh_u_s, a201], ?_, ?_, ?_, ?_, ?_, ?_⟩, ?_, ?_, ?_, ?_, ?_⟩, (a441 7 (by decide)).trans a2417⟩
        · rw [a4c, a3c, if_neg (by decide), if_neg (by decide), a201, if_neg (by decide), if_neg (by decide)]
          exact a203
        · rw [a4c, a3c, if_neg (by decide), if_pos rfl, a201]
          decide
        · rw [a4c, a3c, if_pos rfl, a200]
          decide
        · rw [a4c, a3c, a201, if_neg (by decide), if_neg (by decide), if_neg (by decide), if_neg (by decide)]
          exact a2236
        · rw [a4c, a3c, a201, if_neg (by decide), if_neg (by decide), if_neg (by decide), if_neg (by decide)]
          exact a2237
        · rw [a4c, a3c, a201, if_neg (by decide), if_neg (by decide), if_pos (by decide)]
        · rw [a4c, a3c, a201, if_neg (by decide), if_neg (by decide), if_neg (by decide), if_pos (by decide)]
        · intro _ n' h' a b c' d'
          rw [a4119, a4119, a441 10 (by decide), a441 9 (by decide), a241 10 (by decide), a241 9 (by decide)]
          have u1 := t2.1
          exact ⟨fun y => by omega, fun _ y => by omega⟩
        · unfold gk_pl
          rw [x4 42 (by decide)]
          exact pl
        · unfold gk_pc
          rw [x4 42 (by decide)]
          exact pc
        · rw [a441 9 (by decide), a241 9 (by decide)]
          exact t1
        · obtain ⟨u1, u2, u3⟩ := t2
          unfold gk_tg
          rw [a441 10 (by decide), a241 10 (by decide), a441 9 (by decide), a241 9 (by decide)]
          refine ⟨u1, u2, fun _ x => ?_⟩
          rw [a4119]
          omega
      · rw [m1] at c2
        have e9 : (2 : Int) * 66 + 1 = 133 := by decide
        rw [e9, m6] at c2
        exact absurd c2 (by decide)
    · rcases mem with ⟨mK, m1, m2, m3, m4, m5, m6, m7, m8⟩ | ⟨mK, m1, m2, m3, m4, m5, m6, m7, m8⟩
      · rw [m1] at c2
        have e9 : (2 : Int) * 45 + 1 = 91 := by decide
        rw [e9] at c2
        exact absurd m6 c2
      · exact ⟨gk_fx_rf, st0, m1⟩

