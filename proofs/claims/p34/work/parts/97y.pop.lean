/-! BITS COUNTED: byte by byte -/
theorem gz_and {d e r s : Nat} (hd : d < 256) (he : e < 256) : (d + 256 * r) &&& (e + 256 * s) = (d &&& e) + 256 * (r &&& s) := by
  have h1 : ((d + 256 * r) &&& (e + 256 * s)) % 2 ^ 8 = ((d + 256 * r) % 2 ^ 8) &&& ((e + 256 * s) % 2 ^ 8) := Nat.and_mod_two_pow
  have h2 : ((d + 256 * r) &&& (e + 256 * s)) / 2 ^ 8 = ((d + 256 * r) / 2 ^ 8) &&& ((e + 256 * s) / 2 ^ 8) := Nat.and_div_two_pow
  have a1 : (d + 256 * r) % 2 ^ 8 = d := by omega
  have a2 : (e + 256 * s) % 2 ^ 8 = e := by omega
  have a3 : (d + 256 * r) / 2 ^ 8 = r := by omega
  have a4 : (e + 256 * s) / 2 ^ 8 = s := by omega
  rw [a1, a2] at h1
  rw [a3, a4] at h2
  have := Nat.div_add_mod ((d + 256 * r) &&& (e + 256 * s)) (2 ^ 8)
  omega
theorem gz_and4 {a b c d e f g h : Nat} (ha : a < 256) (hb : b < 256) (hc : c < 256) (he : e < 256) (hf : f < 256) (hg : g < 256) : (a + 256 * (b + 256 * (c + 256 * d))) &&& (e + 256 * (f + 256 * (g + 256 * h))) = (a &&& e) + 256 * ((b &&& f) + 256 * ((c &&& g) + 256 * (d &&& h))) := by
  rw [gz_and ha he, gz_and hb hf, gz_and hc hg]
def gz_pa (d : Nat) : Nat := d - (d / 2 &&& 85)
def gz_pb (a : Nat) : Nat := (a &&& 51) + (a / 4 &&& 51)
def gz_pc (b : Nat) : Nat := (b + b / 16) &&& 15
theorem gz_1 : ∀ d : Nat, d < 256 → (d / 2 &&& 85) ≤ d ∧ gz_pa d < 256 ∧ gz_pb (gz_pa d) ≤ 68 ∧ gz_pb (gz_pa d) % 16 ≤ 4 ∧ gz_pc (gz_pb (gz_pa d)) ≤ 8 := by decide +kernel
theorem gz_2 : ∀ d : Nat, d < 256 → ∀ k : Nat, k < 2 → (d / 2 + 128 * k) &&& 85 = d / 2 &&& 85 := by decide +kernel
theorem gz_3 : ∀ d : Nat, d < 256 → ∀ k : Nat, k < 4 → (d / 4 + 64 * k) &&& 51 = d / 4 &&& 51 := by decide +kernel
theorem gz_4 : ∀ d : Nat, d < 69 → ∀ k : Nat, k < 5 → (d + d / 16 + 16 * k) &&& 15 = (d + d / 16) &&& 15 := by decide +kernel
theorem gz_5 : ∀ d : Nat, d < 256 → ((gz_pc (gz_pb (gz_pa d)) : Nat) : Int) = gsum (fun n => if d.testBit n.toNat then 1 else 0) 8 := by decide +kernel
theorem gz_A {a b c d : Nat} (ha : a < 256) (hb : b < 256) (hc : c < 256) (hd : d < 256) : (a + 256 * (b + 256 * (c + 256 * d))) - (((a + 256 * (b + 256 * (c + 256 * d))) / 2) &&& 1431655765) = gz_pa a + 256 * (gz_pa b + 256 * (gz_pa c + 256 * gz_pa d)) := by
  have e1 : (a + 256 * (b + 256 * (c + 256 * d))) / 2 = (a / 2 + 128 * (b % 2)) + 256 * ((b / 2 + 128 * (c % 2)) + 256 * ((c / 2 + 128 * (d % 2)) + 256 * (d / 2 + 128 * 0))) := by omega
  have e2 : (1431655765 : Nat) = 85 + 256 * (85 + 256 * (85 + 256 * 85)) := by decide
  rw [e1, e2, gz_and4 (by omega) (by omega) (by omega) (by decide) (by decide) (by decide), gz_2 a ha _ (by omega), gz_2 b hb _ (by omega), gz_2 c hc _ (by omega), gz_2 d hd _ (by omega)]
  have la := (gz_1 a ha).1
  have lb := (gz_1 b hb).1
  have lc := (gz_1 c hc).1
  have ld := (gz_1 d hd).1
  unfold gz_pa
  omega
theorem gz_B {a b c d : Nat} (ha : a < 256) (hb : b < 256) (hc : c < 256) (hd : d < 256) : ((a + 256 * (b + 256 * (c + 256 * d))) &&& 858993459) + (((a + 256 * (b + 256 * (c + 256 * d))) / 4) &&& 858993459) = gz_pb a + 256 * (gz_pb b + 256 * (gz_pb c + 256 * gz_pb d)) := by
  have e1 : (a + 256 * (b + 256 * (c + 256 * d))) / 4 = (a / 4 + 64 * (b % 4)) + 256 * ((b / 4 + 64 * (c % 4)) + 256 * ((c / 4 + 64 * (d % 4)) + 256 * (d / 4 + 64 * 0))) := by omega
  have e2 : (858993459 : Nat) = 51 + 256 * (51 + 256 * (51 + 256 * 51)) := by decide
  rw [e1, e2, gz_and4 (by omega) (by omega) (by omega) (by decide) (by decide) (by decide), gz_and4 (by omega) (by omega) (by omega) (by decide) (by decide) (by decide), gz_3 a ha _ (by omega), gz_3 b hb _ (by omega), gz_3 c hc _ (by omega), gz_3 d hd _ (by omega)]
  unfold gz_pb
  omega
theorem gz_C {a b c d : Nat} (ha : a ≤ 68 ∧ a % 16 ≤ 4) (hb : b ≤ 68 ∧ b % 16 ≤ 4) (hc : c ≤ 68 ∧ c % 16 ≤ 4) (hd : d ≤ 68 ∧ d % 16 ≤ 4) : ((a + 256 * (b + 256 * (c + 256 * d))) + (a + 256 * (b + 256 * (c + 256 * d))) / 16) &&& 252645135 = gz_pc a + 256 * (gz_pc b + 256 * (gz_pc c + 256 * gz_pc d)) := by
  have e1 : (a + 256 * (b + 256 * (c + 256 * d))) + (a + 256 * (b + 256 * (c + 256 * d))) / 16 = (a + a / 16 + 16 * (b % 16)) + 256 * ((b + b / 16 + 16 * (c % 16)) + 256 * ((c + c / 16 + 16 * (d % 16)) + 256 * (d + d / 16 + 16 * 0))) := by omega
  have e2 : (252645135 : Nat) = 15 + 256 * (15 + 256 * (15 + 256 * 15)) := by decide
  rw [e1, e2, gz_and4 (by omega) (by omega) (by omega) (by decide) (by decide) (by decide), gz_4 a (by omega) _ (by omega), gz_4 b (by omega) _ (by omega), gz_4 c (by omega) _ (by omega), gz_4 d (by omega) _ (by omega)]
  rfl
theorem gz_6 {p q r s : Nat} (hp : p ≤ 8) (hq : q ≤ 8) (hr : r ≤ 8) (hs : s ≤ 8) : (p + 256 * (q + 256 * (r + 256 * s)) + (p + 256 * (q + 256 * (r + 256 * s))) / 256 + (p + 256 * (q + 256 * (r + 256 * s)) + (p + 256 * (q + 256 * (r + 256 * s))) / 256) / 65536) % 64 = p + q + r + s := by
  have e1 : (p + 256 * (q + 256 * (r + 256 * s))) / 256 = q + 256 * (r + 256 * s) := by omega
  rw [e1]
  have e2 : (p + 256 * (q + 256 * (r + 256 * s)) + (q + 256 * (r + 256 * s))) / 65536 = r + s + 256 * s := by omega
  rw [e2]
  omega
theorem gz_popN {a b c d : Nat} (ha : a < 256) (hb : b < 256) (hc : c < 256) (hd : d < 128) : gh_pop ((a + 256 * (b + 256 * (c + 256 * d)) : Nat) : Int) = ((gz_pc (gz_pb (gz_pa a)) + gz_pc (gz_pb (gz_pa b)) + gz_pc (gz_pb (gz_pa c)) + gz_pc (gz_pb (gz_pa d)) : Nat) : Int) := by
  have A := gz_A ha hb hc (by omega : d < 256)
  obtain ⟨a1, a2, a3, a4, a5⟩ := gz_1 a ha
  obtain ⟨b1, b2, b3, b4, b5⟩ := gz_1 b hb
  obtain ⟨c1, c2, c3, c4, c5⟩ := gz_1 c hc
  obtain ⟨d1, d2, d3, d4, d5⟩ := gz_1 d (by omega)
  have B := gz_B a2 b2 c2 d2
  have C := gz_C ⟨a3, a4⟩ ⟨b3, b4⟩ ⟨c3, c4⟩ ⟨d3, d4⟩
  have k1 : ((((1 : Int32)).toUInt32 &&& Int32.toUInt32 31).toBitVec % 32).toNat = 1 := by decide +kernel
  have k2 : ((((2 : Int32)).toUInt32 &&& Int32.toUInt32 31).toBitVec % 32).toNat = 2 := by decide +kernel
  have k4 : ((((4 : Int32)).toUInt32 &&& Int32.toUInt32 31).toBitVec % 32).toNat = 4 := by decide +kernel
  have k8 : ((((8 : Int32)).toUInt32 &&& Int32.toUInt32 31).toBitVec % 32).toNat = 8 := by decide +kernel
  have k16 : ((((16 : Int32)).toUInt32 &&& Int32.toUInt32 31).toBitVec % 32).toNat = 16 := by decide +kernel
  have w1 : (1431655765 : Int32) = nI 1431655765 := rfl
  have w2 : (858993459 : Int32) = nI 858993459 := rfl
  have w3 : (252645135 : Int32) = nI 252645135 := rfl
  have w4 : (63 : Int32) = nI 63 := rfl
  have le1 : (((a + 256 * (b + 256 * (c + 256 * d))) / 2) &&& 1431655765) ≤ a + 256 * (b + 256 * (c + 256 * d)) := Nat.le_trans Nat.and_le_left (Nat.div_le_self _ _)
  unfold gh_pop
  (try dsimp only)
  rw [gb_of, pk_ushrN (by omega) _ 1 k1, w1, gb_and0, pk_sub (by rw [show (2 : Nat) ^ 1 = 2 from rfl]; exact le1)]
  rw [show (2 : Nat) ^ 1 = 2 from rfl, A]
  rw [w2, gb_and0, pk_ushrN (by omega) _ 2 k2, gb_and0, nI_add, show (2 : Nat) ^ 2 = 4 from rfl, B]
  rw [pk_ushrN (by omega) _ 4 k4, nI_add, w3, gb_and0, show (2 : Nat) ^ 4 = 16 from rfl, C]
  rw [pk_ushrN (by omega) _ 8 k8, nI_add, pk_ushrN (by omega) _ 16 k16, nI_add, w4, gb_and0]
  have m6 : ∀ x : Nat, x &&& 63 = x % 64 := fun x => Nat.and_two_pow_sub_one_eq_mod x 6
  rw [m6, nI_toInt (by omega)]
  have e8 : (2 : Nat) ^ 8 = 256 := rfl
  have e16 : (2 : Nat) ^ 16 = 65536 := rfl
  rw [e8, e16]
  congr 1
  exact gz_6 a5 b5 c5 d5
theorem gsum_app {f : Int → Int} {a : Nat} : ∀ b : Nat, gsum f (a + b) = gsum f a + gsum (fun x => f (a + x)) b
  | 0 => by
    show gsum f a = gsum f a + 0
    omega
  | b + 1 => by
    have ih := gsum_app (f := f) (a := a) b
    show gsum f (a + b) + f ((a + b : Nat) : Int) = gsum f a + (gsum (fun x => f (a + x)) b + f (a + (b : Int)))
    have e : ((a + b : Nat) : Int) = (a : Int) + b := by omega
    rw [ih, e]
    omega
theorem gz_bits {d r : Nat} (hd : d < 256) (n : Nat) : gsum (fun i => gt_ib ((d + 256 * r).testBit i.toNat = true)) (8 + n) = ((gz_pc (gz_pb (gz_pa d)) : Nat) : Int) + gsum (fun i => gt_ib (r.testBit i.toNat = true)) n := by
  have tb : ∀ j : Nat, (d + 256 * r).testBit j = if j < 8 then d.testBit j else r.testBit (j - 8) := fun j => by
    have e : d + 256 * r = 2 ^ 8 * r + d := by omega
    rw [e]
    exact Nat.testBit_two_pow_mul_add r hd j
  rw [gsum_app, gz_5 d hd]
  congr 1
  · refine gsum_cg 8 (fun i i0 i1 => ?_)
    (try dsimp only)
    rw [tb, if_pos (by omega)]
    by_cases c : d.testBit i.toNat = true
    · rw [if_pos c, gt_ib_t c]
    · rw [if_neg c, gt_ib_f c]
  · refine gsum_cg n (fun i i0 i1 => ?_)
    (try dsimp only)
    have e : (((8 : Nat) : Int) + i).toNat = i.toNat + 8 := by omega
    rw [e, tb, if_neg (by omega), Nat.add_sub_cancel]
/-- the machine counts bits -/
theorem gz_pop {n : Nat} {x : Int} (hn : n ≤ 31) (hx : gbs n x) : gh_pop x = gsum (fun i => gt_ib (gb x i)) n := by
  obtain ⟨y, hy, hy2⟩ := gbs_nat (gbs_le hx hn)
  obtain ⟨a, ha⟩ : ∃ a, a = y % 256 := ⟨_, rfl⟩
  obtain ⟨b, hb⟩ : ∃ b, b = y / 256 % 256 := ⟨_, rfl⟩
  obtain ⟨c, hc⟩ : ∃ c, c = y / 65536 % 256 := ⟨_, rfl⟩
  obtain ⟨d, hd⟩ : ∃ d, d = y / 16777216 := ⟨_, rfl⟩
  have e : y = a + 256 * (b + 256 * (c + 256 * d)) := by omega
  have e32 : gsum (fun i => gt_ib (gb x i)) 32 = gsum (fun i => gt_ib (gb x i)) n := by
    have e : 32 = n + (32 - n) := by omega
    rw [e]
    exact gsum_ext _ (fun i i0 i1 => gt_ib_f (fun w => by
      have := gb_lt hx (by omega) w
      omega))
  have yy : y < 2147483648 := hy2
  rw [← e32, hy, e, gz_popN (by omega) (by omega) (by omega) (by omega)]
  have f1 : gsum (fun i => gt_ib (gb ((a + 256 * (b + 256 * (c + 256 * d)) : Nat) : Int) i)) 32 = gsum (fun i => gt_ib ((a + 256 * (b + 256 * (c + 256 * d))).testBit i.toNat = true)) (8 + (8 + (8 + (8 + 0)))) := gsum_cg 32 (fun i _ _ => by
    unfold gb
    rw [Int.toNat_natCast])
  have f2 : gsum (fun i => gt_ib (d.testBit i.toNat = true)) (8 + 0) = ((gz_pc (gz_pb (gz_pa d)) : Nat) : Int) + 0 := by
    have := gz_bits (d := d) (r := 0) (by omega) 0
    rw [Nat.mul_zero, Nat.add_zero] at this
    exact this
  rw [f1, gz_bits (by omega), gz_bits (by omega), gz_bits (by omega), f2]
  omega

