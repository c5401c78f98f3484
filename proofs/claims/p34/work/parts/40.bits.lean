/-! BITS: the machine's operations on numbers that are not negative -/
theorem gb_of (a : Nat) : Int32.ofInt (a : Int) = nI a := rfl
theorem gb_and0 (a b : Nat) : nI a &&& nI b = nI (a &&& b) := by
  apply Int32.toBitVec_inj.1
  show BitVec.ofNat 32 a &&& BitVec.ofNat 32 b = BitVec.ofNat 32 (a &&& b)
  apply BitVec.eq_of_getLsbD_eq
  intro i hi
  simp [hi]
theorem gb_or0 (a b : Nat) : nI a ||| nI b = nI (a ||| b) := by
  apply Int32.toBitVec_inj.1
  show BitVec.ofNat 32 a ||| BitVec.ofNat 32 b = BitVec.ofNat 32 (a ||| b)
  apply BitVec.eq_of_getLsbD_eq
  intro i hi
  simp [hi]
theorem gb_and {a b : Nat} (ha : a < 2 ^ 31) : gh_iand_f a b = ((a &&& b : Nat) : Int) := by
  unfold gh_iand_f
  rw [gb_of, gb_of, gb_and0]
  exact nI_toInt (Nat.lt_of_le_of_lt Nat.and_le_left ha)
theorem gb_or {a b : Nat} (ha : a < 2 ^ 31) (hb : b < 2 ^ 31) : gh_ior_f a b = ((a ||| b : Nat) : Int) := by
  unfold gh_ior_f
  rw [gb_of, gb_of, gb_or0]
  exact nI_toInt (Nat.or_lt_two_pow ha hb)
theorem gb_cnt : ∀ n, n < 32 → ((nI n &&& 31).toBitVec.smod 32).toNat = n := by decide +kernel
theorem gb_cntu : ∀ n, n < 32 → (((nI n).toUInt32 &&& Int32.toUInt32 31).toBitVec % 32).toNat = n := by decide +kernel
theorem gb_shr {a k : Nat} (ha : a < 2 ^ 31) (hk : k < 32) : gh_ishr_f a k = ((a / 2 ^ k : Nat) : Int) := by
  unfold gh_ishr_f
  rw [gb_of, gb_of, pk_shrN ha _ k (gb_cnt k hk)]
  exact nI_toInt (Nat.lt_of_le_of_lt (Nat.div_le_self _ _) ha)
theorem gb_shl {a k : Nat} (hk : k < 32) (h : a * 2 ^ k < 2 ^ 31) : gh_ishl_f a k = ((a * 2 ^ k : Nat) : Int) := by
  unfold gh_ishl_f
  rw [gb_of, gb_of, pk_shlN _ k (gb_cnt k hk) (Nat.lt_of_lt_of_le h (by decide))]
  exact nI_toInt h
/-- bit i of x -/
def gb (x i : Int) : Prop := x.toNat.testBit i.toNat = true
/-- x is a set of numbers below n -/
def gbs (n : Nat) (x : Int) : Prop := 0 ≤ x ∧ x < 2 ^ n
theorem gbs_nat {n : Nat} {x : Int} (h : gbs n x) : ∃ a : Nat, x = a ∧ a < 2 ^ n := by
  obtain ⟨h0, h1⟩ := h
  obtain ⟨a, rfl⟩ := Int.eq_ofNat_of_zero_le h0
  refine ⟨a, rfl, ?_⟩
  have h2 : ((2 ^ n : Nat) : Int) = (2 : Int) ^ n := by simp
  rw [← h2] at h1
  exact Int.ofNat_lt.mp h1
theorem gbs_of {n a : Nat} (h : a < 2 ^ n) : gbs n (a : Int) := by
  refine ⟨Int.natCast_nonneg a, ?_⟩
  have h2 : ((2 ^ n : Nat) : Int) = (2 : Int) ^ n := by simp
  rw [← h2]
  exact Int.ofNat_lt.mpr h
theorem gbs_0 (n : Nat) : gbs n 0 := gbs_of (a := 0) (Nat.two_pow_pos n)
theorem gbs_le {n k : Nat} {x : Int} (h : gbs n x) (hk : n ≤ k) : gbs k x := by
  obtain ⟨a, rfl, ha⟩ := gbs_nat h
  exact gbs_of (Nat.lt_of_lt_of_le ha (Nat.pow_le_pow_right (by decide) hk))
theorem gb_lt {n : Nat} {x i : Int} (h : gbs n x) (hi : 0 ≤ i) (hb : gb x i) : i < n := by
  obtain ⟨a, rfl, ha⟩ := gbs_nat h
  unfold gb at hb
  rcases Nat.lt_or_ge i.toNat n with q | q
  · omega
  · have : (a : Int).toNat = a := by omega
    rw [this, Nat.testBit_lt_two_pow (Nat.lt_of_lt_of_le ha (Nat.pow_le_pow_right (by decide) q))] at hb
    cases hb
theorem gb_ext {n : Nat} {x y : Int} (hx : gbs n x) (hy : gbs n y) (h : ∀ i : Int, 0 ≤ i → i < n → (gb x i ↔ gb y i)) : x = y := by
  obtain ⟨a, rfl, ha⟩ := gbs_nat hx
  obtain ⟨b, rfl, hb⟩ := gbs_nat hy
  congr 1
  apply Nat.eq_of_testBit_eq
  intro i
  rcases Nat.lt_or_ge i n with q | q
  · have := h i (by omega) (by omega)
    unfold gb at this
    have e1 : (a : Int).toNat = a := by omega
    have e2 : (b : Int).toNat = b := by omega
    have e3 : (i : Int).toNat = i := by omega
    rw [e1, e2, e3] at this
    exact Bool.eq_iff_iff.mpr this
  · rw [Nat.testBit_lt_two_pow (Nat.lt_of_lt_of_le ha (Nat.pow_le_pow_right (by decide) q)), Nat.testBit_lt_two_pow (Nat.lt_of_lt_of_le hb (Nat.pow_le_pow_right (by decide) q))]
theorem gb_0 (i : Int) : ¬ gb 0 i := by
  unfold gb
  simp
/-- the test that the programs make -/
theorem gb_test {x i : Int} (hx : gbs 31 x) (h0 : 0 ≤ i) (h1 : i < 32) : gh_iand_f (gh_ishr_f x i) 1 = if x.toNat.testBit i.toNat then 1 else 0 := by
  obtain ⟨a, rfl, ha⟩ := gbs_nat hx
  obtain ⟨k, rfl⟩ := Int.eq_ofNat_of_zero_le h0
  have e := gb_and (a := a / 2 ^ k) (b := 1) (Nat.lt_of_le_of_lt (Nat.div_le_self _ _) ha)
  rw [gb_shr ha (by omega)]
  refine e.trans ?_
  have e1 : (a : Int).toNat = a := by omega
  have e2 : (k : Int).toNat = k := by omega
  rw [e1, e2, Nat.and_one_is_mod, Nat.testBit_eq_decide_div_mod_eq]
  by_cases h : a / 2 ^ k % 2 = 1
  · rw [h]; simp
  · have : a / 2 ^ k % 2 = 0 := by omega
    rw [this]; simp
theorem gb_test0 {x i : Int} (hx : gbs 31 x) (h0 : 0 ≤ i) (h1 : i < 32) : gh_iand_f (gh_ishr_f x i) 1 = 0 ↔ ¬ gb x i := by
  rw [gb_test hx h0 h1]
  unfold gb
  split
  · rename_i h; simp [h]
  · rename_i h; simp [h]
theorem gb_test1 {x i : Int} (hx : gbs 31 x) (h0 : 0 ≤ i) (h1 : i < 32) : gh_iand_f (gh_ishr_f x i) 1 = 1 ↔ gb x i := by
  rw [gb_test hx h0 h1]
  unfold gb
  split
  · rename_i h; simp [h]
  · rename_i h; simp [h]
theorem gbs_or {n : Nat} {x y : Int} (hn : n ≤ 31) (hx : gbs n x) (hy : gbs n y) : gbs n (gh_ior_f x y) := by
  obtain ⟨a, rfl, ha⟩ := gbs_nat hx
  obtain ⟨b, rfl, hb⟩ := gbs_nat hy
  rw [gb_or (Nat.lt_of_lt_of_le ha (Nat.pow_le_pow_right (by decide) hn)) (Nat.lt_of_lt_of_le hb (Nat.pow_le_pow_right (by decide) hn))]
  exact gbs_of (Nat.or_lt_two_pow ha hb)
theorem gb_ior {n : Nat} {x y i : Int} (hn : n ≤ 31) (hx : gbs n x) (hy : gbs n y) : gb (gh_ior_f x y) i ↔ gb x i ∨ gb y i := by
  obtain ⟨a, rfl, ha⟩ := gbs_nat hx
  obtain ⟨b, rfl, hb⟩ := gbs_nat hy
  rw [gb_or (Nat.lt_of_lt_of_le ha (Nat.pow_le_pow_right (by decide) hn)) (Nat.lt_of_lt_of_le hb (Nat.pow_le_pow_right (by decide) hn))]
  unfold gb
  have e1 : (a : Int).toNat = a := by omega
  have e2 : (b : Int).toNat = b := by omega
  have e3 : ((a ||| b : Nat) : Int).toNat = a ||| b := by omega
  rw [e1, e2, e3, Nat.testBit_or, Bool.or_eq_true]
theorem gbs_and {n : Nat} {x y : Int} (hn : n ≤ 31) (hx : gbs n x) (hy : 0 ≤ y) : gbs n (gh_iand_f x y) := by
  obtain ⟨a, rfl, ha⟩ := gbs_nat hx
  obtain ⟨b, rfl⟩ := Int.eq_ofNat_of_zero_le hy
  rw [gb_and (Nat.lt_of_lt_of_le ha (Nat.pow_le_pow_right (by decide) hn))]
  exact gbs_of (Nat.lt_of_le_of_lt Nat.and_le_left ha)
theorem gb_iand {n : Nat} {x y i : Int} (hn : n ≤ 31) (hx : gbs n x) (hy : 0 ≤ y) : gb (gh_iand_f x y) i ↔ gb x i ∧ gb y i := by
  obtain ⟨a, rfl, ha⟩ := gbs_nat hx
  obtain ⟨b, rfl⟩ := Int.eq_ofNat_of_zero_le hy
  rw [gb_and (Nat.lt_of_lt_of_le ha (Nat.pow_le_pow_right (by decide) hn))]
  unfold gb
  have e1 : (a : Int).toNat = a := by omega
  have e2 : (b : Int).toNat = b := by omega
  have e3 : ((a &&& b : Nat) : Int).toNat = a &&& b := by omega
  rw [e1, e2, e3, Nat.testBit_and, Bool.and_eq_true]
/-- one bit alone -/
theorem gb_one {k : Int} (h0 : 0 ≤ k) (h1 : k < 31) : gh_ishl_f 1 k = ((2 ^ k.toNat : Nat) : Int) := by
  obtain ⟨a, rfl⟩ := Int.eq_ofNat_of_zero_le h0
  have := gb_shl (a := 1) (k := a) (by omega) (by rw [Nat.one_mul]; exact Nat.pow_lt_pow_right (by decide) (by omega))
  rw [Nat.one_mul] at this
  exact this
theorem gbs_one {n : Nat} {k : Int} (h0 : 0 ≤ k) (h1 : k < n) (hn : n ≤ 31) : gbs n (gh_ishl_f 1 k) := by
  rw [gb_one h0 (by omega)]
  exact gbs_of (Nat.pow_lt_pow_right (by decide) (by omega))
theorem gb_ishl1 {k i : Int} (h0 : 0 ≤ k) (h1 : k < 31) (hi : 0 ≤ i) : gb (gh_ishl_f 1 k) i ↔ i = k := by
  rw [gb_one h0 h1]
  unfold gb
  have e : (((2 ^ k.toNat : Nat) : Int)).toNat = 2 ^ k.toNat := Int.toNat_natCast _
  rw [e, Nat.testBit_two_pow, decide_eq_true_eq]
  omega

