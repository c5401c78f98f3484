/-! READING: the model takes a token, further -/
theorem go_cls_b {T : Int → Int} {c pl : Int} (h : gr_cls T c pl) : 0 < gh_ishl_f 1 (T (pl + 3) - 97 + 1) - gh_ishl_f 1 (T (pl + 1) - 97) ∧ gh_ishl_f 1 (T (pl + 3) - 97 + 1) - gh_ishl_f 1 (T (pl + 1) - 97) ≤ 67108864 := by
  obtain ⟨w1, w2, w3, w4, w5⟩ := h
  unfold gr_in at w1 w3
  rw [gb_one (by omega) (by omega), gb_one (by omega) (by omega)]
  have a : 2 ^ (T (pl + 1) - 97).toNat < 2 ^ (T (pl + 3) - 97 + 1).toNat := Nat.pow_lt_pow_right (by decide) (by omega)
  have b : 2 ^ (T (pl + 3) - 97 + 1).toNat ≤ 2 ^ 26 := Nat.pow_le_pow_right (by decide) (by omega)
  generalize 2 ^ (T (pl + 1) - 97).toNat = u at *
  generalize 2 ^ (T (pl + 3) - 97 + 1).toNat = v at *
  have b' : v ≤ 67108864 := b
  omega
