theorem gsum_ge {f : Int → Int} : ∀ n : Nat, (∀ d : Int, 0 ≤ d → d < n → 0 ≤ f d) → ∀ d : Int, 0 ≤ d → d < n → f d ≤ gsum f n
  | 0, _, d, a, b => by omega
  | n + 1, h, d, a, b => by
    have h1 := gsum_nn (f := f) n (fun i i0 i1 => h i i0 (by omega))
    have h2 := h n (by omega) (by omega)
    show f d ≤ gsum f n + f n
    by_cases e : d = n
    · rw [e]
      omega
    · have := gsum_ge n (fun i i0 i1 => h i i0 (by omega)) d a (by omega)
      omega
