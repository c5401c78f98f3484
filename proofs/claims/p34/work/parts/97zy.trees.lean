/-! TREES, A TREE PICKED -/
theorem gl_c4_of {K : Int} {G : gm_G} {m : gh_M} (fo : gk_fo K G (m 26 3) (m 27) m) : gl_c4 K G m := ⟨fo, fun r => ⟨0, 0, fun y n h n0 n1 h0 h1 => ⟨(fo.2.2.2.2.2.2 r).2.2 y n h n0 n1 h0 h1, fun z => absurd z (by decide)⟩⟩⟩
theorem gl_pk0 {K : Int} {G : gm_G} {z : Int} {t : Int → Int} {m : gh_M} (fo : gk_fo K G z t m) (h : z ≤ m 41 11) : gk_pk K G z t 0 0 m := ⟨fo, h, fun _ _ _ _ _ _ _ z => absurd z (by decide)⟩
theorem gl_mem_K {K : Int} {m : gh_M} (h : gk_mem K m) : m 0 3 = K := by
  rcases h with q | q
  · exact q.1
  · exact q.1
