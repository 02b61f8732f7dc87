theorem pure_law (L : Nat) (xs : Nat → Int32) (hL : L ≤ 2560) : ∃ Mz, m10_init_J101 i10 = some Mz ∧ tit (law_L xs L) FU (0, i0, i1, i3, i4, i0, i1, i5, i6, i7, i8, none, none, Mz) = some 1 := by
  sorry
