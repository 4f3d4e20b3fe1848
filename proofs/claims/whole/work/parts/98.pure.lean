theorem law_pure (xs : Nat → Int32) (L : Nat) (hL : L ≤ 2560) : f_L_law_18 xs L 1000 Minit (nI 0) = some 1 := by
  sorry
