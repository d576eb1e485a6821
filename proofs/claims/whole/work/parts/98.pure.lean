theorem J_law_ok (L : Nat) (xs : Nat → Int32) (hL : L ≤ 2051) : J_law 10000 L xs = some 1 := by
  sorry
