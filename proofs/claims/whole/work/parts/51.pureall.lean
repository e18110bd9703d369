/-- what both sides answer, on every script -/
theorem pure_all {L : Nat} (hL : L ≤ 2048) (xs : Nat → Int32) : pL_law 5000 L xs m0 d0 d0 m0 d0 m0 m0 mm0 0 = some 1 := by
  sorry
