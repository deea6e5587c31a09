/-! the pure statement that is left (its proof is under way) -/
theorem lawTrue (xs : Nat → Int32) (n : Nat) (hn : n ≤ 512) : ∃ r, lawRun xs n 0 rf_w0 rf_m0 = some r := by
  sorry
