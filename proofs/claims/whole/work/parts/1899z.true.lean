/-! the pure statement -/
theorem lawTrue (xs : Nat → Int32) (n : Nat) (hn : n ≤ 512) : ∃ r, lawRun xs n 0 rf_w0 rf_m0 = some r := law_run xs n 0 0 rf_w0 rf_m0 (by omega) JJ_0
