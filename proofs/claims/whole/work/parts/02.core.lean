theorem rf_t0 : 1 + 1 = 2 := rfl
