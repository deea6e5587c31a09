/-! a word by its place -/
theorem rf_memi {w : Cond} (c i : Nat) (h : (rf_ch.getD c [])[i]? = some w) : w ∈ rf_WS := rf_mem c (List.mem_of_getElem? h)
