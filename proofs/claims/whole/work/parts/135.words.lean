/-! all words of rf_WS stand among the law's tables (written by wip/tool/words.py) -/
def wi_tb (k : Nat) : List Cond := match k with
  | 1 => tables_1_1
  | 2 => tables_1_2
  | 3 => tables_1_3
  | 4 => tables_1_4
  | 5 => tables_1_5
  | 6 => tables_1_6
  | 7 => tables_1_7
  | 8 => tables_1_8
  | 9 => tables_1_9
  | 10 => tables_1_10
  | 11 => tables_1_11
  | 12 => tables_1_12
  | 13 => tables_1_13
  | 14 => tables_1_14
  | 21 => k2_sels lw_privs_1
  | 22 => k2_sels lw_privs_2
  | 23 => k2_sels lw_privs_3
  | 24 => k2_sels lw_privs_4
  | 25 => k2_sels lw_privs_5
  | 26 => k2_sels lw_privs_6
  | 27 => k2_sels lw_privs_7
  | 28 => k2_sels lw_privs_8
  | 29 => k2_sels lw_privs_9
  | 30 => k2_sels lw_privs_10
  | _ => []
theorem wi_tab {w : Cond} : ∀ k, w ∈ wi_tb k → w ∈ lw_tbl := by
  intro k h
  unfold wi_tb at h
  split at h
  · exact List.mem_append_right _ (show w ∈ tables_1 from List.mem_append_left _ h)
  · exact List.mem_append_right _ (show w ∈ tables_1 from List.mem_append_right _ (List.mem_append_left _ h))
  · exact List.mem_append_right _ (show w ∈ tables_1 from List.mem_append_right _ (List.mem_append_right _ (List.mem_append_left _ h)))
  · exact List.mem_append_right _ (show w ∈ tables_1 from List.mem_append_right _ (List.mem_append_right _ (List.mem_append_right _ (List.mem_append_left _ h))))
  · exact List.mem_append_right _ (show w ∈ tables_1 from List.mem_append_right _ (List.mem_append_right _ (List.mem_append_right _ (List.mem_append_right _ (List.mem_append_left _ h)))))
  · exact List.mem_append_right _ (show w ∈ tables_1 from List.mem_append_right _ (List.mem_append_right _ (List.mem_append_right _ (List.mem_append_right _ (List.mem_append_right _ (List.mem_append_left _ h))))))
  · exact List.mem_append_right _ (show w ∈ tables_1 from List.mem_append_right _ (List.mem_append_right _ (List.mem_append_right _ (List.mem_append_right _ (List.mem_append_right _ (List.mem_append_right _ (List.mem_append_left _ h)))))))
  · exact List.mem_append_right _ (show w ∈ tables_1 from List.mem_append_right _ (List.mem_append_right _ (List.mem_append_right _ (List.mem_append_right _ (List.mem_append_right _ (List.mem_append_right _ (List.mem_append_right _ (List.mem_append_left _ h))))))))
  · exact List.mem_append_right _ (show w ∈ tables_1 from List.mem_append_right _ (List.mem_append_right _ (List.mem_append_right _ (List.mem_append_right _ (List.mem_append_right _ (List.mem_append_right _ (List.mem_append_right _ (List.mem_append_right _ (List.mem_append_left _ h)))))))))
  · exact List.mem_append_right _ (show w ∈ tables_1 from List.mem_append_right _ (List.mem_append_right _ (List.mem_append_right _ (List.mem_append_right _ (List.mem_append_right _ (List.mem_append_right _ (List.mem_append_right _ (List.mem_append_right _ (List.mem_append_right _ (List.mem_append_left _ h))))))))))
  · exact List.mem_append_right _ (show w ∈ tables_1 from List.mem_append_right _ (List.mem_append_right _ (List.mem_append_right _ (List.mem_append_right _ (List.mem_append_right _ (List.mem_append_right _ (List.mem_append_right _ (List.mem_append_right _ (List.mem_append_right _ (List.mem_append_right _ (List.mem_append_left _ h)))))))))))
  · exact List.mem_append_right _ (show w ∈ tables_1 from List.mem_append_right _ (List.mem_append_right _ (List.mem_append_right _ (List.mem_append_right _ (List.mem_append_right _ (List.mem_append_right _ (List.mem_append_right _ (List.mem_append_right _ (List.mem_append_right _ (List.mem_append_right _ (List.mem_append_right _ (List.mem_append_left _ h))))))))))))
  · exact List.mem_append_right _ (show w ∈ tables_1 from List.mem_append_right _ (List.mem_append_right _ (List.mem_append_right _ (List.mem_append_right _ (List.mem_append_right _ (List.mem_append_right _ (List.mem_append_right _ (List.mem_append_right _ (List.mem_append_right _ (List.mem_append_right _ (List.mem_append_right _ (List.mem_append_right _ (List.mem_append_left _ h)))))))))))))
  · exact List.mem_append_right _ (show w ∈ tables_1 from List.mem_append_right _ (List.mem_append_right _ (List.mem_append_right _ (List.mem_append_right _ (List.mem_append_right _ (List.mem_append_right _ (List.mem_append_right _ (List.mem_append_right _ (List.mem_append_right _ (List.mem_append_right _ (List.mem_append_right _ (List.mem_append_right _ (List.mem_append_right _ (h))))))))))))))
  · exact List.mem_append_left _ (by obtain ⟨q, h, e⟩ := List.mem_map.mp h; exact List.mem_map.mpr ⟨q, (show q ∈ lw_privs from List.mem_append_left _ h), e⟩)
  · exact List.mem_append_left _ (by obtain ⟨q, h, e⟩ := List.mem_map.mp h; exact List.mem_map.mpr ⟨q, (show q ∈ lw_privs from List.mem_append_right _ (List.mem_append_left _ h)), e⟩)
  · exact List.mem_append_left _ (by obtain ⟨q, h, e⟩ := List.mem_map.mp h; exact List.mem_map.mpr ⟨q, (show q ∈ lw_privs from List.mem_append_right _ (List.mem_append_right _ (List.mem_append_left _ h))), e⟩)
  · exact List.mem_append_left _ (by obtain ⟨q, h, e⟩ := List.mem_map.mp h; exact List.mem_map.mpr ⟨q, (show q ∈ lw_privs from List.mem_append_right _ (List.mem_append_right _ (List.mem_append_right _ (List.mem_append_left _ h)))), e⟩)
  · exact List.mem_append_left _ (by obtain ⟨q, h, e⟩ := List.mem_map.mp h; exact List.mem_map.mpr ⟨q, (show q ∈ lw_privs from List.mem_append_right _ (List.mem_append_right _ (List.mem_append_right _ (List.mem_append_right _ (List.mem_append_left _ h))))), e⟩)
  · exact List.mem_append_left _ (by obtain ⟨q, h, e⟩ := List.mem_map.mp h; exact List.mem_map.mpr ⟨q, (show q ∈ lw_privs from List.mem_append_right _ (List.mem_append_right _ (List.mem_append_right _ (List.mem_append_right _ (List.mem_append_right _ (List.mem_append_left _ h)))))), e⟩)
  · exact List.mem_append_left _ (by obtain ⟨q, h, e⟩ := List.mem_map.mp h; exact List.mem_map.mpr ⟨q, (show q ∈ lw_privs from List.mem_append_right _ (List.mem_append_right _ (List.mem_append_right _ (List.mem_append_right _ (List.mem_append_right _ (List.mem_append_right _ (List.mem_append_left _ h))))))), e⟩)
  · exact List.mem_append_left _ (by obtain ⟨q, h, e⟩ := List.mem_map.mp h; exact List.mem_map.mpr ⟨q, (show q ∈ lw_privs from List.mem_append_right _ (List.mem_append_right _ (List.mem_append_right _ (List.mem_append_right _ (List.mem_append_right _ (List.mem_append_right _ (List.mem_append_right _ (List.mem_append_left _ h)))))))), e⟩)
  · exact List.mem_append_left _ (by obtain ⟨q, h, e⟩ := List.mem_map.mp h; exact List.mem_map.mpr ⟨q, (show q ∈ lw_privs from List.mem_append_right _ (List.mem_append_right _ (List.mem_append_right _ (List.mem_append_right _ (List.mem_append_right _ (List.mem_append_right _ (List.mem_append_right _ (List.mem_append_right _ (List.mem_append_left _ h))))))))), e⟩)
  · exact List.mem_append_left _ (by obtain ⟨q, h, e⟩ := List.mem_map.mp h; exact List.mem_map.mpr ⟨q, (show q ∈ lw_privs from List.mem_append_right _ (List.mem_append_right _ (List.mem_append_right _ (List.mem_append_right _ (List.mem_append_right _ (List.mem_append_right _ (List.mem_append_right _ (List.mem_append_right _ (List.mem_append_right _ (h)))))))))), e⟩)
  · cases h
def wi_at (ps : List (Nat × Nat)) : List Cond := ps.filterMap (fun q => (wi_tb q.1)[q.2]?)
theorem wi_l {l : List Cond} (ps : List (Nat × Nat)) (h : l = wi_at ps) : ∀ w ∈ l, w ∈ lw_tbl := by
  intro w hw
  rw [h] at hw
  obtain ⟨q, -, hi⟩ := List.mem_filterMap.mp hw
  exact wi_tab q.1 (List.mem_of_getElem? hi)
set_option maxRecDepth 20000 in
theorem wi_wsL_law0_r1 : ∀ w ∈ wsL_law0_r1, w ∈ lw_tbl := wi_l [(1, 32), (1, 33), (1, 1), (9, 80), (9, 81), (1, 13), (1, 214), (1, 34), (1, 35), (1, 36), (1, 37), (1, 38), (1, 39), (1, 40), (1, 41), (1, 2), (3, 163), (1, 99), (1, 100), (1, 3), (3, 164), (1, 215), (1, 216), (1, 5)] (by decide +kernel)
set_option maxRecDepth 20000 in
theorem wi_wsL_law0_r2 : ∀ w ∈ wsL_law0_r2, w ∈ lw_tbl := wi_l [(3, 165), (2, 61), (2, 62), (1, 6), (3, 166), (2, 105), (2, 106), (1, 7), (3, 167), (2, 141), (2, 142), (1, 8), (3, 168), (2, 225), (2, 226), (1, 10), (3, 169), (3, 56), (3, 57), (1, 11), (3, 170), (3, 109), (3, 110), (1, 12)] (by decide +kernel)
set_option maxRecDepth 20000 in
theorem wi_wsL_law0_r3 : ∀ w ∈ wsL_law0_r3, w ∈ lw_tbl := wi_l [(3, 171), (1, 97), (3, 172), (1, 43), (1, 44), (1, 45), (1, 46), (1, 48), (1, 50), (1, 98), (1, 51), (1, 57), (1, 58), (1, 59), (1, 61), (1, 62), (1, 64), (1, 65), (1, 102), (1, 103), (1, 104), (1, 105), (1, 106), (1, 4)] (by decide +kernel)
set_option maxRecDepth 20000 in
theorem wi_wsL_law0_r4 : ∀ w ∈ wsL_law0_r4, w ∈ lw_tbl := wi_l [(1, 176), (1, 178), (1, 184), (1, 185), (1, 186), (1, 187), (1, 188), (1, 189), (1, 190), (1, 108), (1, 109), (1, 110), (1, 111), (1, 113), (1, 135), (1, 217), (1, 218), (1, 219), (1, 220), (1, 221), (1, 223), (1, 227), (1, 230), (1, 233)] (by decide +kernel)
set_option maxRecDepth 20000 in
theorem wi_wsL_law0_r5 : ∀ w ∈ wsL_law0_r5, w ∈ lw_tbl := wi_l [(2, 9), (2, 10), (2, 11), (2, 12), (2, 13), (2, 14), (2, 15), (2, 16), (2, 18), (2, 8), (2, 64), (2, 65), (2, 66), (2, 67), (2, 71), (2, 75), (2, 76), (2, 77), (2, 78), (2, 79), (2, 80), (2, 81), (2, 107), (2, 108)] (by decide +kernel)
set_option maxRecDepth 20000 in
theorem wi_wsL_law0_r6 : ∀ w ∈ wsL_law0_r6, w ∈ lw_tbl := wi_l [(2, 109), (2, 110), (2, 119), (2, 120), (2, 121), (2, 122), (2, 118), (2, 143), (2, 144), (2, 145), (2, 146), (2, 147), (2, 166), (2, 170), (2, 171), (2, 172), (2, 173), (2, 174), (2, 148), (2, 176), (2, 177), (2, 150), (1, 9), (2, 178)] (by decide +kernel)
set_option maxRecDepth 20000 in
theorem wi_wsL_law0_r7 : ∀ w ∈ wsL_law0_r7, w ∈ lw_tbl := wi_l [(2, 179), (2, 180), (2, 181), (2, 182), (2, 183), (2, 184), (2, 185), (2, 168), (2, 169), (2, 152), (2, 153), (2, 154), (2, 158), (2, 227), (2, 228), (2, 229), (2, 230), (2, 231), (2, 235), (2, 237), (3, 2), (3, 4), (3, 5), (3, 6)] (by decide +kernel)
set_option maxRecDepth 20000 in
theorem wi_wsL_law0_r8 : ∀ w ∈ wsL_law0_r8, w ∈ lw_tbl := wi_l [(3, 8), (3, 9), (3, 14), (2, 239), (3, 0), (3, 1), (3, 58), (3, 59), (3, 60), (3, 61), (3, 62), (3, 72), (3, 73), (3, 75), (3, 76), (3, 77), (3, 78), (3, 79), (3, 70), (3, 71), (3, 111), (3, 112), (3, 113), (3, 114)] (by decide +kernel)
set_option maxRecDepth 20000 in
theorem wi_wsL_law0_r9 : ∀ w ∈ wsL_law0_r9, w ∈ lw_tbl := wi_l [(3, 120), (3, 121), (3, 122), (3, 123), (3, 124), (3, 125), (3, 126), (3, 127), (3, 129), (3, 130), (3, 131), (3, 119), (9, 82), (9, 83), (9, 84), (9, 85), (9, 151), (9, 156), (9, 157), (9, 158), (9, 86), (9, 159), (9, 160), (9, 161)] (by decide +kernel)
set_option maxRecDepth 20000 in
theorem wi_wsL_law0_r10 : ∀ w ∈ wsL_law0_r10, w ∈ lw_tbl := wi_l [(9, 162), (9, 163), (9, 168), (9, 169), (9, 170), (9, 171), (9, 172), (9, 173), (9, 174), (9, 175), (9, 176), (9, 177), (9, 178), (9, 179), (9, 180), (9, 181), (9, 87), (9, 189), (9, 89), (1, 14), (9, 190), (9, 119), (9, 120), (1, 18)] (by decide +kernel)
set_option maxRecDepth 20000 in
theorem wi_wsL_law0_r11 : ∀ w ∈ wsL_law0_r11, w ∈ lw_tbl := wi_l [(9, 191), (6, 26), (9, 192), (9, 203), (9, 205), (9, 206), (9, 207), (9, 208), (9, 209), (9, 210), (9, 211), (9, 212), (9, 215), (9, 216), (9, 217), (9, 218), (9, 219), (9, 220), (9, 221), (9, 222), (9, 223), (9, 224), (9, 225), (9, 226)] (by decide +kernel)
set_option maxRecDepth 20000 in
theorem wi_wsL_law0_r12 : ∀ w ∈ wsL_law0_r12, w ∈ lw_tbl := wi_l [(9, 227), (9, 228), (9, 229), (9, 230), (9, 231), (9, 232), (9, 233), (9, 234), (9, 235), (9, 236), (9, 148), (9, 238), (9, 239), (10, 0), (10, 1), (10, 2), (10, 3), (10, 4), (10, 5), (10, 6), (10, 7), (10, 8), (10, 9), (10, 10)] (by decide +kernel)
set_option maxRecDepth 20000 in
theorem wi_wsL_law0_r13 : ∀ w ∈ wsL_law0_r13, w ∈ lw_tbl := wi_l [(10, 11), (10, 12), (10, 19), (10, 22), (10, 23), (10, 24), (10, 28), (10, 29), (10, 30), (10, 31), (10, 32), (10, 33), (10, 34), (10, 36), (10, 37), (10, 38), (10, 39), (10, 40), (10, 41), (10, 42), (10, 43), (10, 44), (10, 50), (10, 51)] (by decide +kernel)
set_option maxRecDepth 20000 in
theorem wi_wsL_law0_r14 : ∀ w ∈ wsL_law0_r14, w ∈ lw_tbl := wi_l [(10, 52), (10, 53), (10, 54), (10, 55), (10, 56), (9, 91), (9, 92), (9, 93), (9, 100), (9, 102), (9, 128), (9, 129), (9, 130), (3, 206), (3, 207), (3, 208), (3, 209), (1, 47), (1, 49), (3, 210), (3, 211), (3, 212), (3, 213), (3, 214)] (by decide +kernel)
set_option maxRecDepth 20000 in
theorem wi_wsL_law0_r15 : ∀ w ∈ wsL_law0_r15, w ∈ lw_tbl := wi_l [(3, 215), (3, 216), (3, 218), (21, 0), (3, 219), (3, 174), (3, 220), (3, 222), (21, 1), (3, 223), (11, 118), (11, 119), (11, 120), (11, 121), (9, 149), (11, 122), (11, 123), (11, 124), (11, 125), (11, 127), (26, 1), (11, 128), (9, 150), (11, 129)] (by decide +kernel)
set_option maxRecDepth 20000 in
theorem wi_wsL_law0_r16 : ∀ w ∈ wsL_law0_r16, w ∈ lw_tbl := wi_l [(11, 130), (11, 131), (11, 132), (11, 134), (26, 2), (11, 135), (3, 224), (3, 225), (3, 226), (3, 227), (1, 54), (3, 228), (3, 230), (21, 2), (3, 231), (3, 232), (3, 233), (3, 234), (3, 235), (1, 53), (3, 236), (3, 237), (3, 238), (3, 239)] (by decide +kernel)
set_option maxRecDepth 20000 in
theorem wi_wsL_law0_r17 : ∀ w ∈ wsL_law0_r17, w ∈ lw_tbl := wi_l [(4, 0), (4, 2), (21, 3), (4, 3), (11, 136), (11, 137), (11, 138), (11, 139), (9, 153), (11, 140), (11, 142), (26, 3), (11, 143), (11, 144), (11, 146), (26, 4), (11, 147), (4, 4), (4, 5), (4, 6), (4, 7), (3, 173), (4, 8), (4, 9)] (by decide +kernel)
set_option maxRecDepth 20000 in
theorem wi_wsL_law0_r18 : ∀ w ∈ wsL_law0_r18, w ∈ lw_tbl := wi_l [(4, 10), (4, 11), (4, 12), (4, 13), (4, 14), (4, 15), (1, 60), (11, 148), (11, 149), (11, 150), (11, 151), (9, 154), (11, 152), (11, 154), (26, 5), (11, 155), (4, 16), (4, 17), (4, 18), (4, 19), (1, 52), (11, 156), (11, 157), (11, 158)] (by decide +kernel)
set_option maxRecDepth 20000 in
theorem wi_wsL_law0_r19 : ∀ w ∈ wsL_law0_r19, w ∈ lw_tbl := wi_l [(11, 159), (4, 20), (4, 21), (4, 22), (4, 23), (4, 24), (4, 25), (4, 26), (4, 27), (4, 28), (4, 29), (4, 30), (4, 31), (4, 32), (4, 33), (1, 63), (4, 34), (4, 36), (21, 4), (4, 37), (11, 160), (11, 161), (11, 162), (11, 163)] (by decide +kernel)
set_option maxRecDepth 20000 in
theorem wi_wsL_law0_r20 : ∀ w ∈ wsL_law0_r20, w ∈ lw_tbl := wi_l [(9, 155), (11, 170), (4, 55), (1, 19), (4, 56), (11, 164), (11, 165), (11, 166), (11, 167), (11, 168), (11, 169), (4, 38), (4, 39), (4, 40), (4, 41), (4, 42), (4, 43), (4, 44), (4, 45), (4, 46), (4, 47), (4, 48), (4, 49), (4, 50)] (by decide +kernel)
set_option maxRecDepth 20000 in
theorem wi_wsL_law0_r21 : ∀ w ∈ wsL_law0_r21, w ∈ lw_tbl := wi_l [(4, 51), (4, 52), (4, 53), (4, 54), (4, 57), (4, 59), (21, 5), (4, 60), (4, 61), (4, 63), (21, 6), (4, 64), (4, 65), (4, 67), (21, 7), (4, 68), (4, 69), (4, 70), (1, 19), (4, 71), (11, 171), (11, 172), (11, 173), (11, 174)] (by decide +kernel)
set_option maxRecDepth 20000 in
theorem wi_wsL_law0_r22 : ∀ w ∈ wsL_law0_r22, w ∈ lw_tbl := wi_l [(11, 175), (11, 176), (11, 178), (26, 6), (11, 179), (11, 180), (11, 182), (26, 7), (11, 183), (11, 184), (11, 185), (11, 186), (4, 72), (4, 73), (4, 74), (4, 75), (2, 1), (4, 76), (4, 77), (4, 78), (4, 79), (2, 0), (11, 187), (11, 188)] (by decide +kernel)
set_option maxRecDepth 20000 in
theorem wi_wsL_law0_r23 : ∀ w ∈ wsL_law0_r23, w ∈ lw_tbl := wi_l [(11, 189), (11, 190), (9, 164), (4, 80), (4, 81), (4, 82), (4, 83), (2, 5), (4, 84), (4, 85), (4, 86), (4, 87), (2, 2), (4, 88), (4, 89), (4, 90), (4, 91), (2, 19), (11, 191), (11, 192), (11, 193), (11, 194), (9, 165), (4, 92)] (by decide +kernel)
set_option maxRecDepth 20000 in
theorem wi_wsL_law0_r24 : ∀ w ∈ wsL_law0_r24, w ∈ lw_tbl := wi_l [(4, 93), (4, 94), (4, 95), (4, 96), (4, 97), (4, 98), (4, 99), (4, 100), (4, 101), (4, 102), (4, 103), (4, 104), (4, 105), (4, 106), (4, 107), (4, 108), (4, 109), (4, 110), (4, 111), (4, 112), (4, 113), (2, 6), (4, 114), (4, 115)] (by decide +kernel)
set_option maxRecDepth 20000 in
theorem wi_wsL_law0_r25 : ∀ w ∈ wsL_law0_r25, w ∈ lw_tbl := wi_l [(4, 116), (4, 117), (4, 118), (4, 119), (4, 120), (4, 121), (11, 195), (11, 196), (11, 197), (11, 198), (11, 207), (11, 209), (11, 208), (1, 21), (11, 210), (9, 166), (11, 199), (11, 201), (26, 8), (11, 202), (11, 203), (11, 205), (26, 9), (11, 206)] (by decide +kernel)
set_option maxRecDepth 20000 in
theorem wi_wsL_law0_r26 : ∀ w ∈ wsL_law0_r26, w ∈ lw_tbl := wi_l [(11, 211), (11, 213), (26, 10), (11, 214), (4, 122), (4, 123), (4, 124), (4, 125), (4, 126), (4, 127), (4, 128), (4, 129), (4, 130), (4, 131), (4, 132), (4, 133), (4, 134), (4, 135), (4, 136), (4, 137), (4, 138), (4, 139), (4, 140), (4, 141)] (by decide +kernel)
set_option maxRecDepth 20000 in
theorem wi_wsL_law0_r27 : ∀ w ∈ wsL_law0_r27, w ∈ lw_tbl := wi_l [(1, 179), (4, 158), (4, 189), (4, 190), (4, 191), (4, 192), (4, 142), (4, 144), (21, 8), (4, 145), (4, 146), (4, 147), (4, 148), (4, 149), (4, 150), (4, 151), (4, 152), (4, 153), (4, 154), (4, 155), (4, 156), (1, 22), (4, 157), (4, 159)] (by decide +kernel)
set_option maxRecDepth 20000 in
theorem wi_wsL_law0_r28 : ∀ w ∈ wsL_law0_r28, w ∈ lw_tbl := wi_l [(4, 161), (21, 9), (4, 162), (4, 167), (4, 163), (4, 164), (4, 165), (4, 166), (4, 168), (4, 169), (4, 170), (4, 171), (1, 182), (4, 172), (4, 174), (21, 10), (4, 175), (4, 176), (4, 178), (21, 11), (4, 179), (4, 180), (4, 182), (21, 12)] (by decide +kernel)
set_option maxRecDepth 20000 in
theorem wi_wsL_law0_r29 : ∀ w ∈ wsL_law0_r29, w ∈ lw_tbl := wi_l [(4, 183), (4, 184), (4, 185), (4, 186), (4, 187), (4, 188), (11, 223), (11, 224), (11, 225), (11, 226), (9, 184), (11, 219), (11, 221), (26, 11), (11, 222), (11, 227), (11, 229), (26, 12), (11, 230), (11, 231), (11, 233), (26, 13), (11, 234), (9, 182)] (by decide +kernel)
set_option maxRecDepth 20000 in
theorem wi_wsL_law0_r30 : ∀ w ∈ wsL_law0_r30, w ∈ lw_tbl := wi_l [(9, 183), (9, 186), (12, 25), (9, 187), (9, 185), (11, 235), (11, 237), (26, 14), (11, 238), (9, 167), (11, 239), (12, 1), (26, 15), (12, 2), (9, 188), (12, 3), (12, 5), (27, 0), (12, 6), (12, 7), (12, 9), (27, 1), (12, 10), (12, 11)] (by decide +kernel)
set_option maxRecDepth 20000 in
theorem wi_wsL_law0_r31 : ∀ w ∈ wsL_law0_r31, w ∈ lw_tbl := wi_l [(12, 13), (27, 2), (12, 14), (12, 15), (12, 16), (12, 17), (12, 18), (12, 19), (12, 20), (12, 21), (7, 88), (7, 89), (12, 22), (12, 23), (12, 24), (4, 193), (4, 194), (4, 195), (4, 196), (1, 222), (4, 197), (4, 198), (4, 199), (4, 200)] (by decide +kernel)
set_option maxRecDepth 20000 in
theorem wi_wsL_law0_r32 : ∀ w ∈ wsL_law0_r32, w ∈ lw_tbl := wi_l [(4, 201), (4, 202), (2, 17), (11, 215), (11, 216), (11, 217), (11, 218), (4, 203), (4, 204), (4, 205), (4, 206), (1, 226), (4, 207), (4, 208), (4, 209), (4, 210), (4, 211), (4, 212), (4, 213), (4, 214), (4, 215), (4, 217), (21, 13), (4, 218)] (by decide +kernel)
set_option maxRecDepth 20000 in
theorem wi_wsL_law0_r33 : ∀ w ∈ wsL_law0_r33, w ∈ lw_tbl := wi_l [(4, 219), (4, 220), (4, 221), (4, 222), (4, 227), (4, 228), (4, 223), (4, 225), (21, 14), (4, 226), (4, 229), (4, 230), (4, 231), (4, 232), (4, 233), (4, 234), (4, 235), (4, 236), (12, 26), (12, 27), (12, 28), (12, 29), (12, 30), (12, 32)] (by decide +kernel)
set_option maxRecDepth 20000 in
theorem wi_wsL_law0_r34 : ∀ w ∈ wsL_law0_r34, w ∈ lw_tbl := wi_l [(27, 3), (12, 33), (12, 34), (12, 36), (27, 4), (12, 37), (12, 38), (12, 40), (27, 5), (12, 41), (12, 42), (12, 44), (27, 6), (12, 45), (4, 237), (4, 238), (4, 239), (5, 0), (1, 237), (5, 1), (5, 2), (12, 46), (12, 47), (12, 48)] (by decide +kernel)
set_option maxRecDepth 20000 in
theorem wi_wsL_law0_r35 : ∀ w ∈ wsL_law0_r35, w ∈ lw_tbl := wi_l [(12, 49), (9, 4), (9, 5), (1, 0), (9, 6), (9, 7), (9, 8), (9, 9), (9, 10), (9, 11), (9, 12), (1, 23), (9, 75), (9, 76), (9, 77), (9, 78), (9, 79), (8, 43), (8, 44), (8, 45), (12, 50), (12, 51), (12, 52), (12, 53)] (by decide +kernel)
set_option maxRecDepth 20000 in
theorem wi_wsL_law0_r36 : ∀ w ∈ wsL_law0_r36, w ∈ lw_tbl := wi_l [(11, 114), (11, 115), (11, 116), (11, 117), (5, 3), (5, 4), (5, 5), (5, 6), (5, 7), (5, 8), (5, 9), (5, 10), (1, 180), (5, 11), (5, 13), (21, 15), (5, 14), (1, 112), (12, 54), (12, 55), (12, 56), (12, 57), (9, 193), (5, 15)] (by decide +kernel)
set_option maxRecDepth 20000 in
theorem wi_wsL_law0_r37 : ∀ w ∈ wsL_law0_r37, w ∈ lw_tbl := wi_l [(5, 16), (5, 17), (5, 18), (1, 181), (1, 177), (1, 122), (3, 175), (1, 124), (3, 176), (1, 183), (5, 19), (5, 20), (5, 21), (5, 22), (5, 23), (5, 24), (5, 25), (1, 125), (1, 127), (1, 115), (1, 117), (1, 121), (1, 123), (1, 130)] (by decide +kernel)
set_option maxRecDepth 20000 in
theorem wi_wsL_law0_r38 : ∀ w ∈ wsL_law0_r38, w ∈ lw_tbl := wi_l [(1, 131), (1, 132), (1, 133), (1, 134), (1, 136), (5, 26), (5, 28), (22, 0), (5, 29), (1, 126), (1, 128), (5, 30), (5, 31), (5, 32), (5, 33), (5, 35), (22, 1), (5, 36), (5, 37), (5, 38), (5, 39), (5, 40), (5, 42), (22, 2)] (by decide +kernel)
set_option maxRecDepth 20000 in
theorem wi_wsL_law0_r39 : ∀ w ∈ wsL_law0_r39, w ∈ lw_tbl := wi_l [(5, 43), (1, 129), (5, 45), (5, 46), (5, 47), (1, 24), (5, 48), (5, 49), (5, 50), (5, 51), (5, 52), (14, 68), (5, 53), (5, 54), (5, 55), (5, 56), (5, 57), (14, 67), (5, 59), (5, 60), (5, 61), (5, 62), (5, 63), (5, 64)] (by decide +kernel)
set_option maxRecDepth 20000 in
theorem wi_wsL_law0_r40 : ∀ w ∈ wsL_law0_r40, w ∈ lw_tbl := wi_l [(5, 65), (5, 66), (5, 67), (5, 68), (1, 25), (5, 69), (5, 73), (5, 74), (5, 70), (5, 71), (5, 72), (5, 75), (5, 76), (5, 77), (5, 78), (5, 79), (1, 26), (5, 80), (5, 81), (5, 82), (5, 83), (5, 84), (5, 85), (5, 86)] (by decide +kernel)
set_option maxRecDepth 20000 in
theorem wi_wsL_law0_r41 : ∀ w ∈ wsL_law0_r41, w ∈ lw_tbl := wi_l [(5, 87), (5, 88), (5, 89), (5, 90), (5, 91), (5, 92), (5, 93), (5, 94), (5, 95), (5, 96), (5, 98), (5, 99), (1, 27), (5, 100), (5, 101), (5, 102), (5, 103), (5, 104), (5, 105), (5, 106), (5, 107), (5, 109), (5, 111), (5, 113)] (by decide +kernel)
set_option maxRecDepth 20000 in
theorem wi_wsL_law0_r42 : ∀ w ∈ wsL_law0_r42, w ∈ lw_tbl := wi_l [(5, 114), (5, 115), (5, 116), (5, 117), (1, 28), (5, 118), (5, 119), (5, 120), (5, 121), (5, 122), (5, 123), (5, 124), (5, 125), (5, 126), (5, 127), (5, 129), (22, 3), (5, 130), (5, 131), (5, 133), (22, 4), (5, 134), (1, 119), (5, 135)] (by decide +kernel)
set_option maxRecDepth 20000 in
theorem wi_wsL_law0_r43 : ∀ w ∈ wsL_law0_r43, w ∈ lw_tbl := wi_l [(5, 137), (22, 5), (5, 138), (5, 140), (5, 142), (22, 6), (5, 143), (5, 144), (5, 145), (5, 146), (5, 147), (5, 148), (5, 149), (5, 150), (5, 151), (5, 152), (5, 153), (5, 154), (5, 155), (5, 156), (5, 157), (5, 158), (5, 159), (5, 160)] (by decide +kernel)
set_option maxRecDepth 20000 in
theorem wi_wsL_law0_r44 : ∀ w ∈ wsL_law0_r44, w ∈ lw_tbl := wi_l [(5, 161), (5, 162), (5, 163), (5, 164), (5, 169), (5, 171), (22, 7), (5, 172), (5, 177), (5, 179), (22, 8), (5, 180), (5, 181), (5, 183), (22, 9), (5, 184), (5, 185), (5, 187), (22, 10), (5, 188), (5, 189), (5, 191), (22, 11), (5, 192)] (by decide +kernel)
set_option maxRecDepth 20000 in
theorem wi_wsL_law0_r45 : ∀ w ∈ wsL_law0_r45, w ∈ lw_tbl := wi_l [(5, 193), (5, 195), (22, 12), (5, 196), (5, 197), (5, 199), (22, 13), (5, 200), (5, 201), (5, 203), (22, 14), (5, 204), (5, 205), (5, 207), (22, 15), (5, 208), (5, 216), (5, 218), (23, 0), (5, 219), (5, 220), (5, 222), (23, 1), (5, 223)] (by decide +kernel)
set_option maxRecDepth 20000 in
theorem wi_wsL_law0_r46 : ∀ w ∈ wsL_law0_r46, w ∈ lw_tbl := wi_l [(5, 224), (5, 226), (23, 2), (5, 227), (5, 228), (5, 230), (23, 3), (5, 231), (5, 232), (5, 234), (23, 4), (5, 235), (5, 236), (5, 237), (5, 238), (5, 239), (6, 1), (23, 5), (6, 2), (6, 3), (6, 5), (23, 6), (6, 6), (6, 7)] (by decide +kernel)
set_option maxRecDepth 20000 in
theorem wi_wsL_law0_r47 : ∀ w ∈ wsL_law0_r47, w ∈ lw_tbl := wi_l [(6, 8), (6, 9), (6, 10), (1, 120), (1, 118), (1, 116), (1, 114), (6, 11), (6, 13), (6, 12), (1, 29), (6, 14), (6, 15), (6, 16), (6, 17), (6, 18), (6, 19), (6, 20), (6, 21), (6, 22), (6, 23), (6, 24), (6, 25), (12, 58)] (by decide +kernel)
set_option maxRecDepth 20000 in
theorem wi_wsL_law0_r48 : ∀ w ∈ wsL_law0_r48, w ∈ lw_tbl := wi_l [(12, 59), (12, 60), (12, 61), (9, 194), (9, 152), (12, 62), (12, 64), (27, 7), (12, 65), (9, 200), (9, 201), (9, 195), (9, 196), (12, 66), (12, 68), (27, 8), (12, 69), (9, 197), (9, 198), (9, 202), (12, 77), (9, 199), (12, 70), (12, 72)] (by decide +kernel)
set_option maxRecDepth 20000 in
theorem wi_wsL_law0_r49 : ∀ w ∈ wsL_law0_r49, w ∈ lw_tbl := wi_l [(27, 9), (12, 73), (12, 74), (12, 75), (12, 76), (12, 78), (12, 79), (12, 80), (12, 81), (12, 82), (12, 83), (12, 84), (12, 86), (27, 10), (12, 87), (12, 89), (12, 91), (27, 11), (12, 92), (12, 93), (12, 94), (12, 95), (12, 96), (12, 97)] (by decide +kernel)
set_option maxRecDepth 20000 in
theorem wi_wsL_law0_r50 : ∀ w ∈ wsL_law0_r50, w ∈ lw_tbl := wi_l [(12, 110), (12, 112), (27, 13), (12, 113), (12, 114), (12, 116), (27, 14), (12, 117), (12, 118), (12, 120), (27, 15), (12, 121), (12, 122), (12, 124), (28, 0), (12, 125), (12, 133), (12, 134), (12, 135), (12, 136), (9, 97), (12, 137), (12, 139), (28, 1)] (by decide +kernel)
set_option maxRecDepth 20000 in
theorem wi_wsL_law0_r51 : ∀ w ∈ wsL_law0_r51, w ∈ lw_tbl := wi_l [(12, 140), (12, 141), (12, 143), (28, 2), (12, 144), (12, 145), (12, 147), (28, 3), (12, 148), (12, 149), (12, 151), (28, 4), (12, 152), (6, 27), (6, 28), (6, 29), (6, 30), (12, 153), (12, 154), (12, 155), (12, 156), (6, 31), (6, 32), (6, 33)] (by decide +kernel)
set_option maxRecDepth 20000 in
theorem wi_wsL_law0_r52 : ∀ w ∈ wsL_law0_r52, w ∈ lw_tbl := wi_l [(6, 34), (12, 157), (12, 158), (12, 159), (12, 160), (6, 35), (6, 36), (6, 37), (6, 38), (6, 39), (12, 161), (12, 162), (12, 163), (12, 164), (6, 40), (6, 41), (6, 42), (6, 43), (6, 44), (6, 45), (6, 46), (6, 47), (6, 48), (6, 50)] (by decide +kernel)
set_option maxRecDepth 20000 in
theorem wi_wsL_law0_r53 : ∀ w ∈ wsL_law0_r53, w ∈ lw_tbl := wi_l [(23, 7), (6, 51), (6, 52), (6, 53), (6, 54), (6, 55), (6, 56), (12, 165), (12, 166), (12, 167), (12, 168), (12, 169), (12, 171), (28, 5), (12, 172), (12, 173), (12, 175), (28, 6), (12, 176), (6, 57), (6, 58), (6, 59), (6, 60), (2, 70)] (by decide +kernel)
set_option maxRecDepth 20000 in
theorem wi_wsL_law0_r54 : ∀ w ∈ wsL_law0_r54, w ∈ lw_tbl := wi_l [(6, 61), (6, 62), (6, 63), (6, 64), (2, 69), (6, 66), (6, 67), (6, 68), (6, 69), (6, 70), (6, 71), (6, 72), (6, 73), (12, 177), (12, 178), (12, 179), (12, 180), (9, 204), (12, 181), (12, 183), (28, 7), (12, 184), (6, 74), (6, 75)] (by decide +kernel)
set_option maxRecDepth 20000 in
theorem wi_wsL_law0_r55 : ∀ w ∈ wsL_law0_r55, w ∈ lw_tbl := wi_l [(6, 76), (6, 77), (6, 82), (2, 68), (6, 78), (6, 79), (6, 80), (6, 81), (6, 83), (6, 84), (6, 85), (6, 86), (12, 185), (12, 186), (12, 187), (12, 188), (12, 193), (12, 189), (12, 191), (28, 8), (12, 192), (6, 87), (6, 88), (6, 89)] (by decide +kernel)
set_option maxRecDepth 20000 in
theorem wi_wsL_law0_r56 : ∀ w ∈ wsL_law0_r56, w ∈ lw_tbl := wi_l [(6, 90), (2, 72), (12, 194), (12, 195), (12, 196), (12, 197), (6, 91), (6, 92), (6, 93), (6, 94), (6, 95), (6, 96), (6, 97), (6, 98), (6, 99), (6, 100), (6, 101), (6, 102), (6, 103), (6, 114), (6, 115), (6, 104), (6, 105), (6, 107)] (by decide +kernel)
set_option maxRecDepth 20000 in
theorem wi_wsL_law0_r57 : ∀ w ∈ wsL_law0_r57, w ∈ lw_tbl := wi_l [(23, 8), (6, 108), (6, 109), (6, 111), (23, 9), (6, 112), (6, 113), (6, 116), (6, 117), (6, 118), (6, 119), (6, 120), (6, 121), (6, 122), (6, 123), (12, 198), (12, 199), (12, 200), (12, 201), (12, 202), (12, 204), (28, 9), (12, 205), (12, 206)] (by decide +kernel)
set_option maxRecDepth 20000 in
theorem wi_wsL_law0_r58 : ∀ w ∈ wsL_law0_r58, w ∈ lw_tbl := wi_l [(12, 208), (28, 10), (12, 209), (12, 210), (12, 212), (28, 11), (12, 213), (12, 214), (12, 216), (28, 12), (12, 217), (6, 124), (6, 125), (6, 126), (6, 127), (2, 114), (6, 128), (6, 129), (6, 130), (6, 131), (1, 224), (6, 132), (6, 134), (23, 10)] (by decide +kernel)
set_option maxRecDepth 20000 in
theorem wi_wsL_law0_r59 : ∀ w ∈ wsL_law0_r59, w ∈ lw_tbl := wi_l [(6, 135), (1, 228), (1, 231), (6, 136), (6, 137), (6, 138), (6, 139), (2, 111), (12, 218), (12, 219), (12, 220), (12, 221), (9, 213), (12, 222), (12, 224), (28, 13), (12, 225), (6, 140), (6, 141), (6, 142), (6, 143), (2, 117), (6, 144), (6, 146)] (by decide +kernel)
set_option maxRecDepth 20000 in
theorem wi_wsL_law0_r60 : ∀ w ∈ wsL_law0_r60, w ∈ lw_tbl := wi_l [(23, 11), (6, 147), (6, 148), (6, 149), (6, 150), (6, 151), (6, 153), (6, 154), (6, 155), (6, 156), (6, 157), (6, 158), (2, 116), (6, 159), (12, 226), (12, 227), (12, 228), (12, 229), (9, 214), (6, 160), (6, 161), (6, 162), (6, 163), (6, 177)] (by decide +kernel)
set_option maxRecDepth 20000 in
theorem wi_wsL_law0_r61 : ∀ w ∈ wsL_law0_r61, w ∈ lw_tbl := wi_l [(6, 164), (6, 165), (6, 166), (6, 167), (6, 168), (6, 169), (6, 170), (6, 171), (6, 172), (6, 173), (6, 174), (6, 175), (6, 176), (6, 178), (6, 179), (6, 180), (6, 181), (6, 182), (6, 183), (6, 184), (6, 185), (6, 186), (12, 230), (12, 231)] (by decide +kernel)
set_option maxRecDepth 20000 in
theorem wi_wsL_law0_r62 : ∀ w ∈ wsL_law0_r62, w ∈ lw_tbl := wi_l [(12, 232), (12, 233), (12, 234), (12, 235), (12, 237), (28, 14), (12, 238), (12, 239), (13, 1), (28, 15), (13, 2), (13, 3), (13, 5), (29, 0), (13, 6), (13, 7), (13, 8), (13, 9), (13, 11), (29, 1), (13, 12), (13, 13), (13, 15), (29, 2)] (by decide +kernel)
set_option maxRecDepth 20000 in
theorem wi_wsL_law0_r63 : ∀ w ∈ wsL_law0_r63, w ∈ lw_tbl := wi_l [(13, 16), (6, 187), (6, 188), (6, 189), (6, 190), (6, 191), (6, 192), (6, 193), (6, 194), (1, 239), (6, 195), (6, 196), (6, 197), (6, 198), (13, 17), (13, 18), (13, 19), (13, 20), (13, 21), (13, 23), (29, 3), (13, 24), (13, 25), (13, 27)] (by decide +kernel)
set_option maxRecDepth 20000 in
theorem wi_wsL_law0_r64 : ∀ w ∈ wsL_law0_r64, w ∈ lw_tbl := wi_l [(29, 4), (13, 28), (6, 199), (6, 200), (6, 201), (6, 202), (6, 203), (6, 204), (6, 205), (6, 206), (6, 207), (6, 209), (23, 12), (6, 210), (6, 211), (6, 212), (6, 213), (6, 214), (6, 215), (6, 216), (13, 29), (13, 30), (13, 31), (13, 32)] (by decide +kernel)
set_option maxRecDepth 20000 in
theorem wi_wsL_law0_r65 : ∀ w ∈ wsL_law0_r65, w ∈ lw_tbl := wi_l [(13, 33), (13, 35), (29, 5), (13, 36), (13, 37), (13, 38), (13, 39), (6, 217), (6, 218), (6, 219), (6, 220), (6, 221), (6, 222), (1, 30), (6, 223), (6, 224), (6, 225), (6, 226), (6, 227), (6, 228), (6, 229), (6, 230), (2, 175), (2, 112)] (by decide +kernel)
set_option maxRecDepth 20000 in
theorem wi_wsL_law0_r66 : ∀ w ∈ wsL_law0_r66, w ∈ lw_tbl := wi_l [(1, 234), (2, 115), (6, 231), (6, 232), (6, 233), (6, 234), (6, 236), (23, 13), (6, 237), (6, 238), (6, 239), (7, 0), (7, 1), (7, 2), (7, 3), (7, 4), (7, 5), (7, 6), (7, 7), (7, 8), (7, 9), (7, 10), (7, 11), (2, 3)] (by decide +kernel)
set_option maxRecDepth 20000 in
theorem wi_wsL_law0_r67 : ∀ w ∈ wsL_law0_r67, w ∈ lw_tbl := wi_l [(7, 12), (7, 13), (7, 14), (7, 15), (7, 16), (2, 156), (7, 17), (7, 19), (23, 14), (7, 20), (7, 21), (7, 22), (7, 23), (7, 24), (2, 157), (7, 25), (7, 26), (7, 27), (2, 155), (7, 28), (7, 29), (7, 31), (23, 15), (7, 32)] (by decide +kernel)
set_option maxRecDepth 20000 in
theorem wi_wsL_law0_r68 : ∀ w ∈ wsL_law0_r68, w ∈ lw_tbl := wi_l [(7, 33), (7, 34), (7, 35), (7, 36), (7, 37), (7, 38), (7, 39), (7, 40), (7, 41), (7, 42), (7, 43), (7, 44), (7, 45), (7, 47), (24, 0), (7, 48), (7, 49), (7, 50), (7, 51), (7, 52), (7, 53), (7, 54), (7, 56), (24, 1)] (by decide +kernel)
set_option maxRecDepth 20000 in
theorem wi_wsL_law0_r69 : ∀ w ∈ wsL_law0_r69, w ∈ lw_tbl := wi_l [(7, 57), (7, 58), (7, 59), (7, 61), (24, 2), (7, 62), (7, 63), (7, 65), (24, 3), (7, 66), (7, 67), (7, 68), (7, 69), (7, 70), (7, 71), (7, 72), (7, 73), (1, 31), (7, 74), (7, 75), (7, 76), (7, 77), (7, 78), (7, 79)] (by decide +kernel)
set_option maxRecDepth 20000 in
theorem wi_wsL_law0_r70 : ∀ w ∈ wsL_law0_r70, w ∈ lw_tbl := wi_l [(7, 81), (24, 4), (7, 82), (7, 83), (7, 85), (24, 5), (7, 86), (7, 87), (7, 90), (7, 92), (24, 6), (7, 93), (7, 94), (7, 96), (24, 7), (7, 97), (7, 98), (7, 99), (7, 100), (7, 101), (7, 102), (7, 103), (7, 104), (7, 105)] (by decide +kernel)
set_option maxRecDepth 20000 in
theorem wi_wsL_law0_r71 : ∀ w ∈ wsL_law0_r71, w ∈ lw_tbl := wi_l [(7, 106), (7, 107), (7, 108), (7, 109), (7, 110), (7, 111), (7, 112), (7, 113), (7, 114), (7, 115), (7, 116), (7, 117), (7, 118), (13, 40), (13, 41), (13, 42), (13, 43), (13, 75), (9, 237), (13, 44), (13, 45), (13, 46), (13, 47), (13, 49)] (by decide +kernel)
set_option maxRecDepth 20000 in
theorem wi_wsL_law0_r72 : ∀ w ∈ wsL_law0_r72, w ∈ lw_tbl := wi_l [(29, 6), (13, 50), (13, 51), (13, 53), (29, 7), (13, 54), (13, 55), (13, 56), (13, 57), (13, 58), (13, 59), (13, 60), (13, 61), (13, 62), (13, 63), (13, 64), (13, 65), (13, 66), (13, 67), (13, 68), (13, 69), (13, 70), (13, 71), (13, 72)] (by decide +kernel)
set_option maxRecDepth 20000 in
theorem wi_wsL_law0_r73 : ∀ w ∈ wsL_law0_r73, w ∈ lw_tbl := wi_l [(13, 73), (13, 74), (13, 76), (13, 78), (29, 8), (13, 79), (13, 90), (13, 80), (13, 81), (13, 82), (13, 83), (13, 85), (29, 9), (13, 86), (13, 87), (13, 88), (13, 89), (13, 91), (13, 93), (29, 10), (13, 94), (13, 95), (13, 97), (29, 11)] (by decide +kernel)
set_option maxRecDepth 20000 in
theorem wi_wsL_law0_r74 : ∀ w ∈ wsL_law0_r74, w ∈ lw_tbl := wi_l [(13, 98), (7, 119), (7, 120), (7, 121), (7, 122), (7, 123), (7, 124), (7, 125), (7, 126), (7, 131), (7, 127), (7, 129), (24, 8), (7, 130), (13, 99), (13, 100), (13, 101), (13, 102), (7, 132), (7, 133), (7, 134), (7, 135), (7, 136), (7, 137)] (by decide +kernel)
set_option maxRecDepth 20000 in
theorem wi_wsL_law0_r75 : ∀ w ∈ wsL_law0_r75, w ∈ lw_tbl := wi_l [(7, 138), (7, 139), (7, 140), (7, 141), (7, 142), (7, 143), (7, 144), (7, 145), (7, 146), (7, 147), (7, 148), (13, 103), (13, 104), (13, 105), (13, 106), (7, 149), (7, 150), (7, 151), (7, 152), (2, 167), (13, 107), (13, 108), (13, 109), (13, 110)] (by decide +kernel)
set_option maxRecDepth 20000 in
theorem wi_wsL_law0_r76 : ∀ w ∈ wsL_law0_r76, w ∈ lw_tbl := wi_l [(7, 153), (7, 154), (7, 155), (7, 156), (7, 157), (7, 158), (7, 159), (7, 160), (7, 161), (7, 162), (7, 163), (13, 111), (13, 112), (13, 113), (13, 114), (13, 115), (13, 116), (13, 117), (13, 118), (13, 119), (13, 120), (13, 121), (7, 164), (7, 165)] (by decide +kernel)
set_option maxRecDepth 20000 in
theorem wi_wsL_law0_r77 : ∀ w ∈ wsL_law0_r77, w ∈ lw_tbl := wi_l [(7, 166), (7, 167), (2, 238), (2, 236), (7, 168), (7, 169), (7, 170), (7, 171), (7, 172), (3, 13), (3, 10), (7, 223), (2, 233), (3, 11), (3, 12), (7, 173), (7, 175), (24, 9), (7, 176), (3, 3), (2, 113), (7, 177), (7, 178), (7, 180)] (by decide +kernel)
set_option maxRecDepth 20000 in
theorem wi_wsL_law0_r78 : ∀ w ∈ wsL_law0_r78, w ∈ lw_tbl := wi_l [(24, 10), (7, 181), (7, 184), (7, 185), (7, 182), (7, 183), (7, 186), (7, 188), (24, 11), (7, 189), (7, 191), (7, 197), (7, 198), (7, 192), (7, 193), (7, 194), (7, 195), (7, 199), (7, 201), (24, 12), (7, 202), (7, 203), (3, 7), (7, 204)] (by decide +kernel)
set_option maxRecDepth 20000 in
theorem wi_wsL_law0_r79 : ∀ w ∈ wsL_law0_r79, w ∈ lw_tbl := wi_l [(7, 205), (7, 206), (7, 207), (7, 208), (7, 209), (7, 210), (7, 211), (7, 213), (24, 13), (7, 214), (8, 1), (7, 215), (7, 217), (24, 14), (7, 218), (7, 219), (7, 221), (24, 15), (7, 222), (7, 224), (7, 226), (25, 0), (7, 227), (7, 228)] (by decide +kernel)
set_option maxRecDepth 20000 in
theorem wi_wsL_law0_r80 : ∀ w ∈ wsL_law0_r80, w ∈ lw_tbl := wi_l [(7, 230), (25, 1), (7, 231), (7, 232), (7, 234), (25, 2), (7, 235), (7, 236), (7, 238), (25, 3), (7, 239), (8, 0), (13, 122), (13, 123), (13, 124), (13, 125), (10, 21), (10, 20), (13, 126), (13, 128), (29, 12), (13, 129), (10, 13), (10, 14)] (by decide +kernel)
set_option maxRecDepth 20000 in
theorem wi_wsL_law0_r81 : ∀ w ∈ wsL_law0_r81, w ∈ lw_tbl := wi_l [(10, 17), (10, 18), (10, 15), (10, 16), (13, 130), (13, 132), (29, 13), (13, 133), (13, 134), (13, 135), (13, 136), (13, 137), (13, 138), (13, 140), (29, 14), (13, 141), (13, 142), (13, 144), (29, 15), (13, 145), (13, 146), (13, 148), (30, 0), (13, 149)] (by decide +kernel)
set_option maxRecDepth 20000 in
theorem wi_wsL_law0_r82 : ∀ w ∈ wsL_law0_r82, w ∈ lw_tbl := wi_l [(13, 150), (13, 152), (30, 1), (13, 153), (8, 2), (8, 3), (8, 4), (8, 5), (2, 234), (2, 232), (13, 154), (13, 155), (13, 156), (13, 157), (8, 6), (8, 7), (8, 8), (8, 9), (13, 158), (13, 159), (13, 160), (13, 161), (8, 10), (8, 11)] (by decide +kernel)
set_option maxRecDepth 20000 in
theorem wi_wsL_law0_r83 : ∀ w ∈ wsL_law0_r83, w ∈ lw_tbl := wi_l [(8, 12), (8, 13), (8, 14), (8, 15), (8, 16), (8, 17), (8, 18), (13, 162), (13, 163), (13, 164), (13, 165), (8, 19), (8, 20), (8, 21), (8, 22), (8, 23), (8, 24), (8, 25), (8, 26), (1, 238), (8, 27), (8, 28), (8, 30), (8, 32)] (by decide +kernel)
set_option maxRecDepth 20000 in
theorem wi_wsL_law0_r84 : ∀ w ∈ wsL_law0_r84, w ∈ lw_tbl := wi_l [(25, 4), (8, 33), (8, 34), (8, 36), (25, 5), (8, 37), (13, 166), (13, 167), (13, 168), (13, 169), (13, 170), (13, 172), (30, 2), (13, 173), (8, 38), (8, 39), (8, 40), (8, 41), (3, 65), (8, 42), (8, 46), (8, 47), (8, 48), (8, 49)] (by decide +kernel)
set_option maxRecDepth 20000 in
theorem wi_wsL_law0_r85 : ∀ w ∈ wsL_law0_r85, w ∈ lw_tbl := wi_l [(3, 64), (8, 50), (8, 51), (8, 52), (8, 53), (13, 174), (13, 175), (13, 176), (13, 177), (10, 25), (13, 178), (13, 180), (30, 3), (13, 181), (8, 54), (8, 55), (8, 56), (8, 57), (13, 182), (13, 183), (13, 184), (13, 185), (8, 58), (8, 59)] (by decide +kernel)
set_option maxRecDepth 20000 in
theorem wi_wsL_law0_r86 : ∀ w ∈ wsL_law0_r86, w ∈ lw_tbl := wi_l [(8, 60), (8, 61), (8, 62), (8, 63), (8, 64), (8, 65), (1, 235), (8, 71), (3, 74), (3, 66), (3, 68), (8, 66), (8, 68), (25, 6), (8, 69), (8, 70), (8, 72), (8, 74), (25, 7), (8, 75), (8, 76), (8, 78), (25, 8), (8, 79)] (by decide +kernel)
set_option maxRecDepth 20000 in
theorem wi_wsL_law0_r87 : ∀ w ∈ wsL_law0_r87, w ∈ lw_tbl := wi_l [(8, 80), (8, 81), (8, 82), (8, 83), (8, 84), (8, 85), (2, 123), (8, 86), (8, 88), (25, 9), (8, 89), (8, 90), (8, 92), (25, 10), (8, 93), (13, 186), (13, 187), (13, 188), (13, 189), (10, 26), (10, 27), (13, 190), (13, 192), (30, 4)] (by decide +kernel)
set_option maxRecDepth 20000 in
theorem wi_wsL_law0_r88 : ∀ w ∈ wsL_law0_r88, w ∈ lw_tbl := wi_l [(13, 193), (8, 94), (8, 95), (8, 96), (8, 97), (3, 67), (3, 63), (13, 194), (13, 195), (13, 196), (13, 197), (8, 98), (8, 99), (8, 100), (8, 101), (3, 69), (13, 198), (13, 199), (13, 200), (13, 201), (8, 102), (8, 103), (8, 104), (8, 105)] (by decide +kernel)
set_option maxRecDepth 20000 in
theorem wi_wsL_law0_r89 : ∀ w ∈ wsL_law0_r89, w ∈ lw_tbl := wi_l [(8, 106), (3, 116), (8, 107), (8, 108), (8, 109), (8, 110), (3, 115), (13, 202), (13, 203), (13, 204), (13, 205), (10, 35), (8, 111), (8, 112), (8, 113), (8, 114), (8, 115), (8, 116), (8, 117), (8, 118), (3, 128), (2, 4), (1, 236), (1, 225)] (by decide +kernel)
set_option maxRecDepth 20000 in
theorem wi_wsL_law0_r90 : ∀ w ∈ wsL_law0_r90, w ∈ lw_tbl := wi_l [(1, 229), (1, 232), (8, 119), (8, 120), (8, 122), (25, 11), (8, 123), (8, 131), (8, 132), (8, 124), (8, 125), (8, 126), (8, 127), (8, 129), (25, 12), (8, 130), (8, 133), (8, 135), (25, 13), (8, 136), (8, 137), (8, 138), (8, 139), (8, 140)] (by decide +kernel)
set_option maxRecDepth 20000 in
theorem wi_wsL_law0_r91 : ∀ w ∈ wsL_law0_r91, w ∈ lw_tbl := wi_l [(8, 142), (25, 14), (8, 143), (8, 144), (8, 145), (8, 146), (8, 147), (13, 206), (13, 207), (13, 208), (13, 209), (13, 210), (13, 212), (30, 5), (13, 213), (13, 214), (13, 216), (30, 6), (13, 217), (13, 218), (13, 219), (13, 220), (13, 221), (13, 222)] (by decide +kernel)
set_option maxRecDepth 20000 in
theorem wi_wsL_law0_r92 : ∀ w ∈ wsL_law0_r92, w ∈ lw_tbl := wi_l [(13, 224), (30, 7), (13, 225), (13, 226), (13, 228), (30, 8), (13, 229), (8, 148), (8, 149), (8, 150), (8, 151), (8, 152), (8, 153), (8, 154), (8, 155), (13, 230), (13, 231), (13, 232), (13, 233), (8, 156), (8, 157), (8, 158), (8, 159), (8, 160)] (by decide +kernel)
set_option maxRecDepth 20000 in
theorem wi_wsL_law0_r93 : ∀ w ∈ wsL_law0_r93, w ∈ lw_tbl := wi_l [(8, 161), (3, 118), (8, 162), (8, 163), (8, 164), (8, 165), (3, 117), (13, 234), (13, 235), (13, 236), (13, 237), (13, 238), (13, 239), (10, 45), (8, 166), (8, 167), (8, 168), (8, 169), (8, 170), (8, 171), (8, 172), (8, 173), (8, 179), (8, 174)] (by decide +kernel)
set_option maxRecDepth 20000 in
theorem wi_wsL_law0_r94 : ∀ w ∈ wsL_law0_r94, w ∈ lw_tbl := wi_l [(8, 176), (25, 15), (8, 177), (8, 178), (14, 0), (14, 1), (14, 2), (14, 3), (10, 48), (14, 4), (14, 6), (30, 9), (14, 7), (10, 49), (14, 8), (14, 10), (30, 10), (14, 11), (8, 180), (8, 181), (8, 182), (8, 183), (8, 184), (8, 185)] (by decide +kernel)
set_option maxRecDepth 20000 in
theorem wi_wsL_law0_r95 : ∀ w ∈ wsL_law0_r95, w ∈ lw_tbl := wi_l [(8, 186), (8, 187), (8, 189), (8, 188), (14, 12), (14, 13), (14, 14), (14, 15), (8, 190), (8, 191), (8, 192), (8, 193), (1, 56), (8, 194), (8, 195), (8, 196), (8, 197), (1, 55), (14, 16), (14, 17), (14, 18), (14, 19), (10, 46), (8, 198)] (by decide +kernel)
set_option maxRecDepth 20000 in
theorem wi_wsL_law0_r96 : ∀ w ∈ wsL_law0_r96, w ∈ lw_tbl := wi_l [(8, 199), (8, 200), (8, 201), (8, 202), (8, 203), (8, 204), (8, 205), (14, 20), (14, 21), (14, 22), (14, 23), (8, 206), (8, 207), (8, 208), (8, 209), (2, 74), (8, 210), (8, 211), (8, 212), (8, 213), (2, 73), (14, 24), (14, 25), (14, 26)] (by decide +kernel)
set_option maxRecDepth 20000 in
theorem wi_wsL_law0_r97 : ∀ w ∈ wsL_law0_r97, w ∈ lw_tbl := wi_l [(14, 27), (10, 47), (8, 214), (8, 215), (8, 216), (8, 217), (8, 218), (8, 219), (8, 220), (8, 221), (8, 222), (8, 223), (8, 224), (8, 225), (8, 226), (14, 28), (14, 29), (14, 30), (14, 31), (14, 32), (14, 33), (14, 34), (14, 35), (8, 227)] (by decide +kernel)
set_option maxRecDepth 20000 in
theorem wi_wsL_law0_r98 : ∀ w ∈ wsL_law0_r98, w ∈ lw_tbl := wi_l [(8, 228), (8, 229), (8, 230), (14, 36), (14, 37), (14, 38), (14, 39), (8, 231), (8, 232), (8, 233), (8, 234), (2, 7), (8, 235), (8, 236), (8, 237), (8, 238), (8, 239), (14, 40), (14, 41), (14, 42), (14, 43), (9, 0), (9, 1), (9, 2)] (by decide +kernel)
set_option maxRecDepth 20000 in
theorem wi_wsL_law0_r99 : ∀ w ∈ wsL_law0_r99, w ∈ lw_tbl := wi_l [(9, 3), (14, 44), (14, 45), (14, 46), (14, 47)] (by decide +kernel)
set_option maxRecDepth 20000 in
theorem wi_wsX110 : ∀ w ∈ wsX110, w ∈ lw_tbl := wi_l [(3, 177), (3, 179), (3, 181), (3, 183), (3, 185), (3, 187), (3, 189), (3, 191), (3, 193), (3, 195), (3, 197), (3, 199), (3, 201), (3, 203)] (by decide +kernel)
set_option maxRecDepth 20000 in
theorem wi_wsX140 : ∀ w ∈ wsX140, w ∈ lw_tbl := wi_l [(10, 57), (10, 59), (10, 61), (10, 63), (10, 65), (10, 67), (10, 69), (10, 71), (10, 73), (10, 75), (10, 77), (10, 79), (10, 81), (10, 83), (10, 85), (10, 87), (10, 89), (10, 91), (10, 93), (10, 95), (10, 97), (10, 99), (10, 101), (10, 103), (10, 105), (10, 107), (10, 109), (10, 111), (10, 113), (10, 115), (10, 117), (10, 119), (10, 121), (10, 123), (10, 125), (10, 127), (10, 129), (10, 131), (10, 133), (10, 135), (10, 137), (10, 139), (10, 141), (10, 143), (10, 145), (10, 147), (10, 149), (10, 151), (10, 153), (10, 155), (10, 157), (10, 159), (10, 161), (10, 163), (10, 165), (10, 167), (10, 169), (10, 171), (10, 173), (10, 175), (10, 177), (10, 179), (10, 181), (10, 183), (10, 185), (10, 187), (10, 189), (10, 191), (10, 193), (10, 195), (10, 197), (10, 199), (10, 201), (10, 203), (10, 205), (10, 207), (10, 209), (10, 211), (10, 213), (10, 215), (10, 217), (10, 219), (10, 221), (10, 223), (10, 225), (10, 227), (10, 229), (10, 231), (10, 233), (10, 235), (10, 237), (10, 239), (11, 1), (11, 3), (11, 5), (11, 7), (11, 9), (11, 11), (11, 13), (11, 15), (11, 17), (11, 19), (11, 21), (11, 23), (11, 25), (11, 27), (11, 29), (11, 31), (11, 33), (11, 35), (11, 37), (11, 39), (11, 41), (11, 43), (11, 45), (11, 47), (11, 49), (11, 51), (11, 53), (11, 55), (11, 57), (11, 59), (11, 61), (11, 63), (11, 65), (11, 67), (11, 69), (11, 71), (11, 73), (11, 75), (11, 77), (11, 79), (11, 81), (11, 83), (11, 85), (11, 87), (11, 89), (11, 91), (11, 93), (11, 95), (11, 97), (11, 99), (11, 101), (11, 103), (11, 105), (11, 107), (11, 109), (11, 111)] (by decide +kernel)
set_option maxRecDepth 20000 in
theorem wi_wsX50 : ∀ w ∈ wsX50, w ∈ lw_tbl := wi_l [(1, 66), (1, 68), (1, 70), (1, 72), (1, 74), (1, 76), (1, 78), (1, 80), (1, 82), (1, 84), (1, 86), (1, 88), (1, 90), (1, 92), (1, 94)] (by decide +kernel)
set_option maxRecDepth 20000 in
theorem wi_wsX90 : ∀ w ∈ wsX90, w ∈ lw_tbl := wi_l [(1, 191), (1, 193), (1, 195), (1, 197), (1, 199), (1, 201), (1, 203), (1, 205), (1, 207), (1, 209), (1, 211)] (by decide +kernel)
set_option maxRecDepth 20000 in
theorem wi_wsX30 : ∀ w ∈ wsX30, w ∈ lw_tbl := wi_l [(2, 20), (2, 22), (2, 24), (2, 26), (2, 28), (2, 30), (2, 32), (2, 34), (2, 36), (2, 38), (2, 40), (2, 42), (2, 44), (2, 46), (2, 48), (2, 50), (2, 52), (2, 54), (2, 56), (2, 58)] (by decide +kernel)
set_option maxRecDepth 20000 in
theorem wi_wsX60 : ∀ w ∈ wsX60, w ∈ lw_tbl := wi_l [(2, 82), (2, 84), (2, 86), (2, 88), (2, 90), (2, 92), (2, 94), (2, 96), (2, 98), (2, 100), (2, 102)] (by decide +kernel)
set_option maxRecDepth 20000 in
theorem wi_wsX70 : ∀ w ∈ wsX70, w ∈ lw_tbl := wi_l [(2, 124), (2, 126), (2, 128), (2, 130), (2, 132), (2, 134), (2, 136), (2, 138)] (by decide +kernel)
set_option maxRecDepth 20000 in
theorem wi_wsX00 : ∀ w ∈ wsX00, w ∈ lw_tbl := wi_l [(2, 186), (2, 188), (2, 190), (2, 192), (2, 194), (2, 196), (2, 198), (2, 200), (2, 202), (2, 204), (2, 206), (2, 208), (2, 210), (2, 212), (2, 214), (2, 216), (2, 218), (2, 220), (2, 222)] (by decide +kernel)
set_option maxRecDepth 20000 in
theorem wi_wsX40 : ∀ w ∈ wsX40, w ∈ lw_tbl := wi_l [(3, 15), (3, 17), (3, 19), (3, 21), (3, 23), (3, 25), (3, 27), (3, 29), (3, 31), (3, 33), (3, 35), (3, 37), (3, 39), (3, 41), (3, 43), (3, 45), (3, 47), (3, 49), (3, 51), (3, 53)] (by decide +kernel)
set_option maxRecDepth 20000 in
theorem wi_wsX20 : ∀ w ∈ wsX20, w ∈ lw_tbl := wi_l [(3, 80), (3, 82), (3, 84), (3, 86), (3, 88), (3, 90), (3, 92), (3, 94), (3, 96), (3, 98), (3, 100), (3, 102), (3, 104), (3, 106)] (by decide +kernel)
set_option maxRecDepth 20000 in
theorem wi_wsX100 : ∀ w ∈ wsX100, w ∈ lw_tbl := wi_l [(3, 132), (3, 134), (3, 136), (3, 138), (3, 140), (3, 142), (3, 144), (3, 146), (3, 148), (3, 150), (3, 152), (3, 154), (3, 156), (3, 158), (3, 160)] (by decide +kernel)
set_option maxRecDepth 20000 in
theorem wi_wsX80 : ∀ w ∈ wsX80, w ∈ lw_tbl := wi_l [(1, 137), (1, 139), (1, 141), (1, 143), (1, 145), (1, 147), (1, 149), (1, 151), (1, 153), (1, 155), (1, 157), (1, 159), (1, 161), (1, 163), (1, 165), (1, 167), (1, 169), (1, 171), (1, 173)] (by decide +kernel)
set_option maxRecDepth 20000 in
theorem wi_wsX10 : ∀ w ∈ wsX10, w ∈ lw_tbl := wi_l [(2, 159), (2, 161), (2, 163)] (by decide +kernel)
set_option maxRecDepth 20000 in
theorem wi_wsX120 : ∀ w ∈ wsX120, w ∈ lw_tbl := wi_l [(9, 104), (9, 106), (9, 108), (9, 110), (9, 112), (9, 114), (9, 116)] (by decide +kernel)
set_option maxRecDepth 20000 in
theorem wi_wsX130 : ∀ w ∈ wsX130, w ∈ lw_tbl := wi_l [(9, 123), (9, 124), (9, 125), (9, 126), (9, 127), (9, 146), (9, 142), (9, 144)] (by decide +kernel)
theorem wi_f {l : List Cond} (h : ∀ w ∈ l, w ∈ lw_tbl) : ∀ w ∈ l.filter goodWord, w ∈ lw_tbl := fun w hw => h w (List.mem_filter.mp hw).1
set_option maxRecDepth 20000 in
theorem wi_x0 : ∀ w ∈ rf_xw0, w ∈ lw_tbl := wi_f (wi_l [(1, 15), (1, 16), (1, 17), (1, 23), (9, 7), (9, 12), (9, 13), (9, 14), (9, 15), (9, 16), (9, 17), (9, 18), (9, 19), (9, 20), (9, 21), (9, 22), (9, 23), (9, 24), (9, 25), (9, 26), (9, 27), (9, 28), (9, 29), (9, 30), (9, 31), (9, 32), (9, 33), (9, 34), (9, 35), (9, 36)] (by decide +kernel))
set_option maxRecDepth 20000 in
theorem wi_x1 : ∀ w ∈ rf_xw1, w ∈ lw_tbl := wi_f (wi_l [(9, 37), (9, 38), (9, 39), (9, 40), (9, 41), (9, 42), (9, 43), (9, 44), (9, 45), (9, 46), (9, 47), (9, 48), (9, 49), (9, 50), (9, 51), (9, 52), (9, 53), (9, 54), (9, 55), (9, 56), (9, 57), (9, 58), (9, 59), (9, 60), (9, 61), (9, 62), (9, 63), (9, 64), (9, 65), (9, 66)] (by decide +kernel))
set_option maxRecDepth 20000 in
theorem wi_x2 : ∀ w ∈ rf_xw2, w ∈ lw_tbl := wi_f (wi_l [(9, 67), (9, 68), (9, 69), (9, 70), (9, 71), (9, 72), (9, 73), (9, 74), (9, 122), (9, 123), (9, 124), (9, 125), (9, 126), (9, 127), (9, 131), (9, 132), (9, 133), (9, 134), (9, 135), (9, 136), (9, 137), (9, 138), (9, 139), (9, 146), (9, 147), (14, 48), (14, 64), (14, 65)] (by decide +kernel))
set_option maxRecDepth 20000 in
theorem wi_x3 : ∀ w ∈ rf_xw3, w ∈ lw_tbl := wi_l [(12, 101), (12, 103), (12, 104)] (by decide +kernel)
set_option maxRecDepth 20000 in
theorem wi_x4 : ∀ w ∈ rf_xw4, w ∈ lw_tbl := wi_l [(27, 12)] (by decide +kernel)
set_option maxRecDepth 20000 in
theorem wi_all : ∀ l ∈ rf_ch, ∀ w ∈ l, w ∈ lw_tbl := List.forall_mem_cons.mpr ⟨wi_wsL_law0_r1, List.forall_mem_cons.mpr ⟨wi_wsL_law0_r2, List.forall_mem_cons.mpr ⟨wi_wsL_law0_r3, List.forall_mem_cons.mpr ⟨wi_wsL_law0_r4, List.forall_mem_cons.mpr ⟨wi_wsL_law0_r5, List.forall_mem_cons.mpr ⟨wi_wsL_law0_r6, List.forall_mem_cons.mpr ⟨wi_wsL_law0_r7, List.forall_mem_cons.mpr ⟨wi_wsL_law0_r8, List.forall_mem_cons.mpr ⟨wi_wsL_law0_r9, List.forall_mem_cons.mpr ⟨wi_wsL_law0_r10, List.forall_mem_cons.mpr ⟨wi_wsL_law0_r11, List.forall_mem_cons.mpr ⟨wi_wsL_law0_r12, List.forall_mem_cons.mpr ⟨wi_wsL_law0_r13, List.forall_mem_cons.mpr ⟨wi_wsL_law0_r14, List.forall_mem_cons.mpr ⟨wi_wsL_law0_r15, List.forall_mem_cons.mpr ⟨wi_wsL_law0_r16, List.forall_mem_cons.mpr ⟨wi_wsL_law0_r17, List.forall_mem_cons.mpr ⟨wi_wsL_law0_r18, List.forall_mem_cons.mpr ⟨wi_wsL_law0_r19, List.forall_mem_cons.mpr ⟨wi_wsL_law0_r20, List.forall_mem_cons.mpr ⟨wi_wsL_law0_r21, List.forall_mem_cons.mpr ⟨wi_wsL_law0_r22, List.forall_mem_cons.mpr ⟨wi_wsL_law0_r23, List.forall_mem_cons.mpr ⟨wi_wsL_law0_r24, List.forall_mem_cons.mpr ⟨wi_wsL_law0_r25, List.forall_mem_cons.mpr ⟨wi_wsL_law0_r26, List.forall_mem_cons.mpr ⟨wi_wsL_law0_r27, List.forall_mem_cons.mpr ⟨wi_wsL_law0_r28, List.forall_mem_cons.mpr ⟨wi_wsL_law0_r29, List.forall_mem_cons.mpr ⟨wi_wsL_law0_r30, List.forall_mem_cons.mpr ⟨wi_wsL_law0_r31, List.forall_mem_cons.mpr ⟨wi_wsL_law0_r32, List.forall_mem_cons.mpr ⟨wi_wsL_law0_r33, List.forall_mem_cons.mpr ⟨wi_wsL_law0_r34, List.forall_mem_cons.mpr ⟨wi_wsL_law0_r35, List.forall_mem_cons.mpr ⟨wi_wsL_law0_r36, List.forall_mem_cons.mpr ⟨wi_wsL_law0_r37, List.forall_mem_cons.mpr ⟨wi_wsL_law0_r38, List.forall_mem_cons.mpr ⟨wi_wsL_law0_r39, List.forall_mem_cons.mpr ⟨wi_wsL_law0_r40, List.forall_mem_cons.mpr ⟨wi_wsL_law0_r41, List.forall_mem_cons.mpr ⟨wi_wsL_law0_r42, List.forall_mem_cons.mpr ⟨wi_wsL_law0_r43, List.forall_mem_cons.mpr ⟨wi_wsL_law0_r44, List.forall_mem_cons.mpr ⟨wi_wsL_law0_r45, List.forall_mem_cons.mpr ⟨wi_wsL_law0_r46, List.forall_mem_cons.mpr ⟨wi_wsL_law0_r47, List.forall_mem_cons.mpr ⟨wi_wsL_law0_r48, List.forall_mem_cons.mpr ⟨wi_wsL_law0_r49, List.forall_mem_cons.mpr ⟨wi_wsL_law0_r50, List.forall_mem_cons.mpr ⟨wi_wsL_law0_r51, List.forall_mem_cons.mpr ⟨wi_wsL_law0_r52, List.forall_mem_cons.mpr ⟨wi_wsL_law0_r53, List.forall_mem_cons.mpr ⟨wi_wsL_law0_r54, List.forall_mem_cons.mpr ⟨wi_wsL_law0_r55, List.forall_mem_cons.mpr ⟨wi_wsL_law0_r56, List.forall_mem_cons.mpr ⟨wi_wsL_law0_r57, List.forall_mem_cons.mpr ⟨wi_wsL_law0_r58, List.forall_mem_cons.mpr ⟨wi_wsL_law0_r59, List.forall_mem_cons.mpr ⟨wi_wsL_law0_r60, List.forall_mem_cons.mpr ⟨wi_wsL_law0_r61, List.forall_mem_cons.mpr ⟨wi_wsL_law0_r62, List.forall_mem_cons.mpr ⟨wi_wsL_law0_r63, List.forall_mem_cons.mpr ⟨wi_wsL_law0_r64, List.forall_mem_cons.mpr ⟨wi_wsL_law0_r65, List.forall_mem_cons.mpr ⟨wi_wsL_law0_r66, List.forall_mem_cons.mpr ⟨wi_wsL_law0_r67, List.forall_mem_cons.mpr ⟨wi_wsL_law0_r68, List.forall_mem_cons.mpr ⟨wi_wsL_law0_r69, List.forall_mem_cons.mpr ⟨wi_wsL_law0_r70, List.forall_mem_cons.mpr ⟨wi_wsL_law0_r71, List.forall_mem_cons.mpr ⟨wi_wsL_law0_r72, List.forall_mem_cons.mpr ⟨wi_wsL_law0_r73, List.forall_mem_cons.mpr ⟨wi_wsL_law0_r74, List.forall_mem_cons.mpr ⟨wi_wsL_law0_r75, List.forall_mem_cons.mpr ⟨wi_wsL_law0_r76, List.forall_mem_cons.mpr ⟨wi_wsL_law0_r77, List.forall_mem_cons.mpr ⟨wi_wsL_law0_r78, List.forall_mem_cons.mpr ⟨wi_wsL_law0_r79, List.forall_mem_cons.mpr ⟨wi_wsL_law0_r80, List.forall_mem_cons.mpr ⟨wi_wsL_law0_r81, List.forall_mem_cons.mpr ⟨wi_wsL_law0_r82, List.forall_mem_cons.mpr ⟨wi_wsL_law0_r83, List.forall_mem_cons.mpr ⟨wi_wsL_law0_r84, List.forall_mem_cons.mpr ⟨wi_wsL_law0_r85, List.forall_mem_cons.mpr ⟨wi_wsL_law0_r86, List.forall_mem_cons.mpr ⟨wi_wsL_law0_r87, List.forall_mem_cons.mpr ⟨wi_wsL_law0_r88, List.forall_mem_cons.mpr ⟨wi_wsL_law0_r89, List.forall_mem_cons.mpr ⟨wi_wsL_law0_r90, List.forall_mem_cons.mpr ⟨wi_wsL_law0_r91, List.forall_mem_cons.mpr ⟨wi_wsL_law0_r92, List.forall_mem_cons.mpr ⟨wi_wsL_law0_r93, List.forall_mem_cons.mpr ⟨wi_wsL_law0_r94, List.forall_mem_cons.mpr ⟨wi_wsL_law0_r95, List.forall_mem_cons.mpr ⟨wi_wsL_law0_r96, List.forall_mem_cons.mpr ⟨wi_wsL_law0_r97, List.forall_mem_cons.mpr ⟨wi_wsL_law0_r98, List.forall_mem_cons.mpr ⟨wi_wsL_law0_r99, List.forall_mem_cons.mpr ⟨wi_wsX110, List.forall_mem_cons.mpr ⟨wi_wsX140, List.forall_mem_cons.mpr ⟨wi_wsX50, List.forall_mem_cons.mpr ⟨wi_wsX90, List.forall_mem_cons.mpr ⟨wi_wsX30, List.forall_mem_cons.mpr ⟨wi_wsX60, List.forall_mem_cons.mpr ⟨wi_wsX70, List.forall_mem_cons.mpr ⟨wi_wsX00, List.forall_mem_cons.mpr ⟨wi_wsX40, List.forall_mem_cons.mpr ⟨wi_wsX20, List.forall_mem_cons.mpr ⟨wi_wsX100, List.forall_mem_cons.mpr ⟨wi_wsX80, List.forall_mem_cons.mpr ⟨wi_wsX10, List.forall_mem_cons.mpr ⟨wi_wsX120, List.forall_mem_cons.mpr ⟨wi_wsX130, List.forall_mem_cons.mpr ⟨wi_x0, List.forall_mem_cons.mpr ⟨wi_x1, List.forall_mem_cons.mpr ⟨wi_x2, List.forall_mem_cons.mpr ⟨wi_x3, List.forall_mem_cons.mpr ⟨wi_x4, fun _ h => absurd h List.not_mem_nil⟩⟩⟩⟩⟩⟩⟩⟩⟩⟩⟩⟩⟩⟩⟩⟩⟩⟩⟩⟩⟩⟩⟩⟩⟩⟩⟩⟩⟩⟩⟩⟩⟩⟩⟩⟩⟩⟩⟩⟩⟩⟩⟩⟩⟩⟩⟩⟩⟩⟩⟩⟩⟩⟩⟩⟩⟩⟩⟩⟩⟩⟩⟩⟩⟩⟩⟩⟩⟩⟩⟩⟩⟩⟩⟩⟩⟩⟩⟩⟩⟩⟩⟩⟩⟩⟩⟩⟩⟩⟩⟩⟩⟩⟩⟩⟩⟩⟩⟩⟩⟩⟩⟩⟩⟩⟩⟩⟩⟩⟩⟩⟩⟩⟩⟩⟩⟩⟩⟩
theorem rf_WS_in : ∀ w ∈ rf_WS, w ∈ lw_tbl := by
  intro w hw
  obtain ⟨l, hl, hw⟩ := List.mem_flatten.mp hw
  exact wi_all l hl w hw
