/-! the class's whole numbers: floors; where they lie -/
section PBBig8
theorem qV_pos {x y : Int} (hy : 0 < y) : qV x y = if x < 0 then - (- x / y) else x / y := by
  have e : mg y = y := by unfold mg; rw [if_neg (by omega)]
  unfold qV
  rw [e]
  unfold mg
  by_cases q : x < 0
  · rw [if_pos q, if_pos q, if_neg (by omega)]
  · rw [if_neg q, if_neg q, if_pos (by omega)]
theorem rV_pos {x y : Int} (hy : 0 < y) : rV x y = if x < 0 then - (- x % y) else x % y := by
  have e : mg y = y := by unfold mg; rw [if_neg (by omega)]
  unfold rV
  rw [e]
  unfold mg
  by_cases q : x < 0
  · rw [if_pos q, if_pos q, if_pos q]
  · rw [if_neg q, if_neg q, if_neg q]
theorem qV_ex {k y : Int} (hy : y ≠ 0) : qV (k * y) y = k := by
  have mk : mg (k * y) = mg k * mg y := by
    unfold mg
    rcases Int.lt_or_le y 0 with h1 | h1 <;> rcases Int.lt_or_le k 0 with h2 | h2
    · have := Int.mul_pos_of_neg_of_neg h2 h1
      rw [if_neg (by omega), if_pos h2, if_pos h1]; grind
    · rcases Int.lt_or_le 0 k with h3 | h3
      · have := Int.mul_neg_of_pos_of_neg h3 h1
        rw [if_pos this, if_neg (by omega), if_pos h1]; grind
      · have : k = 0 := by omega
        subst this
        rw [Int.zero_mul, if_neg (by omega), if_pos h1]; omega
    · have := Int.mul_neg_of_neg_of_pos h2 (show 0 < y by omega)
      rw [if_pos this, if_pos h2, if_neg (by omega)]; grind
    · have := Int.mul_nonneg h2 h1
      rw [if_neg (by omega), if_neg (by omega), if_neg (by omega)]
  have yp := mg_pos hy
  unfold qV
  rw [mk, Int.mul_ediv_cancel _ (by omega)]
  rcases Int.lt_or_le y 0 with h1 | h1 <;> rcases Int.lt_or_le k 0 with h2 | h2
  · have := Int.mul_pos_of_neg_of_neg h2 h1
    rw [if_neg (by omega)]; unfold mg; rw [if_pos h2]; omega
  · rcases Int.lt_or_le 0 k with h3 | h3
    · have := Int.mul_neg_of_pos_of_neg h3 h1
      rw [if_pos (by omega)]; unfold mg; rw [if_neg (by omega)]
    · have : k = 0 := by omega
      subst this
      rw [Int.zero_mul]
      split <;> rfl
  · have := Int.mul_neg_of_neg_of_pos h2 (show 0 < y by omega)
    rw [if_neg (by omega)]; unfold mg; rw [if_pos h2]; omega
  · have := Int.mul_nonneg h2 h1
    rw [if_pos (by omega)]; unfold mg; rw [if_neg (by omega)]
theorem setFloor_c {w : rf_w} {m : rf_m} {a b c r s : Nat} {x y : Int} (ha : bC w a) (hb : bC w b) (hc : bC w c) (hr : bC w r) (hs : bC w s) (ar : a ≠ r) (as : a ≠ s) (rs : r ≠ s) (ab : a ≠ b) (ac : a ≠ c) (rb : r ≠ b) (rc : r ≠ c) (sb : s ≠ b) (sc : s ≠ c) (hx : bg m b x) (hy : bg m c y) (bx : mg x < pB 9) (y0 : 0 < y) : ∃ m', g_X1_setFloor w m a b c r s = some m' ∧ qF a r s m m' ∧ bg m' a (x / y) := by
  obtain ⟨M1, k1, k2, k3, k4⟩ := setQuotient_c ha hb hc hr hs ar as rs ab ac rb rc sb sc hx hy bx (show y ≠ 0 by omega)
  rw [qV_pos y0] at k3
  rw [rV_pos y0] at k4
  have hx1 := bg_q hx k2 (Ne.symm ab) (Ne.symm rb) (Ne.symm sb)
  have hy1 := bg_q hy k2 (Ne.symm ac) (Ne.symm rc) (Ne.symm sc)
  obtain ⟨nx, sx, mx, gx⟩ := bg_mg hx1
  obtain ⟨ny, sy, my, gy⟩ := bg_mg hy1
  obtain ⟨nr, sr, mr, gr⟩ := bg_mg k4
  have o10 : ¬ (1 : Int32) = 0 := by decide
  have ys : M1.1 c 1 = 0 := by rcases gy with ⟨q, _⟩ | ⟨_, q⟩; exact q; omega
  unfold g_X1_setFloor
  rw [bC_g ha, bC_g hb, bC_g hc, bC_g hr, bC_g hs, k1, bv_sm, sr.2.1]
  have n10 := sr.1
  by_cases q : nr = 0
  · have z : Int32.ofNat nr ≤ 0 := by rw [q]; decide
    have r0 := (bgs_0 sr).mp q
    rw [← mr] at r0
    rw [if_pos z]
    refine ⟨M1, rfl, k2, ?_⟩
    by_cases p : x < 0
    · rw [if_pos p] at k3
      rw [if_pos p] at r0
      have : - x % y = 0 := by
        refine Classical.byContradiction fun u => ?_
        have := mg_pos (show - (- x % y) ≠ 0 by omega)
        omega
      have e : x / y = - (- x / y) := by
        have d1 := Int.emod_add_mul_ediv (- x) y
        rw [this] at d1
        have : x = y * (- (- x / y)) := by grind
        have u : x / y = y * (- (- x / y)) / y := congrArg (fun t => t / y) this
        rw [Int.mul_ediv_cancel_left _ (show y ≠ 0 by omega)] at u
        exact u
      rw [e]; exact k3
    · rw [if_neg p] at k3
      exact k3
  · have z : ¬ Int32.ofNat nr ≤ 0 := fun z => q (by have := (of_le (b := 0) (by omega) (by omega)).mp z; omega)
    rw [if_neg z, ys]
    rcases gx with ⟨g1, g2⟩ | ⟨g1, g2⟩
    · rw [g1, if_pos rfl]
      refine ⟨M1, rfl, k2, ?_⟩
      rw [if_neg (by omega)] at k3
      exact k3
    · rw [g1, if_neg o10]
      rw [if_pos g2] at k3
      have r0 : ¬ - x % y = 0 := fun u => q ((bgs_0 sr).mpr (by rw [← mr, if_pos g2, u]; rfl))
      obtain ⟨M2, l1, l2, l3⟩ := setLong_c (w := w) (m := M1) (a := s) (x := 1) hs (by decide)
      have z1 : (1 : Int64).toInt = 1 := rfl
      rw [z1] at l3
      have dm := Int.emod_add_mul_ediv (- x) y
      have m0 := Int.emod_nonneg (- x) (show y ≠ 0 by omega)
      have m1 := Int.emod_lt_of_pos (- x) y0
      have qn : 0 ≤ - x / y := Int.ediv_nonneg (by omega) (by omega)
      have ql : - x / y ≤ - x := Int.ediv_le_self _ (by omega)
      have mgx : mg x = - x := by unfold mg; rw [if_pos g2]
      have mgq : mg (- (- x / y)) = - x / y := by unfold mg; split <;> omega
      have pp : (1 : Int) < pB 9 := by decide
      obtain ⟨M3, t1, t2, t3⟩ := addSigned_c ha hs as (Or.inr rfl) (bg_F k3 l2 as) l3 (by rw [mgq]; omega) (by show (1 : Int) < _; exact pp)
      rw [if_neg o10] at t3
      refine ⟨M3, by rw [l1, bv_sm, t1, bv_sm], qF_trans k2 (qF_trans (qF_F l2 (Or.inr (Or.inr rfl))) (qF_F t2 (Or.inl rfl))), ?_⟩
      have e : x / y = - (- x / y) - 1 := by
        have : x = (y - - x % y) + y * (- (- x / y) - 1) := by grind
        have u : x / y = ((y - - x % y) + y * (- (- x / y) - 1)) / y := congrArg (fun t => t / y) this
        have z1 := Int.ediv_eq_zero_of_lt (a := y - - x % y) (b := y) (by omega) (by omega)
        rw [Int.add_mul_ediv_left _ _ (show y ≠ 0 by omega), z1, Int.zero_add] at u
        exact u
      rw [e]
      exact t3
theorem bC_63 {w : rf_w} : bC w 63 := ⟨rfl, rfl, rfl⟩
theorem bC_65 {w : rf_w} : bC w 65 := ⟨rfl, rfl, rfl⟩
theorem bC_67 {w : rf_w} : bC w 67 := ⟨rfl, rfl, rfl⟩
theorem bC_69 {w : rf_w} : bC w 69 := ⟨rfl, rfl, rfl⟩
theorem bC_71 {w : rf_w} : bC w 71 := ⟨rfl, rfl, rfl⟩
theorem bC_73 {w : rf_w} : bC w 73 := ⟨rfl, rfl, rfl⟩
theorem bC_75 {w : rf_w} : bC w 75 := ⟨rfl, rfl, rfl⟩
theorem bC_77 {w : rf_w} : bC w 77 := ⟨rfl, rfl, rfl⟩
theorem bC_79 {w : rf_w} : bC w 79 := ⟨rfl, rfl, rfl⟩
theorem bC_81 {w : rf_w} : bC w 81 := ⟨rfl, rfl, rfl⟩
theorem bC_83 {w : rf_w} : bC w 83 := ⟨rfl, rfl, rfl⟩
theorem bC_85 {w : rf_w} : bC w 85 := ⟨rfl, rfl, rfl⟩
theorem bC_87 {w : rf_w} : bC w 87 := ⟨rfl, rfl, rfl⟩
theorem bC_89 {w : rf_w} : bC w 89 := ⟨rfl, rfl, rfl⟩
theorem bC_91 {w : rf_w} : bC w 91 := ⟨rfl, rfl, rfl⟩
theorem bC_93 {w : rf_w} : bC w 93 := ⟨rfl, rfl, rfl⟩
theorem bC_95 {w : rf_w} : bC w 95 := ⟨rfl, rfl, rfl⟩
theorem bC_97 {w : rf_w} : bC w 97 := ⟨rfl, rfl, rfl⟩
theorem bC_99 {w : rf_w} : bC w 99 := ⟨rfl, rfl, rfl⟩
theorem bC_101 {w : rf_w} : bC w 101 := ⟨rfl, rfl, rfl⟩
theorem bC_103 {w : rf_w} : bC w 103 := ⟨rfl, rfl, rfl⟩
theorem bC_105 {w : rf_w} : bC w 105 := ⟨rfl, rfl, rfl⟩
theorem bC_107 {w : rf_w} : bC w 107 := ⟨rfl, rfl, rfl⟩
theorem bC_109 {w : rf_w} : bC w 109 := ⟨rfl, rfl, rfl⟩
theorem bC_111 {w : rf_w} : bC w 111 := ⟨rfl, rfl, rfl⟩
theorem bC_113 {w : rf_w} : bC w 113 := ⟨rfl, rfl, rfl⟩
theorem bC_115 {w : rf_w} : bC w 115 := ⟨rfl, rfl, rfl⟩
theorem bC_117 {w : rf_w} : bC w 117 := ⟨rfl, rfl, rfl⟩
theorem bC_119 {w : rf_w} : bC w 119 := ⟨rfl, rfl, rfl⟩
theorem bC_121 {w : rf_w} : bC w 121 := ⟨rfl, rfl, rfl⟩
theorem bC_123 {w : rf_w} : bC w 123 := ⟨rfl, rfl, rfl⟩
theorem bC_125 {w : rf_w} : bC w 125 := ⟨rfl, rfl, rfl⟩
theorem bC_127 {w : rf_w} : bC w 127 := ⟨rfl, rfl, rfl⟩
theorem bC_129 {w : rf_w} : bC w 129 := ⟨rfl, rfl, rfl⟩
theorem bC_131 {w : rf_w} : bC w 131 := ⟨rfl, rfl, rfl⟩
theorem bC_133 {w : rf_w} : bC w 133 := ⟨rfl, rfl, rfl⟩
theorem bC_135 {w : rf_w} : bC w 135 := ⟨rfl, rfl, rfl⟩
theorem bC_137 {w : rf_w} : bC w 137 := ⟨rfl, rfl, rfl⟩
theorem bC_139 {w : rf_w} : bC w 139 := ⟨rfl, rfl, rfl⟩
theorem bC_141 {w : rf_w} : bC w 141 := ⟨rfl, rfl, rfl⟩
theorem bC_143 {w : rf_w} : bC w 143 := ⟨rfl, rfl, rfl⟩
theorem bC_145 {w : rf_w} : bC w 145 := ⟨rfl, rfl, rfl⟩
theorem bC_147 {w : rf_w} : bC w 147 := ⟨rfl, rfl, rfl⟩
theorem bC_149 {w : rf_w} : bC w 149 := ⟨rfl, rfl, rfl⟩
theorem bC_151 {w : rf_w} : bC w 151 := ⟨rfl, rfl, rfl⟩
theorem bC_153 {w : rf_w} : bC w 153 := ⟨rfl, rfl, rfl⟩
theorem bC_155 {w : rf_w} : bC w 155 := ⟨rfl, rfl, rfl⟩
theorem bC_157 {w : rf_w} : bC w 157 := ⟨rfl, rfl, rfl⟩
theorem bC_159 {w : rf_w} : bC w 159 := ⟨rfl, rfl, rfl⟩
theorem bC_161 {w : rf_w} : bC w 161 := ⟨rfl, rfl, rfl⟩
theorem bC_163 {w : rf_w} : bC w 163 := ⟨rfl, rfl, rfl⟩
theorem bC_165 {w : rf_w} : bC w 165 := ⟨rfl, rfl, rfl⟩
theorem bC_167 {w : rf_w} : bC w 167 := ⟨rfl, rfl, rfl⟩
theorem bC_169 {w : rf_w} : bC w 169 := ⟨rfl, rfl, rfl⟩
theorem bC_171 {w : rf_w} : bC w 171 := ⟨rfl, rfl, rfl⟩
theorem bC_173 {w : rf_w} : bC w 173 := ⟨rfl, rfl, rfl⟩
theorem bC_m {w : rf_w} : ∀ i, i < 42 → bC w (79 + 2 * i)
  | 0, _ => bC_79
  | 1, _ => bC_81
  | 2, _ => bC_83
  | 3, _ => bC_85
  | 4, _ => bC_87
  | 5, _ => bC_89
  | 6, _ => bC_91
  | 7, _ => bC_93
  | 8, _ => bC_95
  | 9, _ => bC_97
  | 10, _ => bC_99
  | 11, _ => bC_101
  | 12, _ => bC_103
  | 13, _ => bC_105
  | 14, _ => bC_107
  | 15, _ => bC_109
  | 16, _ => bC_111
  | 17, _ => bC_113
  | 18, _ => bC_115
  | 19, _ => bC_117
  | 20, _ => bC_119
  | 21, _ => bC_121
  | 22, _ => bC_123
  | 23, _ => bC_125
  | 24, _ => bC_127
  | 25, _ => bC_129
  | 26, _ => bC_131
  | 27, _ => bC_133
  | 28, _ => bC_135
  | 29, _ => bC_137
  | 30, _ => bC_139
  | 31, _ => bC_141
  | 32, _ => bC_143
  | 33, _ => bC_145
  | 34, _ => bC_147
  | 35, _ => bC_149
  | 36, _ => bC_151
  | 37, _ => bC_153
  | 38, _ => bC_155
  | 39, _ => bC_157
  | 40, _ => bC_159
  | 41, _ => bC_161
  | i + 42, h => absurd h (by omega)
theorem bC_f {w : rf_w} : ∀ i, i < 6 → bC w (163 + 2 * i)
  | 0, _ => bC_163
  | 1, _ => bC_165
  | 2, _ => bC_167
  | 3, _ => bC_169
  | 4, _ => bC_171
  | 5, _ => bC_173
  | i + 6, h => absurd h (by omega)
theorem Rt_61 {w : rf_w} : ∀ i, i < 42 → rf_Rt w 61 i = some (79 + 2 * i)
  | 0, _ => rfl
  | 1, _ => rfl
  | 2, _ => rfl
  | 3, _ => rfl
  | 4, _ => rfl
  | 5, _ => rfl
  | 6, _ => rfl
  | 7, _ => rfl
  | 8, _ => rfl
  | 9, _ => rfl
  | 10, _ => rfl
  | 11, _ => rfl
  | 12, _ => rfl
  | 13, _ => rfl
  | 14, _ => rfl
  | 15, _ => rfl
  | 16, _ => rfl
  | 17, _ => rfl
  | 18, _ => rfl
  | 19, _ => rfl
  | 20, _ => rfl
  | 21, _ => rfl
  | 22, _ => rfl
  | 23, _ => rfl
  | 24, _ => rfl
  | 25, _ => rfl
  | 26, _ => rfl
  | 27, _ => rfl
  | 28, _ => rfl
  | 29, _ => rfl
  | 30, _ => rfl
  | 31, _ => rfl
  | 32, _ => rfl
  | 33, _ => rfl
  | 34, _ => rfl
  | 35, _ => rfl
  | 36, _ => rfl
  | 37, _ => rfl
  | 38, _ => rfl
  | 39, _ => rfl
  | 40, _ => rfl
  | 41, _ => rfl
  | i + 42, h => absurd h (by omega)
theorem Rt_62 {w : rf_w} : ∀ i, i < 6 → rf_Rt w 62 i = some (163 + 2 * i)
  | 0, _ => rfl
  | 1, _ => rfl
  | 2, _ => rfl
  | 3, _ => rfl
  | 4, _ => rfl
  | 5, _ => rfl
  | i + 6, h => absurd h (by omega)
end PBBig8
