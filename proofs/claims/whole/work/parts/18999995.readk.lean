/-! read: the two sides -/
section PBReadK
def adM (m : rf_m) (n a x : Nat) (v h p t : Int32) : rf_m := rf_i (rf_i (rf_i (rf_i (rf_i (rf_i (rf_i (rf_i (rf_i (rf_i (rf_i m 32 (9 * n) (Int32.ofNat a)) 32 (9 * n + 1) v) 36 n (-1)) 33 (20 * a + x) (Int32.ofNat n)) 34 (9 * a + 6) (Int32.ofNat x + 1)) 26 7 (Int32.ofNat n + 1)) 40 a 1) 26 19 1) 32 (9 * n + 2) h) 32 (9 * n + 3) p) 32 (9 * n + 4) t
theorem nine {n k : Nat} (hn : n < 1200) (hk : k < 9) : Int32.ofNat n * 9 + Int32.ofNat k = Int32.ofNat (9 * n + k) := by
  apply Int32.toInt_inj.mp
  have o1 : (Int32.ofNat n).toInt = n := ofI (by omega)
  have o9 : (9 : Int32).toInt = 9 := by decide
  have m9 : (Int32.ofNat n * 9).toInt = n * 9 := by rw [mulI (by rw [o1, o9]; omega) (by rw [o1, o9]; omega), o1, o9]
  rw [addI (by rw [m9, ofI (by omega)]; omega) (by rw [m9, ofI (by omega)]; omega), m9, ofI (by omega), ofI (by omega)]
  omega
theorem twenty {a x : Nat} (ha : a < 80) (hx : x < 20) : Int32.ofNat a * 20 + Int32.ofNat x = Int32.ofNat (20 * a + x) := by
  apply Int32.toInt_inj.mp
  have o1 : (Int32.ofNat a).toInt = a := ofI (by omega)
  have o9 : (20 : Int32).toInt = 20 := by decide
  have m9 : (Int32.ofNat a * 20).toInt = a * 20 := by rw [mulI (by rw [o1, o9]; omega) (by rw [o1, o9]; omega), o1, o9]
  rw [addI (by rw [m9, ofI (by omega)]; omega) (by rw [m9, ofI (by omega)]; omega), m9, ofI (by omega), ofI (by omega)]
  omega
theorem addR_c {w : rf_w} {m : rf_m} {n a x : Nat} {v h p : Int32} (hn : m.1 26 7 = Int32.ofNat n) (h12 : n < 1200) (ha : a < 80) (hx : m.1 34 (9 * a + 6) = Int32.ofNat x) (hx20 : x < 20) : rf_b (g_X3_addReading w m (Int32.ofNat a) v) (fun y7 m7 => rf_bv (g_X3_sign w m7 y7 h p (m7.1 0 10)) fun m8 => some (y7, m8)) = some (Int32.ofNat n, adM m n a x v h p (m.1 0 10)) := by
  have n0 : Int32.ofNat n * 9 + 0 = Int32.ofNat (9 * n) := nine (k := 0) h12 (by omega)
  have n1 : Int32.ofNat n * 9 + 1 = Int32.ofNat (9 * n + 1) := nine (k := 1) h12 (by omega)
  have n2 : Int32.ofNat n * 9 + 2 = Int32.ofNat (9 * n + 2) := nine (k := 2) h12 (by omega)
  have n3 : Int32.ofNat n * 9 + 3 = Int32.ofNat (9 * n + 3) := nine (k := 3) h12 (by omega)
  have n4 : Int32.ofNat n * 9 + 4 = Int32.ofNat (9 * n + 4) := nine (k := 4) h12 (by omega)
  have a6 : Int32.ofNat a * 9 + 6 = Int32.ofNat (9 * a + 6) := nine (k := 6) (by omega) (by omega)
  have ax := twenty ha hx20
  have add : g_X3_addReading w m (Int32.ofNat a) v = some (Int32.ofNat n, rf_i (rf_i (rf_i (rf_i (rf_i (rf_i (rf_i (rf_i m 32 (9 * n) (Int32.ofNat a)) 32 (9 * n + 1) v) 36 n (-1)) 33 (20 * a + x) (Int32.ofNat n)) 34 (9 * a + 6) (Int32.ofNat x + 1)) 26 7 (Int32.ofNat n + 1)) 40 a 1) 26 19 1) := by
    unfold g_X3_addReading
    show rf_g (rf_in ((m.1 26 7) * 9 + 0) 10800) (rf_g (rf_in ((m.1 26 7) * 9 + 1) 10800) (rf_g (rf_in (m.1 26 7) 1200) (rf_g (rf_in (Int32.ofNat a * 9 + 6) 720) (rf_vi (m.1 34 (Int32.ofNat a * 9 + 6).toNatClampNeg) fun x4 => rf_g (rf_in (Int32.ofNat a * 20 + x4) 1600) (rf_g (rf_in (Int32.ofNat a * 9 + 6) 720) (rf_bv (g_X3_forget w (rf_i (rf_i (rf_i (rf_i (rf_i (rf_i m 32 ((m.1 26 7) * 9 + 0).toNatClampNeg (Int32.ofNat a)) 32 ((m.1 26 7) * 9 + 1).toNatClampNeg v) 36 (m.1 26 7).toNatClampNeg (-1)) 33 (Int32.ofNat a * 20 + x4).toNatClampNeg (m.1 26 7)) 34 (Int32.ofNat a * 9 + 6).toNatClampNeg (x4 + 1)) 26 7 (m.1 26 7 + 1)) (Int32.ofNat a)) fun m7 => some (m.1 26 7, m7))))))) = _
    rw [hn, n0, n1, a6, gof (by omega) (by decide), g_t, gof (by omega) (by decide), g_t, gof (by omega) (by decide), g_t, gof (by omega) (by decide), g_t, tn_of (by omega), tn_of (by omega), tn_of (by omega), tn_of (by omega), hx]
    show rf_g (rf_in (Int32.ofNat a * 20 + Int32.ofNat x) 1600) _ = _
    rw [ax, gof (by omega) (by decide), g_t, g_t]
    unfold g_X3_forget
    rw [gof (by omega) (by decide), g_t, bv_sm, tn_of (by omega), tn_of (by omega), nar01 (Or.inr rfl)]
  rw [add, b_sm]
  unfold g_X3_sign
  rw [n2, n3, n4, gof (by omega) (by decide), g_t, gof (by omega) (by decide), g_t, gof (by omega) (by decide), g_t, bv_sm, tn_of (by omega), tn_of (by omega), tn_of (by omega)]
  rfl
/-- the reference's memory behind a reading -/
def arM (M : rf_m) (n a : Nat) (v h p : Int32) : rf_m := rf_i (rf_i (rf_i (rf_i (rf_i (rf_i (rf_i (rf_i (rf_i M 220 n (Int32.ofNat a)) 221 n v) 222 n h) 223 n p) 224 n (M.1 206 5)) 216 n 0) 206 17 (Int32.ofNat n + 1)) 206 1 0) 206 2 (-1)
theorem addR_r {w : rf_w} {m M : rf_m} {n a : Nat} {v h p : Int32} (j : JRead m) (h17 : M.1 206 17 = m.1 206 17) (h20 : M.1 220 = m.1 220) (hn : m.1 206 17 = Int32.ofNat n) (h12 : n < 1200) (hx : (rdl m a).length < 20) : g_X14_read_99 w (Int32.ofNat a) h p v M = some (Int32.ofNat n, arM M n a v h p) := by
  have ne : ¬ M.1 206 17 = 1200 := by
    rw [h17, hn]
    exact fun q => by have := (of_inj (b := 1200) (by omega) (by omega)).mp q; omega
  have n20 : ¬ Int32.ofNat (rdl m a).length = 20 := fun q => by have := (of_inj (b := 20) (by omega) (by omega)).mp q; omega
  have rr := readingsOf_r (w := w) (a := a) j h17 h20
  have nb : vp_nar .boolean 0 = 0 := by decide
  have s1 : Int32.ofNat n + 1 - 1 = Int32.ofNat n := by rw [of_succ, ofm1']
  unfold g_X14_read_99
  rw [if_neg ne, rr, b_sm, if_neg n20]
  show rf_g (rf_in (M.1 206 17) 1200) (rf_g (rf_in (M.1 206 17) 1200) (rf_g (rf_in (M.1 206 17) 1200) (rf_g (rf_in (M.1 206 17) 1200) (rf_g (rf_in (M.1 206 17) 1200) (rf_g (rf_in (M.1 206 17) 1200) (rf_b (g_X14_done w (rf_i (rf_i (rf_i (rf_i (rf_i (rf_i (rf_i M 220 (M.1 206 17).toNatClampNeg (Int32.ofNat a)) 221 (M.1 206 17).toNatClampNeg v) 222 (M.1 206 17).toNatClampNeg h) 223 (M.1 206 17).toNatClampNeg p) 224 (M.1 206 17).toNatClampNeg (M.1 206 5)) 216 (M.1 206 17).toNatClampNeg (vp_nar .boolean 0)) 206 17 (M.1 206 17 + 1)) (M.1 206 17 + 1 - 1)) fun y8 m8 => some (y8, m8))))))) = _
  rw [h17, hn, gof h12 (by decide), g_t, g_t, g_t, g_t, g_t, g_t, tn_of (by omega), nb, s1]
  rfl
end PBReadK
