/-! longs: shifts and masks -/
section PBLbits
theorem shL_amt : ∀ u, u < 64 → (Int32.toInt64 (Int32.ofNat u) &&& 63).toBitVec.smod 64 = BitVec.ofNat 64 u := by decide
theorem shL_amt2 : ∀ u, u < 64 → ((Int32.toInt64 (Int32.ofNat u)).toUInt64 &&& Int64.toUInt64 63).toBitVec % 64 = BitVec.ofNat 64 u := by decide
theorem sarS {x : Int64} {s : Nat} (hs : s < 64) : (x >>> (Int32.toInt64 (Int32.ofNat s) &&& 63)).toInt = x.toInt / 2 ^ s := by
  have e : (x >>> (Int32.toInt64 (Int32.ofNat s) &&& 63)).toBitVec = x.toBitVec.sshiftRight s := by
    rw [Int64.toBitVec_shiftRight, shL_amt s hs]
    show x.toBitVec.sshiftRight (BitVec.ofNat 64 s).toNat = _
    rw [BitVec.toNat_ofNat, Nat.mod_eq_of_lt (by omega)]
  show (x >>> (Int32.toInt64 (Int32.ofNat s) &&& 63)).toBitVec.toInt = _
  rw [e, BitVec.toInt_sshiftRight, Int.shiftRight_eq_div_pow]
  rfl
theorem sar30 {x : Int64} : (x >>> (Int32.toInt64 30 &&& 63)).toInt = x.toInt / 1073741824 := sarS (x := x) (s := 30) (by decide)
theorem toI_nn {x : Int64} (h : 0 ≤ x.toInt) : x.toInt = (x.toBitVec.toNat : Int) := by
  have h1 : x.toInt = x.toBitVec.toInt := rfl
  rw [h1] at h ⊢
  rw [BitVec.toInt_eq_toNat_cond] at h ⊢
  have := x.toBitVec.isLt
  split at h
  · rename_i q; rw [if_pos q]
  · omega
theorem andM {x : Int64} {k : Nat} (hk : k < 63) {c : Int64} (hc : c.toBitVec.toNat = 2 ^ k - 1) : (x &&& c).toInt = x.toInt % 2 ^ k := by
  have h1 : (x &&& c).toBitVec.toNat = x.toBitVec.toNat % 2 ^ k := by
    rw [Int64.toBitVec_and, BitVec.toNat_and, hc, Nat.and_two_pow_sub_one_eq_mod]
  have p : 2 ^ k < 2 ^ 63 := Nat.pow_lt_pow_right (by omega) hk
  have l : x.toBitVec.toNat % 2 ^ k < 2 ^ k := Nat.mod_lt _ (Nat.pow_pos (by omega))
  have h2 : (x &&& c).toInt = ((x &&& c).toBitVec.toNat : Int) := by
    show (x &&& c).toBitVec.toInt = _
    rw [BitVec.toInt_eq_toNat_cond, if_pos (by omega)]
  rw [h2, h1]
  have h3 : x.toInt = x.toBitVec.toInt := rfl
  rw [h3, BitVec.toInt_eq_toNat_cond]
  split
  · rw [Int.natCast_emod, Int.natCast_pow]; rfl
  · rw [Int.natCast_emod, Int.natCast_pow]
    have e : ((2 ^ 64 : Nat) : Int) = (2 ^ k : Int) * 2 ^ (64 - k) := by
      rw [← Int.pow_add, show k + (64 - k) = 64 by omega]; rfl
    rw [e, Int.sub_mul_emod_self_left]
    rfl
theorem and30 {x : Int64} : (x &&& 1073741823).toInt = x.toInt % 1073741824 := andM (k := 30) (by decide) (by decide)
theorem shrS {x : Int64} {s : Nat} (hs : s < 64) (hx : 0 ≤ x.toInt) : ((Int64.toUInt64 x >>> ((Int32.toInt64 (Int32.ofNat s)).toUInt64 &&& Int64.toUInt64 63)).toInt64).toInt = x.toInt / 2 ^ s := by
  have e : ((Int64.toUInt64 x >>> ((Int32.toInt64 (Int32.ofNat s)).toUInt64 &&& Int64.toUInt64 63)).toInt64).toBitVec = x.toBitVec >>> s := by
    show (Int64.toUInt64 x >>> ((Int32.toInt64 (Int32.ofNat s)).toUInt64 &&& Int64.toUInt64 63)).toBitVec = _
    rw [UInt64.toBitVec_shiftRight, shL_amt2 s hs]
    show x.toBitVec >>> (BitVec.ofNat 64 s) = _
    rw [BitVec.ushiftRight_eq', BitVec.toNat_ofNat, Nat.mod_eq_of_lt (by omega)]
  have hb := toI_nn hx
  have hl : x.toBitVec.toNat < 2 ^ 63 := by
    have := (rngL x).2
    omega
  have n : (x.toBitVec >>> s).toNat = x.toBitVec.toNat / 2 ^ s := by rw [BitVec.toNat_ushiftRight, Nat.shiftRight_eq_div_pow]
  have l : x.toBitVec.toNat / 2 ^ s ≤ x.toBitVec.toNat := Nat.div_le_self _ _
  show ((Int64.toUInt64 x >>> ((Int32.toInt64 (Int32.ofNat s)).toUInt64 &&& Int64.toUInt64 63)).toInt64).toBitVec.toInt = _
  rw [e, BitVec.toInt_eq_toNat_cond, if_pos (by rw [n]; omega), n, hb, Int.natCast_ediv, Int.natCast_pow]
  rfl
theorem shlO {x y : Int64} {s : Nat} (hs : s < 64) (hx : 0 ≤ x.toInt) (hy : 0 ≤ y.toInt) (hy2 : y.toInt < 2 ^ s) (hb : x.toInt * 2 ^ s + 2 ^ s ≤ 9223372036854775808) : ((x <<< (Int32.toInt64 (Int32.ofNat s) &&& 63)) ||| y).toInt = x.toInt * 2 ^ s + y.toInt := by
  have bx := toI_nn hx
  have bY := toI_nn hy
  rw [bx] at hb ⊢
  rw [bY] at hy2 ⊢
  clear hx hy bx bY
  have ex : (x <<< (Int32.toInt64 (Int32.ofNat s) &&& 63)).toBitVec = x.toBitVec <<< s := by
    rw [Int64.toBitVec_shiftLeft, shL_amt s hs]
    show x.toBitVec <<< (BitVec.ofNat 64 s) = _
    rw [BitVec.shiftLeft_eq', BitVec.toNat_ofNat, Nat.mod_eq_of_lt (by omega)]
  generalize hX : x.toBitVec.toNat = X at *
  generalize hY : y.toBitVec.toNat = Y at *
  have e0 : ((2 ^ s : Nat) : Int) = (2 : Int) ^ s := by rw [Int.natCast_pow]; rfl
  rw [← e0] at hy2 hb ⊢
  have hy3 : Y < 2 ^ s := by omega
  have hb3 : X * 2 ^ s + 2 ^ s ≤ 9223372036854775808 := by
    have : ((X * 2 ^ s + 2 ^ s : Nat) : Int) ≤ 9223372036854775808 := by rw [Int.natCast_add, Int.natCast_mul]; exact hb
    omega
  have n : ((x <<< (Int32.toInt64 (Int32.ofNat s) &&& 63)) ||| y).toBitVec.toNat = X * 2 ^ s + Y := by
    rw [Int64.toBitVec_or, BitVec.toNat_or, ex, BitVec.toNat_shiftLeft, hX, hY, Nat.shiftLeft_eq, Nat.mod_eq_of_lt (by omega), ← Nat.shiftLeft_eq, ← Nat.shiftLeft_add_eq_or_of_lt hy3]
  show ((x <<< (Int32.toInt64 (Int32.ofNat s) &&& 63)) ||| y).toBitVec.toInt = _
  rw [BitVec.toInt_eq_toNat_cond, if_pos (by rw [n]; omega), n, Int.natCast_add, Int.natCast_mul]
end PBLbits
