/-! how many bits: the class's count -/
section PBCountB
theorem nW (a : Int32) : a.toBitVec.toNat < 4294967296 := a.toBitVec.isLt
theorem shrN {a : Int32} {k : Nat} (hk : k < 32) : ((Int32.toUInt32 a >>> (Int32.toUInt32 (Int32.ofNat k) &&& Int32.toUInt32 31)).toInt32).toBitVec.toNat = a.toBitVec.toNat / 2 ^ k := by
  have e : (((Int32.toUInt32 a >>> (Int32.toUInt32 (Int32.ofNat k) &&& Int32.toUInt32 31)).toInt32)).toBitVec = a.toBitVec >>> k := by
    show (Int32.toUInt32 a >>> (Int32.toUInt32 (Int32.ofNat k) &&& Int32.toUInt32 31)).toBitVec = _
    rw [UInt32.toBitVec_shiftRight, shI_amt k hk, BitVec.ushiftRight_eq', BitVec.toNat_ofNat, Nat.mod_eq_of_lt (by omega)]
    rfl
  rw [e, BitVec.toNat_ushiftRight, Nat.shiftRight_eq_div_pow]
theorem addN (a b : Int32) : (a + b).toBitVec.toNat = (a.toBitVec.toNat + b.toBitVec.toNat) % 4294967296 := by
  rw [Int32.toBitVec_add, BitVec.toNat_add]
theorem subN (a b : Int32) : (a - b).toBitVec.toNat = (4294967296 - b.toBitVec.toNat + a.toBitVec.toNat) % 4294967296 := by
  rw [Int32.toBitVec_sub, BitVec.toNat_sub]
theorem andN (a b : Int32) : (a &&& b).toBitVec.toNat = a.toBitVec.toNat &&& b.toBitVec.toNat := by
  rw [Int32.toBitVec_and, BitVec.toNat_and]
theorem cnt_n {A a b c d : Nat} (ha : a < 256) (hb : b < 256) (hc : c < 256) (hd : d < 256) (hA : A = 16777216 * d + (65536 * c + (256 * b + a))) : (ixf A.testBit 32 0).length = bp a + bp b + bp c + bp d := by
  have bt8 : ∀ (s x : Nat), x < 256 → A / 2 ^ s % 256 = x → (ixf (fun i => A.testBit (i + s)) 8 0).length = bp x := fun s x hx he => by
    rw [← (byteF x hx).2.2.2.2]
    congr 1
    refine ixf_c 8 0 (fun j _ hj => ?_)
    have h1 : A.testBit (j + s) = (A / 2 ^ s).testBit j := by rw [Nat.testBit_div_two_pow, Nat.add_comm]
    rw [h1, ← he, show (256 : Nat) = 2 ^ 8 from rfl, Nat.testBit_mod_two_pow, decide_eq_true (by omega), Bool.true_and]
  have e1 : ixf A.testBit 32 0 = ixf A.testBit 8 0 ++ (ixf A.testBit 8 8 ++ (ixf A.testBit 8 16 ++ ixf A.testBit 8 24)) := by
    rw [show (32 : Nat) = 8 + (8 + (8 + 8)) from rfl, ixf_add 8 (8 + (8 + 8)) 0, ixf_add 8 (8 + 8) (0 + 8), ixf_add 8 8 (0 + 8 + 8)]
  have f0 := bt8 0 a ha (by omega)
  have f1 := bt8 8 b hb (by omega)
  have f2 := bt8 16 c hc (by omega)
  have f3 := bt8 24 d hd (by omega)
  rw [← ixf_sh] at f0 f1 f2 f3
  rw [e1, List.length_append, List.length_append, List.length_append]
  simp only [Nat.zero_add] at f0 f1 f2 f3
  rw [f0, f1, f2, f3]
  omega
theorem ixf_len {f : Nat → Bool} : ∀ n k, (ixf f n k).length ≤ n := by
  intro n
  induction n with
  | zero => intro k; exact Nat.le_refl _
  | succ n ih =>
    intro k
    have := ih (k + 1)
    by_cases c : f k = true
    · rw [ixf_t c, List.length_cons]; omega
    · rw [ixf_n c]; omega
theorem bitCount_c {w : rf_w} {m : rf_m} {a : Int32} : g_J6_bitCount_0f7a4 w m a = some (Int32.ofNat (ixf (bt a) 32 0).length, m) := by
  have hb : bt a = a.toBitVec.toNat.testBit := funext fun u => by
    unfold bt
    rw [BitVec.testBit_toNat]
  have hw := nW a
  have hl := ixf_len (f := bt a) 32 0
  generalize hA : a.toBitVec.toNat = A at *
  have k := cnt_n (A := A) (a := A % 256) (b := A / 256 % 256) (c := A / 65536 % 256) (d := A / 16777216) (by omega) (by omega) (by omega) (by omega) (by omega)
  unfold g_J6_bitCount_0f7a4 rf_vi
  have z1 := fun (x : Int32) => shrN (a := x) (k := 1) (by decide)
  have z2 := fun (x : Int32) => shrN (a := x) (k := 2) (by decide)
  have z4 := fun (x : Int32) => shrN (a := x) (k := 4) (by decide)
  have z8 := fun (x : Int32) => shrN (a := x) (k := 8) (by decide)
  have z16 := fun (x : Int32) => shrN (a := x) (k := 16) (by decide)
  have o1 : Int32.ofNat 1 = 1 := rfl
  have o2 : Int32.ofNat 2 = 2 := rfl
  have o4 : Int32.ofNat 4 = 4 := rfl
  have o8 : Int32.ofNat 8 = 8 := rfl
  have o16 : Int32.ofNat 16 = 16 := rfl
  rw [o1] at z1
  rw [o2] at z2
  rw [o4] at z4
  rw [o8] at z8
  rw [o16] at z16
  have m1 : (1431655765 : Int32).toBitVec.toNat = 1431655765 := rfl
  have m2 : (858993459 : Int32).toBitVec.toNat = 858993459 := rfl
  have m3 : (252645135 : Int32).toBitVec.toNat = 252645135 := rfl
  have m4 : (63 : Int32).toBitVec.toNat = 63 := rfl
  refine congrArg some (Prod.ext ?_ rfl)
  refine Int32.toBitVec_inj.mp (BitVec.eq_of_toNat_eq ?_)
  have sw := swar (a := A % 256) (b := A / 256 % 256) (c := A / 65536 % 256) (d := A / 16777216) (by omega) (by omega) (by omega) (by omega) (A := A) (by omega) rfl rfl rfl rfl rfl
  have rr : (Int32.ofNat (ixf (bt a) 32 0).length).toBitVec.toNat = (ixf (bt a) 32 0).length := by
    show (BitVec.ofNat 32 (ixf (bt a) 32 0).length).toNat = _
    rw [BitVec.toNat_ofNat, Nat.mod_eq_of_lt (by omega)]
  rw [rr, hb, k, ← sw]
  simp only [andN, addN, subN, z1, z2, z4, z8, z16, m1, m2, m3, m4, hA]
end PBCountB
