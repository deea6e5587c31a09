/-! bits of ints -/
section PBBits
def bt (a : Int32) (u : Nat) : Bool := a.toBitVec.getLsbD u
theorem sh_amt : ∀ u, u < 32 → (Int32.ofNat u &&& 31).toBitVec.smod 32 = BitVec.ofNat 32 u := by decide
theorem sh_amt2 : ∀ u, u < 32 → (Int32.toUInt32 (Int32.ofNat u) &&& Int32.toUInt32 31).toBitVec % 32 = BitVec.ofNat 32 u := by decide
theorem one_bit {i : Nat} : (1#32).getLsbD i = decide (i = 0) := by
  cases i with
  | zero => rfl
  | succ i => simp
theorem bt_sar {a : Int32} {u : Nat} (hu : u < 32) : ((a >>> (Int32.ofNat u &&& 31)) &&& 1) = if bt a u = true then 1 else 0 := by
  apply Int32.toBitVec_inj.mp
  rw [Int32.toBitVec_and, Int32.toBitVec_shiftRight, sh_amt u hu]
  have e1 : (1 : Int32).toBitVec = 1#32 := rfl
  rw [e1]
  have eu : (BitVec.ofNat 32 u).toNat = u := by rw [BitVec.toNat_ofNat]; omega
  have ez : (0 : Int32).toBitVec = 0#32 := rfl
  by_cases h : bt a u = true
  · rw [if_pos h, e1]
    apply BitVec.eq_of_getLsbD_eq
    intro i hi
    unfold bt at h
    rw [BitVec.getLsbD_and, one_bit, BitVec.sshiftRight_eq', eu, BitVec.getLsbD_sshiftRight]
    by_cases e : i = 0
    · subst e; simp [hu, h]
    · simp [e]
  · rw [if_neg h, ez]
    apply BitVec.eq_of_getLsbD_eq
    intro i hi
    unfold bt at h
    rw [BitVec.getLsbD_and, one_bit, BitVec.sshiftRight_eq', eu, BitVec.getLsbD_sshiftRight, BitVec.getLsbD_zero]
    by_cases e : i = 0
    · subst e
      simp [hu, h]
      rw [← BitVec.getLsbD_eq_getElem hu]
      exact Bool.eq_false_iff.mpr h
    · simp [e]
theorem bt_shr {a : Int32} {u : Nat} (hu : u < 32) : (((Int32.toUInt32 a >>> (Int32.toUInt32 (Int32.ofNat u) &&& Int32.toUInt32 31)).toInt32) &&& 1) = if bt a u = true then 1 else 0 := by
  apply Int32.toBitVec_inj.mp
  have e0 : ∀ x : UInt32, (UInt32.toInt32 x).toBitVec = x.toBitVec := fun _ => rfl
  have e2 : (Int32.toUInt32 a).toBitVec = a.toBitVec := rfl
  rw [Int32.toBitVec_and, e0, UInt32.toBitVec_shiftRight, sh_amt2 u hu, e2]
  have e1 : (1 : Int32).toBitVec = 1#32 := rfl
  rw [e1]
  have eu : (BitVec.ofNat 32 u).toNat = u := by rw [BitVec.toNat_ofNat]; omega
  have ez : (0 : Int32).toBitVec = 0#32 := rfl
  by_cases h : bt a u = true
  · rw [if_pos h, e1]
    apply BitVec.eq_of_getLsbD_eq
    intro i hi
    unfold bt at h
    rw [BitVec.getLsbD_and, one_bit, BitVec.ushiftRight_eq', eu, BitVec.getLsbD_ushiftRight]
    by_cases e : i = 0
    · subst e; simp [hu, h]
    · simp [e]
  · rw [if_neg h, ez]
    apply BitVec.eq_of_getLsbD_eq
    intro i hi
    unfold bt at h
    rw [BitVec.getLsbD_and, one_bit, BitVec.ushiftRight_eq', eu, BitVec.getLsbD_ushiftRight, BitVec.getLsbD_zero]
    by_cases e : i = 0
    · subst e
      simp [hu, h]
      rw [← BitVec.getLsbD_eq_getElem hu]
      exact Bool.eq_false_iff.mpr h
    · simp [e]
theorem bt_set {a : Int32} {u v : Nat} (hu : u < 32) (hv : v < 32) : bt (a ||| ((1 : Int32) <<< (Int32.ofNat v &&& 31))) u = (bt a u || decide (u = v)) := by
  unfold bt
  have e1 : (1 : Int32).toBitVec = 1#32 := rfl
  have ev : (BitVec.ofNat 32 v).toNat = v := by rw [BitVec.toNat_ofNat]; omega
  rw [Int32.toBitVec_or, Int32.toBitVec_shiftLeft, sh_amt v hv, e1, BitVec.getLsbD_or, BitVec.shiftLeft_eq', ev, BitVec.getLsbD_shiftLeft, one_bit]
  congr 1
  by_cases e : u = v
  · subst e; simp [hu]
  · by_cases l : u < v
    · simp [l, e]
    · have : u - v ≠ 0 := by omega
      simp [this, e]
theorem bt_0 {u : Nat} : bt 0 u = false := by unfold bt; exact BitVec.getLsbD_zero
end PBBits
