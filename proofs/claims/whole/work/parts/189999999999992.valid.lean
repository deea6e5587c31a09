/-! adjust: which bits may be asked -/
section PBValid
theorem shz {a : Int32} {n : Nat} (hn : n < 32) : ((Int32.toUInt32 a >>> (Int32.toUInt32 (Int32.ofNat n) &&& Int32.toUInt32 31)).toInt32) = 0 ↔ a.toBitVec.toNat < 2 ^ n := by
  have h := shrN (a := a) hn
  have p : 0 < 2 ^ n := Nat.pow_pos (by omega)
  rw [← Nat.div_eq_zero_iff_lt p, ← h]
  generalize ((Int32.toUInt32 a >>> (Int32.toUInt32 (Int32.ofNat n) &&& Int32.toUInt32 31)).toInt32) = x
  constructor
  · intro e; rw [e]; rfl
  · intro e; exact Int32.toBitVec_inj.mp (BitVec.eq_of_toNat_eq e)
theorem one_sh : ∀ n, n < 31 → ((1 : Int32) <<< (Int32.ofNat n &&& 31)).toInt = ((2 ^ n : Nat) : Int) := by decide
theorem lez {a : Int32} {n : Nat} (hn : n < 31) : (¬ a < 0 ∧ ¬ ((1 : Int32) <<< (Int32.ofNat n &&& 31)) ≤ a) ↔ a.toBitVec.toNat < 2 ^ n := by
  rw [i_lt, i_0, i_le, one_sh n hn]
  have hp : 2 ^ n ≤ 2 ^ 30 := Nat.pow_le_pow_right (by omega) (by omega)
  have hw := nW a
  have ht : a.toInt = if 2 * a.toBitVec.toNat < 4294967296 then (a.toBitVec.toNat : Int) else (a.toBitVec.toNat : Int) - 4294967296 := BitVec.toInt_eq_toNat_cond a.toBitVec
  generalize 2 ^ n = P at *
  generalize a.toBitVec.toNat = A at *
  rw [ht]
  split <;> omega
theorem bt_hi {a : Int32} {n u : Nat} (h : a.toBitVec.toNat < 2 ^ n) (hu : n ≤ u) : bt a u = false := by
  unfold bt
  rw [← BitVec.testBit_toNat]
  exact Nat.testBit_lt_two_pow (Nat.lt_of_lt_of_le h (Nat.pow_le_pow_right (by omega) hu))
theorem sel_len {a1 a2 : Int32} {n1 n2 : Nat} (h1 : a1.toBitVec.toNat < 2 ^ n1) (h2 : a2.toBitVec.toNat < 2 ^ n2) (l1 : n1 ≤ 30) (l2 : n2 ≤ 12) : (ixf (sel a1 a2) 42 0).length = (ixf (bt a1) 32 0).length + (ixf (bt a2) 32 0).length := by
  have e1 : ixf (sel a1 a2) 42 0 = ixf (sel a1 a2) 30 0 ++ ixf (sel a1 a2) 12 30 := ixf_add 30 12 0
  have e2 : ixf (sel a1 a2) 30 0 = ixf (bt a1) 30 0 := ixf_c 30 0 (fun j _ hj => by unfold sel; rw [if_pos (by omega)])
  have e3 : ixf (bt a1) 32 0 = ixf (bt a1) 30 0 := ixf_st (n := 30) 2 (fun j hj _ => bt_hi h1 (by omega))
  have e4 : ixf (bt a2) 32 0 = ixf (bt a2) 12 0 := ixf_st (n := 12) 20 (fun j hj _ => bt_hi h2 (by omega))
  have e5 : (ixf (sel a1 a2) 12 30).length = (ixf (bt a2) 12 0).length := by
    have := ixf_sh (f := sel a1 a2) (s := 30) 12 0
    rw [Nat.zero_add] at this
    rw [this]
    congr 1
  rw [e1, List.length_append, e2, e5, e3, e4]
theorem sel_ok {m : rf_m} {a1 a2 : Int32} (h1 : a1.toBitVec.toNat < 2 ^ (m.1 206 64).toNatClampNeg) (h2 : a2.toBitVec.toNat < 2 ^ (m.1 206 65).toNatClampNeg) : ∀ q, q < 42 → sel a1 a2 q = true → okK m q := by
  intro q hq hs
  unfold sel at hs
  by_cases c : q < 30
  · rw [if_pos c] at hs
    refine Or.inl ⟨c, Nat.lt_of_not_le fun z => ?_⟩
    rw [bt_hi h1 z] at hs
    cases hs
  · rw [if_neg c] at hs
    refine Or.inr ⟨by omega, Nat.lt_of_not_le fun z => ?_⟩
    rw [bt_hi h2 z] at hs
    cases hs
theorem len_0 {a : Int32} : (ixf (bt a) 32 0).length = 0 ↔ a = 0 := by
  constructor
  · intro h
    refine bt_ext fun u hu => ?_
    rw [bt_0]
    cases q : bt a u with
    | false => rfl
    | true =>
      have : u ∈ ixf (bt a) 32 0 := (ixf_ge 32 0 u).mpr ⟨by omega, by omega, q⟩
      rw [List.eq_nil_of_length_eq_zero h] at this
      cases this
  · intro h
    rw [h, ixf_c (g := fun _ => false) 32 0 (fun j _ _ => bt_0)]
    rfl
/-- the asked conditions stand -/
def vld (m : rf_m) (a1 a2 : Int32) : Prop := (a1.toBitVec.toNat < 2 ^ (m.1 206 64).toNatClampNeg ∧ a2.toBitVec.toNat < 2 ^ (m.1 206 65).toNatClampNeg) ∧ ¬ (a1 = 0 ∧ a2 = 0)
/-- the class's way to its net -/
theorem cls_0 {w : rf_w} {m : rf_m} {a1 a2 : Int32} (jn : JNet m) : (¬ vld m a1 a2 → g_X11_adjust w m a1 a2 = some (-1, rf_i m 0 11 1)) ∧ (vld m a1 a2 → (6 < (ixf (sel a1 a2) 42 0).length → g_X11_adjust w m a1 a2 = some (-1, rf_i m 0 11 7)) ∧ ((ixf (sel a1 a2) 42 0).length ≤ 6 → g_X11_adjust w m a1 a2 = rf_bv (g_X3_freshenAll w m) fun m4 => rf_b (g_X0_gather w m4 a1 a2) fun y5 m5 => (if y5 = 0 then rf_b (g_X11_refused w m5 5) fun y11 m11 => some (y11, m11) else rf_bv (g_X0_weigh w m5 (m5.1 0 10)) fun m6 => rf_b (g_X0_solve w m6) fun y7 m7 => (if y7 = 0 then rf_b (g_X11_refused w m7 6) fun y10 m10 => some (y10, m10) else rf_b (g_X0_keep w m7) fun y8 m8 => rf_b (g_X11_answered w m8 y8) fun y9 m9 => some (y9, m9))))) := by
  have n30 := net30 jn
  have q0 : m.1 50 0 = Int32.ofNat (m.1 206 64).toNatClampNeg := by rw [of_tn jn.2.1.1]; exact jn.1
  have q1 : m.1 50 1 = Int32.ofNat (m.1 206 65).toNatClampNeg := by rw [of_tn jn.2.2.2.1.1]; exact jn.2.2.1
  have l1 := ixf_len (f := bt a1) 32 0
  have l2 := ixf_len (f := bt a2) 32 0
  have eA : Int32.ofNat (ixf (bt a1) 32 0).length + Int32.ofNat (ixf (bt a2) 32 0).length = Int32.ofNat ((ixf (bt a1) 32 0).length + (ixf (bt a2) 32 0).length) := (Int32.ofNat_add _ _).symm
  have z : (Int32.ofNat ((ixf (bt a1) 32 0).length + (ixf (bt a2) 32 0).length) = 0) ↔ (a1 = 0 ∧ a2 = 0) := by
    have h : Int32.ofNat ((ixf (bt a1) 32 0).length + (ixf (bt a2) 32 0).length) = Int32.ofNat 0 ↔ (ixf (bt a1) 32 0).length + (ixf (bt a2) 32 0).length = 0 := of_inj (by omega) (by omega)
    exact Iff.trans h (by rw [← len_0 (a := a1), ← len_0 (a := a2)]; omega)
  have s1 := shz (a := a1) (n := (m.1 206 64).toNatClampNeg) (by omega)
  have s2 := shz (a := a2) (n := (m.1 206 65).toNatClampNeg) (by omega)
  rw [← q0] at s1
  rw [← q1] at s2
  have e6 : (Int32.ofNat ((ixf (bt a1) 32 0).length + (ixf (bt a2) 32 0).length) ≤ 6) ↔ ((ixf (bt a1) 32 0).length + (ixf (bt a2) 32 0).length ≤ 6) := by
    rw [show (6 : Int32) = Int32.ofNat 6 from rfl, of_le (by omega) (by omega)]
  unfold g_X11_adjust
  rw [bitCount_c, b_sm, bitCount_c, b_sm, eA]
  constructor
  · intro nv
    by_cases c0 : a1 = 0 ∧ a2 = 0
    · rw [if_pos (z.mpr c0)]; rfl
    · rw [if_neg (fun h => c0 (z.mp h))]
      by_cases c1 : a1.toBitVec.toNat < 2 ^ (m.1 206 64).toNatClampNeg
      · rw [if_pos (s1.mpr c1)]
        have c2 : ¬ a2.toBitVec.toNat < 2 ^ (m.1 206 65).toNatClampNeg := fun c2 => nv ⟨⟨c1, c2⟩, c0⟩
        rw [if_neg (fun h => c2 (s2.mp h))]; rfl
      · rw [if_neg (fun h => c1 (s1.mp h))]; rfl
  · intro v
    have sl := sel_len v.1.1 v.1.2 n30.1 n30.2
    rw [if_neg (fun h => v.2 (z.mp h)), if_pos (s1.mpr v.1.1), if_pos (s2.mpr v.1.2), sl]
    constructor
    · intro h
      rw [if_neg (fun x => by have := e6.mp x; omega)]; rfl
    · intro h
      rw [if_pos (e6.mpr h)]
/-- the reference's way to its net -/
theorem ref_0 {w : rf_w} {m M : rf_m} {a1 a2 : Int32} (jn : JNet m) (h64 : M.1 206 64 = m.1 206 64) (h65 : M.1 206 65 = m.1 206 65) : (¬ vld m a1 a2 → g_X14_adjust w M a1 a2 = some (-1, rf_i (rf_i (rf_i M 206 0 0) 206 1 1) 206 2 (-1))) ∧ (vld m a1 a2 → (6 < (ixf (sel a1 a2) 42 0).length → g_X14_adjust w M a1 a2 = some (-1, rf_i (rf_i (rf_i M 206 0 0) 206 1 7) 206 2 (-1))) ∧ ((ixf (sel a1 a2) 42 0).length ≤ 6 → g_X14_adjust w M a1 a2 = rf_bv (g_X14_allMeans w (rf_i M 206 0 0)) fun m2 => g_X14_adjust_80 w rf_fuel a1 a2 0 1 0 m2)) := by
  have n30 := net30 jn
  have q0 : (rf_i M 206 0 0).1 206 64 = Int32.ofNat (m.1 206 64).toNatClampNeg := by rw [of_tn jn.2.1.1]; exact h64
  have q1 : (rf_i M 206 0 0).1 206 65 = Int32.ofNat (m.1 206 65).toNatClampNeg := by rw [of_tn jn.2.2.2.1.1]; exact h65
  have l1 := ixf_len (f := bt a1) 32 0
  have l2 := ixf_len (f := bt a2) 32 0
  have eA : Int32.ofNat (ixf (bt a1) 32 0).length + Int32.ofNat (ixf (bt a2) 32 0).length = Int32.ofNat ((ixf (bt a1) 32 0).length + (ixf (bt a2) 32 0).length) := (Int32.ofNat_add _ _).symm
  have s1 := lez (a := a1) (n := (m.1 206 64).toNatClampNeg) (by omega)
  have s2 := lez (a := a2) (n := (m.1 206 65).toNatClampNeg) (by omega)
  have e6 : (Int32.ofNat ((ixf (bt a1) 32 0).length + (ixf (bt a2) 32 0).length) ≤ 6) ↔ ((ixf (bt a1) 32 0).length + (ixf (bt a2) 32 0).length ≤ 6) := by
    rw [show (6 : Int32) = Int32.ofNat 6 from rfl, of_le (by omega) (by omega)]
  unfold g_X14_adjust
  rw [q0, q1]
  constructor
  · intro nv
    by_cases c1 : a1 < 0
    · rw [if_pos c1]; rfl
    · rw [if_neg c1]
      by_cases c2 : ((1 : Int32) <<< (Int32.ofNat (m.1 206 64).toNatClampNeg &&& 31)) ≤ a1
      · rw [if_pos c2]; rfl
      · rw [if_neg c2]
        by_cases c3 : a2 < 0
        · rw [if_pos c3]; rfl
        · rw [if_neg c3]
          by_cases c4 : ((1 : Int32) <<< (Int32.ofNat (m.1 206 65).toNatClampNeg &&& 31)) ≤ a2
          · rw [if_pos c4]; rfl
          · rw [if_neg c4]
            have c0 : a1 = 0 ∧ a2 = 0 := Classical.byContradiction fun z => nv ⟨⟨s1.mp ⟨c1, c2⟩, s2.mp ⟨c3, c4⟩⟩, z⟩
            rw [if_pos c0.1, if_pos c0.2]; rfl
  · intro v
    have sl := sel_len v.1.1 v.1.2 n30.1 n30.2
    obtain ⟨c1, c2⟩ := s1.mpr v.1.1
    obtain ⟨c3, c4⟩ := s2.mpr v.1.2
    rw [if_neg c1, if_neg c2, if_neg c3, if_neg c4]
    have e47 : (if a1 = 0 then (if a2 = 0 then rf_b (g_X14_refused w (rf_i M 206 0 0) 1) fun y4 m4 => some (y4, m4) else g_X14_adjust_47 w a1 a2 (rf_i M 206 0 0)) else g_X14_adjust_47 w a1 a2 (rf_i M 206 0 0)) = g_X14_adjust_47 w a1 a2 (rf_i M 206 0 0) := by
      by_cases d1 : a1 = 0
      · rw [if_pos d1, if_neg (fun d2 => v.2 ⟨d1, d2⟩)]
      · rw [if_neg d1]
    rw [e47]
    unfold g_X14_adjust_47
    rw [bits_r, b_sm, bits_r, b_sm, eA, sl]
    constructor
    · intro h
      rw [if_neg (fun x => by have := e6.mp x; omega)]; rfl
    · intro h
      rw [if_pos (e6.mpr h)]
end PBValid
