/-! floats -/
section PBFloat
theorem tou_and (a b : Int32) : (a &&& b).toUInt32 = a.toUInt32 &&& b.toUInt32 := rfl
theorem tou_or (a b : Int32) : (a ||| b).toUInt32 = a.toUInt32 ||| b.toUInt32 := rfl
/-- a whole number that is small, by its bits -/
theorem i_of_nat {x : Int32} {n : Nat} (h : x.toUInt32.toNat = n) (hn : n < 2147483648) : x = Int32.ofNat n := by
  apply Int32.toBitVec_inj.mp
  apply BitVec.eq_of_toNat_eq
  show x.toUInt32.toNat = n % 4294967296
  rw [h]
  omega
theorem low_bits {a : Int32} : a &&& 8388607 = Int32.ofNat (a.toUInt32.toNat % 8388608) := by
  refine i_of_nat ?_ (by omega)
  rw [tou_and, UInt32.toNat_and]
  exact Nat.and_two_pow_sub_one_eq_mod a.toUInt32.toNat 23
theorem exp_bits {a : Int32} : ((Int32.toUInt32 a >>> (Int32.toUInt32 23 &&& Int32.toUInt32 31)).toInt32) &&& 255 = Int32.ofNat (a.toUInt32.toNat / 8388608 % 256) := by
  refine i_of_nat ?_ (by omega)
  rw [tou_and, UInt32.toNat_and]
  have e : ((Int32.toUInt32 a >>> (Int32.toUInt32 23 &&& Int32.toUInt32 31)).toInt32).toUInt32.toNat = a.toUInt32.toNat / 8388608 := by
    show (Int32.toUInt32 a >>> (Int32.toUInt32 23 &&& Int32.toUInt32 31)).toNat = _
    rw [UInt32.toNat_shiftRight]
    show a.toUInt32.toNat >>> 23 = _
    rw [Nat.shiftRight_eq_div_pow]
  rw [e]
  exact Nat.and_two_pow_sub_one_eq_mod _ 8
theorem neg_bits {a : Int32} : a < 0 ↔ 2147483648 ≤ a.toUInt32.toNat := by
  rw [Int32.lt_iff_toInt_lt]
  have h : a.toInt = if a.toUInt32.toNat < 2147483648 then (a.toUInt32.toNat : Int) else (a.toUInt32.toNat : Int) - 4294967296 := by
    show a.toBitVec.toInt = _
    rw [BitVec.toInt_eq_toNat_cond]
    show (if 2 * a.toUInt32.toNat < 4294967296 then (a.toUInt32.toNat : Int) else (a.toUInt32.toNat : Int) - 4294967296) = _
    by_cases q : a.toUInt32.toNat < 2147483648
    · rw [if_pos q, if_pos (by omega)]
    · rw [if_neg q, if_neg (by omega)]
  have b := a.toUInt32.toNat_lt
  rw [h]
  show _ < (0 : Int) ↔ _
  by_cases q : a.toUInt32.toNat < 2147483648
  · rw [if_pos q]; omega
  · rw [if_neg q]
    have b2 : a.toUInt32.toNat < 4294967296 := b
    omega
theorem man_bits {a : Int32} {e : Nat} (he1 : 127 ≤ e) (he2 : e ≤ 150) : (Int32.toUInt32 ((a &&& 8388607) ||| 8388608) >>> (Int32.toUInt32 (150 - Int32.ofNat e) &&& Int32.toUInt32 31)).toInt32 = Int32.ofNat ((8388608 + a.toUInt32.toNat % 8388608) / 2 ^ (150 - e)) := by
  have hb : (8388608 + a.toUInt32.toNat % 8388608) / 2 ^ (150 - e) ≤ 8388608 + a.toUInt32.toNat % 8388608 := Nat.div_le_self _ _
  refine i_of_nat ?_ (by omega)
  show (Int32.toUInt32 ((a &&& 8388607) ||| 8388608) >>> (Int32.toUInt32 (150 - Int32.ofNat e) &&& Int32.toUInt32 31)).toNat = _
  have s : (150 : Int32) - Int32.ofNat e = Int32.ofNat (150 - e) := by
    apply Int32.toInt_inj.mp
    have o1 : (Int32.ofNat e).toInt = e := ofI (by omega)
    have o2 : (150 : Int32).toInt = 150 := by decide
    rw [subI (by rw [o1, o2]; omega) (by rw [o1, o2]; omega), o1, o2, ofI (by omega)]
    omega
  have sh : (Int32.toUInt32 (150 - Int32.ofNat e) &&& Int32.toUInt32 31).toNat % 32 = 150 - e := by
    rw [s, UInt32.toNat_and]
    have q := Nat.and_two_pow_sub_one_eq_mod ((Int32.ofNat (150 - e)).toUInt32.toNat) 5
    have q1 : (Int32.ofNat (150 - e)).toUInt32.toNat = (150 - e) % 4294967296 := rfl
    have q2 : ((Int32.ofNat (150 - e)).toUInt32.toNat &&& (Int32.toUInt32 31).toNat) = (Int32.ofNat (150 - e)).toUInt32.toNat % 32 := q
    rw [q2, q1]
    omega
  rw [UInt32.toNat_shiftRight, sh, Nat.shiftRight_eq_div_pow, tou_or, UInt32.toNat_or, low_bits]
  have t1 : (Int32.ofNat (a.toUInt32.toNat % 8388608)).toUInt32.toNat = a.toUInt32.toNat % 8388608 := by
    show a.toUInt32.toNat % 8388608 % 4294967296 = _
    omega
  have t2 : a.toUInt32.toNat % 8388608 ||| 8388608 = 8388608 + a.toUInt32.toNat % 8388608 := by
    have := Nat.two_pow_add_eq_or_of_lt (i := 23) (b := a.toUInt32.toNat % 8388608) (by omega) 1
    rw [Nat.or_comm]
    exact this.symm
  rw [t1]
  show (_ ||| 8388608) / _ = _
  rw [t2]
def fE (a : Int32) : Nat := a.toUInt32.toNat / 8388608 % 256
def fT (a : Int32) : Nat := a.toUInt32.toNat % 8388608
def fnan (a : Int32) : Prop := fE a = 255 ∧ fT a ≠ 0
/-- the class's whole number of a float -/
def wv (a : Int32) : Int32 := if fE a = 255 then (if fT a = 0 then -1 else -2) else if 127 ≤ fE a then (if a < 0 then -1 else if fE a ≤ 150 then (if 12960000 ≤ (8388608 + fT a) / 2 ^ (150 - fE a) then -1 else Int32.ofNat ((8388608 + fT a) / 2 ^ (150 - fE a))) else -1) else 0
theorem whole_c {w : rf_w} {m : rf_m} {a : Int32} : g_X11_wholeOf w m a = some (wv a, m) := by
  have hE : fE a < 256 := Nat.mod_lt _ (by decide)
  have hT : fT a < 8388608 := Nat.mod_lt _ (by decide)
  unfold g_X11_wholeOf wv
  rw [exp_bits, low_bits]
  show rf_vi (Int32.ofNat (fE a)) _ = _
  unfold rf_vi
  show (if Int32.ofNat (fE a) = 255 then (if Int32.ofNat (fT a) = 0 then some ((-1), m) else some ((-2), m)) else _) = _
  by_cases h1 : fE a = 255
  · rw [if_pos h1, if_pos (by rw [h1]; rfl)]
    by_cases h2 : fT a = 0
    · rw [if_pos h2, if_pos (by rw [h2]; rfl)]
    · have n0 : ¬ Int32.ofNat (fT a) = 0 := fun q => h2 ((of_inj (b := 0) (by omega) (by omega)).mp q)
      rw [if_neg h2, if_neg n0]
  · have n0 : ¬ Int32.ofNat (fE a) = 255 := fun q => h1 ((of_inj (b := 255) (by omega) (by omega)).mp q)
    rw [if_neg h1, if_neg n0]
    by_cases h2 : 127 ≤ fE a
    · have n1 : (127 : Int32) ≤ Int32.ofNat (fE a) := (of_le (a := 127) (by omega) (by omega)).mpr h2
      rw [if_pos h2, if_pos n1]
      by_cases h3 : a < 0
      · rw [if_pos h3, if_pos h3]
      · rw [if_neg h3, if_neg h3]
        by_cases h4 : fE a ≤ 150
        · have n2 : Int32.ofNat (fE a) ≤ 150 := (of_le (b := 150) (by omega) (by omega)).mpr h4
          rw [if_pos h4, if_pos n2]
          have mb := man_bits (a := a) h2 h4
          rw [low_bits] at mb
          rw [show a.toUInt32.toNat % 8388608 = fT a from rfl] at mb
          have hb : (8388608 + fT a) / 2 ^ (150 - fE a) ≤ 8388608 + fT a := Nat.div_le_self _ _
          show (if 12960000 ≤ (Int32.toUInt32 (Int32.ofNat (fT a) ||| 8388608) >>> (Int32.toUInt32 (150 - Int32.ofNat (fE a)) &&& Int32.toUInt32 31)).toInt32 then some ((-1), m) else some ((Int32.toUInt32 (Int32.ofNat (fT a) ||| 8388608) >>> (Int32.toUInt32 (150 - Int32.ofNat (fE a)) &&& Int32.toUInt32 31)).toInt32, m)) = _
          rw [mb]
          generalize (8388608 + fT a) / 2 ^ (150 - fE a) = n at hb
          by_cases h5 : 12960000 ≤ n
          · have n3 : (12960000 : Int32) ≤ Int32.ofNat n := (of_le (a := 12960000) (by omega) (by omega)).mpr h5
            rw [if_pos h5, if_pos n3]
          · have n3 : ¬ (12960000 : Int32) ≤ Int32.ofNat n := fun q => h5 ((of_le (a := 12960000) (by omega) (by omega)).mp q)
            rw [if_neg h5, if_neg n3]
        · have n2 : ¬ Int32.ofNat (fE a) ≤ 150 := fun q => h4 ((of_le (b := 150) (by omega) (by omega)).mp q)
          rw [if_neg h4, if_neg n2]
    · have n1 : ¬ (127 : Int32) ≤ Int32.ofNat (fE a) := fun q => h2 ((of_le (a := 127) (by omega) (by omega)).mp q)
      rw [if_neg h2, if_neg n1]
/-- the reference's number, where it is one -/
theorem dec_a {a : Int32} : FP.Core.decode FP.Core.b32 a.toUInt32.toNat = if fE a = 255 then (if fT a = 0 then FP.Core.Datum.inf (FP.Core.fieldS FP.Core.b32 a.toUInt32.toNat) else FP.Core.Datum.nan) else if fE a = 0 then FP.Core.Datum.fin (FP.Core.fieldS FP.Core.b32 a.toUInt32.toNat) (fT a) (-149) else FP.Core.Datum.fin (FP.Core.fieldS FP.Core.b32 a.toUInt32.toNat) (8388608 + fT a) (-149 + ((fE a : Int) - 1)) := rfl
theorem fcmp_a {a : Int32} : Op.cmpValue (FP.fcmp a.toUInt32 a.toUInt32) .l = 0 ↔ ¬ fnan a := by
  have e : FP.fcmp a.toUInt32 a.toUInt32 = FP.Core.order (FP.Core.decode FP.Core.b32 a.toUInt32.toNat) (FP.Core.decode FP.Core.b32 a.toUInt32.toNat) := rfl
  rw [e, dec_a]
  unfold fnan
  by_cases h1 : fE a = 255
  · rw [if_pos h1]
    by_cases h2 : fT a = 0
    · rw [if_pos h2]
      simp [FP.Core.order, Op.cmpValue, h2]
    · rw [if_neg h2]
      simp [FP.Core.order, Op.cmpValue, h1, h2]
  · rw [if_neg h1]
    by_cases h2 : fE a = 0
    · rw [if_pos h2]
      simp [FP.Core.order, Op.cmpValue, h1]
    · rw [if_neg h2]
      simp [FP.Core.order, Op.cmpValue, h1]
theorem sgn_bits {a : Int32} : FP.Core.fieldS FP.Core.b32 a.toUInt32.toNat = decide (a < 0) := by
  have b : a.toUInt32.toNat < 4294967296 := a.toUInt32.toNat_lt
  have e : FP.Core.fieldS FP.Core.b32 a.toUInt32.toNat = (a.toUInt32.toNat / 8388608 / 256 % 2 == 1) := rfl
  rw [e]
  by_cases h : a < 0
  · rw [decide_eq_true h]
    have := neg_bits.mp h
    rw [show a.toUInt32.toNat / 8388608 / 256 % 2 = 1 by omega]
    rfl
  · rw [decide_eq_false h]
    have : ¬ 2147483648 ≤ a.toUInt32.toNat := fun q => h (neg_bits.mpr q)
    rw [show a.toUInt32.toNat / 8388608 / 256 % 2 = 0 by omega]
    rfl
theorem toI_fin {s : Bool} {c n : Nat} {q : Int} (h : c * 2 ^ q.toNat / 2 ^ (-q).toNat = n) : FP.Core.toI (FP.Core.Datum.fin s c q) = Int32.ofInt (max (-2147483648) (min 2147483647 (if s = true then -(n : Int) else n))) := by
  have e : FP.Core.toI (FP.Core.Datum.fin s c q) = Int32.ofInt (max (-2147483648) (min 2147483647 (FP.Core.signed s (c * 2 ^ q.toNat / 2 ^ (-q).toNat)))) := rfl
  rw [e, h]
  cases s <;> rfl
theorem toI_rng {z : Int} (h : z < 0 ∨ 12960000 ≤ z) : ¬ iv 0 12959999 (Int32.ofInt (max (-2147483648) (min 2147483647 z))) := by
  have b1 : -2147483648 ≤ max (-2147483648) (min 2147483647 z) := by omega
  have b2 : max (-2147483648) (min 2147483647 z) < 2147483648 := by omega
  intro q
  have q1 := i_le.mp q.1
  have q2 := i_le.mp q.2
  rw [ofI_I b1 b2] at q1 q2
  have r1 : (0 : Int) ≤ max (-2147483648) (min 2147483647 z) := q1
  have r2 : max (-2147483648) (min 2147483647 z) ≤ 12959999 := q2
  omega
theorem toI_nat {n : Nat} (h : n < 12960000) : Int32.ofInt (max (-2147483648) (min 2147483647 (n : Int))) = Int32.ofNat n ∧ iv 0 12959999 (Int32.ofNat n) := by
  have e : max (-2147483648) (min 2147483647 (n : Int)) = n := by omega
  rw [e]
  refine ⟨rfl, of_nn (by omega), (of_le (b := 12959999) (by omega) (by omega)).mpr (by omega)⟩
/-- both sides' whole numbers of a float -/
theorem whole_rel {a : Int32} : (fnan a ∧ wv a = -2) ∨ (¬ fnan a ∧ wv a = -1 ∧ ¬ iv 0 12959999 (FP.f2i a.toUInt32)) ∨ (¬ fnan a ∧ iv 0 12959999 (wv a) ∧ FP.f2i a.toUInt32 = wv a) := by
  have hE : fE a < 256 := Nat.mod_lt _ (by decide)
  have hT : fT a < 8388608 := Nat.mod_lt _ (by decide)
  have nf : ¬ (false = true) := by decide
  have e : FP.f2i a.toUInt32 = FP.Core.toI (FP.Core.decode FP.Core.b32 a.toUInt32.toNat) := rfl
  rw [e, dec_a, sgn_bits]
  unfold fnan wv
  by_cases h1 : fE a = 255
  · rw [if_pos h1, if_pos h1]
    by_cases h2 : fT a = 0
    · rw [if_pos h2, if_pos h2]
      refine Or.inr (Or.inl ⟨fun q => q.2 h2, rfl, ?_⟩)
      cases decide (a < 0)
      · exact toI_rng (z := 2147483647) (Or.inr (by omega))
      · exact toI_rng (z := -2147483648) (Or.inl (by omega))
    · rw [if_neg h2, if_neg h2]
      exact Or.inl ⟨⟨h1, h2⟩, rfl⟩
  · rw [if_neg h1, if_neg h1]
    right
    by_cases h2 : 127 ≤ fE a
    · rw [if_pos h2, if_neg (show ¬ fE a = 0 by omega)]
      by_cases h4 : fE a ≤ 150
      · have t0 : (-149 + ((fE a : Int) - 1)).toNat = 0 := by omega
        have t1 : (-(-149 + ((fE a : Int) - 1))).toNat = 150 - fE a := by omega
        have hn : (8388608 + fT a) * 2 ^ (-149 + ((fE a : Int) - 1)).toNat / 2 ^ (-(-149 + ((fE a : Int) - 1))).toNat = (8388608 + fT a) / 2 ^ (150 - fE a) := by rw [t0, t1]; simp
        rw [toI_fin hn]
        have hp : 2 ^ (150 - fE a) ≤ 8388608 := by
          have : 2 ^ (150 - fE a) ≤ 2 ^ 23 := Nat.pow_le_pow_right (by decide) (by omega)
          exact this
        have hpos : 0 < 2 ^ (150 - fE a) := Nat.pow_pos (by decide)
        have h0 : 1 ≤ (8388608 + fT a) / 2 ^ (150 - fE a) := (Nat.le_div_iff_mul_le hpos).mpr (by omega)
        generalize (8388608 + fT a) / 2 ^ (150 - fE a) = n at h0
        by_cases h3 : a < 0
        · rw [if_pos h3, decide_eq_true h3, if_pos rfl]
          exact Or.inl ⟨fun q => h1 q.1, rfl, toI_rng (Or.inl (by omega))⟩
        · rw [if_neg h3, decide_eq_false h3, if_pos h4, if_neg nf]
          by_cases h5 : 12960000 ≤ n
          · rw [if_pos h5]
            exact Or.inl ⟨fun q => h1 q.1, rfl, toI_rng (Or.inr (by omega))⟩
          · rw [if_neg h5]
            have := toI_nat (n := n) (by omega)
            exact Or.inr ⟨fun q => h1 q.1, this.2, this.1⟩
      · have t0 : (-149 + ((fE a : Int) - 1)).toNat = fE a - 150 := by omega
        have t1 : (-(-149 + ((fE a : Int) - 1))).toNat = 0 := by omega
        have hn : (8388608 + fT a) * 2 ^ (-149 + ((fE a : Int) - 1)).toNat / 2 ^ (-(-149 + ((fE a : Int) - 1))).toNat = (8388608 + fT a) * 2 ^ (fE a - 150) := by rw [t0, t1]; simp
        rw [toI_fin hn]
        have hp : 2 ≤ 2 ^ (fE a - 150) := by
          have : 2 ^ 1 ≤ 2 ^ (fE a - 150) := Nat.pow_le_pow_right (by decide) (by omega)
          exact this
        have h0 : 16777216 ≤ (8388608 + fT a) * 2 ^ (fE a - 150) := by
          have := Nat.mul_le_mul (show 8388608 ≤ 8388608 + fT a by omega) hp
          omega
        generalize (8388608 + fT a) * 2 ^ (fE a - 150) = n at h0
        rw [if_neg h4]
        by_cases h3 : a < 0
        · rw [if_pos h3, decide_eq_true h3, if_pos rfl]
          exact Or.inl ⟨fun q => h1 q.1, rfl, toI_rng (Or.inl (by omega))⟩
        · rw [if_neg h3, decide_eq_false h3, if_neg nf]
          exact Or.inl ⟨fun q => h1 q.1, rfl, toI_rng (Or.inr (by omega))⟩
    · rw [if_neg h2]
      right
      have zz : ∀ s : Bool, Int32.ofInt (max (-2147483648) (min 2147483647 (if s = true then -((0 : Nat) : Int) else ((0 : Nat) : Int)))) = 0 := by
        intro s
        cases s <;> decide
      refine ⟨fun q => h1 q.1, ⟨by decide, by decide⟩, ?_⟩
      by_cases h3 : fE a = 0
      · rw [if_pos h3]
        have hn : fT a * 2 ^ (-149 : Int).toNat / 2 ^ (-(-149) : Int).toNat = 0 := by
          apply Nat.div_eq_of_lt
          show fT a * 1 < 2 ^ 149
          have : (8388608 : Nat) < 2 ^ 149 := by decide
          omega
        rw [toI_fin hn]
        exact zz _
      · rw [if_neg h3]
        have t0 : (-149 + ((fE a : Int) - 1)).toNat = 0 := by omega
        have t1 : (-(-149 + ((fE a : Int) - 1))).toNat = 150 - fE a := by omega
        have hn : (8388608 + fT a) * 2 ^ (-149 + ((fE a : Int) - 1)).toNat / 2 ^ (-(-149 + ((fE a : Int) - 1))).toNat = 0 := by
          rw [t0, t1]
          apply Nat.div_eq_of_lt
          have : 2 ^ 24 ≤ 2 ^ (150 - fE a) := Nat.pow_le_pow_right (by decide) (by omega)
          have h24 : (2 : Nat) ^ 24 = 16777216 := by decide
          have h20 : (2 : Nat) ^ 0 = 1 := by decide
          rw [h24] at this
          rw [h20]
          omega
        rw [toI_fin hn]
        exact zz _
end PBFloat
