/-! how many bits: both counts are one -/
section PBCount
theorem andP (n : Nat) {x y X Y : Nat} (hx : x < 2 ^ n) (hy : y < 2 ^ n) : (2 ^ n * X + x) &&& (2 ^ n * Y + y) = 2 ^ n * (X &&& Y) + (x &&& y) := by
  have p : 0 < 2 ^ n := Nat.pow_pos (by omega)
  have d : ∀ z, 2 ^ n * (z / 2 ^ n) + z % 2 ^ n = z := fun z => Nat.div_add_mod z (2 ^ n)
  have q : ∀ {X x : Nat}, x < 2 ^ n → (2 ^ n * X + x) / 2 ^ n = X ∧ (2 ^ n * X + x) % 2 ^ n = x := fun {X x} h => by
    constructor
    · rw [Nat.mul_add_div p, Nat.div_eq_of_lt h, Nat.add_zero]
    · rw [Nat.mul_add_mod, Nat.mod_eq_of_lt h]
  rw [← d ((2 ^ n * X + x) &&& (2 ^ n * Y + y)), Nat.and_div_two_pow, Nat.and_mod_two_pow, (q hx).1, (q hx).2, (q hy).1, (q hy).2]
def bq (b : Nat) : Nat := (b / 2) &&& 85
def bc (b : Nat) : Nat := b - bq b
def be (b : Nat) : Nat := (bc b &&& 51) + ((bc b / 4) &&& 51)
def bp (b : Nat) : Nat := be b % 16 + be b / 16
theorem byteG : ∀ h, h < 16 → ∀ l, l < 16 → bq (16 * h + l) ≤ 16 * h + l ∧ be (16 * h + l) % 16 ≤ 4 ∧ be (16 * h + l) / 16 ≤ 4 ∧ bp (16 * h + l) ≤ 8 ∧ (ixf (16 * h + l).testBit 8 0).length = bp (16 * h + l) := by decide
theorem byteF : ∀ b, b < 256 → bq b ≤ b ∧ be b % 16 ≤ 4 ∧ be b / 16 ≤ 4 ∧ bp b ≤ 8 ∧ (ixf b.testBit 8 0).length = bp b := fun b hb => by
  have h := byteG (b / 16) (by omega) (b % 16) (by omega)
  rw [Nat.div_add_mod] at h
  exact h
theorem by4 {x a b c d : Nat} (hx : x = 16777216 * d + (65536 * c + (256 * b + a))) : x = 2 ^ 8 * (2 ^ 8 * (2 ^ 8 * d + c) + b) + a := by omega
theorem an4 {a b c d A B C D : Nat} (ha : a < 256) (hb : b < 256) (hc : c < 256) (hA : A < 256) (hB : B < 256) (hC : C < 256) : (16777216 * d + (65536 * c + (256 * b + a))) &&& (16777216 * D + (65536 * C + (256 * B + A))) = 16777216 * (d &&& D) + (65536 * (c &&& C) + (256 * (b &&& B) + (a &&& A))) := by
  rw [by4 (x := 16777216 * d + (65536 * c + (256 * b + a))) rfl, by4 (x := 16777216 * D + (65536 * C + (256 * B + A))) rfl, andP 8 ha hA, andP 8 hb hB, andP 8 hc hC]
  omega
theorem lo85 {y c : Nat} (hy : y < 128) : (128 * c + y) &&& 85 = y &&& 85 := by
  have h := andP 7 (X := c) (Y := 0) (x := y) (y := 85) hy (by decide)
  rw [Nat.and_zero, Nat.mul_zero, Nat.zero_add, Nat.zero_add] at h
  exact h
theorem lo51 {y c : Nat} (hy : y < 64) : (64 * c + y) &&& 51 = y &&& 51 := by
  have h := andP 6 (X := c) (Y := 0) (x := y) (y := 51) hy (by decide)
  rw [Nat.and_zero, Nat.mul_zero, Nat.zero_add, Nat.zero_add] at h
  exact h
theorem and_15 (x : Nat) : x &&& 15 = x % 16 := Nat.and_two_pow_sub_one_eq_mod x 4
theorem and_63 (x : Nat) : x &&& 63 = x % 64 := Nat.and_two_pow_sub_one_eq_mod x 6
theorem dv2 {a b c d a1 b1 c1 d1 a0 b0 c0 d0 : Nat} (ha : a = 2 * a1 + a0) (hb : b = 2 * b1 + b0) (hc : c = 2 * c1 + c0) (hd : d = 2 * d1 + d0) (ha0 : a0 < 2) : (16777216 * d + (65536 * c + (256 * b + a))) / 2 = 16777216 * d1 + (65536 * (128 * d0 + c1) + (256 * (128 * c0 + b1) + (128 * b0 + a1))) := by omega
theorem dv4 {a b c d a1 b1 c1 d1 a0 b0 c0 d0 : Nat} (ha : a = 4 * a1 + a0) (hb : b = 4 * b1 + b0) (hc : c = 4 * c1 + c0) (hd : d = 4 * d1 + d0) (ha0 : a0 < 4) : (16777216 * d + (65536 * c + (256 * b + a))) / 4 = 16777216 * d1 + (65536 * (64 * d0 + c1) + (256 * (64 * c0 + b1) + (64 * b0 + a1))) := by omega
theorem dv16 {a b c d a1 b1 c1 d1 a0 b0 c0 d0 : Nat} (ha : a = 16 * a1 + a0) (hb : b = 16 * b1 + b0) (hc : c = 16 * c1 + c0) (hd : d = 16 * d1 + d0) (ha0 : a0 < 16) : (16777216 * d + (65536 * c + (256 * b + a))) / 16 = 16777216 * d1 + (65536 * (16 * d0 + c1) + (256 * (16 * c0 + b1) + (16 * b0 + a1))) := by omega
theorem st0 {a b c d qa qb qc qd A : Nat} (ha : a < 256) (hb : b < 256) (hc : c < 256) (hd : d < 256) (hA : A = 16777216 * d + (65536 * c + (256 * b + a))) (a1 : qa ≤ a) (b1 : qb ≤ b) (c1 : qc ≤ c) (d1 : qd ≤ d) : (4294967296 - (16777216 * qd + (65536 * qc + (256 * qb + qa))) + A) % 4294967296 = 16777216 * (d - qd) + (65536 * (c - qc) + (256 * (b - qb) + (a - qa))) := by
  obtain ⟨ra, rfl⟩ : ∃ r, a = qa + r := ⟨a - qa, by omega⟩
  obtain ⟨rb, rfl⟩ : ∃ r, b = qb + r := ⟨b - qb, by omega⟩
  obtain ⟨rc, rfl⟩ : ∃ r, c = qc + r := ⟨c - qc, by omega⟩
  obtain ⟨rd, rfl⟩ : ∃ r, d = qd + r := ⟨d - qd, by omega⟩
  rw [Nat.add_sub_cancel_left, Nat.add_sub_cancel_left, Nat.add_sub_cancel_left, Nat.add_sub_cancel_left]
  have e : 4294967296 - (16777216 * qd + (65536 * qc + (256 * qb + qa))) + A = 4294967296 + (16777216 * rd + (65536 * rc + (256 * rb + ra))) := by omega
  rw [e, Nat.add_mod_left, Nat.mod_eq_of_lt (by omega)]
theorem st4 {p q r s : Nat} (hp : p ≤ 8) (hq : q ≤ 8) (hr : r ≤ 8) (hs : s ≤ 8) {x2 x3 x4 : Nat} (h2 : x2 = 16777216 * s + (65536 * r + (256 * q + p))) (h3 : x3 = (x2 + x2 / 256) % 4294967296) (h4 : x4 = (x3 + x3 / 65536) % 4294967296) : x4 % 64 = p + q + r + s := by
  have e2 : x2 / 256 = 65536 * s + (256 * r + q) := by omega
  have e3 : x3 = 16777216 * s + (65536 * (r + s) + (256 * (q + r) + (p + q))) := by rw [h3, e2, Nat.mod_eq_of_lt (by omega)]; omega
  have e4 : x3 / 65536 = 256 * s + (r + s) := by omega
  have e5 : x4 = 16777216 * s + (65536 * (r + s) + (256 * (q + r + s) + (p + q + (r + s)))) := by rw [h4, e4, Nat.mod_eq_of_lt (by omega)]; omega
  omega
theorem swar {a b c d : Nat} (ha : a < 256) (hb : b < 256) (hc : c < 256) (hd : d < 256) {A x0 x1 x2 x3 x4 : Nat} (hA : A = 16777216 * d + (65536 * c + (256 * b + a))) (h0 : x0 = (4294967296 - ((A / 2) &&& 1431655765) + A) % 4294967296) (h1 : x1 = ((x0 &&& 858993459) + ((x0 / 4) &&& 858993459)) % 4294967296) (h2 : x2 = ((x1 + x1 / 16) % 4294967296) &&& 252645135) (h3 : x3 = (x2 + x2 / 256) % 4294967296) (h4 : x4 = (x3 + x3 / 65536) % 4294967296) : x4 &&& 63 = bp a + bp b + bp c + bp d := by
  obtain ⟨a1, a2, a3, a4, -⟩ := byteF a ha
  obtain ⟨b1, b2, b3, b4, -⟩ := byteF b hb
  obtain ⟨c1, c2, c3, c4, -⟩ := byteF c hc
  obtain ⟨d1, d2, d3, d4, -⟩ := byteF d hd
  have dm : ∀ n x, x = n * (x / n) + x % n := fun n x => (Nat.div_add_mod x n).symm
  have ml : ∀ {n x}, 0 < n → x % n < n := fun h => Nat.mod_lt _ h
  have s1 : (A / 2) &&& 1431655765 = 16777216 * bq d + (65536 * bq c + (256 * bq b + bq a)) := by
    have em : (1431655765 : Nat) = 16777216 * 85 + (65536 * 85 + (256 * 85 + 85)) := rfl
    rw [hA, dv2 (dm 2 a) (dm 2 b) (dm 2 c) (dm 2 d) (ml (by decide)), em, an4 (by omega) (by omega) (by omega) (by decide) (by decide) (by decide), lo85 (by omega), lo85 (by omega), lo85 (by omega)]
    rfl
  have s0 : x0 = 16777216 * bc d + (65536 * bc c + (256 * bc b + bc a)) := by
    rw [h0, s1]
    exact st0 ha hb hc hd hA a1 b1 c1 d1
  have la : bc a < 256 := by unfold bc; omega
  have lb : bc b < 256 := by unfold bc; omega
  have lc : bc c < 256 := by unfold bc; omega
  have em : (858993459 : Nat) = 16777216 * 51 + (65536 * 51 + (256 * 51 + 51)) := rfl
  have t1 : x0 &&& 858993459 = 16777216 * (bc d &&& 51) + (65536 * (bc c &&& 51) + (256 * (bc b &&& 51) + (bc a &&& 51))) := by
    rw [s0, em, an4 la lb lc (by decide) (by decide) (by decide)]
  have t2 : (x0 / 4) &&& 858993459 = 16777216 * ((bc d / 4) &&& 51) + (65536 * ((bc c / 4) &&& 51) + (256 * ((bc b / 4) &&& 51) + ((bc a / 4) &&& 51))) := by
    rw [s0, dv4 (dm 4 (bc a)) (dm 4 (bc b)) (dm 4 (bc c)) (dm 4 (bc d)) (ml (by decide)), em, an4 (by omega) (by omega) (by omega) (by decide) (by decide) (by decide), lo51 (by omega), lo51 (by omega), lo51 (by omega)]
  have ea : be a = (bc a &&& 51) + ((bc a / 4) &&& 51) := rfl
  have eb : be b = (bc b &&& 51) + ((bc b / 4) &&& 51) := rfl
  have ec : be c = (bc c &&& 51) + ((bc c / 4) &&& 51) := rfl
  have ed : be d = (bc d &&& 51) + ((bc d / 4) &&& 51) := rfl
  have u1 : x1 = 16777216 * be d + (65536 * be c + (256 * be b + be a)) := by
    rw [h1, t1, t2, Nat.mod_eq_of_lt (by omega), ea, eb, ec, ed]
    omega
  have pa : bp a = be a % 16 + be a / 16 := rfl
  have pb : bp b = be b % 16 + be b / 16 := rfl
  have pc : bp c = be c % 16 + be c / 16 := rfl
  have pd : bp d = be d % 16 + be d / 16 := rfl
  have u2 : x2 = 16777216 * bp d + (65536 * bp c + (256 * bp b + bp a)) := by
    have fa := dm 16 (be a)
    have fb := dm 16 (be b)
    have fc := dm 16 (be c)
    have fd := dm 16 (be d)
    have q := dv16 fa fb fc fd (ml (by decide))
    rw [h2, u1, q, pa, pb, pc, pd]
    generalize be a % 16 = a0 at *
    generalize be b % 16 = b0 at *
    generalize be c % 16 = c0 at *
    generalize be d % 16 = d0 at *
    generalize be a / 16 = e1 at *
    generalize be b / 16 = f1 at *
    generalize be c / 16 = g1 at *
    generalize be d / 16 = i1 at *
    rw [fa, fb, fc, fd]
    clear q fa fb fc fd ea eb ec ed t1 t2 u1 s0 s1 em h1 h2 h3 h4 h0 hA
    have e : (16777216 * (16 * i1 + d0) + (65536 * (16 * g1 + c0) + (256 * (16 * f1 + b0) + (16 * e1 + a0))) + (16777216 * i1 + (65536 * (16 * d0 + g1) + (256 * (16 * c0 + f1) + (16 * b0 + e1))))) % 4294967296 = 16777216 * (16 * i1 + (d0 + i1)) + (65536 * (16 * (g1 + d0) + (c0 + g1)) + (256 * (16 * (f1 + c0) + (b0 + f1)) + (16 * (e1 + b0) + (a0 + e1)))) := by
      rw [Nat.mod_eq_of_lt (by omega)]
      omega
    have em : (252645135 : Nat) = 16777216 * 15 + (65536 * 15 + (256 * 15 + 15)) := rfl
    have md : ∀ {u v : Nat}, v < 16 → (16 * u + v) % 16 = v := fun h => by omega
    rw [e, em, an4 (by omega) (by omega) (by omega) (by decide) (by decide) (by decide), and_15, and_15, and_15, and_15, md (by omega), md (by omega), md (by omega), md (by omega)]
  rw [and_63]
  exact st4 a4 b4 c4 d4 u2 h3 h4
end PBCount
