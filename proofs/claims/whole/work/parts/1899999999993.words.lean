/-! the reference's whole numbers: six words -/
section PBWords
def u32 (x : Int32) : Int := x.toInt % 4294967296
theorem u32_rng (x : Int32) : 0 ≤ u32 x ∧ u32 x < 4294967296 := by unfold u32; omega
theorem u32_nat (x : Int32) : u32 x = (x.toBitVec.toNat : Int) := by
  unfold u32
  have h3 : x.toInt = x.toBitVec.toInt := rfl
  have l := x.toBitVec.isLt
  rw [h3, BitVec.toInt_eq_toNat_cond]
  split <;> omega
theorem uM {x : Int32} : (Int32.toInt64 x &&& 4294967295).toInt = u32 x := by
  have := andM (x := Int32.toInt64 x) (k := 32) (c := 4294967295) (by decide) (by decide)
  rw [this, i2l]
  rfl
theorem u32_l {s : Int64} : u32 (Int64.toInt32 s) = s.toInt % 4294967296 := by
  unfold u32
  rw [Int64.toInt_toInt32, show (2 ^ 32 : Nat) = 4294967296 from rfl]
  exact Int.bmod_emod
theorem u32_not {x : Int32} : u32 (x ^^^ (-1)) = 4294967295 - u32 x := by
  rw [u32_nat, u32_nat]
  have e : (x ^^^ (-1)).toBitVec = ~~~ x.toBitVec := by
    rw [Int32.toBitVec_xor]
    show x.toBitVec ^^^ BitVec.allOnes 32 = _
    exact BitVec.xor_allOnes
  have l := x.toBitVec.isLt
  rw [e, BitVec.toNat_not]
  omega
theorem shr32 {x : Int64} (h : 0 ≤ x.toInt) : ((Int64.toUInt64 x >>> ((Int32.toInt64 32).toUInt64 &&& Int64.toUInt64 63)).toInt64).toInt = x.toInt / 4294967296 := shrS (x := x) (s := 32) (by decide) h
def pW : Nat → Int
  | 0 => 1
  | n + 1 => pW n * 4294967296
theorem pW_pos : ∀ n, 0 < pW n := by
  intro n
  induction n with
  | zero => decide
  | succ n ih => show 0 < pW n * 4294967296; omega
def wvx (f : Nat → Int32) (p : Nat) : Nat → Int
  | 0 => 0
  | n + 1 => wvx f p n + u32 (f (p + n)) * pW n
theorem wvx_s {f : Nat → Int32} {p n : Nat} : wvx f p (n + 1) = wvx f p n + u32 (f (p + n)) * pW n := rfl
theorem wvx_c {f g : Nat → Int32} {p q : Nat} : ∀ n, (∀ i, i < n → f (p + i) = g (q + i)) → wvx f p n = wvx g q n := by
  intro n
  induction n with
  | zero => intro _; rfl
  | succ n ih => intro h; rw [wvx_s, wvx_s, ih (fun i hi => h i (by omega)), h n (by omega)]
theorem wvx_rng {f : Nat → Int32} {p : Nat} : ∀ n, 0 ≤ wvx f p n ∧ wvx f p n < pW n := by
  intro n
  induction n with
  | zero => exact ⟨Int.le_refl _, by show (0 : Int) < 1; decide⟩
  | succ n ih =>
    obtain ⟨a, b⟩ := u32_rng (f (p + n))
    have pp := pW_pos n
    have u : u32 (f (p + n)) * pW n ≤ 4294967295 * pW n := Int.mul_le_mul_of_nonneg_right (by omega) (by omega)
    have v : 0 ≤ u32 (f (p + n)) * pW n := Int.mul_nonneg a (by omega)
    have e : pW (n + 1) = pW n * 4294967296 := rfl
    rw [wvx_s]
    omega
def w6 (f : Nat → Int32) (p : Nat) : Int := wvx f p 6
theorem w6_rng {f : Nat → Int32} {p : Nat} : 0 ≤ w6 f p ∧ w6 f p < pW 6 := wvx_rng 6
/-- six words hold v, as far as they can -/
def wd (f : Nat → Int32) (p : Nat) (v : Int) : Prop := w6 f p = v % pW 6
def wF (p : Nat) (f F : Nat → Int32) : Prop := ∀ k, (k < p ∨ p + 6 ≤ k) → F k = f k
theorem wd_c {f g : Nat → Int32} {p q : Nat} {v : Int} (h : wd f p v) (e : ∀ i, i < 6 → g (q + i) = f (p + i)) : wd g q v := by
  unfold wd w6 at *
  rw [wvx_c 6 e]
  exact h
theorem wd_w6 {f : Nat → Int32} {p : Nat} : wd f p (w6 f p) := (Int.emod_eq_of_lt w6_rng.1 w6_rng.2).symm
theorem wd_nn {f : Nat → Int32} {p : Nat} {v : Int} (h : wd f p v) (h0 : 0 ≤ v) (h1 : v < pW 6) : w6 f p = v := by
  unfold wd at h
  rw [h, Int.emod_eq_of_lt h0 h1]
/-- added -/
def adL (f g : Nat → Int32) (p q : Nat) : Nat → Int64 × (Nat → Int32)
  | 0 => (0, f)
  | i + 1 => (((Int64.toUInt64 ((adL f g p q i).1 + (((Int32.toInt64 (f (p + i))) &&& 4294967295) + ((Int32.toInt64 (g (q + i))) &&& 4294967295))) >>> ((Int32.toInt64 32).toUInt64 &&& Int64.toUInt64 63)).toInt64), pu (adL f g p q i).2 (p + i) (Int64.toInt32 ((adL f g p q i).1 + (((Int32.toInt64 (f (p + i))) &&& 4294967295) + ((Int32.toInt64 (g (q + i))) &&& 4294967295)))))
theorem pu_wvx {F : Nat → Int32} {p i : Nat} {x : Int32} : wvx (pu F (p + i) x) p (i + 1) = wvx F p i + u32 x * pW i := by
  rw [wvx_s, pu_at, wvx_c (g := F) (q := p) i (fun j hj => pu_ne (by omega))]
theorem adL_v {f g : Nat → Int32} {p q : Nat} : ∀ i, (0 ≤ (adL f g p q i).1.toInt ∧ (adL f g p q i).1.toInt ≤ 1) ∧ (∀ k, (k < p ∨ p + i ≤ k) → (adL f g p q i).2 k = f k) ∧ wvx (adL f g p q i).2 p i + (adL f g p q i).1.toInt * pW i = wvx f p i + wvx g q i := by
  intro i
  induction i with
  | zero =>
    have z : (0 : Int64).toInt = 0 := rfl
    exact ⟨⟨by show 0 ≤ (0 : Int64).toInt; omega, by show (0 : Int64).toInt ≤ 1; omega⟩, fun _ _ => rfl, by show (0 : Int) + 0 * 1 = 0 + 0; rfl⟩
  | succ i ih =>
    obtain ⟨⟨c0, c1⟩, o, v⟩ := ih
    show (0 ≤ ((Int64.toUInt64 ((adL f g p q i).1 + (((Int32.toInt64 (f (p + i))) &&& 4294967295) + ((Int32.toInt64 (g (q + i))) &&& 4294967295))) >>> ((Int32.toInt64 32).toUInt64 &&& Int64.toUInt64 63)).toInt64).toInt ∧ ((Int64.toUInt64 ((adL f g p q i).1 + (((Int32.toInt64 (f (p + i))) &&& 4294967295) + ((Int32.toInt64 (g (q + i))) &&& 4294967295))) >>> ((Int32.toInt64 32).toUInt64 &&& Int64.toUInt64 63)).toInt64).toInt ≤ 1) ∧ (∀ k, (k < p ∨ p + (i + 1) ≤ k) → pu (adL f g p q i).2 (p + i) (Int64.toInt32 ((adL f g p q i).1 + (((Int32.toInt64 (f (p + i))) &&& 4294967295) + ((Int32.toInt64 (g (q + i))) &&& 4294967295)))) k = f k) ∧ wvx (pu (adL f g p q i).2 (p + i) (Int64.toInt32 ((adL f g p q i).1 + (((Int32.toInt64 (f (p + i))) &&& 4294967295) + ((Int32.toInt64 (g (q + i))) &&& 4294967295))))) p (i + 1) + ((Int64.toUInt64 ((adL f g p q i).1 + (((Int32.toInt64 (f (p + i))) &&& 4294967295) + ((Int32.toInt64 (g (q + i))) &&& 4294967295))) >>> ((Int32.toInt64 32).toUInt64 &&& Int64.toUInt64 63)).toInt64).toInt * pW (i + 1) = _
    have a := u32_rng (f (p + i))
    have b := u32_rng (g (q + i))
    have m1 := addL (a := (Int32.toInt64 (f (p + i))) &&& 4294967295) (b := (Int32.toInt64 (g (q + i))) &&& 4294967295) (by rw [uM, uM]; omega) (by rw [uM, uM]; omega)
    rw [uM, uM] at m1
    have m2 := addL (a := (adL f g p q i).1) (b := ((Int32.toInt64 (f (p + i))) &&& 4294967295) + ((Int32.toInt64 (g (q + i))) &&& 4294967295)) (by rw [m1]; omega) (by rw [m1]; omega)
    rw [m1] at m2
    generalize hS : (adL f g p q i).1 + (((Int32.toInt64 (f (p + i))) &&& 4294967295) + ((Int32.toInt64 (g (q + i))) &&& 4294967295)) = S at *
    have sh := shr32 (x := S) (by omega)
    have d := Int.emod_add_mul_ediv S.toInt 4294967296
    rw [pu_wvx, u32_l, sh, wvx_s, wvx_s]
    have pe : pW (i + 1) = pW i * 4294967296 := rfl
    refine ⟨by omega, fun k hk => by rw [pu_ne (by omega)]; exact o k (by omega), ?_⟩
    rw [pe]
    generalize S.toInt % 4294967296 = R at *
    generalize S.toInt / 4294967296 = Q at *
    generalize u32 (f (p + i)) = X at *
    generalize u32 (g (q + i)) = Y at *
    rw [← d] at m2
    grind
theorem adL_6 {f g : Nat → Int32} {p q : Nat} {x y : Int} (hx : wd f p x) (hy : wd g q y) : wF p f (adL f g p q 6).2 ∧ wd (adL f g p q 6).2 p (x + y) := by
  obtain ⟨⟨c0, c1⟩, o, v⟩ := adL_v (f := f) (g := g) (p := p) (q := q) 6
  refine ⟨o, ?_⟩
  have r := w6_rng (f := (adL f g p q 6).2) (p := p)
  unfold wd at *
  rw [Int.add_emod, ← hx, ← hy]
  have e : w6 f p + w6 g q = w6 (adL f g p q 6).2 p + pW 6 * (adL f g p q 6).1.toInt := by
    have : w6 (adL f g p q 6).2 p + (adL f g p q 6).1.toInt * pW 6 = w6 f p + w6 g q := v
    rw [← this, Int.mul_comm]
  rw [e, Int.add_mul_emod_self_left, Int.emod_eq_of_lt r.1 r.2]
/-- less than nothing -/
def tnL (f : Nat → Int32) (p : Nat) : Nat → Int64 × (Nat → Int32)
  | 0 => (1, f)
  | i + 1 => (((Int64.toUInt64 ((tnL f p i).1 + ((Int32.toInt64 ((f (p + i)) ^^^ ((-1)))) &&& 4294967295)) >>> ((Int32.toInt64 32).toUInt64 &&& Int64.toUInt64 63)).toInt64), pu (tnL f p i).2 (p + i) (Int64.toInt32 ((tnL f p i).1 + ((Int32.toInt64 ((f (p + i)) ^^^ ((-1)))) &&& 4294967295))))
theorem tnL_v {f : Nat → Int32} {p : Nat} : ∀ i, (0 ≤ (tnL f p i).1.toInt ∧ (tnL f p i).1.toInt ≤ 1) ∧ (∀ k, (k < p ∨ p + i ≤ k) → (tnL f p i).2 k = f k) ∧ wvx (tnL f p i).2 p i + (tnL f p i).1.toInt * pW i = pW i - wvx f p i := by
  intro i
  induction i with
  | zero =>
    have z : (1 : Int64).toInt = 1 := rfl
    exact ⟨⟨by show 0 ≤ (1 : Int64).toInt; omega, by show (1 : Int64).toInt ≤ 1; omega⟩, fun _ _ => rfl, by show (0 : Int) + 1 * 1 = 1 - 0; rfl⟩
  | succ i ih =>
    obtain ⟨⟨c0, c1⟩, o, v⟩ := ih
    show (0 ≤ ((Int64.toUInt64 ((tnL f p i).1 + ((Int32.toInt64 ((f (p + i)) ^^^ ((-1)))) &&& 4294967295)) >>> ((Int32.toInt64 32).toUInt64 &&& Int64.toUInt64 63)).toInt64).toInt ∧ ((Int64.toUInt64 ((tnL f p i).1 + ((Int32.toInt64 ((f (p + i)) ^^^ ((-1)))) &&& 4294967295)) >>> ((Int32.toInt64 32).toUInt64 &&& Int64.toUInt64 63)).toInt64).toInt ≤ 1) ∧ (∀ k, (k < p ∨ p + (i + 1) ≤ k) → pu (tnL f p i).2 (p + i) (Int64.toInt32 ((tnL f p i).1 + ((Int32.toInt64 ((f (p + i)) ^^^ ((-1)))) &&& 4294967295))) k = f k) ∧ wvx (pu (tnL f p i).2 (p + i) (Int64.toInt32 ((tnL f p i).1 + ((Int32.toInt64 ((f (p + i)) ^^^ ((-1)))) &&& 4294967295)))) p (i + 1) + ((Int64.toUInt64 ((tnL f p i).1 + ((Int32.toInt64 ((f (p + i)) ^^^ ((-1)))) &&& 4294967295)) >>> ((Int32.toInt64 32).toUInt64 &&& Int64.toUInt64 63)).toInt64).toInt * pW (i + 1) = _
    have a := u32_rng (f (p + i))
    have m2 := addL (a := (tnL f p i).1) (b := ((Int32.toInt64 ((f (p + i)) ^^^ ((-1)))) &&& 4294967295)) (by rw [uM, u32_not]; omega) (by rw [uM, u32_not]; omega)
    rw [uM, u32_not] at m2
    generalize hS : (tnL f p i).1 + ((Int32.toInt64 ((f (p + i)) ^^^ ((-1)))) &&& 4294967295) = S at *
    have sh := shr32 (x := S) (by omega)
    have d := Int.emod_add_mul_ediv S.toInt 4294967296
    rw [pu_wvx, u32_l, sh, wvx_s]
    have pe : pW (i + 1) = pW i * 4294967296 := rfl
    refine ⟨by omega, fun k hk => by rw [pu_ne (by omega)]; exact o k (by omega), ?_⟩
    rw [pe]
    generalize S.toInt % 4294967296 = R at *
    generalize S.toInt / 4294967296 = Q at *
    generalize u32 (f (p + i)) = X at *
    rw [← d] at m2
    grind
theorem tnL_6 {f : Nat → Int32} {p : Nat} {x : Int} (hx : wd f p x) : wF p f (tnL f p 6).2 ∧ wd (tnL f p 6).2 p (- x) := by
  obtain ⟨⟨c0, c1⟩, o, v⟩ := tnL_v (f := f) (p := p) 6
  refine ⟨o, ?_⟩
  have r := w6_rng (f := (tnL f p 6).2) (p := p)
  have v : w6 (tnL f p 6).2 p + (tnL f p 6).1.toInt * pW 6 = pW 6 - w6 f p := v
  unfold wd at *
  have d := Int.emod_add_mul_ediv x (pW 6)
  rw [← hx] at d
  have e : - x = w6 (tnL f p 6).2 p + pW 6 * ((tnL f p 6).1.toInt - 1 - x / pW 6) := by
    generalize x / pW 6 = K at *
    generalize pW 6 = P at *
    rw [← d]
    grind
  rw [e, Int.add_mul_emod_self_left, Int.emod_eq_of_lt r.1 r.2]
/-- times a number -/
def tmL (f g : Nat → Int32) (p q : Nat) (b : Int64) : Nat → Int64 × (Nat → Int32)
  | 0 => (0, f)
  | i + 1 => (((Int64.toUInt64 ((tmL f g p q b i).1 + (((Int32.toInt64 (g (q + i))) &&& 4294967295) * b)) >>> ((Int32.toInt64 32).toUInt64 &&& Int64.toUInt64 63)).toInt64), pu (tmL f g p q b i).2 (p + i) (Int64.toInt32 ((tmL f g p q b i).1 + (((Int32.toInt64 (g (q + i))) &&& 4294967295) * b))))
theorem tmL_v {f g : Nat → Int32} {p q : Nat} {b : Int64} (b0 : 0 ≤ b.toInt) (b1 : b.toInt ≤ 2147483648) : ∀ i, (0 ≤ (tmL f g p q b i).1.toInt ∧ ((tmL f g p q b i).1.toInt = 0 ∨ (tmL f g p q b i).1.toInt < b.toInt)) ∧ (∀ k, (k < p ∨ p + i ≤ k) → (tmL f g p q b i).2 k = f k) ∧ wvx (tmL f g p q b i).2 p i + (tmL f g p q b i).1.toInt * pW i = wvx g q i * b.toInt := by
  intro i
  induction i with
  | zero =>
    have z : (0 : Int64).toInt = 0 := rfl
    exact ⟨⟨by show 0 ≤ (0 : Int64).toInt; omega, Or.inl rfl⟩, fun _ _ => rfl, by show (0 : Int) + 0 * 1 = 0 * _; omega⟩
  | succ i ih =>
    obtain ⟨⟨c0, c1⟩, o, v⟩ := ih
    show (0 ≤ ((Int64.toUInt64 ((tmL f g p q b i).1 + (((Int32.toInt64 (g (q + i))) &&& 4294967295) * b)) >>> ((Int32.toInt64 32).toUInt64 &&& Int64.toUInt64 63)).toInt64).toInt ∧ (((Int64.toUInt64 ((tmL f g p q b i).1 + (((Int32.toInt64 (g (q + i))) &&& 4294967295) * b)) >>> ((Int32.toInt64 32).toUInt64 &&& Int64.toUInt64 63)).toInt64).toInt = 0 ∨ ((Int64.toUInt64 ((tmL f g p q b i).1 + (((Int32.toInt64 (g (q + i))) &&& 4294967295) * b)) >>> ((Int32.toInt64 32).toUInt64 &&& Int64.toUInt64 63)).toInt64).toInt < b.toInt)) ∧ (∀ k, (k < p ∨ p + (i + 1) ≤ k) → pu (tmL f g p q b i).2 (p + i) (Int64.toInt32 ((tmL f g p q b i).1 + (((Int32.toInt64 (g (q + i))) &&& 4294967295) * b))) k = f k) ∧ wvx (pu (tmL f g p q b i).2 (p + i) (Int64.toInt32 ((tmL f g p q b i).1 + (((Int32.toInt64 (g (q + i))) &&& 4294967295) * b)))) p (i + 1) + ((Int64.toUInt64 ((tmL f g p q b i).1 + (((Int32.toInt64 (g (q + i))) &&& 4294967295) * b)) >>> ((Int32.toInt64 32).toUInt64 &&& Int64.toUInt64 63)).toInt64).toInt * pW (i + 1) = _
    have a := u32_rng (g (q + i))
    have mm0 := Int.mul_nonneg a.1 b0
    have c2 : (tmL f g p q b i).1.toInt ≤ 2147483647 := by rcases c1 with h | h <;> omega
    have mb : u32 (g (q + i)) * b.toInt ≤ 4294967295 * b.toInt := Int.mul_le_mul_of_nonneg_right (by omega) b0
    have mm1 : u32 (g (q + i)) * b.toInt ≤ 4294967295 * 2147483648 := Int.mul_le_mul (by omega) b1 b0 (by omega)
    have m1 := mulL (a := (Int32.toInt64 (g (q + i))) &&& 4294967295) (b := b) (by rw [uM]; omega) (by rw [uM]; omega)
    rw [uM] at m1
    have m2 := addL (a := (tmL f g p q b i).1) (b := ((Int32.toInt64 (g (q + i))) &&& 4294967295) * b) (by rw [m1]; omega) (by rw [m1]; omega)
    rw [m1] at m2
    generalize hS : (tmL f g p q b i).1 + (((Int32.toInt64 (g (q + i))) &&& 4294967295) * b) = S at *
    have sh := shr32 (x := S) (by omega)
    have d := Int.emod_add_mul_ediv S.toInt 4294967296
    rw [pu_wvx, u32_l, sh, wvx_s]
    have pe : pW (i + 1) = pW i * 4294967296 := rfl
    refine ⟨⟨by omega, by rcases c1 with h | h <;> omega⟩, fun k hk => by rw [pu_ne (by omega)]; exact o k (by omega), ?_⟩
    rw [pe]
    generalize S.toInt % 4294967296 = R at *
    generalize S.toInt / 4294967296 = Q at *
    generalize u32 (g (q + i)) = Y at *
    rw [← d] at m2
    grind
theorem tmL_6 {f g : Nat → Int32} {p q : Nat} {b : Int64} {x : Int} (b0 : 0 ≤ b.toInt) (b1 : b.toInt ≤ 2147483648) (hx : wd g q x) : wF p f (tmL f g p q b 6).2 ∧ wd (tmL f g p q b 6).2 p (x * b.toInt) := by
  obtain ⟨⟨c0, c1⟩, o, v⟩ := tmL_v (f := f) (g := g) (p := p) (q := q) b0 b1 6
  refine ⟨o, ?_⟩
  have r := w6_rng (f := (tmL f g p q b 6).2) (p := p)
  have v : w6 (tmL f g p q b 6).2 p + (tmL f g p q b 6).1.toInt * pW 6 = w6 g q * b.toInt := v
  unfold wd at *
  have d := Int.emod_add_mul_ediv x (pW 6)
  rw [← hx] at d
  have e : x * b.toInt = w6 (tmL f g p q b 6).2 p + pW 6 * ((tmL f g p q b 6).1.toInt + x / pW 6 * b.toInt) := by
    generalize x / pW 6 = K at *
    generalize pW 6 = P at *
    rw [← d]
    grind
  rw [e, Int.add_mul_emod_self_left, Int.emod_eq_of_lt r.1 r.2]
/-- a long, laid out -/
def stL (f : Nat → Int32) (p : Nat) (v : Int64) : Nat → Nat → Int32
  | 0 => f
  | i + 1 => pu (stL f p v i) (p + i) (if i = 0 then Int64.toInt32 v else if i = 1 then Int64.toInt32 (v >>> (Int32.toInt64 32 &&& 63)) else if 0 ≤ v.toInt then 0 else -1)
theorem stL_6 {f : Nat → Int32} {p : Nat} {v : Int64} : wF p f (stL f p v 6) ∧ wd (stL f p v 6) p v.toInt := by
  have o : ∀ i k, (k < p ∨ p + i ≤ k) → stL f p v i k = f k := by
    intro i
    induction i with
    | zero => intro k _; rfl
    | succ i ih =>
      intro k hk
      show pu _ _ _ k = _
      rw [pu_ne (by omega)]
      exact ih k (by omega)
  refine ⟨o 6, ?_⟩
  have s : ∀ i, wvx (stL f p v (i + 1)) p (i + 1) = wvx (stL f p v i) p i + u32 (if i = 0 then Int64.toInt32 v else if i = 1 then Int64.toInt32 (v >>> (Int32.toInt64 32 &&& 63)) else if 0 ≤ v.toInt then 0 else -1) * pW i := fun i => pu_wvx
  have rv := rngL v
  have sr := sarS (x := v) (s := 32) (by decide)
  have p32 : (2 : Int) ^ 32 = 4294967296 := by decide
  rw [p32] at sr
  have sr : (v >>> (32 &&& 63)).toInt = v.toInt / 4294967296 := sr
  have w0 : wvx (stL f p v 0) p 0 = 0 := rfl
  have q0 : pW 0 = 1 := rfl
  have q1 : pW 1 = 4294967296 := by decide
  have q2 : pW 2 = 18446744073709551616 := by decide
  have q3 : pW 3 = 79228162514264337593543950336 := by decide
  have q4 : pW 4 = 340282366920938463463374607431768211456 := by decide
  have q5 : pW 5 = 1461501637330902918203684832716283019655932542976 := by decide
  have q6 : pW 6 = 6277101735386680763835789423207666416102355444464034512896 := by decide
  have e := s 5
  rw [s 4, s 3, s 2, s 1, s 0, w0] at e
  simp at e
  rw [u32_l, u32_l, sr, q0, q1, q2, q3, q4, q5] at e
  unfold wd w6
  have z0 : u32 0 = 0 := rfl
  have zm : u32 (-1) = 4294967295 := rfl
  rw [q6]
  by_cases h : 0 ≤ v.toInt
  · rw [if_pos h, z0] at e
    omega
  · rw [if_neg h, zm] at e
    omega
/-- copied -/
def cpL (f g : Nat → Int32) (p q : Nat) : Nat → Nat → Int32
  | 0 => f
  | i + 1 => pu (cpL f g p q i) (p + i) (g (q + i))
theorem cpL_6 {f g : Nat → Int32} {p q : Nat} : wF p f (cpL f g p q 6) ∧ ∀ i, i < 6 → cpL f g p q 6 (p + i) = g (q + i) := by
  have o : ∀ i, (∀ k, (k < p ∨ p + i ≤ k) → cpL f g p q i k = f k) ∧ ∀ j, j < i → cpL f g p q i (p + j) = g (q + j) := by
    intro i
    induction i with
    | zero => exact ⟨fun k _ => rfl, fun j hj => by omega⟩
    | succ i ih =>
      refine ⟨fun k hk => ?_, fun j hj => ?_⟩
      · show pu _ _ _ k = _
        rw [pu_ne (by omega)]
        exact ih.1 k (by omega)
      · show pu _ _ _ (p + j) = _
        by_cases e : j = i
        · rw [e, pu_at]
        · rw [pu_ne (by omega)]; exact ih.2 j (by omega)
  exact o 6
end PBWords
