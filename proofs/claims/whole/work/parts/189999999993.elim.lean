/-! elimination without fractions, and Cramer's rule -/
section PBElim
def Dk (a : Nat → Nat → Int) (k : Nat) : Int := dF k a
def Xk (a : Nat → Nat → Int) (k l : Nat) (c : Nat → Int) : Int := dF k (pu a l c)
def Yk (a : Nat → Nat → Int) (k i : Nat) (c : Nat → Int) : Int := Dk a k * c i - sm k (fun l => a l i * Xk a k l c)
/-- the solution of the first k rows -/
def Cr (a : Nat → Nat → Int) (k : Nat) (c : Nat → Int) : Prop := ∀ i, i < k → Yk a k i c = 0
theorem Dk_0 {a : Nat → Nat → Int} : Dk a 0 = 1 := rfl
theorem Cr_0 {a : Nat → Nat → Int} {c : Nat → Int} : Cr a 0 c := fun i h => absurd h (Nat.not_lt_zero i)
theorem Yk_0 {a : Nat → Nat → Int} {c : Nat → Int} {i : Nat} : Yk a 0 i c = c i := by
  show 1 * c i - 0 = c i
  omega
theorem Dk_s {a : Nat → Nat → Int} {k : Nat} : Dk a (k + 1) = Yk a k k (a k) := by
  unfold Dk Yk Dk Xk
  rw [dF_last, Int.mul_comm]
theorem Xk_k {a : Nat → Nat → Int} {k : Nat} {c : Nat → Int} : Xk a (k + 1) k c = Yk a k k c := by
  unfold Xk Yk Dk
  rw [dF_last, pu_at, Int.mul_comm]
  congr 1
  · congr 1
    exact dF_c (fun i j _ hj => by rw [pu_ne (by omega)])
  · refine sm_c k (fun l hl => ?_)
    rw [pu_ne (by omega)]
    congr 1
    refine dF_c (fun i j _ hj => ?_)
    by_cases e : j = l
    · rw [e, pu_at, pu_at]
    · rw [pu_ne e, pu_ne e, pu_ne (by omega)]
theorem Yk_s {a : Nat → Nat → Int} {k i : Nat} {c : Nat → Int} : sm k (fun l => a l i * Xk a k l c) = Dk a k * c i - Yk a k i c := by unfold Yk; omega
/-- what elimination makes, times the pivot ahead -/
def Zk (a : Nat → Nat → Int) (k l : Nat) (c : Nat → Int) : Int := if l < k then Dk a (k + 1) * Xk a k l c - Xk a k l (a k) * Yk a k k c else Dk a k * Yk a k k c
theorem Zk_sum {a : Nat → Nat → Int} {k i : Nat} {c : Nat → Int} : sm (k + 1) (fun l => a l i * Zk a k l c) = Dk a (k + 1) * (Dk a k * c i - Yk a k i c) - Yk a k k c * (Dk a k * a k i - Yk a k i (a k)) + a k i * (Dk a k * Yk a k k c) := by
  show sm k (fun l => a l i * Zk a k l c) + a k i * Zk a k k c = _
  have e1 : Zk a k k c = Dk a k * Yk a k k c := if_neg (by omega)
  have e2 : sm k (fun l => a l i * Zk a k l c) = sm k (fun l => Dk a (k + 1) * (a l i * Xk a k l c) + (- Yk a k k c) * (a l i * Xk a k l (a k))) := by
    refine sm_c k (fun l hl => ?_)
    have : Zk a k l c = Dk a (k + 1) * Xk a k l c - Xk a k l (a k) * Yk a k k c := if_pos hl
    rw [this]
    grind
  rw [e1, e2, sm_add, sm_mul, sm_mul, Yk_s, Yk_s]
  grind
theorem el_step {a : Nat → Nat → Int} {k : Nat} {c : Nat → Int} (hc : Cr a k c) (hk : Cr a k (a k)) (h0 : Dk a k ≠ 0) (h1 : Dk a (k + 1) ≠ 0) : (∀ l, l < k → Dk a k * Xk a (k + 1) l c = Dk a (k + 1) * Xk a k l c - Xk a k l (a k) * Yk a k k c) ∧ Xk a (k + 1) k c = Yk a k k c ∧ Cr a (k + 1) c ∧ ∀ i, Dk a k * Yk a (k + 1) i c = Dk a (k + 1) * Yk a k i c - Yk a k i (a k) * Yk a k k c := by
  have zr : ∀ i, i < k + 1 → sm (k + 1) (fun l => Zk a k l c * a l i) = (Dk a k * Dk a (k + 1)) * c i + 0 * c i := by
    intro i hi
    have e : sm (k + 1) (fun l => Zk a k l c * a l i) = sm (k + 1) (fun l => a l i * Zk a k l c) := sm_c _ (fun l _ => Int.mul_comm _ _)
    rw [e, Zk_sum]
    by_cases q : i < k
    · rw [hc i q, hk i q]; grind
    · have : i = k := by omega
      subst this
      rw [← Dk_s]; grind
  have hz : ∀ l, l < k + 1 → Dk a k * Xk a (k + 1) l c = Zk a k l c := by
    intro l hl
    have c1 := dF_cr (a := a) (l := l) (c := fun i => (Dk a k * Dk a (k + 1)) * c i + 0 * c i) (y := fun l => Zk a k l c) hl (fun i hi => (zr i hi).symm)
    have c2 := dF_lin (a := a) (l := l) (f := c) (g := c) (h := fun i => (Dk a k * Dk a (k + 1)) * c i + 0 * c i) (x := Dk a k * Dk a (k + 1)) (y := 0) hl (fun i _ => rfl)
    rw [c2] at c1
    have c3 : Dk a (k + 1) * (Dk a k * Xk a (k + 1) l c) = Dk a (k + 1) * Zk a k l c := by
      unfold Xk
      show _ = Dk a (k + 1) * Zk a k l c
      have : Dk a (k + 1) = dF (k + 1) a := rfl
      rw [← this] at c1
      grind
    exact Int.eq_of_mul_eq_mul_left h1 c3
  have hY : ∀ i, Dk a k * Yk a (k + 1) i c = Dk a (k + 1) * Yk a k i c - Yk a k i (a k) * Yk a k k c := by
    intro i
    have e : Dk a k * sm (k + 1) (fun l => a l i * Xk a (k + 1) l c) = sm (k + 1) (fun l => a l i * Zk a k l c) := by
      rw [← sm_mul]
      refine sm_c _ (fun l hl => ?_)
      rw [← hz l hl]
      grind
    have u : Yk a (k + 1) i c = Dk a (k + 1) * c i - sm (k + 1) (fun l => a l i * Xk a (k + 1) l c) := rfl
    rw [u, Int.mul_sub, e, Zk_sum]
    grind
  refine ⟨fun l hl => by rw [hz l (by omega)]; exact if_pos hl, Xk_k, fun i hi => ?_, hY⟩
  have := hY i
  have z : Dk a (k + 1) * Yk a k i c - Yk a k i (a k) * Yk a k k c = 0 := by
    by_cases q : i < k
    · rw [hc i q, hk i q]; grind
    · have : i = k := by omega
      subst this
      rw [← Dk_s]; grind
  rw [z] at this
  rcases Int.mul_eq_zero.mp this with q | q
  · exact absurd q h0
  · exact q
/-- sums of shares: no leading minor is negative, and one that is 0 makes all behind it 0 -/
theorem gram {a : Nat → Nat → Int} {n : Nat} {s : Nat → Int} {v : Nat → Nat → Int} (ha : ∀ i j, a j i = sm n (fun t => s t * (v t i * v t j))) (hs : ∀ t, t < n → 0 ≤ s t) {k : Nat} (hk : Cr a k (a k)) (h0 : 0 < Dk a k) : 0 ≤ Dk a (k + 1) ∧ (Dk a (k + 1) = 0 → ∀ N, k < N → dF N a = 0) := by
  let x : Nat → Int := fun l => if l < k then - Xk a k l (a k) else Dk a k
  have xk : x k = Dk a k := if_neg (by omega)
  have xl : ∀ l, l < k → x l = - Xk a k l (a k) := fun l hl => if_pos hl
  let u : Nat → Int := fun t => sm (k + 1) (fun l => v t l * x l)
  have w1 : ∀ i, sm (k + 1) (fun l => a l i * x l) = Yk a k i (a k) := by
    intro i
    show sm k (fun l => a l i * x l) + a k i * x k = _
    have : sm k (fun l => a l i * x l) = sm k (fun l => (-1) * (a l i * Xk a k l (a k))) := sm_c k (fun l hl => by rw [xl l hl]; grind)
    rw [this, sm_mul, Yk_s, xk]
    grind
  have w2 : ∀ i, Yk a k i (a k) = sm n (fun t => s t * (v t i * u t)) := by
    intro i
    rw [← w1 i]
    have e1 : sm (k + 1) (fun l => a l i * x l) = sm (k + 1) (fun l => sm n (fun t => s t * (v t i * (v t l * x l)))) := by
      refine sm_c _ (fun l _ => ?_)
      rw [ha i l, Int.mul_comm, ← sm_mul]
      exact sm_c n (fun t _ => by grind)
    rw [e1, sm_sw]
    refine sm_c n (fun t _ => ?_)
    show _ = s t * (v t i * sm (k + 1) (fun l => v t l * x l))
    rw [← sm_mul, ← sm_mul]
  have q1 : sm (k + 1) (fun i => x i * Yk a k i (a k)) = Dk a k * Dk a (k + 1) := by
    show sm k (fun i => x i * Yk a k i (a k)) + x k * Yk a k k (a k) = _
    have : sm k (fun i => x i * Yk a k i (a k)) = sm k (fun _ => 0) := sm_c k (fun i hi => by rw [hk i hi, Int.mul_zero])
    rw [this, sm_0, xk, Dk_s, Int.zero_add]
  have q2 : sm (k + 1) (fun i => x i * Yk a k i (a k)) = sm n (fun t => s t * (u t * u t)) := by
    have e1 : sm (k + 1) (fun i => x i * Yk a k i (a k)) = sm (k + 1) (fun i => sm n (fun t => s t * (u t * (v t i * x i)))) := by
      refine sm_c _ (fun i _ => ?_)
      rw [w2 i, ← sm_mul]
      exact sm_c n (fun t _ => by grind)
    rw [e1, sm_sw]
    refine sm_c n (fun t _ => ?_)
    have : u t = sm (k + 1) (fun l => v t l * x l) := rfl
    rw [sm_mul, sm_mul, ← this]
  have sq : ∀ z : Int, 0 ≤ z * z := fun z => by
    rcases Int.le_total 0 z with h | h
    · exact Int.mul_nonneg h h
    · exact Int.mul_nonneg_of_nonpos_of_nonpos h h
  have nn : ∀ t, t < n → 0 ≤ s t * (u t * u t) := fun t ht => Int.mul_nonneg (hs t ht) (sq _)
  have p0 := sm_nn n nn
  rw [← q2, q1] at p0
  refine ⟨?_, fun hz N hN => ?_⟩
  · rcases Int.lt_or_le (Dk a (k + 1)) 0 with h | h
    · have := Int.mul_neg_of_pos_of_neg h0 h
      omega
    · exact h
  · have z0 : sm n (fun t => s t * (u t * u t)) = 0 := by rw [← q2, q1, hz, Int.mul_zero]
    have zt := sm_z n nn z0
    have zy : ∀ i, Yk a k i (a k) = 0 := by
      intro i
      rw [w2 i]
      have : sm n (fun t => s t * (v t i * u t)) = sm n (fun _ => 0) := sm_c n (fun t ht => by
        rcases Int.mul_eq_zero.mp (zt t ht) with h | h
        · rw [h, Int.zero_mul]
        · rcases Int.mul_eq_zero.mp h with h | h
          · rw [h, Int.mul_zero, Int.mul_zero]
          · rw [h, Int.mul_zero, Int.mul_zero])
      rw [this, sm_0]
    have c1 := dF_cr (k := N) (a := a) (l := k) (c := fun i => Dk a k * a k i + 0 * a k i) (y := fun l => if l < k then Xk a k l (a k) else 0) hN (fun i _ => by
      have e : sm N (fun q => (if q < k then Xk a k q (a k) else 0) * a q i) = sm k (fun q => a q i * Xk a k q (a k)) := by
        have : ∀ R, sm (k + R) (fun q => (if q < k then Xk a k q (a k) else 0) * a q i) = sm k (fun q => a q i * Xk a k q (a k)) := by
          intro R
          induction R with
          | zero => exact sm_c k (fun q hq => by rw [if_pos hq, Int.mul_comm])
          | succ R ih =>
            show sm (k + R) (fun q => (if q < k then Xk a k q (a k) else 0) * a q i) + (if k + R < k then Xk a k (k + R) (a k) else 0) * a (k + R) i = _
            rw [ih, if_neg (by omega), Int.zero_mul, Int.add_zero]
        have := this (N - k)
        rw [show k + (N - k) = N by omega] at this
        exact this
      show Dk a k * a k i + 0 * a k i = _
      rw [e, Yk_s, zy i]
      omega)
    have c2 := dF_lin (k := N) (a := a) (l := k) (f := a k) (g := a k) (h := fun i => Dk a k * a k i + 0 * a k i) (x := Dk a k) (y := 0) hN (fun i _ => rfl)
    rw [c2, pu_self, Int.zero_mul, Int.add_zero, if_neg (by omega), Int.zero_mul] at c1
    rcases Int.mul_eq_zero.mp c1 with h | h
    · omega
    · exact h
end PBElim
