/-! how big determinants can be -/
section PBBound
def prd : List ((Nat → Int) × Int) → Int
  | [] => 1
  | p :: L => p.2 * prd L
def bdd (L : List ((Nat → Int) × Int)) : Prop := ∀ p, p ∈ L → 0 ≤ p.2 ∧ ∀ i, mg (p.1 i) ≤ p.2
def fct : Nat → Int
  | 0 => 1
  | n + 1 => (n + 1 : Int) * fct n
theorem fct_nn : ∀ n, 0 ≤ fct n := by
  intro n
  induction n with
  | zero => decide
  | succ n ih => exact Int.mul_nonneg (by omega) ih
theorem prd_nn : ∀ L, bdd L → 0 ≤ prd L := by
  intro L
  induction L with
  | nil => intro _; decide
  | cons p L ih =>
    intro h
    exact Int.mul_nonneg (h p List.mem_cons_self).1 (ih (fun q hq => h q (List.mem_cons_of_mem _ hq)))
theorem prd_app {p : (Nat → Int) × Int} {B : List ((Nat → Int) × Int)} : ∀ A, prd (A ++ p :: B) = p.2 * prd (A ++ B) := by
  intro A
  induction A with
  | nil => rfl
  | cons q A ih =>
    show q.2 * prd (A ++ p :: B) = p.2 * (q.2 * prd (A ++ B))
    rw [ih]
    grind
theorem mg_sg {n : Nat} {x : Int} : mg (sg n * x) = mg x := by
  rw [sg_par]
  split
  · unfold mg; split <;> split <;> omega
  · rw [Int.one_mul]
theorem ex_bd {n : Nat} {D : List (Nat → Int) → Int} {B : Int} (HD : ∀ L : List ((Nat → Int) × Int), L.length = n → bdd L → mg (D (L.map Prod.fst)) ≤ B * prd L) : ∀ R P : List ((Nat → Int) × Int), P.length + R.length = n + 1 → bdd (P ++ R) → mg (ex n D (P.map Prod.fst) (R.map Prod.fst)) ≤ (R.length : Int) * (B * prd (P ++ R)) := by
  intro R
  induction R with
  | nil =>
    intro P _ _
    show mg 0 ≤ ((0 : Nat) : Int) * _
    rw [show ((0 : Nat) : Int) = 0 from rfl, Int.zero_mul]
    decide
  | cons c R ih =>
    intro P hl hb
    rw [List.length_cons] at hl
    have i1 := ih (P ++ [c]) (by rw [List.length_append, List.length_singleton]; omega) (by rw [List.append_assoc]; exact hb)
    rw [List.append_assoc, List.map_append] at i1
    have hc := hb c (List.mem_append_right _ List.mem_cons_self)
    have hb2 : bdd (P ++ R) := fun q hq => hb q (by
      rcases List.mem_append.mp hq with h | h
      · exact List.mem_append_left _ h
      · exact List.mem_append_right _ (List.mem_cons_of_mem _ h))
    have hd := HD (P ++ R) (by rw [List.length_append]; omega) hb2
    rw [List.map_append] at hd
    rw [List.map_cons, ex_s, prd_app]
    rw [show [c] ++ R = c :: R from rfl, prd_app] at i1
    have i1 : mg (ex n D (P.map Prod.fst ++ [c.1]) (R.map Prod.fst)) ≤ (R.length : Int) * (B * (c.2 * prd (P ++ R))) := i1
    have t1 : mg (sg (R.map Prod.fst).length * (c.1 n * D (P.map Prod.fst ++ R.map Prod.fst))) ≤ c.2 * (B * prd (P ++ R)) := by
      rw [mg_sg, mgm]
      exact Int.mul_le_mul (hc.2 n) hd (mg_nn _) hc.1
    have t2 := mg_add (sg (R.map Prod.fst).length * (c.1 n * D (P.map Prod.fst ++ R.map Prod.fst))) (ex n D (P.map Prod.fst ++ [c.1]) (R.map Prod.fst))
    have e : c.2 * (B * prd (P ++ R)) = B * (c.2 * prd (P ++ R)) := by grind
    rw [e] at t1
    have el : ((c :: R).length : Int) = (R.length : Int) + 1 := by rw [List.length_cons]; omega
    rw [el]
    have e2 : ((R.length : Int) + 1) * (B * (c.2 * prd (P ++ R))) = (R.length : Int) * (B * (c.2 * prd (P ++ R))) + B * (c.2 * prd (P ++ R)) := by grind
    rw [e2]
    omega
theorem dt_bd : ∀ n (L : List ((Nat → Int) × Int)), L.length = n → bdd L → mg (dtn n (L.map Prod.fst)) ≤ fct n * prd L := by
  intro n
  induction n with
  | zero =>
    intro L hl _
    have : L = [] := List.eq_nil_of_length_eq_zero hl
    subst this
    decide
  | succ n ih =>
    intro L hl hb
    have := ex_bd (n := n) (D := dtn n) (B := fct n) ih L [] (by simp; omega) hb
    rw [hl] at this
    have e : ((n + 1 : Nat) : Int) * (fct n * prd ([] ++ L)) = fct (n + 1) * prd L := by
      show _ = ((n + 1 : Int) * fct n) * prd L
      rw [List.nil_append]
      have : ((n + 1 : Nat) : Int) = (n : Int) + 1 := by omega
      rw [this]
      grind
    rw [e] at this
    exact this
/-- columns with their bounds -/
def sgb (a : Nat → Nat → Int) (β : Nat → Int) : Nat → Nat → List ((Nat → Int) × Int)
  | _, 0 => []
  | s, n + 1 => (a s, β s) :: sgb a β (s + 1) n
theorem sgb_f {a : Nat → Nat → Int} {β : Nat → Int} : ∀ n s, (sgb a β s n).map Prod.fst = sgl a s n ∧ (sgb a β s n).length = n ∧ ∀ p, p ∈ sgb a β s n → ∃ j, s ≤ j ∧ j < s + n ∧ p = (a j, β j) := by
  intro n
  induction n with
  | zero => intro s; exact ⟨rfl, rfl, fun p h => (by cases h)⟩
  | succ n ih =>
    intro s
    obtain ⟨h1, h2, h3⟩ := ih (s + 1)
    refine ⟨?_, ?_, fun p hp => ?_⟩
    · show a s :: (sgb a β (s + 1) n).map Prod.fst = a s :: sgl a (s + 1) n
      rw [h1]
    · show (sgb a β (s + 1) n).length + 1 = n + 1
      rw [h2]
    · rcases List.mem_cons.mp hp with e | e
      · exact ⟨s, by omega, by omega, e⟩
      · obtain ⟨j, j1, j2, j3⟩ := h3 p e
        exact ⟨j, by omega, by omega, j3⟩
def prb (β : Nat → Int) : Nat → Nat → Int
  | _, 0 => 1
  | s, n + 1 => β s * prb β (s + 1) n
theorem sgb_p {a : Nat → Nat → Int} {β : Nat → Int} : ∀ n s, prd (sgb a β s n) = prb β s n := by
  intro n
  induction n with
  | zero => intro s; rfl
  | succ n ih => intro s; show β s * prd (sgb a β (s + 1) n) = β s * prb β (s + 1) n; rw [ih]
theorem dF_bd {k : Nat} {a : Nat → Nat → Int} {β : Nat → Int} (h : ∀ j, j < k → 0 ≤ β j ∧ ∀ i, mg (a j i) ≤ β j) : mg (dF k a) ≤ fct k * prb β 0 k := by
  obtain ⟨h1, h2, h3⟩ := sgb_f (a := a) (β := β) k 0
  have := dt_bd k (sgb a β 0 k) h2 (fun p hp => by
    obtain ⟨j, j1, j2, j3⟩ := h3 p hp
    rw [j3]
    exact h j (by omega))
  rw [h1, sgb_p] at this
  exact this
/-- the normal equations' bounds -/
def nrmB (a : Nat → Nat → Int) (b : Nat → Int) : Prop := (∀ j i, mg (a j i) ≤ 201600) ∧ ∀ i, mg (b i) ≤ 80000000
theorem Xk_bd {a : Nat → Nat → Int} {b c : Nat → Int} {k l : Nat} (h : nrmB a b) (hc : ∀ i, mg (c i) ≤ 80000000) (hl : l < k) (hk : k ≤ 6) : mg (Xk a k l c) ≤ fct k * prb (fun j => if j = l then 80000000 else 201600) 0 k := by
  refine dF_bd (fun j _ => ?_)
  by_cases e : j = l
  · rw [if_pos e, e, pu_at]; exact ⟨by decide, hc⟩
  · rw [if_neg e, pu_ne e]; exact ⟨by decide, h.1 j⟩
theorem prb_l : ∀ k l, k ≤ 6 → l < k → prb (fun j => if j = l then 80000000 else 201600) 0 k = prb (fun j => if j = 0 then 80000000 else 201600) 0 k := by
  intro k l hk hl
  have h : ∀ k, k ≤ 6 → ∀ l, l < k → prb (fun j => if j = l then 80000000 else 201600) 0 k = prb (fun j => if j = 0 then 80000000 else 201600) 0 k := by decide
  exact h k hk l hl
theorem Dk_bd {a : Nat → Nat → Int} {b : Nat → Int} {k : Nat} (h : nrmB a b) : mg (Dk a k) ≤ fct k * prb (fun _ => 201600) 0 k := dF_bd (fun j _ => ⟨by decide, h.1 j⟩)
theorem nums : (∀ k, k ≤ 6 → fct k * prb (fun j => if j = 0 then 80000000 else 201600) 0 k < 42535295865117307932921825928971026432) ∧ (∀ k, k ≤ 6 → fct k * prb (fun _ => 201600) 0 k < 1329227995784915872903807060280344576) ∧ ∀ k, k ≤ 5 → fct k * prb (fun _ => 201600) 0 k * 80000000 + (k : Int) * (201600 * (fct k * prb (fun j => if j = 0 then 80000000 else 201600) 0 k)) < 42535295865117307932921825928971026432 := by decide
theorem mg_sm {f : Nat → Int} {B : Int} : ∀ n, (∀ i, i < n → mg (f i) ≤ B) → mg (sm n f) ≤ (n : Int) * B := by
  intro n
  induction n with
  | zero => intro _; show mg 0 ≤ ((0 : Nat) : Int) * B; rw [show ((0 : Nat) : Int) = 0 from rfl, Int.zero_mul]; decide
  | succ n ih =>
    intro h
    have i1 := ih (fun i hi => h i (by omega))
    have i2 := h n (by omega)
    have i3 := mg_add (sm n f) (f n)
    show mg (sm n f + f n) ≤ _
    have e : ((n + 1 : Nat) : Int) * B = (n : Int) * B + B := by
      have : ((n + 1 : Nat) : Int) = (n : Int) + 1 := by omega
      rw [this]
      grind
    rw [e]
    omega
theorem mg_neg (x : Int) : mg (-x) = mg x := by unfold mg; split <;> split <;> omega
theorem Ent_bd {a : Nat → Nat → Int} {b : Nat → Int} {n k i j : Nat} (h : nrmB a b) (hn : n ≤ 6) (hk : k ≤ n) (hi : i < n) : mg (Ent a b k i j) < 42535295865117307932921825928971026432 := by
  have cb : ∀ q, mg (colv a b j q) ≤ 80000000 := fun q => by
    unfold colv
    by_cases e : j = 6
    · rw [if_pos e]; exact h.2 q
    · rw [if_neg e]; have := h.1 j q; omega
  unfold Ent
  by_cases q : i < k
  · rw [if_pos q]
    have := Xk_bd h cb q (by omega)
    rw [prb_l k i (by omega) q] at this
    have := nums.1 k (by omega)
    omega
  · rw [if_neg q]
    have k5 : k ≤ 5 := by omega
    unfold Yk
    have d := Dk_bd (k := k) h
    have d1 : mg (Dk a k * colv a b j i) ≤ fct k * prb (fun _ => 201600) 0 k * 80000000 := by
      rw [mgm]
      exact Int.mul_le_mul d (cb i) (mg_nn _) (by have := mg_nn (Dk a k); omega)
    have s1 := mg_sm (f := fun l => a l i * Xk a k l (colv a b j)) (B := 201600 * (fct k * prb (fun j => if j = 0 then 80000000 else 201600) 0 k)) k (fun l hl => by
      have x := Xk_bd h cb hl (by omega)
      rw [prb_l k l (by omega) hl] at x
      rw [mgm]
      exact Int.mul_le_mul (h.1 l i) x (mg_nn _) (by decide))
    have t := mg_add (Dk a k * colv a b j i) (-(sm k (fun l => a l i * Xk a k l (colv a b j))))
    rw [mg_neg] at t
    have e : Dk a k * colv a b j i + -(sm k (fun l => a l i * Xk a k l (colv a b j))) = Dk a k * colv a b j i - sm k (fun l => a l i * Xk a k l (colv a b j)) := by omega
    rw [e] at t
    have := nums.2.2 k k5
    omega
end PBBound
