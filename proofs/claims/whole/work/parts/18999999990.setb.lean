/-! sets of suspects: their order, and the bits of ints -/
section PBSetB
def ixf (f : Nat → Bool) : Nat → Nat → List Nat
  | 0, _ => []
  | n + 1, k => if f k then k :: ixf f n (k + 1) else ixf f n (k + 1)
theorem ixf_t {f : Nat → Bool} {n k : Nat} (h : f k = true) : ixf f (n + 1) k = k :: ixf f n (k + 1) := if_pos h
theorem ixf_n {f : Nat → Bool} {n k : Nat} (h : ¬ f k = true) : ixf f (n + 1) k = ixf f n (k + 1) := if_neg h
theorem ixs_f {mu : Nat} : ∀ n k, ixs mu n k = ixf mu.testBit n k := by
  intro n
  induction n with
  | zero => intro k; rfl
  | succ n ih =>
    intro k
    by_cases c : mu.testBit k = true
    · rw [ixf_t c, ← ih]; exact if_pos c
    · rw [ixf_n c, ← ih]; exact if_neg c
theorem ixf_c {f g : Nat → Bool} : ∀ n k, (∀ j, k ≤ j → j < k + n → f j = g j) → ixf f n k = ixf g n k := by
  intro n
  induction n with
  | zero => intro k _; rfl
  | succ n ih =>
    intro k h
    have e := ih (k + 1) (fun j a b => h j (by omega) (by omega))
    by_cases c : g k = true
    · rw [ixf_t c, ixf_t (f := f) (by rw [h k (by omega) (by omega)]; exact c), e]
    · rw [ixf_n c, ixf_n (f := f) (by rw [h k (by omega) (by omega)]; exact c), e]
theorem ixf_ge {f : Nat → Bool} : ∀ n k x, x ∈ ixf f n k ↔ (k ≤ x ∧ x < k + n ∧ f x = true) := by
  intro n
  induction n with
  | zero => intro k x; exact ⟨fun h => (by cases h), fun h => by omega⟩
  | succ n ih =>
    intro k x
    by_cases h : f k = true
    · rw [ixf_t h, List.mem_cons, ih]
      constructor
      · rintro (q | q)
        · rw [q]; exact ⟨by omega, by omega, h⟩
        · exact ⟨by omega, by omega, q.2.2⟩
      · intro q
        by_cases e : x = k
        · exact Or.inl e
        · exact Or.inr ⟨by omega, by omega, q.2.2⟩
    · rw [ixf_n h, ih]
      constructor
      · intro q; exact ⟨by omega, by omega, q.2.2⟩
      · intro q
        have e : x ≠ k := fun e => h (e ▸ q.2.2)
        exact ⟨by omega, by omega, q.2.2⟩
theorem ixf_add {f : Nat → Bool} : ∀ a b k, ixf f (a + b) k = ixf f a k ++ ixf f b (k + a) := by
  intro a
  induction a with
  | zero => intro b k; rw [Nat.zero_add]; rfl
  | succ a ih =>
    intro b k
    rw [Nat.succ_add]
    show (if f k then k :: ixf f (a + b) (k + 1) else ixf f (a + b) (k + 1)) = (if f k then k :: ixf f a (k + 1) else ixf f a (k + 1)) ++ _
    rw [ih b (k + 1), show k + 1 + a = k + (a + 1) by omega]
    split <;> rfl
def mpI (L : List Nat) : List Int := L.map (fun x : Nat => (x : Int))
/-- the lowest bit that differs stands in a -/
def lwb (f g : Nat → Bool) (n : Nat) : Prop := ∃ u, u < n ∧ f u = true ∧ g u = false ∧ ∀ j, j < u → f j = g j
theorem lw_lx {f g : Nat → Bool} : ∀ n k u, k ≤ u → u < k + n → f u = true → g u = false → (∀ j, k ≤ j → j < u → f j = g j) → (ixf f n k).length = (ixf g n k).length → lx (mpI (ixf f n k)) (mpI (ixf g n k)) := by
  intro n
  induction n with
  | zero => intro k u h1 h2; omega
  | succ n ih =>
    intro k u h1 h2 h3 h4 h5 hl
    by_cases e : u = k
    · subst e
      have ef : ixf f (n + 1) u = u :: ixf f n (u + 1) := ixf_t h3
      have eg : ixf g (n + 1) u = ixf g n (u + 1) := by
        have : ¬ g u = true := by rw [h4]; decide
        show (if g u = true then _ else _) = _
        rw [if_neg this]
      rw [ef, eg] at hl ⊢
      cases hg : ixf g n (u + 1) with
      | nil => rw [hg] at hl; simp at hl
      | cons y r =>
        have : y ∈ ixf g n (u + 1) := by rw [hg]; exact List.mem_cons_self
        have := (ixf_ge n (u + 1) y).mp this
        exact Or.inl (by show (u : Int) < (y : Int); omega)
    · have q := h5 k (Nat.le_refl _) (by omega)
      by_cases c : f k = true
      · have ef : ixf f (n + 1) k = k :: ixf f n (k + 1) := ixf_t c
        have eg : ixf g (n + 1) k = k :: ixf g n (k + 1) := ixf_t (by rw [← q]; exact c)
        rw [ef, eg] at hl ⊢
        rw [List.length_cons, List.length_cons] at hl
        exact Or.inr ⟨rfl, ih (k + 1) u (by omega) (by omega) h3 h4 (fun j a b => h5 j (by omega) b) (by omega)⟩
      · have ef : ixf f (n + 1) k = ixf f n (k + 1) := by
          show (if f k = true then _ else _) = _
          rw [if_neg c]
        have eg : ixf g (n + 1) k = ixf g n (k + 1) := by
          show (if g k = true then _ else _) = _
          rw [if_neg (by rw [← q]; exact c)]
        rw [ef, eg] at hl ⊢
        exact ih (k + 1) u (by omega) (by omega) h3 h4 (fun j a b => h5 j (by omega) b) hl
theorem lwb_or {f g : Nat → Bool} : ∀ n, (∀ j, j < n → f j = g j) ∨ lwb f g n ∨ lwb g f n := by
  intro n
  induction n with
  | zero => exact Or.inl fun j h => by omega
  | succ n ih =>
    rcases ih with h | ⟨u, a, b⟩ | ⟨u, a, b⟩
    · by_cases e : f n = g n
      · refine Or.inl fun j hj => ?_
        by_cases q : j = n
        · rw [q]; exact e
        · exact h j (by omega)
      · cases hf : f n with
        | true =>
          have hg : g n = false := by cases q : g n with
            | true => rw [hf, q] at e; exact absurd rfl e
            | false => rfl
          exact Or.inr (Or.inl ⟨n, by omega, hf, hg, h⟩)
        | false =>
          have hg : g n = true := by cases q : g n with
            | true => rfl
            | false => rw [hf, q] at e; exact absurd rfl e
          exact Or.inr (Or.inr ⟨n, by omega, hg, hf, fun j hj => (h j hj).symm⟩)
    · exact Or.inr (Or.inl ⟨u, by omega, b⟩)
    · exact Or.inr (Or.inr ⟨u, by omega, b⟩)
/-- rows in the order of words -/
theorem cmb_mem : ∀ n lo mu, (ixs mu n 0).map (fun x => lo + x) ∈ cmb lo n (ixs mu n 0).length := by
  intro n
  induction n with
  | zero => intro lo mu; exact List.mem_cons_self
  | succ n ih =>
    intro lo mu
    have i := ih (lo + 1) (mu / 2)
    have sh : ixs mu n 1 = (ixs (mu / 2) n 0).map (fun x => x + 1) := ixs_sh n mu 0
    have mp : ∀ l : List Nat, (l.map (fun y => y + 1)).map (fun x => lo + x) = l.map (fun x => lo + 1 + x) := fun l => by
      rw [List.map_map]
      congr 1
      funext x
      show lo + (x + 1) = lo + 1 + x
      omega
    by_cases h : mu.testBit 0 = true
    · have e : ixs mu (n + 1) 0 = 0 :: ixs mu n 1 := if_pos h
      rw [e, sh, List.map_cons, mp, List.length_cons, List.length_map]
      show _ ∈ (cmb (lo + 1) n (ixs (mu / 2) n 0).length).map (fun L => lo :: L) ++ _
      exact List.mem_append_left _ (List.mem_map.mpr ⟨_, i, rfl⟩)
    · have e : ixs mu (n + 1) 0 = ixs mu n 1 := by
        show (if mu.testBit 0 = true then _ else _) = _
        rw [if_neg h]
      rw [e, sh, mp, List.length_map]
      cases hl : (ixs (mu / 2) n 0).length with
      | zero =>
        rw [List.eq_nil_of_length_eq_zero hl, cmb_0]
        exact List.mem_cons_self
      | succ s =>
        rw [hl] at i
        show _ ∈ (cmb (lo + 1) n s).map (fun L => lo :: L) ++ cmb (lo + 1) n (s + 1)
        exact List.mem_append_right _ i
theorem cmb_pw : ∀ n lo s, (cmb lo n s).Pairwise (fun a b => lx (mpI a) (mpI b)) := by
  intro n
  induction n with
  | zero =>
    intro lo s
    cases s with
    | zero => rw [cmb_0]; exact List.pairwise_singleton _ _
    | succ s => exact List.Pairwise.nil
  | succ n ih =>
    intro lo s
    cases s with
    | zero => rw [cmb_0]; exact List.pairwise_singleton _ _
    | succ s =>
      show ((cmb (lo + 1) n s).map (fun L => lo :: L) ++ cmb (lo + 1) n (s + 1)).Pairwise _
      refine List.pairwise_append.mpr ⟨?_, ih (lo + 1) (s + 1), fun a ha b hb => ?_⟩
      · rw [List.pairwise_map]
        exact (ih (lo + 1) s).imp (fun h => Or.inr ⟨rfl, h⟩)
      · obtain ⟨L, _, h2⟩ := List.mem_map.mp ha
        obtain ⟨k1, k2⟩ := cmb_len n (lo + 1) (s + 1) b hb
        rw [← h2]
        cases b with
        | nil => cases k1
        | cons y r =>
          have := (k2 y List.mem_cons_self).1
          exact Or.inl (by show (lo : Int) < (y : Int); omega)
/-- ints as bits -/
theorem bt_xor {a b : Int32} {u : Nat} : bt (a ^^^ b) u = (bt a u ^^ bt b u) := by
  unfold bt
  rw [Int32.toBitVec_xor, BitVec.getLsbD_xor]
theorem bt_and {a b : Int32} {u : Nat} : bt (a &&& b) u = (bt a u && bt b u) := by
  unfold bt
  rw [Int32.toBitVec_and, BitVec.getLsbD_and]
theorem bt_neg {a : Int32} {u : Nat} (hu : u < 32) : bt (-a) u = (bt a u ^^ decide (∃ j, j < u ∧ bt a j = true)) := by
  unfold bt
  rw [Int32.toBitVec_neg, BitVec.getLsbD_neg]
  simp [hu]
theorem bt_ext {a b : Int32} (h : ∀ u, u < 32 → bt a u = bt b u) : a = b := Int32.toBitVec_inj.mp (BitVec.eq_of_getLsbD_eq h)
theorem bt_low {a : Int32} {u : Nat} (hu : u < 32) : bt (a &&& (-a)) u = true ↔ (bt a u = true ∧ ∀ j, j < u → bt a j = false) := by
  rw [bt_and, bt_neg hu]
  by_cases h : bt a u = true
  · rw [h]
    by_cases e : ∃ j, j < u ∧ bt a j = true
    · rw [decide_eq_true e]
      refine ⟨fun q => (by cases q), fun q => ?_⟩
      obtain ⟨j, e1, e2⟩ := e
      rw [q.2 j e1] at e2
      cases e2
    · rw [decide_eq_false e]
      refine ⟨fun _ => ⟨rfl, fun j hj => ?_⟩, fun _ => rfl⟩
      cases q : bt a j with
      | false => rfl
      | true => exact absurd ⟨j, hj, q⟩ e
  · have h' : bt a u = false := by cases q : bt a u with
      | false => rfl
      | true => exact absurd q h
    rw [h']
    exact ⟨fun q => (by simp at q), fun q => (by cases q.1)⟩
theorem low_iff {a b : Int32} : ¬ (((a ^^^ b) &&& (-(a ^^^ b))) &&& a) = 0 ↔ lwb (bt a) (bt b) 32 := by
  constructor
  · intro h
    refine Classical.byContradiction fun n => h (bt_ext fun u hu => ?_)
    rw [bt_0]
    cases q : bt (((a ^^^ b) &&& (-(a ^^^ b))) &&& a) u with
    | false => rfl
    | true =>
      exfalso
      rw [bt_and, Bool.and_eq_true] at q
      obtain ⟨q1, q2⟩ := q
      obtain ⟨q3, q4⟩ := (bt_low hu).mp q1
      rw [bt_xor, q2] at q3
      refine n ⟨u, hu, q2, ?_, fun j hj => ?_⟩
      · cases z : bt b u with
        | false => rfl
        | true => rw [z] at q3; cases q3
      · have := q4 j hj
        rw [bt_xor] at this
        cases z1 : bt a j <;> cases z2 : bt b j <;> rw [z1, z2] at this <;> first | rfl | cases this
  · rintro ⟨u, hu, h1, h2, h3⟩ e
    have : bt (((a ^^^ b) &&& (-(a ^^^ b))) &&& a) u = true := by
      rw [bt_and, h1, Bool.and_true]
      refine (bt_low hu).mpr ⟨by rw [bt_xor, h1, h2]; rfl, fun j hj => by rw [bt_xor, h3 j hj]; cases bt b j <;> rfl⟩
    rw [e, bt_0] at this
    cases this
theorem bt_nat {mu u : Nat} (hu : u < 32) : bt (Int32.ofNat mu) u = mu.testBit u := by
  unfold bt
  have : (Int32.ofNat mu).toBitVec = BitVec.ofNat 32 mu := rfl
  rw [this, BitVec.getLsbD_ofNat]
  simp [hu]
/-- the lowest bit cleared -/
theorem bt_pred {a : Int32} {u : Nat} (hu : u < 32) : bt (a &&& (a - 1)) u = (bt a u && decide (∃ j, j < u ∧ bt a j = true)) := by
  have e : (a - 1).toBitVec = ~~~ (-a).toBitVec := by
    rw [Int32.toBitVec_sub, Int32.toBitVec_neg]
    have : (1 : Int32).toBitVec = 1#32 := rfl
    rw [this, BitVec.not_neg]
  have e2 : bt (a - 1) u = !(bt (-a) u) := by
    unfold bt
    rw [e, BitVec.getLsbD_not]
    simp [hu]
  rw [bt_and, e2, bt_neg hu]
  cases bt a u <;> simp
theorem clr_len {f g : Nat → Bool} (h : ∀ i, g i = (f i && decide (∃ j, j < i ∧ f j = true))) : ∀ n k, ((∃ j, j < k ∧ f j = true) → ixf g n k = ixf f n k) ∧ ((¬ ∃ j, j < k ∧ f j = true) → (ixf g n k).length = (ixf f n k).length - 1) := by
  intro n
  induction n with
  | zero => intro k; exact ⟨fun _ => rfl, fun _ => rfl⟩
  | succ n ih =>
    intro k
    refine ⟨fun e => ?_, fun e => ?_⟩
    · have e1 : ∃ j, j < k + 1 ∧ f j = true := by obtain ⟨j, a, b⟩ := e; exact ⟨j, by omega, b⟩
      have gk : g k = f k := by rw [h k, decide_eq_true e, Bool.and_true]
      by_cases c : f k = true
      · rw [ixf_t c, ixf_t (f := g) (by rw [gk]; exact c), (ih (k + 1)).1 e1]
      · rw [ixf_n c, ixf_n (f := g) (by rw [gk]; exact c), (ih (k + 1)).1 e1]
    · have gk : ¬ g k = true := by rw [h k, decide_eq_false e, Bool.and_false]; decide
      have eg : ixf g (n + 1) k = ixf g n (k + 1) := by
        show (if g k = true then _ else _) = _
        rw [if_neg gk]
      rw [eg]
      by_cases c : f k = true
      · have ef : ixf f (n + 1) k = k :: ixf f n (k + 1) := ixf_t c
        rw [ef, (ih (k + 1)).1 ⟨k, by omega, c⟩, List.length_cons]
        omega
      · have ef : ixf f (n + 1) k = ixf f n (k + 1) := by
          show (if f k = true then _ else _) = _
          rw [if_neg c]
        rw [ef]
        refine (ih (k + 1)).2 (fun ⟨j, a, b⟩ => ?_)
        by_cases q : j = k
        · exact c (q ▸ b)
        · exact e ⟨j, by omega, b⟩
theorem bits_r {w : rf_w} {M : rf_m} {a : Int32} : g_X14_bits w M a = some (Int32.ofNat (ixf (bt a) 32 0).length, M) := by
  obtain ⟨F, hF, hFb⟩ := fuel_ex
  have l32 : ∀ (f : Nat → Bool) n k, (ixf f n k).length ≤ n := by
    intro f n
    induction n with
    | zero => intro k; exact Nat.le_refl _
    | succ n ih =>
      intro k
      have := ih (k + 1)
      by_cases c : f k = true
      · rw [ixf_t c, List.length_cons]; omega
      · rw [ixf_n c]; omega
  have key : ∀ n f c a, (ixf (bt a) 32 0).length = n → n < f → g_X14_bits_4 w f (Int32.ofNat c) a M = some (Int32.ofNat (c + n), M) := by
    intro n
    induction n with
    | zero =>
      intro f c a hl hf
      obtain ⟨f, rfl⟩ : ∃ g, f = g + 1 := ⟨f - 1, by omega⟩
      have a0 : a = 0 := bt_ext fun u hu => by
        rw [bt_0]
        cases q : bt a u with
        | false => rfl
        | true =>
          have : u ∈ ixf (bt a) 32 0 := (ixf_ge 32 0 u).mpr ⟨by omega, by omega, q⟩
          rw [List.eq_nil_of_length_eq_zero hl] at this
          cases this
      show g_X14_bits_4_b w _ _ _ M = _
      unfold g_X14_bits_4_b
      rw [if_pos a0]
      rfl
    | succ n ih =>
      intro f c a hl hf
      obtain ⟨f, rfl⟩ : ∃ g, f = g + 1 := ⟨f - 1, by omega⟩
      have a0 : ¬ a = 0 := fun e => by
        rw [e] at hl
        have : ixf (bt 0) 32 0 = [] := by
          cases q : ixf (bt 0) 32 0 with
          | nil => rfl
          | cons y r =>
            have : y ∈ ixf (bt 0) 32 0 := by rw [q]; exact List.mem_cons_self
            have := ((ixf_ge 32 0 y).mp this).2.2
            rw [bt_0] at this
            cases this
        rw [this] at hl
        cases hl
      show g_X14_bits_4_b w _ _ _ M = _
      unfold g_X14_bits_4_b
      rw [if_neg a0, of_succ]
      have cl := (clr_len (f := fun u => bt a u && decide (u < 32)) (g := fun u => bt (a &&& (a - 1)) u && decide (u < 32)) (fun i => by
        by_cases hi : i < 32
        · rw [bt_pred hi]
          have e : (∃ j, j < i ∧ bt a j = true) ↔ (∃ j, j < i ∧ (bt a j && decide (j < 32)) = true) := ⟨fun ⟨j, x, y⟩ => ⟨j, x, by rw [y, decide_eq_true (by omega)]; rfl⟩, fun ⟨j, x, y⟩ => ⟨j, x, (Bool.and_eq_true _ _ ▸ y).1⟩⟩
          simp only [e, hi, decide_true, Bool.and_true]
        · simp [hi]) 32 0).2 (fun ⟨j, q, _⟩ => by omega)
      rw [ixf_c (g := bt (a &&& (a - 1))) 32 0 (fun j _ hj => by rw [decide_eq_true (by omega), Bool.and_true]), ixf_c (f := fun u => bt a u && decide (u < 32)) (g := bt a) 32 0 (fun j _ hj => by rw [decide_eq_true (by omega), Bool.and_true])] at cl
      rw [ih f (c + 1) _ (by omega) (by omega), show c + 1 + n = c + (n + 1) by omega]
  unfold g_X14_bits
  rw [hF]
  have := key (ixf (bt a) 32 0).length F 0 a rfl (by have := l32 (bt a) 32 0; omega)
  rw [Nat.zero_add] at this
  exact this
end PBSetB
