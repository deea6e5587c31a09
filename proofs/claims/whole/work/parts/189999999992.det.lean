/-! determinants, by rows of columns -/
section PBDet
def sm : Nat → (Nat → Int) → Int
  | 0, _ => 0
  | n + 1, f => sm n f + f n
theorem sm_c {f g : Nat → Int} : ∀ n, (∀ i, i < n → f i = g i) → sm n f = sm n g := by
  intro n
  induction n with
  | zero => intro _; rfl
  | succ n ih =>
    intro h
    show sm n f + f n = sm n g + g n
    rw [ih (fun i hi => h i (by omega)), h n (by omega)]
theorem sm_add {f g : Nat → Int} : ∀ n, sm n (fun i => f i + g i) = sm n f + sm n g := by
  intro n
  induction n with
  | zero => rfl
  | succ n ih =>
    show sm n (fun i => f i + g i) + (f n + g n) = (sm n f + f n) + (sm n g + g n)
    rw [ih]; omega
theorem sm_mul {c : Int} {f : Nat → Int} : ∀ n, sm n (fun i => c * f i) = c * sm n f := by
  intro n
  induction n with
  | zero => exact (Int.mul_zero c).symm
  | succ n ih =>
    show sm n (fun i => c * f i) + c * f n = c * (sm n f + f n)
    rw [ih, Int.mul_add]
theorem sm_0 : ∀ n, sm n (fun _ => 0) = 0 := by
  intro n
  induction n with
  | zero => rfl
  | succ n ih =>
    show sm n (fun _ => 0) + 0 = 0
    rw [ih]; rfl
theorem sm_sw {f : Nat → Nat → Int} : ∀ n k, sm n (fun i => sm k (fun j => f i j)) = sm k (fun j => sm n (fun i => f i j)) := by
  intro n
  induction n with
  | zero => intro k; exact (sm_0 k).symm
  | succ n ih =>
    intro k
    show sm n (fun i => sm k (fun j => f i j)) + sm k (fun j => f n j) = sm k (fun j => sm n (fun i => f i j) + f n j)
    rw [ih, sm_add]
theorem sm_nn {f : Nat → Int} : ∀ n, (∀ i, i < n → 0 ≤ f i) → 0 ≤ sm n f := by
  intro n
  induction n with
  | zero => intro _; exact Int.le_refl _
  | succ n ih =>
    intro h
    have a := ih (fun i hi => h i (by omega))
    have b := h n (by omega)
    show 0 ≤ sm n f + f n
    omega
theorem sm_z {f : Nat → Int} : ∀ n, (∀ i, i < n → 0 ≤ f i) → sm n f = 0 → ∀ i, i < n → f i = 0 := by
  intro n
  induction n with
  | zero => intro _ _ i hi; omega
  | succ n ih =>
    intro h e i hi
    have a := sm_nn n (fun i hi => h i (by omega))
    have b := h n (by omega)
    have e : sm n f + f n = 0 := e
    by_cases q : i = n
    · rw [q]; omega
    · exact ih (fun i hi => h i (by omega)) (by omega) i (by omega)
def sg : Nat → Int
  | 0 => 1
  | n + 1 => - sg n
theorem sg_sq : ∀ n, sg n * sg n = 1 := by
  intro n
  induction n with
  | zero => rfl
  | succ n ih =>
    show (- sg n) * (- sg n) = 1
    rw [Int.neg_mul_neg]; exact ih
def ex (n : Nat) (D : List (Nat → Int) → Int) : List (Nat → Int) → List (Nat → Int) → Int
  | _, [] => 0
  | p, c :: r => sg r.length * (c n * D (p ++ r)) + ex n D (p ++ [c]) r
def dtn : Nat → List (Nat → Int) → Int
  | 0, _ => 1
  | n + 1, L => ex n (dtn n) [] L
theorem ex_s {n : Nat} {D : List (Nat → Int) → Int} {p r : List (Nat → Int)} {c : Nat → Int} : ex n D p (c :: r) = sg r.length * (c n * D (p ++ r)) + ex n D (p ++ [c]) r := rfl
theorem exB {n N : Nat} {D : List (Nat → Int) → Int} {f g h : Nat → Int} {x y : Int} (HD : ∀ A B, A.length + B.length + 1 = N → D (A ++ h :: B) = x * D (A ++ f :: B) + y * D (A ++ g :: B)) : ∀ r P Q : List (Nat → Int), P.length + Q.length + r.length = N → ex n D (P ++ h :: Q) r = x * ex n D (P ++ f :: Q) r + y * ex n D (P ++ g :: Q) r := by
  intro r
  induction r with
  | nil =>
    intro P Q _
    show (0 : Int) = x * 0 + y * 0
    omega
  | cons c r ih =>
    intro P Q hl
    rw [List.length_cons] at hl
    have i := ih P (Q ++ [c]) (by rw [List.length_append, List.length_singleton]; omega)
    have d := HD P (Q ++ r) (by rw [List.length_append]; omega)
    rw [ex_s, ex_s, ex_s, List.append_assoc, List.append_assoc, List.append_assoc, List.append_assoc, List.append_assoc, List.append_assoc]
    simp only [List.cons_append] at i d ⊢
    rw [i, d]
    grind
theorem exA {n N : Nat} {D : List (Nat → Int) → Int} {f g h : Nat → Int} {x y : Int} (HD : ∀ A B, A.length + B.length + 1 = N → D (A ++ h :: B) = x * D (A ++ f :: B) + y * D (A ++ g :: B)) (hn : h n = x * f n + y * g n) {B : List (Nat → Int)} : ∀ A P : List (Nat → Int), P.length + A.length + B.length = N → ex n D P (A ++ h :: B) = x * ex n D P (A ++ f :: B) + y * ex n D P (A ++ g :: B) := by
  intro A
  induction A with
  | nil =>
    intro P hl
    have i := exB (n := n) HD B P [] (by simpa using hl)
    rw [List.nil_append, List.nil_append, List.nil_append, ex_s, ex_s, ex_s, i, hn]
    grind
  | cons c A ih =>
    intro P hl
    rw [List.length_cons] at hl
    have i := ih (P ++ [c]) (by rw [List.length_append, List.length_singleton]; omega)
    have d := HD (P ++ A) B (by rw [List.length_append]; omega)
    rw [List.cons_append, List.cons_append, List.cons_append, ex_s, ex_s, ex_s, i]
    rw [List.append_assoc, List.append_assoc, List.append_assoc] at d
    rw [d, List.length_append, List.length_append, List.length_append, List.length_cons, List.length_cons, List.length_cons]
    grind
theorem dt_lin {f g h : Nat → Int} {x y : Int} : ∀ n (A B : List (Nat → Int)), A.length + B.length + 1 = n → (∀ i, i < n → h i = x * f i + y * g i) → dtn n (A ++ h :: B) = x * dtn n (A ++ f :: B) + y * dtn n (A ++ g :: B) := by
  intro n
  induction n with
  | zero => intro A B hl; omega
  | succ n ih =>
    intro A B hl hh
    exact exA (N := n) (fun A' B' h' => ih A' B' h' (fun i hi => hh i (by omega))) (hh n (by omega)) A [] (by simp; omega)
theorem exB2 {n N : Nat} {D : List (Nat → Int) → Int} {f : Nat → Int} (HD : ∀ A B, A.length + B.length + 2 = N → D (A ++ f :: f :: B) = 0) : ∀ r P Q : List (Nat → Int), P.length + Q.length + r.length + 1 = N → ex n D (P ++ f :: f :: Q) r = 0 := by
  intro r
  induction r with
  | nil => intro P Q _; rfl
  | cons c r ih =>
    intro P Q hl
    rw [List.length_cons] at hl
    have i := ih P (Q ++ [c]) (by rw [List.length_append, List.length_singleton]; omega)
    have d := HD P (Q ++ r) (by rw [List.length_append]; omega)
    rw [ex_s, List.append_assoc, List.append_assoc]
    simp only [List.cons_append] at i d ⊢
    rw [i, d]
    grind
theorem exA2 {n N : Nat} {D : List (Nat → Int) → Int} {f : Nat → Int} (HD : ∀ A B, A.length + B.length + 2 = N → D (A ++ f :: f :: B) = 0) {B : List (Nat → Int)} : ∀ A P : List (Nat → Int), P.length + A.length + B.length + 1 = N → ex n D P (A ++ f :: f :: B) = 0 := by
  intro A
  induction A with
  | nil =>
    intro P hl
    have i := exB2 (n := n) HD B P [] (by simpa using hl)
    rw [List.nil_append, ex_s, ex_s, List.length_cons, List.append_assoc, List.append_assoc]
    have e : P ++ ([f] ++ [f]) = P ++ f :: f :: [] := rfl
    rw [e, i]
    show (- sg B.length) * (f n * D (P ++ f :: B)) + (sg B.length * (f n * D (P ++ ([f] ++ B))) + 0) = 0
    have e2 : [f] ++ B = f :: B := rfl
    rw [e2]
    grind
  | cons c A ih =>
    intro P hl
    rw [List.length_cons] at hl
    have i := ih (P ++ [c]) (by rw [List.length_append, List.length_singleton]; omega)
    have d := HD (P ++ A) B (by rw [List.length_append]; omega)
    rw [List.append_assoc] at d
    rw [List.cons_append, ex_s, i, d]
    grind
theorem dt_2 {f : Nat → Int} : ∀ n (A B : List (Nat → Int)), A.length + B.length + 2 = n → dtn n (A ++ f :: f :: B) = 0 := by
  intro n
  induction n with
  | zero => intro A B hl; omega
  | succ n ih =>
    intro A B hl
    exact exA2 (N := n) (fun A' B' h' => ih A' B' h') A [] (by simp; omega)
theorem dt_sw {f g : Nat → Int} {n : Nat} {A B : List (Nat → Int)} (hl : A.length + B.length + 2 = n) : dtn n (A ++ f :: g :: B) = - dtn n (A ++ g :: f :: B) := by
  have z := dt_2 (f := fun i => 1 * f i + 1 * g i) n A B hl
  have l1 := dt_lin (f := f) (g := g) (h := fun i => 1 * f i + 1 * g i) (x := 1) (y := 1) n A ((fun i => 1 * f i + 1 * g i) :: B) (by rw [List.length_cons]; omega) (fun _ _ => rfl)
  have l2 := dt_lin (f := f) (g := g) (h := fun i => 1 * f i + 1 * g i) (x := 1) (y := 1) n (A ++ [f]) B (by rw [List.length_append, List.length_singleton]; omega) (fun _ _ => rfl)
  have l3 := dt_lin (f := f) (g := g) (h := fun i => 1 * f i + 1 * g i) (x := 1) (y := 1) n (A ++ [g]) B (by rw [List.length_append, List.length_singleton]; omega) (fun _ _ => rfl)
  have z1 := dt_2 (f := f) n A B hl
  have z2 := dt_2 (f := g) n A B hl
  rw [List.append_assoc, List.append_assoc, List.append_assoc] at l2 l3
  simp only [List.singleton_append] at l2 l3
  omega
theorem dt_mv {c : Nat → Int} {n : Nat} {C : List (Nat → Int)} : ∀ B A : List (Nat → Int), A.length + B.length + C.length + 1 = n → dtn n (A ++ (B ++ c :: C)) = sg B.length * dtn n (A ++ c :: (B ++ C)) := by
  intro B
  induction B with
  | nil =>
    intro A _
    show _ = 1 * dtn n (A ++ c :: C)
    rw [Int.one_mul]; rfl
  | cons b B ih =>
    intro A hl
    rw [List.length_cons] at hl
    have i := ih (A ++ [b]) (by rw [List.length_append, List.length_singleton]; omega)
    rw [List.append_assoc, List.append_assoc, List.singleton_append, List.singleton_append] at i
    have s := dt_sw (f := b) (g := c) (n := n) (A := A) (B := B ++ C) (by rw [List.length_append]; omega)
    rw [List.cons_append, List.cons_append, i, s]
    show sg B.length * - _ = - sg B.length * _
    grind
theorem dt_eq {f : Nat → Int} {n : Nat} {A B C : List (Nat → Int)} (hl : A.length + B.length + C.length + 2 = n) : dtn n (A ++ f :: (B ++ f :: C)) = 0 := by
  have i := dt_mv (c := f) (n := n) (C := C) B (A ++ [f]) (by rw [List.length_append, List.length_singleton]; omega)
  rw [List.append_assoc, List.append_assoc, List.singleton_append, List.singleton_append] at i
  rw [i, dt_2 n A (B ++ C) (by rw [List.length_append]; omega), Int.mul_zero]
/-- the rows that count -/
def rs (N : Nat) (f : Nat → Int) : Nat → Int := fun i => if i < N then f i else 0
theorem ex_rs {n N : Nat} {D : List (Nat → Int) → Int} (hn : n < N) (HD : ∀ L : List (Nat → Int), D (L.map (rs N)) = D L) : ∀ r p : List (Nat → Int), ex n D (p.map (rs N)) (r.map (rs N)) = ex n D p r := by
  intro r
  induction r with
  | nil => intro p; rfl
  | cons c r ih =>
    intro p
    have e := ih (p ++ [c])
    rw [List.map_append] at e
    rw [List.map_cons, ex_s, ex_s, List.length_map, ← List.map_append, HD]
    have e2 : (rs N c) n = c n := if_pos hn
    have e3 : [c].map (rs N) = [rs N c] := rfl
    rw [e3] at e
    rw [e2, e]
theorem dt_rs {N : Nat} : ∀ n, n ≤ N → ∀ L : List (Nat → Int), dtn n (L.map (rs N)) = dtn n L := by
  intro n
  induction n with
  | zero => intro _ L; rfl
  | succ n ih =>
    intro hn L
    have := ex_rs (n := n) (N := N) (D := dtn n) (by omega) (ih (by omega)) L []
    exact this
def sgl (a : Nat → Nat → Int) : Nat → Nat → List (Nat → Int)
  | _, 0 => []
  | s, n + 1 => a s :: sgl a (s + 1) n
theorem sgl_len {a : Nat → Nat → Int} : ∀ n s, (sgl a s n).length = n := by
  intro n
  induction n with
  | zero => intro s; rfl
  | succ n ih => intro s; show (sgl a (s + 1) n).length + 1 = _; rw [ih]
theorem sgl_app {a : Nat → Nat → Int} : ∀ k s n, sgl a s (k + n) = sgl a s k ++ sgl a (s + k) n := by
  intro k
  induction k with
  | zero => intro s n; rw [Nat.zero_add]; rfl
  | succ k ih =>
    intro s n
    rw [show k + 1 + n = (k + n) + 1 by omega]
    show a s :: sgl a (s + 1) (k + n) = a s :: (sgl a (s + 1) k ++ sgl a (s + (k + 1)) n)
    rw [ih, show s + 1 + k = s + (k + 1) by omega]
theorem sgl_c {a b : Nat → Nat → Int} : ∀ n s, (∀ j, s ≤ j → j < s + n → a j = b j) → sgl a s n = sgl b s n := by
  intro n
  induction n with
  | zero => intro s _; rfl
  | succ n ih =>
    intro s h
    show a s :: sgl a (s + 1) n = b s :: sgl b (s + 1) n
    rw [h s (by omega) (by omega), ih (s + 1) (fun j h1 h2 => h j (by omega) (by omega))]
theorem sgl_map {a : Nat → Nat → Int} {r : (Nat → Int) → Nat → Int} : ∀ n s, (sgl a s n).map r = sgl (fun j => r (a j)) s n := by
  intro n
  induction n with
  | zero => intro s; rfl
  | succ n ih => intro s; show r (a s) :: (sgl a (s + 1) n).map r = _; rw [ih]; rfl
/-- of a matrix by columns: a j i stands in row i, column j -/
def dF (k : Nat) (a : Nat → Nat → Int) : Int := dtn k (sgl a 0 k)
theorem dF_c {k : Nat} {a b : Nat → Nat → Int} (h : ∀ i j, i < k → j < k → a j i = b j i) : dF k a = dF k b := by
  unfold dF
  rw [← dt_rs (N := k) k (Nat.le_refl _) (sgl a 0 k), ← dt_rs (N := k) k (Nat.le_refl _) (sgl b 0 k), sgl_map, sgl_map]
  congr 1
  refine sgl_c k 0 (fun j _ hj => funext fun i => ?_)
  show (if i < k then a j i else 0) = (if i < k then b j i else 0)
  by_cases q : i < k
  · rw [if_pos q, if_pos q, h i j q (by omega)]
  · rw [if_neg q, if_neg q]
theorem sgl_pu {k l : Nat} {a : Nat → Nat → Int} {c : Nat → Int} (hl : l < k) : sgl (pu a l c) 0 k = sgl a 0 l ++ c :: sgl a (l + 1) (k - 1 - l) := by
  have e : k = l + (1 + (k - 1 - l)) := by omega
  rw [e, sgl_app, sgl_app]
  have e1 : sgl (pu a l c) 0 l = sgl a 0 l := sgl_c l 0 (fun j _ hj => pu_ne (by omega))
  have e2 : sgl (pu a l c) (0 + l) 1 = [c] := by
    show [pu a l c (0 + l)] = [c]
    rw [Nat.zero_add, pu_at]
  have e3 : sgl (pu a l c) (0 + l + 1) (k - 1 - l) = sgl a (l + 1) (k - 1 - l) := by
    rw [Nat.zero_add]
    exact sgl_c _ _ (fun j h1 _ => pu_ne (by omega))
  rw [e1, e2, e3, List.singleton_append, show l + (1 + (k - 1 - l)) - 1 - l = k - 1 - l by omega]
theorem dF_lin {k l : Nat} {a : Nat → Nat → Int} {f g h : Nat → Int} {x y : Int} (hl : l < k) (hh : ∀ i, i < k → h i = x * f i + y * g i) : dF k (pu a l h) = x * dF k (pu a l f) + y * dF k (pu a l g) := by
  unfold dF
  rw [sgl_pu hl, sgl_pu hl, sgl_pu hl]
  exact dt_lin k _ _ (by rw [sgl_len, sgl_len]; omega) hh
theorem pu_self {α : Type} {a : Nat → α} {l : Nat} : pu a l (a l) = a := by
  funext j
  by_cases e : j = l
  · rw [e, pu_at]
  · rw [pu_ne e]
theorem sgl_one {k l : Nat} {a : Nat → Nat → Int} (hl : l < k) : sgl a 0 k = sgl a 0 l ++ a l :: sgl a (l + 1) (k - 1 - l) := by
  have := sgl_pu (a := a) (c := a l) hl
  rw [pu_self] at this
  exact this
theorem dF_two {k l q : Nat} {a : Nat → Nat → Int} (hl : l < k) (hq : q < k) (ne : q ≠ l) : dF k (pu a l (a q)) = 0 := by
  unfold dF
  rw [sgl_pu hl]
  by_cases c : q < l
  · rw [sgl_one c, List.append_assoc]
    exact dt_eq (by rw [sgl_len, sgl_len, sgl_len]; omega)
  · have e : sgl a (l + 1) (k - 1 - l) = sgl a (l + 1) (q - l - 1) ++ a q :: sgl a (q + 1) (k - 1 - q) := by
      rw [show k - 1 - l = (q - l - 1) + (1 + (k - 1 - q)) by omega, sgl_app, show l + 1 + (q - l - 1) = q by omega, sgl_app]
      rfl
    rw [e]
    exact dt_eq (by rw [sgl_len, sgl_len, sgl_len]; omega)
/-- Cramer's rule, one way -/
theorem dF_cr {k l : Nat} {a : Nat → Nat → Int} {c y : Nat → Int} (hl : l < k) (hc : ∀ i, i < k → c i = sm k (fun q => y q * a q i)) : dF k (pu a l c) = y l * dF k a := by
  have key : ∀ Q, Q ≤ k → dF k (pu a l (fun i => sm Q (fun q => y q * a q i))) = (if l < Q then y l else 0) * dF k a := by
    intro Q
    induction Q with
    | zero =>
      intro _
      have := dF_lin (a := a) (f := a l) (g := a l) (h := fun i => sm 0 (fun q => y q * a q i)) (x := 0) (y := 0) hl (fun i _ => by show (0 : Int) = 0 * a l i + 0 * a l i; omega)
      rw [this, if_neg (by omega)]
      omega
    | succ Q ih =>
      intro hQ
      have := dF_lin (a := a) (f := fun i => sm Q (fun q => y q * a q i)) (g := a Q) (h := fun i => sm (Q + 1) (fun q => y q * a q i)) (x := 1) (y := y Q) hl (fun i _ => by show sm Q _ + y Q * a Q i = 1 * sm Q _ + y Q * a Q i; rw [Int.one_mul])
      rw [this, ih (by omega), Int.one_mul]
      by_cases e : Q = l
      · subst e
        rw [pu_self, if_neg (by omega), if_pos (by omega), Int.zero_mul, Int.zero_add]
      · rw [dF_two hl (by omega) e, Int.mul_zero, Int.add_zero]
        by_cases q : l < Q
        · rw [if_pos q, if_pos (by omega)]
        · rw [if_neg q, if_neg (by omega)]
  have h1 := key k (Nat.le_refl _)
  rw [if_pos hl] at h1
  rw [← h1]
  refine dF_c (fun i j hi hj => ?_)
  by_cases e : j = l
  · rw [e, pu_at, pu_at]; exact hc i hi
  · rw [pu_ne e, pu_ne e]
/-- the last row -/
theorem dF_last {k : Nat} {a : Nat → Nat → Int} : dF (k + 1) a = a k k * dF k a - sm k (fun l => a l k * dF k (pu a l (a k))) := by
  have key : ∀ r s, s + r = k → ex k (dtn k) (sgl a 0 s) (sgl a s (r + 1)) = a k k * dF k a - (sm k (fun l => a l k * dF k (pu a l (a k))) - sm s (fun l => a l k * dF k (pu a l (a k)))) := by
    intro r
    induction r with
    | zero =>
      intro s hs
      have e : s = k := by omega
      subst e
      show sg 0 * (a s s * dtn s (sgl a 0 s ++ [])) + 0 = _
      rw [List.append_nil]
      show 1 * (a s s * dF s a) + 0 = _
      omega
    | succ r ih =>
      intro s hs
      have i := ih (s + 1) (by omega)
      have e0 : sgl a 0 (s + 1) = sgl a 0 s ++ [a s] := by
        rw [sgl_app, Nat.zero_add]; rfl
      rw [e0] at i
      show sg (sgl a (s + 1) (r + 1)).length * (a s k * dtn k (sgl a 0 s ++ sgl a (s + 1) (r + 1))) + ex k (dtn k) (sgl a 0 s ++ [a s]) (sgl a (s + 1) (r + 1)) = _
      have e1 : sgl a (s + 1) (r + 1) = sgl a (s + 1) r ++ a k :: [] := by
        rw [sgl_app, show s + 1 + r = k by omega]; rfl
      have mv := dt_mv (c := a k) (n := k) (C := []) (sgl a (s + 1) r) (sgl a 0 s) (by rw [sgl_len, sgl_len]; simp; omega)
      rw [List.append_nil, sgl_len] at mv
      have e2 : dF k (pu a s (a k)) = dtn k (sgl a 0 s ++ a k :: sgl a (s + 1) r) := by
        unfold dF
        rw [sgl_pu (show s < k by omega), show k - 1 - s = r by omega]
      rw [i, sgl_len, e1, mv, ← e2]
      show (- sg r) * (a s k * (sg r * dF k (pu a s (a k)))) + (a k k * dF k a - (sm k (fun l => a l k * dF k (pu a l (a k))) - (sm s (fun l => a l k * dF k (pu a l (a k))) + a s k * dF k (pu a s (a k))))) = _
      have sq := sg_sq r
      generalize sg r = z at *
      generalize dF k (pu a s (a k)) = d at *
      generalize sm k (fun l => a l k * dF k (pu a l (a k))) = S at *
      generalize sm s (fun l => a l k * dF k (pu a l (a k))) = T at *
      have : (- z) * (a s k * (z * d)) = - (a s k * d) := by
        have h : (- z) * (a s k * (z * d)) = - ((z * z) * (a s k * d)) := by grind
        rw [h, sq, Int.one_mul]
      rw [this]
      omega
  have := key k 0 (by omega)
  rw [show sm 0 (fun l => a l k * dF k (pu a l (a k))) = 0 from rfl, Int.sub_zero] at this
  exact this
end PBDet
