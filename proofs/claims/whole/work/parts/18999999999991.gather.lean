/-! adjust: the conditions, as the class gathers them -/
section PBGather
theorem sumM_rng {f : Nat → Int32} : ∀ n i x, (∀ j, j < n → f (i + j) = -2 ∨ iv 0 12959999 (f (i + j))) → -1000000000 ≤ x.toInt → x.toInt + 12959999 * (n : Int) ≤ 1000000000 → sumM f n i x = -2147483648 ∨ (x.toInt ≤ (sumM f n i x).toInt ∧ (sumM f n i x).toInt ≤ x.toInt + 12959999 * (n : Int)) := by
  intro n
  induction n with
  | zero => intro i x _ _ _; exact Or.inr ⟨Int.le_refl _, by show x.toInt ≤ _; omega⟩
  | succ n ih =>
    intro i x h h1 h2
    show (if f i = -2 then -2147483648 else sumM f n (i + 1) (x + f i)) = _ ∨ (_ ≤ (if f i = -2 then -2147483648 else sumM f n (i + 1) (x + f i)).toInt ∧ (if f i = -2 then -2147483648 else sumM f n (i + 1) (x + f i)).toInt ≤ _)
    by_cases q : f i = -2
    · rw [if_pos q]; exact Or.inl rfl
    · rw [if_neg q]
      have h0 := h 0 (by omega)
      rw [Nat.add_zero] at h0
      have r : iv 0 12959999 (f i) := by rcases h0 with h | h; exact absurd h q; exact h
      obtain ⟨r1, r2⟩ := ivI r
      have r1 : 0 ≤ (f i).toInt := r1
      have r2 : (f i).toInt ≤ 12959999 := r2
      have a := addI (a := x) (b := f i) (by omega) (by omega)
      rcases ih (i + 1) (x + f i) (fun j hj => by have := h (j + 1) (by omega); rw [show i + (j + 1) = i + 1 + j by omega] at this; exact this) (by rw [a]; omega) (by rw [a]; omega) with e | ⟨e1, e2⟩
      · exact Or.inl e
      · refine Or.inr ⟨by omega, by omega⟩
/-- condition number q: triangles below 30, rounds behind -/
noncomputable def msK (w : rf_w) (m : rf_m) (q : Nat) : Int32 := if q < 30 then tmV w m q else rmV w m (q - 30)
def mbK (m : rf_m) (q a : Nat) : Prop := if q < 30 then ∃ i, i < 3 ∧ m.1 243 (3 * q + i) = Int32.ofNat a else ∃ i, i < (m.1 246 (q - 30)).toNatClampNeg ∧ m.1 245 (6 * (q - 30) + i) = Int32.ofNat a
def sel (a1 a2 : Int32) (q : Nat) : Bool := if q < 30 then bt a1 q else bt a2 (q - 30)
/-- the numbers that are there -/
def okK (m : rf_m) (q : Nat) : Prop := (q < 30 ∧ q < (m.1 206 64).toNatClampNeg) ∨ (30 ≤ q ∧ q - 30 < (m.1 206 65).toNatClampNeg)
theorem msK_rng {c q : Nat} {w : rf_w} {m : rf_m} (J : JCnt c w m) (jn : JNet m) (hq : okK m q) : msK w m q = -2147483648 ∨ (-80000000 ≤ (msK w m q).toInt ∧ (msK w m q).toInt ≤ 80000000) := by
  have ja := J.2.2.2.2.1
  have h80 := ang80 ja
  obtain ⟨n30, n12⟩ := net30 jn
  unfold msK
  rcases hq with ⟨q1, q2⟩ | ⟨q1, q2⟩
  · rw [if_pos q1]
    unfold tmV
    have e := ivI (jn.2.2.2.2.2.2.2.2.2.1 q)
    have e1 : 0 ≤ (m.1 244 q).toInt := e.1
    have e2 : (m.1 244 q).toInt ≤ 9999 := e.2
    have z : (-6480000 : Int32).toInt = -6480000 := rfl
    have s := subI (a := -6480000) (b := m.1 244 q) (by rw [z]; omega) (by rw [z]; omega)
    rw [z] at s
    rcases sumM_rng (f := tmF w m q) 3 0 (-6480000 - m.1 244 q) (fun j hj => by
      rw [Nat.zero_add]
      exact mean_up J (by have := (net_t jn ja q2 hj).2; omega)) (by rw [s]; omega) (by rw [s]; omega) with h | ⟨h1, h2⟩
    · exact Or.inl h
    · rw [s] at h1 h2
      exact Or.inr ⟨by omega, by omega⟩
  · rw [if_neg (by omega)]
    unfold rmV
    have h6 := jn.2.2.2.2.2.2.2.2.2.2.1 (q - 30)
    have hb : (m.1 246 (q - 30)).toNatClampNeg ≤ 6 := tn_le h6.1 h6.2 (by decide)
    have z : (-12960000 : Int32).toInt = -12960000 := rfl
    rcases sumM_rng (f := rmF w m (q - 30)) (m.1 246 (q - 30)).toNatClampNeg 0 (-12960000) (fun j hj => by
      rw [Nat.zero_add]
      exact mean_up J (by have := (net_r jn ja q2 hj).2; omega)) (by rw [z]; omega) (by rw [z]; omega) with h | ⟨h1, h2⟩
    · exact Or.inl h
    · rw [z] at h1 h2
      exact Or.inr ⟨by omega, by omega⟩
/-- the class's net and means -/
def gN (w : rf_w) (m X : rf_m) : Prop := X.1 51 = m.1 243 ∧ X.1 52 = m.1 244 ∧ X.1 53 = m.1 245 ∧ X.1 54 = m.1 246 ∧ X.1 50 0 = m.1 206 64 ∧ X.1 50 1 = m.1 206 65 ∧ ∀ a, a < (m.1 206 16).toNatClampNeg → X.1 31 a = meanV w m 9999 a
theorem gN_all {w : rf_w} {m m2 : rf_m} (jn : JNet m) (h : allF w m m2) : gN w m m2 := ⟨by rw [all_c h 51 (by omega)]; exact jn.2.2.2.2.1, by rw [all_c h 52 (by omega)]; exact jn.2.2.2.2.2.1, by rw [all_c h 53 (by omega)]; exact jn.2.2.2.2.2.2.1, by rw [all_c h 54 (by omega)]; exact jn.2.2.2.2.2.2.2.1, by rw [all_c h 50 (by omega)]; exact jn.1, by rw [all_c h 50 (by omega)]; exact jn.2.2.1, fun a ha => (h.2.2.2.2.2 a ha).2.1.1⟩
theorem tm_g {c t : Nat} {w : rf_w} {m X : rf_m} (J : JCnt c w m) (jn : JNet m) (h : gN w m X) (ht : t < (m.1 206 64).toNatClampNeg) : g_X7_triangleMiss__31 w X (Int32.ofNat t) = some (tmV w m t, X) := by
  have n30 := (net30 jn).1
  have h80 := ang80 J.2.2.2.2.1
  have := sl51 (w := w) (m1 := X) (f := tmF w m t) (b := 3 * t) (s := 3) (q := 6480000 + m.1 244 t) (by omega) (fun i hi => by
    rw [h.1]
    obtain ⟨q1, q2⟩ := net_t jn J.2.2.2.2.1 ht hi
    exact ⟨q1, h.2.2.2.2.2.2 _ q2⟩) (fun i hi => mean_rng J (by have := (net_t jn J.2.2.2.2.1 ht hi).2; omega))
  unfold g_X7_triangleMiss__31
  have e3 : Int32.ofNat t * 3 = Int32.ofNat (3 * t) := by rw [Nat.mul_comm, Int32.ofNat_mul]; rfl
  rw [gof (by omega) (by decide), g_t, tn_of (by omega), h.2.1, e3]
  have this' : g_X7_sumLess__51_31 w X (Int32.ofNat (3 * t)) 3 (6480000 + m.1 244 t) = _ := this
  rw [this']
  unfold tmV
  rw [show (-6480000 : Int32) - m.1 244 t = 0 - (6480000 + m.1 244 t) by grind]
  rfl
theorem rm_g {c r : Nat} {w : rf_w} {m X : rf_m} (J : JCnt c w m) (jn : JNet m) (h : gN w m X) (hr : r < (m.1 206 65).toNatClampNeg) : g_X7_roundMiss__31 w X (Int32.ofNat r) = some (rmV w m r, X) := by
  have n12 := (net30 jn).2
  have h80 := ang80 J.2.2.2.2.1
  have h6 := jn.2.2.2.2.2.2.2.2.2.2.1 r
  have hb : (m.1 246 r).toNatClampNeg ≤ 6 := tn_le h6.1 h6.2 (by decide)
  have hR := of_tn h6.1
  have := sl53 (w := w) (m1 := X) (f := rmF w m r) (b := 6 * r) (s := (m.1 246 r).toNatClampNeg) (q := 12960000) (by omega) (fun i hi => by
    rw [h.2.2.1]
    obtain ⟨q1, q2⟩ := net_r jn J.2.2.2.2.1 hr hi
    exact ⟨q1, h.2.2.2.2.2.2 _ q2⟩) (fun i hi => mean_rng J (by have := (net_r jn J.2.2.2.2.1 hr hi).2; omega))
  unfold g_X7_roundMiss__31
  have e3 : Int32.ofNat r * 6 = Int32.ofNat (6 * r) := by rw [Nat.mul_comm, Int32.ofNat_mul]; rfl
  rw [hR] at this
  rw [gof (by omega) (by decide), g_t, tn_of (by omega), h.2.2.2.1, e3, this]
  rfl
/-- gathering changes -/
def gaF (X X' : rf_m) : Prop := (∀ z, z ≠ 55 → z ≠ 56 → z ≠ 60 → X'.1 z = X.1 z) ∧ (∀ k, k ≠ 8 → X'.1 55 k = X.1 55 k) ∧ X'.2 = X.2
theorem gaF_refl {X : rf_m} : gaF X X := ⟨fun _ _ _ _ => rfl, fun _ _ => rfl, rfl⟩
theorem gaF_trans {a b c : rf_m} (h : gaF a b) (k : gaF b c) : gaF a c := ⟨fun z h1 h2 h3 => (k.1 z h1 h2 h3).trans (h.1 z h1 h2 h3), fun z h1 => (k.2.1 z h1).trans (h.2.1 z h1), k.2.2.trans h.2.2⟩
theorem gN_F {w : rf_w} {m X X' : rf_m} (h : gN w m X) (f : gaF X X') : gN w m X' := ⟨by rw [f.1 51 (by decide) (by decide) (by decide)]; exact h.1, by rw [f.1 52 (by decide) (by decide) (by decide)]; exact h.2.1, by rw [f.1 53 (by decide) (by decide) (by decide)]; exact h.2.2.1, by rw [f.1 54 (by decide) (by decide) (by decide)]; exact h.2.2.2.1, by rw [f.1 50 (by decide) (by decide) (by decide)]; exact h.2.2.2.2.1, by rw [f.1 50 (by decide) (by decide) (by decide)]; exact h.2.2.2.2.2.1, fun a ha => by rw [f.1 31 (by decide) (by decide) (by decide)]; exact h.2.2.2.2.2.2 a ha⟩
/-- the conditions of a list are gathered -/
def gaS (w : rf_w) (m : rf_m) (L : List Nat) (X : rf_m) : Prop := X.1 55 8 = Int32.ofNat L.length ∧ (∀ i (h : i < L.length), X.1 60 i = msK w m L[i]) ∧ ∀ a, a < 80 → ∀ u, u < 32 → (bt (X.1 56 a) u = true ↔ ∃ h : u < L.length, mbK m L[u] a)
theorem take_c {w : rf_w} {X : rf_m} {v : Int32} {k : Nat} (hk : k < 6) (h8 : X.1 55 8 = Int32.ofNat k) : (v = -2147483648 → g_X0_take w X v = some (0, X)) ∧ (v ≠ -2147483648 → g_X0_take w X v = some (1, rf_i (rf_i X 60 k v) 55 8 (Int32.ofNat (k + 1)))) := by
  constructor
  · intro h
    unfold g_X0_take
    rw [if_pos h]
  · intro h
    unfold g_X0_take
    have l6 : Int32.ofNat k < 6 := (of_lt (b := 6) (by omega) (by omega)).mpr hk
    have e : (rf_i X 60 k v).1 55 8 = Int32.ofNat k := by rw [rf_i_c, if_neg (by decide)]; exact h8
    rw [if_neg h, h8, if_pos l6, gof (n := k) hk (by decide), g_t, tn_of (n := k) (by omega), e, of_succ]
/-- one more condition -/
theorem gaS_s {w : rf_w} {m X Y : rf_m} {L : List Nat} {q : Nat} (h : gaS w m L X) (hL : L.length < 6) (e8 : Y.1 55 8 = Int32.ofNat (L.length + 1)) (e60 : Y.1 60 = pu (X.1 60) L.length (msK w m q)) (e56 : ∀ a, a < 80 → ∀ u, u < 32 → (bt (Y.1 56 a) u = true ↔ (bt (X.1 56 a) u = true ∨ (u = L.length ∧ mbK m q a)))) : gaS w m (L ++ [q]) Y := by
  refine ⟨by rw [List.length_append, List.length_singleton]; exact e8, fun i hi => ?_, fun a ha u hu => ?_⟩
  · rw [List.length_append, List.length_singleton] at hi
    rw [e60]
    by_cases e : i = L.length
    · subst e
      rw [pu_at, List.getElem_append_right (Nat.le_refl _)]
      simp
    · rw [pu_ne e, List.getElem_append_left (by omega)]
      exact h.2.1 i (by omega)
  · rw [e56 a ha u hu, h.2.2 a ha u hu]
    constructor
    · rintro (⟨h1, h2⟩ | ⟨h1, h2⟩)
      · refine ⟨by rw [List.length_append]; omega, ?_⟩
        rw [List.getElem_append_left h1]; exact h2
      · subst h1
        refine ⟨by rw [List.length_append, List.length_singleton]; omega, ?_⟩
        rw [List.getElem_append_right (Nat.le_refl _)]
        simpa using h2
    · rintro ⟨h1, h2⟩
      rw [List.length_append, List.length_singleton] at h1
      by_cases e : u = L.length
      · subst e
        rw [List.getElem_append_right (Nat.le_refl _)] at h2
        exact Or.inr ⟨rfl, by simpa using h2⟩
      · rw [List.getElem_append_left (by omega)] at h2
        exact Or.inl ⟨by omega, h2⟩
theorem set_bit {a : Int32} {u k : Nat} (hu : u < 32) (hk : k < 32) : bt (a ||| ((1 : Int32) <<< (Int32.ofNat k &&& 31))) u = true ↔ (bt a u = true ∨ u = k) := by
  rw [bt_set hu hk, Bool.or_eq_true, decide_eq_true_eq]
/-- one triangle's corners, and its miss -/
theorem gt_c {c : Nat} {w : rf_w} {m X : rf_m} {L : List Nat} {t : Nat} {a1 a2 : Int32} {r15 : Int32 → Int32 → Int32 → rf_m → Option (Int32 × rf_m)} (J : JCnt c w m) (jn : JNet m) (hg : gN w m X) (h : gaS w m L X) (hL : L.length < 6) (ht : t < (m.1 206 64).toNatClampNeg) : ∃ X', gaF X X' ∧ ((msK w m t = -2147483648 ∧ g_X0_gather_37 w r15 rf_fuel a1 a2 (Int32.ofNat t) 0 X = some (0, X')) ∨ (msK w m t ≠ -2147483648 ∧ g_X0_gather_37 w r15 rf_fuel a1 a2 (Int32.ofNat t) 0 X = r15 a1 a2 (Int32.ofNat (t + 1)) X' ∧ gaS w m (L ++ [t]) X')) := by
  obtain ⟨FU, hF, hFb⟩ := fuel_ex
  have o1 : ¬ (1 : Int32) = 0 := by decide
  have n30 := (net30 jn).1
  have ja := J.2.2.2.2.1
  have h80 := ang80 ja
  have key : ∀ r f i (Y : rf_m), i + r = 3 → r < f → gaF X Y → Y.1 55 8 = X.1 55 8 → Y.1 60 = X.1 60 → (∀ a, a < 80 → ∀ u, u < 32 → (bt (Y.1 56 a) u = true ↔ (bt (X.1 56 a) u = true ∨ (u = L.length ∧ ∃ i', i' < i ∧ m.1 243 (3 * t + i') = Int32.ofNat a)))) → ∃ X', gaF X X' ∧ ((msK w m t = -2147483648 ∧ g_X0_gather_37 w r15 f a1 a2 (Int32.ofNat t) (Int32.ofNat i) Y = some (0, X')) ∨ (msK w m t ≠ -2147483648 ∧ g_X0_gather_37 w r15 f a1 a2 (Int32.ofNat t) (Int32.ofNat i) Y = r15 a1 a2 (Int32.ofNat (t + 1)) X' ∧ gaS w m (L ++ [t]) X')) := by
    intro r
    induction r with
    | zero =>
      intro f i Y hi hf fY e8 e60 e56
      obtain ⟨f, rfl⟩ : ∃ g, f = g + 1 := ⟨f - 1, by omega⟩
      have e : i = 3 := by omega
      subst e
      have et : msK w m t = tmV w m t := if_pos (by omega)
      have gY := gN_F hg fY
      have tk := take_c (w := w) (X := Y) (v := tmV w m t) hL (by rw [e8]; exact h.1)
      have st : g_X0_gather_37 w r15 (f + 1) a1 a2 (Int32.ofNat t) (Int32.ofNat 3) Y = rf_b (g_X7_triangleMiss__31 w Y (Int32.ofNat t)) fun y0 m0 => rf_b (g_X0_take w m0 y0) fun y1 m1 => (if y1 = 0 then some (0, m1) else g_X0_gather_97 w r15 a1 a2 (Int32.ofNat t) m1) := by
        show g_X0_gather_37_b w r15 (g_X0_gather_37 w r15 f) _ _ _ _ Y = _
        unfold g_X0_gather_37_b
        have z : (3 : Int32) ≤ Int32.ofNat 3 := by decide
        rw [if_pos z]
      rw [st, tm_g J jn gY ht, b_sm, et]
      by_cases q : tmV w m t = -2147483648
      · exact ⟨Y, fY, Or.inl ⟨q, by rw [tk.1 q, b_sm, if_pos rfl]⟩⟩
      · refine ⟨rf_i (rf_i Y 60 L.length (tmV w m t)) 55 8 (Int32.ofNat (L.length + 1)), gaF_trans fY ⟨fun z z1 _ z3 => by rw [rf_i_c, if_neg z1, rf_i_c, if_neg z3], fun k hk => by rw [rf_i_c, if_pos rfl, pu_ne hk, rf_i_c, if_neg (by decide)], rfl⟩, Or.inr ⟨q, ?_, ?_⟩⟩
        · rw [tk.2 q, b_sm, if_neg o1]
          unfold g_X0_gather_97
          rw [of_succ]
        · refine gaS_s h hL (by rw [rf_i_c, if_pos rfl, pu_at]) (by rw [rf_i_c, if_neg (by decide), rf_i_c, if_pos rfl, e60, et]) (fun a ha u hu => ?_)
          rw [rf_i_c, if_neg (by decide), rf_i_c, if_neg (by decide), e56 a ha u hu]
          have : mbK m t a ↔ ∃ i', i' < 3 ∧ m.1 243 (3 * t + i') = Int32.ofNat a := by unfold mbK; rw [if_pos (by omega)]
          rw [this]
    | succ r ih =>
      intro f i Y hi hf fY e8 e60 e56
      obtain ⟨f, rfl⟩ : ∃ g, f = g + 1 := ⟨f - 1, by omega⟩
      have z : ¬ (3 : Int32) ≤ Int32.ofNat i := nle (R := 3) (by omega) (by decide)
      have gY := gN_F hg fY
      obtain ⟨q1, q2⟩ := net_t jn ja ht (show i < 3 by omega)
      have ec : Int32.ofNat (m.1 243 (3 * t + i)).toNatClampNeg = m.1 243 (3 * t + i) := of_tn q1.1
      generalize hc : (m.1 243 (3 * t + i)).toNatClampNeg = co at *
      have e3 : Int32.ofNat t * 3 + Int32.ofNat i = Int32.ofNat (3 * t + i) := by rw [Nat.mul_comm 3 t, Int32.ofNat_add, Int32.ofNat_mul]; rfl
      have cor : g_X7_cornerOf w Y (Int32.ofNat t) (Int32.ofNat i) = some (Int32.ofNat co, Y) := by
        unfold g_X7_cornerOf
        rw [e3, gof (n := 3 * t + i) (by omega) (by decide), g_t, tn_of (n := 3 * t + i) (by omega), gY.1, ec]
      have e8' : Y.1 55 8 = Int32.ofNat L.length := by rw [e8]; exact h.1
      obtain ⟨X', k1, k2⟩ := ih f (i + 1) (rf_i Y 56 co ((Y.1 56 co) ||| ((1 : Int32) <<< (Int32.ofNat L.length &&& 31)))) (by omega) (by omega) (gaF_trans fY ⟨fun z _ z2 _ => by rw [rf_i_c, if_neg z2], fun k _ => by rw [rf_i_c, if_neg (by decide)], rfl⟩) (by rw [rf_i_c, if_neg (by decide)]; exact e8) (by rw [rf_i_c, if_neg (by decide)]; exact e60) (fun a ha u hu => by
        rw [rf_i_c, if_pos rfl]
        by_cases e : a = co
        · subst e
          rw [pu_at, set_bit hu (by omega), e56 a ha u hu]
          constructor
          · rintro ((p | ⟨p1, i', p2, p3⟩) | p)
            · exact Or.inl p
            · exact Or.inr ⟨p1, i', by omega, p3⟩
            · exact Or.inr ⟨p, i, by omega, ec.symm⟩
          · rintro (p | ⟨p1, i', p2, p3⟩)
            · exact Or.inl (Or.inl p)
            · exact Or.inr p1
        · rw [pu_ne e, e56 a ha u hu]
          constructor
          · rintro (p | ⟨p1, i', p2, p3⟩)
            · exact Or.inl p
            · exact Or.inr ⟨p1, i', by omega, p3⟩
          · rintro (p | ⟨p1, i', p2, p3⟩)
            · exact Or.inl p
            · by_cases ei : i' = i
              · subst ei
                rw [← ec] at p3
                exact absurd ((of_inj (by omega) (by omega)).mp p3).symm e
              · exact Or.inr ⟨p1, i', by omega, p3⟩)
      refine ⟨X', k1, ?_⟩
      have st : g_X0_gather_37 w r15 (f + 1) a1 a2 (Int32.ofNat t) (Int32.ofNat i) Y = g_X0_gather_37 w r15 f a1 a2 (Int32.ofNat t) (Int32.ofNat (i + 1)) (rf_i Y 56 co ((Y.1 56 co) ||| ((1 : Int32) <<< (Int32.ofNat L.length &&& 31)))) := by
        show g_X0_gather_37_b w r15 (g_X0_gather_37 w r15 f) _ _ _ _ Y = _
        unfold g_X0_gather_37_b
        rw [if_neg z, cor, b_sm, gof (n := co) (by omega) (by decide), g_t, g_t, tn_of (n := co) (by omega), e8', of_succ]
      rw [st]
      exact k2
  rw [hF]
  exact key 3 FU 0 X (by omega) (by omega) gaF_refl rfl rfl (fun a ha u hu => ⟨fun p => Or.inl p, fun p => by rcases p with p | ⟨_, i', p, _⟩; exact p; omega⟩)
/-- one round's -/
theorem gr_c {c : Nat} {w : rf_w} {m X : rf_m} {L : List Nat} {t : Nat} {a2 : Int32} {r105 : Int32 → Int32 → rf_m → Option (Int32 × rf_m)} (J : JCnt c w m) (jn : JNet m) (hg : gN w m X) (h : gaS w m L X) (hL : L.length < 6) (ht : t < (m.1 206 65).toNatClampNeg) : ∃ X', gaF X X' ∧ ((msK w m (30 + t) = -2147483648 ∧ g_X0_gather_127 w r105 rf_fuel a2 (Int32.ofNat t) 0 X = some (0, X')) ∨ (msK w m (30 + t) ≠ -2147483648 ∧ g_X0_gather_127 w r105 rf_fuel a2 (Int32.ofNat t) 0 X = r105 a2 (Int32.ofNat (t + 1)) X' ∧ gaS w m (L ++ [30 + t]) X')) := by
  obtain ⟨FU, hF, hFb⟩ := fuel_ex
  have o1 : ¬ (1 : Int32) = 0 := by decide
  have n12 := (net30 jn).2
  have ja := J.2.2.2.2.1
  have h80 := ang80 ja
  have h6 := jn.2.2.2.2.2.2.2.2.2.2.1 t
  have hb6 : (m.1 246 t).toNatClampNeg ≤ 6 := tn_le h6.1 h6.2 (by decide)
  have hR := of_tn h6.1
  generalize hS : (m.1 246 t).toNatClampNeg = S at *
  have key : ∀ r f i (Y : rf_m), i + r = S → r < f → gaF X Y → Y.1 55 8 = X.1 55 8 → Y.1 60 = X.1 60 → (∀ a, a < 80 → ∀ u, u < 32 → (bt (Y.1 56 a) u = true ↔ (bt (X.1 56 a) u = true ∨ (u = L.length ∧ ∃ i', i' < i ∧ m.1 245 (6 * t + i') = Int32.ofNat a)))) → ∃ X', gaF X X' ∧ ((msK w m (30 + t) = -2147483648 ∧ g_X0_gather_127 w r105 f a2 (Int32.ofNat t) (Int32.ofNat i) Y = some (0, X')) ∨ (msK w m (30 + t) ≠ -2147483648 ∧ g_X0_gather_127 w r105 f a2 (Int32.ofNat t) (Int32.ofNat i) Y = r105 a2 (Int32.ofNat (t + 1)) X' ∧ gaS w m (L ++ [30 + t]) X')) := by
    intro r
    induction r with
    | zero =>
      intro f i Y hi hf fY e8 e60 e56
      obtain ⟨f, rfl⟩ : ∃ g, f = g + 1 := ⟨f - 1, by omega⟩
      have e : i = S := by omega
      subst e
      have et : msK w m (30 + t) = rmV w m t := by unfold msK; rw [if_neg (by omega), show 30 + t - 30 = t by omega]
      have gY := gN_F hg fY
      have tk := take_c (w := w) (X := Y) (v := rmV w m t) hL (by rw [e8]; exact h.1)
      have ti : g_X7_turnsIn w Y (Int32.ofNat t) = some (Int32.ofNat i, Y) := by
        unfold g_X7_turnsIn
        rw [gof (n := t) (by omega) (by decide), g_t, tn_of (n := t) (by omega), gY.2.2.2.1, hR]
      have st : g_X0_gather_127 w r105 (f + 1) a2 (Int32.ofNat t) (Int32.ofNat i) Y = rf_b (g_X7_roundMiss__31 w Y (Int32.ofNat t)) fun y1 m1 => rf_b (g_X0_take w m1 y1) fun y2 m2 => (if y2 = 0 then some (0, m2) else g_X0_gather_194 w r105 a2 (Int32.ofNat t) m2) := by
        show g_X0_gather_127_b w r105 (g_X0_gather_127 w r105 f) _ _ _ Y = _
        unfold g_X0_gather_127_b
        rw [ti, b_sm, if_pos (Int32.le_refl _)]
      rw [st, rm_g J jn gY ht, b_sm, et]
      by_cases q : rmV w m t = -2147483648
      · exact ⟨Y, fY, Or.inl ⟨q, by rw [tk.1 q, b_sm, if_pos rfl]⟩⟩
      · refine ⟨rf_i (rf_i Y 60 L.length (rmV w m t)) 55 8 (Int32.ofNat (L.length + 1)), gaF_trans fY ⟨fun z z1 _ z3 => by rw [rf_i_c, if_neg z1, rf_i_c, if_neg z3], fun k hk => by rw [rf_i_c, if_pos rfl, pu_ne hk, rf_i_c, if_neg (by decide)], rfl⟩, Or.inr ⟨q, ?_, ?_⟩⟩
        · rw [tk.2 q, b_sm, if_neg o1]
          unfold g_X0_gather_194
          rw [of_succ]
        · refine gaS_s h hL (by rw [rf_i_c, if_pos rfl, pu_at]) (by rw [rf_i_c, if_neg (by decide), rf_i_c, if_pos rfl, e60, et]) (fun a ha u hu => ?_)
          rw [rf_i_c, if_neg (by decide), rf_i_c, if_neg (by decide), e56 a ha u hu]
          have : mbK m (30 + t) a ↔ ∃ i', i' < i ∧ m.1 245 (6 * t + i') = Int32.ofNat a := by unfold mbK; rw [if_neg (by omega), show 30 + t - 30 = t by omega, hS]
          rw [this]
    | succ r ih =>
      intro f i Y hi hf fY e8 e60 e56
      obtain ⟨f, rfl⟩ : ∃ g, f = g + 1 := ⟨f - 1, by omega⟩
      have z : ¬ Int32.ofNat S ≤ Int32.ofNat i := nle (by omega) (by omega)
      have gY := gN_F hg fY
      obtain ⟨q1, q2⟩ := net_r jn ja ht (show i < (m.1 246 t).toNatClampNeg by omega)
      have ec : Int32.ofNat (m.1 245 (6 * t + i)).toNatClampNeg = m.1 245 (6 * t + i) := of_tn q1.1
      generalize hc : (m.1 245 (6 * t + i)).toNatClampNeg = co at *
      have e3 : Int32.ofNat t * 6 + Int32.ofNat i = Int32.ofNat (6 * t + i) := by rw [Nat.mul_comm 6 t, Int32.ofNat_add, Int32.ofNat_mul]; rfl
      have ti : g_X7_turnsIn w Y (Int32.ofNat t) = some (Int32.ofNat S, Y) := by
        unfold g_X7_turnsIn
        rw [gof (n := t) (by omega) (by decide), g_t, tn_of (n := t) (by omega), gY.2.2.2.1, hR]
      have cor : g_X7_turnOf w Y (Int32.ofNat t) (Int32.ofNat i) = some (Int32.ofNat co, Y) := by
        unfold g_X7_turnOf
        rw [e3, gof (n := 6 * t + i) (by omega) (by decide), g_t, tn_of (n := 6 * t + i) (by omega), gY.2.2.1, ec]
      have e8' : Y.1 55 8 = Int32.ofNat L.length := by rw [e8]; exact h.1
      obtain ⟨X', k1, k2⟩ := ih f (i + 1) (rf_i Y 56 co ((Y.1 56 co) ||| ((1 : Int32) <<< (Int32.ofNat L.length &&& 31)))) (by omega) (by omega) (gaF_trans fY ⟨fun z _ z2 _ => by rw [rf_i_c, if_neg z2], fun k _ => by rw [rf_i_c, if_neg (by decide)], rfl⟩) (by rw [rf_i_c, if_neg (by decide)]; exact e8) (by rw [rf_i_c, if_neg (by decide)]; exact e60) (fun a ha u hu => by
        rw [rf_i_c, if_pos rfl]
        by_cases e : a = co
        · subst e
          rw [pu_at, set_bit hu (by omega), e56 a ha u hu]
          constructor
          · rintro ((p | ⟨p1, i', p2, p3⟩) | p)
            · exact Or.inl p
            · exact Or.inr ⟨p1, i', by omega, p3⟩
            · exact Or.inr ⟨p, i, by omega, ec.symm⟩
          · rintro (p | ⟨p1, i', p2, p3⟩)
            · exact Or.inl (Or.inl p)
            · exact Or.inr p1
        · rw [pu_ne e, e56 a ha u hu]
          constructor
          · rintro (p | ⟨p1, i', p2, p3⟩)
            · exact Or.inl p
            · exact Or.inr ⟨p1, i', by omega, p3⟩
          · rintro (p | ⟨p1, i', p2, p3⟩)
            · exact Or.inl p
            · by_cases ei : i' = i
              · subst ei
                rw [← ec] at p3
                exact absurd ((of_inj (by omega) (by omega)).mp p3).symm e
              · exact Or.inr ⟨p1, i', by omega, p3⟩)
      refine ⟨X', k1, ?_⟩
      have st : g_X0_gather_127 w r105 (f + 1) a2 (Int32.ofNat t) (Int32.ofNat i) Y = g_X0_gather_127 w r105 f a2 (Int32.ofNat t) (Int32.ofNat (i + 1)) (rf_i Y 56 co ((Y.1 56 co) ||| ((1 : Int32) <<< (Int32.ofNat L.length &&& 31)))) := by
        show g_X0_gather_127_b w r105 (g_X0_gather_127 w r105 f) _ _ _ Y = _
        unfold g_X0_gather_127_b
        rw [ti, b_sm, if_neg z, cor, b_sm, gof (n := co) (by omega) (by decide), g_t, g_t, tn_of (n := co) (by omega), e8', of_succ]
      rw [st]
      exact k2
  rw [hF]
  exact key S FU 0 X (by omega) (by omega) gaF_refl rfl rfl (fun a ha u hu => ⟨fun p => Or.inl p, fun p => by rcases p with p | ⟨_, i', p, _⟩; exact p; omega⟩)
end PBGather
