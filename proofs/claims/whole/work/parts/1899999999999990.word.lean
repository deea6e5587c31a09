/-! tokens: words, both sides' tests -/
section PBTokX
/-- letters from a place on -/
def lts (f : Nat → Int32) : Nat → Nat → List Int32
  | 0, _ => []
  | k + 1, p => f p :: lts f k (p + 1)
theorem lts_len {f : Nat → Int32} : ∀ k p, (lts f k p).length = k := by
  intro k
  induction k with
  | zero => intro p; rfl
  | succ k ih => intro p; show (lts f k (p + 1)).length + 1 = k + 1; rw [ih]
/-- the string constants that stand for words: 1 .. 32 -/
def sw (a : Nat) : Bool := Nat.ble 1000001 a && Nat.ble a 1000032
theorem sw_ex {a : Nat} (h : sw a = true) : ∃ i, i < 32 ∧ a = 1000001 + i := by
  unfold sw at h
  rw [Bool.and_eq_true] at h
  have h1 := Nat.le_of_ble_eq_true h.1
  have h2 := Nat.le_of_ble_eq_true h.2
  exact ⟨a - 1000001, by omega, by omega⟩
theorem sw_S {a : Nat} (h : sw a = true) : rf_isS a = true := by
  obtain ⟨i, hi, rfl⟩ := sw_ex h
  unfold rf_isS
  rw [Bool.and_eq_true]
  exact ⟨Nat.ble_eq.mpr (by omega), Nat.ble_eq.mpr (by omega)⟩
theorem sw_B : ∀ i, i < 32 → (rf_sB (1000001 + i)).length ≤ 8 ∧ 1 ≤ (rf_sB (1000001 + i)).length := by decide +kernel
def okBy (b : Int32) : Prop := ltr b = true ∧ rf_nb .char b = true ∧ (Int32.toUInt32 (b &&& 255) % 65536).toInt32 = b
theorem sw_E : ∀ i, i < 32 → ∀ b, b ∈ rf_sB (1000001 + i) → ltr b = true ∧ rf_nb .char b = true ∧ (Int32.toUInt32 (b &&& 255) % 65536).toInt32 = b := by decide +kernel
theorem sw_e {a : Nat} (h : sw a = true) : ∀ b, b ∈ rf_sB a → okBy b := by
  obtain ⟨i, hi, e⟩ := sw_ex h
  intro b hb
  rw [e] at hb
  exact sw_E i hi b hb
theorem sw_b {a : Nat} (h : sw a = true) : (rf_sB a).length ≤ 8 ∧ 1 ≤ (rf_sB a).length := by
  obtain ⟨i, hi, e⟩ := sw_ex h
  have := sw_B i hi
  rw [← e] at this
  exact this
theorem getD_mem {l : List Int32} {j : Nat} (hj : j < l.length) : l.getD j 0 ∈ l := by
  rw [List.getD_eq_getElem?_getD, List.getElem?_eq_getElem hj]
  exact List.getElem_mem hj
theorem length_s {w : rf_w} {m : rf_m} {a : Nat} (h : sw a = true) : g_J0_length_8abf5 w m a = some (Int32.ofNat (rf_sB a).length, m) := by
  unfold g_J0_length_8abf5 g_J0_coder_7d493
  rw [sw_S h, g_t, g_t]
  show some (Int32.ofNat (rf_sB a).length >>> (0 &&& 31), m) = _
  rw [show ((0 : Int32) &&& 31) = 0 from rfl]
  generalize Int32.ofNat (rf_sB a).length = x
  rw [Int32.shiftRight_zero]
theorem charAt_b {w : rf_w} {m : rf_m} {a j : Nat} {b : Int32} {L : Nat} (hS : rf_isS a = true) (hL : (rf_sB a).length = L) (hj : j < L) (h8 : L ≤ 8) (hb : (rf_sB a).getD j 0 = b) (ok : okBy b) : g_J0_charAt_5068e w m a (Int32.ofNat j) = some (b, m) := by
  obtain ⟨_, k2, k3⟩ := ok
  have n0 : ¬ Int32.ofNat j < 0 := by rw [i_lt, i_0, ofI (by omega)]; omega
  have n1 : Int32.ofNat j < Int32.ofNat L := (of_lt (by omega) (by omega)).mpr hj
  have n2 : ¬ (1 : Int32) = 0 := by decide
  have n3 : rf_in (Int32.ofNat j) L = true := gof hj (by omega)
  have n4 : (Int32.ofNat j).toNatClampNeg = j := tn_of (by omega)
  unfold g_J0_charAt_5068e g_J0_isLatin1_aae02 g_J1_charAt_3b067 g_J0_checkIndex
  rw [hS, hL, g_t, g_t, b_sm, if_neg n2, g_t, if_neg n0, if_pos n1, bv_sm, n3, g_t, n4, hb, k3, k2, g_t, b_sm, k2, g_t]
theorem charAt_s {w : rf_w} {m : rf_m} {a j : Nat} (h : sw a = true) (hj : j < (rf_sB a).length) : g_J0_charAt_5068e w m a (Int32.ofNat j) = some ((rf_sB a).getD j 0, m) := charAt_b (sw_S h) rfl hj (sw_b h).1 rfl (sw_e h _ (getD_mem hj))
/-- packed, as the reference does -/
def pkW : List Int32 → Int64 → Int64
  | [], v => v
  | b :: t, v => pkW t (32 * v + Int32.toInt64 ((b - 97) + 1))
theorem wl_pk {f : Nat → Int32} : ∀ k p v, wl f k p v = pkW (lts f k p) v := by
  intro k
  induction k with
  | zero => intro p v; rfl
  | succ k ih => intro p v; exact ih (p + 1) _
theorem pkW_c {b : Int32} {t : List Int32} {v : Int64} : pkW (b :: t) v = pkW t (32 * v + Int32.toInt64 ((b - 97) + 1)) := rfl
def dgV (b : Int32) : Int := b.toInt - 96
theorem ltr_rng {b : Int32} (h : ltr b = true) : 97 ≤ b.toInt ∧ b.toInt ≤ 122 := by
  unfold ltr at h
  rw [Bool.and_eq_true, Bool.not_eq_true', Bool.not_eq_true', decide_eq_false_iff_not, decide_eq_false_iff_not, i_lt, i_lt] at h
  have e1 : (97 : Int32).toInt = 97 := rfl
  have e2 : (122 : Int32).toInt = 122 := rfl
  omega
theorem pkW_I : ∀ (l : List Int32) (v : Int64) (B : Int), (∀ b, b ∈ l → ltr b = true) → 0 ≤ v.toInt → v.toInt < B → B * 32 ^ l.length ≤ 1099511627776 → (pkW l v).toInt = l.foldl (fun x b => 32 * x + dgV b) v.toInt := by
  intro l
  induction l with
  | nil => intro v B _ _ _ _; rfl
  | cons b t ih =>
    intro v B hl h0 h1 hB
    have rb := ltr_rng (hl b (List.mem_cons_self ..))
    have p1 : (1 : Int) ≤ 32 ^ t.length := Int.pow_pos (by decide)
    have hB' : (B * 32) * 32 ^ t.length ≤ 1099511627776 := by
      have : B * 32 ^ (t.length + 1) = (B * 32) * 32 ^ t.length := by rw [Int.pow_succ, Int.mul_assoc, Int.mul_comm 32]
      rw [← this]; exact hB
    have hBs : B * 32 ≤ 1099511627776 := by
      have h : (B * 32) * 1 ≤ (B * 32) * 32 ^ t.length := Int.mul_le_mul_of_nonneg_left p1 (by omega)
      omega
    have e97 : (97 : Int32).toInt = 97 := rfl
    have e1 : (1 : Int32).toInt = 1 := rfl
    have e32 : (32 : Int64).toInt = 32 := rfl
    have d1 : (Int32.toInt64 ((b - 97) + 1)).toInt = dgV b := by
      rw [i2l, addI (by rw [subI (by omega) (by omega)]; omega) (by rw [subI (by omega) (by omega)]; omega), subI (by omega) (by omega)]
      unfold dgV; omega
    have d2 : (32 * v + Int32.toInt64 ((b - 97) + 1)).toInt = 32 * v.toInt + dgV b := by
      have m1 : (32 * v).toInt = 32 * v.toInt := by rw [mulL (by rw [e32]; omega) (by rw [e32]; omega), e32]
      unfold dgV at d1 ⊢
      rw [addL (by omega) (by omega), m1, d1]
    show (pkW t _).toInt = t.foldl _ (32 * v.toInt + dgV b)
    rw [← d2]
    refine ih _ (B * 32) (fun c hc => hl c (List.mem_cons_of_mem _ hc)) ?_ ?_ hB'
    · rw [d2]; unfold dgV; omega
    · rw [d2]; unfold dgV; omega
theorem fold_inj : ∀ (l l' : List Int32), (∀ b, b ∈ l → ltr b = true) → (∀ b, b ∈ l' → ltr b = true) → l.foldr (fun b x => 32 * x + dgV b) 0 = l'.foldr (fun b x => 32 * x + dgV b) 0 → l = l' := by
  have nn : ∀ (l : List Int32), (∀ b, b ∈ l → ltr b = true) → 0 ≤ l.foldr (fun b x => 32 * x + dgV b) 0 := by
    intro l
    induction l with
    | nil => intro _; exact Int.le_refl _
    | cons b t ih =>
      intro h
      have h1 := ih (fun c hc => h c (List.mem_cons_of_mem _ hc))
      have rb := ltr_rng (h b (List.mem_cons_self ..))
      show 0 ≤ 32 * (t.foldr _ 0) + dgV b
      unfold dgV at *
      omega
  intro l
  induction l with
  | nil =>
    intro l' _ h' e
    cases l' with
    | nil => rfl
    | cons b t =>
      exfalso
      have h1 := nn t (fun c hc => h' c (List.mem_cons_of_mem _ hc))
      have rb := ltr_rng (h' b (List.mem_cons_self ..))
      have e' : (0 : Int) = 32 * (t.foldr (fun b x => 32 * x + dgV b) 0) + dgV b := e
      unfold dgV at *
      omega
  | cons a t ih =>
    intro l' h h' e
    have h1 := nn t (fun c hc => h c (List.mem_cons_of_mem _ hc))
    have ra := ltr_rng (h a (List.mem_cons_self ..))
    cases l' with
    | nil =>
      exfalso
      have e' : 32 * (t.foldr (fun b x => 32 * x + dgV b) 0) + dgV a = 0 := e
      unfold dgV at *
      omega
    | cons b t' =>
      have h2 := nn t' (fun c hc => h' c (List.mem_cons_of_mem _ hc))
      have rb := ltr_rng (h' b (List.mem_cons_self ..))
      have e' : 32 * (t.foldr (fun b x => 32 * x + dgV b) 0) + dgV a = 32 * (t'.foldr (fun b x => 32 * x + dgV b) 0) + dgV b := e
      have e1 : t.foldr (fun b x => 32 * x + dgV b) 0 = t'.foldr (fun b x => 32 * x + dgV b) 0 := by
        unfold dgV at *
        omega
      have e2 : a = b := by
        rw [i_eq]
        rw [e1] at e'
        unfold dgV at e'
        omega
      rw [e2, ih t' (fun c hc => h c (List.mem_cons_of_mem _ hc)) (fun c hc => h' c (List.mem_cons_of_mem _ hc)) e1]
theorem pk_inj {l l' : List Int32} (h : ∀ b, b ∈ l → ltr b = true) (h' : ∀ b, b ∈ l' → ltr b = true) (k : l.length ≤ 8) (k' : l'.length ≤ 8) (e : pkW l 0 = pkW l' 0) : l = l' := by
  have pw : ∀ n : Nat, n ≤ 8 → (1 : Int) * 32 ^ n ≤ 1099511627776 := by decide
  have e1 := pkW_I l 0 1 h (by decide) (by decide) (pw _ k)
  have e2 := pkW_I l' 0 1 h' (by decide) (by decide) (pw _ k')
  rw [e, e2] at e1
  rw [List.foldl_eq_foldr_reverse, List.foldl_eq_foldr_reverse] at e1
  have := fold_inj l'.reverse l.reverse (fun b hb => h' b (List.mem_reverse.mp hb)) (fun b hb => h b (List.mem_reverse.mp hb)) e1
  have := congrArg List.reverse this
  rw [List.reverse_reverse, List.reverse_reverse] at this
  exact this.symm
theorem lts_eq {f : Nat → Int32} : ∀ (B : List Int32) p, (lts f B.length p = B ↔ ∀ j, j < B.length → f (p + j) = B.getD j 0) := by
  intro B
  induction B with
  | nil => intro p; exact ⟨fun _ j hj => absurd hj (Nat.not_lt_zero _), fun _ => rfl⟩
  | cons b t ih =>
    intro p
    show (f p :: lts f t.length (p + 1) = b :: t) ↔ _
    rw [List.cons.injEq, ih (p + 1)]
    constructor
    · rintro ⟨h1, h2⟩ j hj
      cases j with
      | zero => exact h1
      | succ j =>
        have := h2 j (Nat.lt_of_succ_lt_succ hj)
        rw [show p + (j + 1) = p + 1 + j by omega, this]
        rfl
    · intro h
      refine ⟨h 0 (Nat.succ_pos _), fun j hj => ?_⟩
      have := h (j + 1) (Nat.succ_lt_succ hj)
      rw [show p + (j + 1) = p + 1 + j by omega] at this
      rw [this]
      rfl
/-- the class's test of a word -/
theorem isWord28_c {w : rf_w} {m : rf_m} {a s : Nat} (h : sw a = true) (h8 : m.1 14 8 = Int32.ofNat s) (hs : s + (rf_sB a).length ≤ 300) : g_X8_isWord_28 w rf_fuel a 0 m = some (bi (lts (m.1 15) (rf_sB a).length s = rf_sB a), m) := by
  have hl : (rf_sB a).length ≤ 8 := (sw_b h).1
  have stp : ∀ n i, i < (rf_sB a).length → g_X8_isWord_28 w (n + 1) a (Int32.ofNat i) m = if m.1 15 (s + i) = (rf_sB a).getD i 0 then g_X8_isWord_28 w n a (Int32.ofNat (i + 1)) m else some (0, m) := by
    intro n i hi
    have st : g_X8_isWord_28 w (n + 1) a (Int32.ofNat i) m = g_X8_isWord_28_b w (g_X8_isWord_28 w n) a (Int32.ofNat i) m := rfl
    rw [st]
    unfold g_X8_isWord_28_b
    rw [sw_S h, g_t, length_s h, b_sm, if_neg (nle hi (by omega)), h8, ← Int32.ofNat_add, gof (by omega) (by decide), g_t, charAt_s h hi, b_sm, tn_of (by omega), of_succ]
  by_cases q : lts (m.1 15) (rf_sB a).length s = rf_sB a
  · rw [bi_t q]
    have q' := (lts_eq _ _).mp q
    refine find_none (F := fun n i => g_X8_isWord_28 w n a i m) (P := fun j => ¬ m.1 15 (s + j) = (rf_sB a).getD j 0) (R := (rf_sB a).length) (fun n => ?_) (fun n i hi hP => ?_) _ 0 (by omega) (by unfold rf_fuel; omega) (fun j _ hj hP => hP (q' j hj))
    · show g_X8_isWord_28_b w (g_X8_isWord_28 w n) a (Int32.ofNat (rf_sB a).length) m = _
      unfold g_X8_isWord_28_b
      rw [sw_S h, g_t, length_s h, b_sm, if_pos (Int32.le_refl _)]
    · show g_X8_isWord_28 w (n + 1) a (Int32.ofNat i) m = _
      rw [stp n i hi, if_pos (Classical.not_not.mp hP)]
  · rw [bi_f q]
    have q' : ¬ ∀ j, j < (rf_sB a).length → m.1 15 (s + j) = (rf_sB a).getD j 0 := fun z => q ((lts_eq _ _).mpr z)
    rcases first_or (fun j => ¬ m.1 15 (s + j) = (rf_sB a).getD j 0) (rf_sB a).length with z | ⟨j, z1, z2, z3⟩
    · exact absurd (fun j hj => Classical.not_not.mp (z j hj)) q'
    · refine find_some (F := fun n i => g_X8_isWord_28 w n a i m) (P := fun j => ¬ m.1 15 (s + j) = (rf_sB a).getD j 0) (R := (rf_sB a).length) (f := fun _ => some (0, m)) (fun n i hi hP => ?_) (fun n i hi hP => ?_) _ 0 j (by omega) z1 (by unfold rf_fuel; omega) z2 (fun k _ hk => z3 k hk)
      · show g_X8_isWord_28 w (n + 1) a (Int32.ofNat i) m = _
        rw [stp n i hi, if_neg hP]
      · show g_X8_isWord_28 w (n + 1) a (Int32.ofNat i) m = _
        rw [stp n i hi, if_pos (Classical.not_not.mp hP)]
/-- the reference's word of a constant -/
theorem wordOf_r {w : rf_w} {m : rf_m} {a : Nat} (h : sw a = true) : g_X14_wordOf w m a = some (pkW (rf_sB a) 0, m) := by
  have hl : (rf_sB a).length ≤ 8 := (sw_b h).1
  have key : ∀ k i n v, i + k = (rf_sB a).length → k < n → g_X14_wordOf_4 w n a v (Int32.ofNat i) m = some (pkW ((rf_sB a).drop i) v, m) := by
    intro k
    induction k with
    | zero =>
      intro i n v hi hn
      obtain ⟨n, rfl⟩ : ∃ g, n = g + 1 := ⟨n - 1, by omega⟩
      show g_X14_wordOf_4_b w (g_X14_wordOf_4 w n) a v _ m = _
      unfold g_X14_wordOf_4_b
      rw [sw_S h, g_t, length_s h, b_sm, show i = (rf_sB a).length by omega, if_pos (Int32.le_refl _), List.drop_length]
      rfl
    | succ k ih =>
      intro i n v hi hn
      obtain ⟨n, rfl⟩ : ∃ g, n = g + 1 := ⟨n - 1, by omega⟩
      show g_X14_wordOf_4_b w (g_X14_wordOf_4 w n) a v _ m = _
      unfold g_X14_wordOf_4_b
      rw [sw_S h, g_t, length_s h, b_sm, if_neg (nle (show i < (rf_sB a).length by omega) (by omega)), charAt_s h (by omega), b_sm, of_succ]
      show g_X14_wordOf_4 w n a _ _ m = _
      rw [ih (i + 1) n _ (by omega) (by omega)]
      have hi' : i < (rf_sB a).length := by omega
      rw [List.drop_eq_getElem_cons hi', pkW_c, List.getD_eq_getElem?_getD, List.getElem?_eq_getElem hi', Option.getD_some]
  unfold g_X14_wordOf
  rw [sw_S h, g_t]
  have := key (rf_sB a).length 0 rf_fuel 0 (by omega) (by unfold rf_fuel; omega)
  rw [List.drop_zero] at this
  exact this
theorem rn_all {f : Nat → Int32} {P : Int32 → Bool} : ∀ r p, ∀ b, b ∈ lts f (rn (fun k => P (f k)) r p - p) p → P b = true := by
  intro r
  induction r with
  | zero => intro p b hb; rw [show rn (fun k => P (f k)) 0 p = p from rfl, Nat.sub_self] at hb; cases hb
  | succ r ih =>
    intro p b hb
    have er : rn (fun k => P (f k)) (r + 1) p = if P (f p) = true then rn (fun k => P (f k)) r (p + 1) else p := rfl
    rw [er] at hb
    by_cases q : P (f p) = true
    · rw [if_pos q] at hb
      have rg := rn_rng (P := fun k => P (f k)) r (p + 1)
      rw [show rn (fun k => P (f k)) r (p + 1) - p = (rn (fun k => P (f k)) r (p + 1) - (p + 1)) + 1 by omega] at hb
      rcases List.mem_cons.mp hb with rfl | hb
      · exact q
      · exact ih (p + 1) b hb
    · rw [if_neg q, Nat.sub_self] at hb; cases hb
end PBTokX
