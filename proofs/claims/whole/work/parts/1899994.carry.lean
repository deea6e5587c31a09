/-! the north is carried on: one offer -/
section PBCarry
def bk (p : Nat) : Nat := 30 * (p % 30) + p / 30
/-- a sight: of two marks -/
def vs (K p : Nat) : Prop := p / 30 < K ∧ p % 30 < K ∧ p / 30 ≠ p % 30
theorem vs_bk {K p : Nat} (hK : K ≤ 30) (h : vs K p) : p < 900 ∧ bk p < 900 ∧ bk (bk p) = p ∧ bk p ≠ p ∧ vs K (bk p) := by
  unfold vs bk at *
  refine ⟨by omega, by omega, by omega, by omega, by omega, by omega, by omega⟩
theorem hlf_I {v : Int32} (h : iv 0 12959999 v) : (hlf v).toInt = if v.toInt < 6480000 then v.toInt + 6480000 else v.toInt - 6480000 := by
  obtain ⟨a, b⟩ := ivI h
  have a' : 0 ≤ v.toInt := a
  have b' : v.toInt ≤ 12959999 := b
  have e := hlf_a h
  unfold hlf
  rw [rnd_I (by omega) (by omega), e]
  split
  · split
    · rw [if_pos (by omega)]
    · rw [if_neg (by omega)]; omega
  · omega
theorem hlf_hlf {v : Int32} (h : iv 0 12959999 v) : hlf (hlf v) = v := by
  obtain ⟨a, b⟩ := ivI h
  have a' : 0 ≤ v.toInt := a
  have b' : v.toInt ≤ 12959999 := b
  rw [i_eq, hlf_I (hlf_rng h), hlf_I h]
  split
  · split <;> omega
  · split <;> omega
/-- an offer is taken: it goes on from the last step, to a sight not yet met, and none is better -/
def acc (S0 : Nat → Int32) (ρ : Nat → Nat) (d : Nat) (O : Nat → Option (Nat × Nat)) (f q a : Nat) : Prop := S0 f = Int32.ofNat d ∧ S0 q = -2 ∧ ∀ f' a', O q = some (f', a') → ρ f * 80 + a < ρ f' * 80 + a'
def CL (S0 N0 : Nat → Int32) (ρ : Nat → Nat) (d c : Nat) (O : Nat → Option (Nat × Nat)) (V : Nat → Int32) (M : rf_m) : Prop :=
  (∀ p, p < 900 → O p = none → M.1 197 p = S0 p ∧ M.1 198 p = N0 p) ∧ (∀ p f a, p < 900 → O p = some (f, a) → M.1 197 p = Int32.ofNat (d + 1) ∧ M.1 198 p = V p ∧ M.1 200 p = Int32.ofNat (ρ f * 80 + a)) ∧ M.1 193 11 = Int32.ofNat (2 * c) ∧ (∀ i, i < 2 * c → ∃ p, p < 900 ∧ M.1 201 i = Int32.ofNat p ∧ O p ≠ none) ∧ (∀ p, p < 900 → O p ≠ none → ∃ i, i < 2 * c ∧ M.1 201 i = Int32.ofNat p)
def frC (B M : rf_m) : Prop := (∀ z, z ≠ 193 → z ≠ 197 → z ≠ 198 → z ≠ 200 → z ≠ 201 → M.1 z = B.1 z) ∧ (∀ k, k ≠ 11 → M.1 193 k = B.1 193 k) ∧ M.2 = B.2
/-- the reference's offers -/
def RLy (σ : Nat → Nat) (O : Nat → Option (Nat × Nat)) (V : Nat → Int32) (M : rf_m) : Prop :=
  ∀ p, p < 900 → (p / 30 < p % 30 → (O p = none → M.1 296 p = -1) ∧ ∀ f a, O p = some (f, a) → M.1 296 p = Int32.ofNat a ∧ M.1 295 p = Int32.ofNat (σ f) ∧ M.1 297 p = V p) ∧ (¬ p / 30 < p % 30 → M.1 296 p = -1)
def frR (B M : rf_m) : Prop := (∀ z, z ≠ 295 → z ≠ 296 → z ≠ 297 → M.1 z = B.1 z) ∧ M.2 = B.2
/-- what is sound of the offers -/
def GI (S0 : Nat → Int32) (K A d : Nat) (f1 f2 : Nat → Nat) (O : Nat → Option (Nat × Nat)) (V : Nat → Int32) : Prop :=
  ∀ p f a, O p = some (f, a) → vs K p ∧ O (bk p) = some (f, a) ∧ S0 p = -2 ∧ S0 (bk p) = -2 ∧ vs K f ∧ S0 f = Int32.ofNat d ∧ a < A ∧ iv 0 12959999 (V p) ∧ V (bk p) = hlf (V p) ∧ ((f = f1 a ∧ (p = f2 a ∨ p = bk (f2 a))) ∨ (f = f2 a ∧ (p = f1 a ∨ p = bk (f1 a))))
def upO (O : Nat → Option (Nat × Nat)) (q f a : Nat) : Nat → Option (Nat × Nat) := pu (pu O q (some (f, a))) (bk q) (some (f, a))
def upV (V : Nat → Int32) (q : Nat) (v : Int32) : Nat → Int32 := pu (pu V q v) (bk q) (hlf v)
theorem upO_at {O : Nat → Option (Nat × Nat)} {q f a p : Nat} (h : p = q ∨ p = bk q) : upO O q f a p = some (f, a) := by
  unfold upO pu
  rcases h with h | h
  · by_cases e : p = bk q
    · rw [if_pos e]
    · rw [if_neg e, if_pos h]
  · rw [if_pos h]
theorem upO_ne {O : Nat → Option (Nat × Nat)} {q f a p : Nat} (h1 : p ≠ q) (h2 : p ≠ bk q) : upO O q f a p = O p := by
  unfold upO; rw [pu_ne h2, pu_ne h1]
theorem upV_at {V : Nat → Int32} {q : Nat} {v : Int32} (h : bk q ≠ q) : upV V q v q = v ∧ upV V q v (bk q) = hlf v := by
  unfold upV
  exact ⟨by rw [pu_ne (fun e => h e.symm), pu_at], by rw [pu_at]⟩
theorem upV_ne {V : Nat → Int32} {q p : Nat} {v : Int32} (h1 : p ≠ q) (h2 : p ≠ bk q) : upV V q v p = V p := by
  unfold upV; rw [pu_ne h2, pu_ne h1]
theorem GI_up {S0 : Nat → Int32} {K A d : Nat} {f1 f2 : Nat → Nat} {O : Nat → Option (Nat × Nat)} {V : Nat → Int32} {q f a : Nat} {v : Int32} (hK : K ≤ 30) (h : GI S0 K A d f1 f2 O V) (hq : vs K q) (hf : vs K f) (ha : a < A) (s1 : S0 f = Int32.ofNat d) (s2 : S0 q = -2) (s3 : S0 (bk q) = -2) (hv : iv 0 12959999 v) (hw : (f = f1 a ∧ q = f2 a) ∨ (f = f2 a ∧ q = f1 a)) : GI S0 K A d f1 f2 (upO O q f a) (upV V q v) := by
  obtain ⟨q1, q2, q3, q4, q5⟩ := vs_bk hK hq
  intro p f' a' e
  by_cases p1 : p = q
  · subst p1
    rw [upO_at (Or.inl rfl)] at e
    obtain ⟨rfl, rfl⟩ := Prod.mk.inj (Option.some.inj e)
    rw [upO_at (Or.inr rfl), (upV_at q4).1, (upV_at q4).2]
    refine ⟨hq, rfl, s2, s3, hf, s1, ha, hv, rfl, ?_⟩
    rcases hw with ⟨h1, h2⟩ | ⟨h1, h2⟩
    · exact Or.inl ⟨h1, Or.inl h2⟩
    · exact Or.inr ⟨h1, Or.inl h2⟩
  · by_cases p2 : p = bk q
    · subst p2
      rw [upO_at (Or.inr rfl)] at e
      obtain ⟨rfl, rfl⟩ := Prod.mk.inj (Option.some.inj e)
      rw [q3, upO_at (Or.inl rfl), (upV_at q4).1, (upV_at q4).2]
      refine ⟨q5, rfl, s3, s2, hf, s1, ha, hlf_rng hv, (hlf_hlf hv).symm, ?_⟩
      rcases hw with ⟨h1, h2⟩ | ⟨h1, h2⟩
      · exact Or.inl ⟨h1, Or.inr (by rw [h2])⟩
      · exact Or.inr ⟨h1, Or.inr (by rw [h2])⟩
    · rw [upO_ne p1 p2] at e
      obtain ⟨r1, r2, r3⟩ := h p f' a' e
      obtain ⟨t1, t2, t3, t4, t5⟩ := vs_bk hK r1
      have n1 : bk p ≠ q := fun z => p2 (by rw [← z, t3])
      have n2 : bk p ≠ bk q := fun z => p1 (by rw [← t3, z, q3])
      rw [upO_ne n1 n2, upV_ne p1 p2, upV_ne n1 n2]
      exact ⟨r1, r2, r3⟩
theorem div30 {q : Nat} (h : q < 900) : Int32.ofNat q / 30 = Int32.ofNat (q / 30) ∧ Int32.ofNat q - Int32.ofNat q / 30 * 30 = Int32.ofNat (q % 30) := by
  have c : (30 : Int32).toInt = 30 := rfl
  have h1 : Int32.ofNat q / 30 = Int32.ofNat (q / 30) := by
    rw [i_eq, divI (by decide), ofI (by omega), ofI (by omega), c, (tdiv_pos (by omega)).2.2.1 (by omega)]
    omega
  refine ⟨h1, ?_⟩
  rw [i_eq, (rem_I (by decide)).2, ofI (by omega), ofI (by omega), c, (tdiv_pos (by omega)).2.2.1 (by omega)]
  omega
theorem carry128 {w : rf_w} {M : rf_m} {f q st : Nat} {t x : Int32} (hf : f < 900) (hq : q < 900) (hb : bk q < 900) (hv : -12959999 ≤ (M.1 198 f + t).toInt ∧ (M.1 198 f + t).toInt ≤ 25919998) : g_X10_carry_128 w (Int32.ofNat f) (Int32.ofNat q) (Int32.ofNat st) t x (Int32.ofNat (bk q)) M = some (rf_i (rf_i (rf_i (rf_i (rf_i (rf_i M 197 q (Int32.ofNat st)) 197 (bk q) (Int32.ofNat st)) 198 q (rnd (M.1 198 f + t))) 198 (bk q) (hlf (rnd (M.1 198 f + t)))) 200 q x) 200 (bk q) x) := by
  have hr := rnd_rng hv.1 hv.2
  unfold g_X10_carry_128
  rw [gof hf (by decide), g_t, tn_of (by omega), fmod_c hv.1 hv.2]
  simp only [rf_b, gof hq (show 900 ≤ 2147483648 by decide), gof hb (show 900 ≤ 2147483648 by decide), g_t, tn_of (show q < 2147483648 by omega), tn_of (show bk q < 2147483648 by omega), md_hlf hr]
theorem carry_c {w : rf_w} {B M : rf_m} {K A d c f q a : Nat} {f1 f2 : Nat → Nat} {ρ : Nat → Nat} {O : Nat → Option (Nat × Nat)} {V : Nat → Int32} {t : Int32} (hK : K ≤ 30) (hd : d < 1000) (hc : c < 80) (hA : A ≤ 80) (hfr : frC B M) (hC : CL (B.1 197) (B.1 198) ρ d c O V M) (hG : GI (B.1 197) K A d f1 f2 O V) (hR : ∀ p, vs K p → B.1 197 p = Int32.ofNat d → B.1 199 p = Int32.ofNat (ρ p) ∧ ρ p ≤ 200) (hs : ∀ p, vs K p → B.1 197 p = -2 ∨ ∃ e, e ≤ d ∧ B.1 197 p = Int32.ofNat e) (hsy : ∀ p, vs K p → B.1 197 (bk p) = B.1 197 p) (hf : vs K f) (hq : vs K q) (ha : a < A) (hv : B.1 197 f = Int32.ofNat d → -12959999 ≤ (B.1 198 f + t).toInt ∧ (B.1 198 f + t).toInt ≤ 25919998) :
    (acc (B.1 197) ρ d O f q a → ∃ M' c', g_X10_carry w M (Int32.ofNat f) (Int32.ofNat q) (Int32.ofNat a) (Int32.ofNat (d + 1)) t = some M' ∧ c' ≤ c + 1 ∧ frC B M' ∧ CL (B.1 197) (B.1 198) ρ d c' (upO O q f a) (upV V q (rnd (B.1 198 f + t))) M') ∧ (¬ acc (B.1 197) ρ d O f q a → g_X10_carry w M (Int32.ofNat f) (Int32.ofNat q) (Int32.ofNat a) (Int32.ofNat (d + 1)) t = some M) := by
  obtain ⟨C1, C2, C3, C4, C5⟩ := hC
  obtain ⟨f900, _⟩ := vs_bk hK hf
  obtain ⟨q900, b900, q3, q4, q5⟩ := vs_bk hK hq
  have em : Int32.ofNat (d + 1) - 1 = Int32.ofNat d := ofm1'
  have nd : ∀ e, e ≤ d → ¬ Int32.ofNat (d + 1) ≤ Int32.ofNat e := fun e he => nle (by omega) (by omega)
  have nn : ∀ e, e < 2000 → ¬ Int32.ofNat e < 0 := fun e he => by rw [i_lt, i_0, ofI (by omega)]; omega
  have m2 : (-2 : Int32) < 0 := by decide
  have m2d : ¬ (-2 : Int32) = Int32.ofNat d := fun z => by have := of_nn (a := d) (by omega); rw [← z] at this; exact absurd this (by decide)
  have sne : ¬ Int32.ofNat (d + 1) = Int32.ofNat d := fun z => by have := (of_inj (by omega) (by omega)).mp z; omega
  have e199 : M.1 199 = B.1 199 := hfr.1 199 (by decide) (by decide) (by decide) (by decide) (by decide)
  unfold g_X10_carry
  rw [gof f900 (by decide), g_t, tn_of (by omega), em, gof q900 (by decide), g_t, tn_of (by omega)]
  -- what the class holds at q
  have hq197 : (O q = none ∧ M.1 197 q = B.1 197 q ∧ M.1 198 q = B.1 198 q) ∨ ∃ f' a', O q = some (f', a') ∧ M.1 197 q = Int32.ofNat (d + 1) ∧ M.1 200 q = Int32.ofNat (ρ f' * 80 + a') ∧ B.1 197 q = -2 ∧ ρ f' ≤ 200 ∧ a' < 80 := by
    cases e : O q with
    | none => exact Or.inl ⟨rfl, C1 q q900 e⟩
    | some z =>
      obtain ⟨f', a'⟩ := z
      obtain ⟨r1, r2, r3⟩ := C2 q f' a' q900 e
      obtain ⟨g1, g2, g3, g4, g5, g6, g7, g8⟩ := hG q f' a' e
      exact Or.inr ⟨f', a', rfl, r1, r3, g3, (hR f' g5 g6).2, by omega⟩
  by_cases hfd : B.1 197 f = Int32.ofNat d
  · have hOf : O f = none := by
      cases e : O f with
      | none => rfl
      | some z =>
        obtain ⟨f', a'⟩ := z
        have := (hG f f' a' e).2.2.1
        rw [hfd] at this
        exact absurd this.symm m2d
    obtain ⟨F1, F2⟩ := C1 f f900 hOf
    rw [F1, if_pos hfd]
    obtain ⟨R1, R2⟩ := hR f hf hfd
    have hx1 : M.1 199 f * 80 + Int32.ofNat a = Int32.ofNat (ρ f * 80 + a) := by
      rw [e199, R1, Int32.ofNat_add, Int32.ofNat_mul]; rfl
    have hbk : g_X10_sight w M (Int32.ofNat q - Int32.ofNat q / 30 * 30) (Int32.ofNat q / 30) = some (Int32.ofNat (bk q), M) := by
      unfold g_X10_sight
      obtain ⟨z1, z2⟩ := div30 q900
      rw [z2, z1, o30 (by omega) (by omega)]
      rfl
    have c34 : g_X10_carry_34 w (Int32.ofNat f) (Int32.ofNat q) (Int32.ofNat a) (Int32.ofNat (d + 1)) t M = (if M.1 197 q = Int32.ofNat (d + 1) then (if Int32.ofNat (ρ f * 80 + a) < M.1 200 q then g_X10_carry_128 w (Int32.ofNat f) (Int32.ofNat q) (Int32.ofNat (d + 1)) t (Int32.ofNat (ρ f * 80 + a)) (Int32.ofNat (bk q)) M else some M) else g_X10_carry_128 w (Int32.ofNat f) (Int32.ofNat q) (Int32.ofNat (d + 1)) t (Int32.ofNat (ρ f * 80 + a)) (Int32.ofNat (bk q)) (rf_i (rf_i (rf_i M 201 (2 * c) (Int32.ofNat q)) 201 (2 * c + 1) (Int32.ofNat (bk q))) 193 11 (Int32.ofNat (2 * (c + 1))))) := by
      unfold g_X10_carry_34
      rw [gof f900 (by decide), g_t, tn_of (by omega)]
      simp only [rf_vi, hx1, hbk, rf_b]
      rw [gof q900 (by decide), tn_of (show q < 2147483648 by omega)]
      simp only [g_t]
      have l1 : ¬ (160 : Int32) < Int32.ofNat (2 * c) + 2 := by
        rw [show Int32.ofNat (2 * c) + 2 = Int32.ofNat (2 * c + 2) from (Int32.ofNat_add _ _).symm]
        intro z
        have := (of_lt (a := 160) (by omega) (by omega)).mp z
        omega
      have k1 : (rf_i M 201 (2 * c) (Int32.ofNat q)).1 193 11 = Int32.ofNat (2 * c) := by rw [rf_i_c, if_neg (by decide)]; exact C3
      rw [C3, if_neg l1, gof (show 2 * c < 160 by omega) (by decide), g_t, tn_of (show 2 * c < 2147483648 by omega), k1, of_succ, gof (show 2 * c + 1 < 160 by omega) (by decide), g_t, tn_of (show 2 * c + 1 < 2147483648 by omega)]
      have k2 : (rf_i (rf_i M 201 (2 * c) (Int32.ofNat q)) 201 (2 * c + 1) (Int32.ofNat (bk q))).1 193 11 = Int32.ofNat (2 * c) := by rw [rf_i_c, if_neg (by decide)]; exact k1
      rw [k2, show Int32.ofNat (2 * c) + 2 = Int32.ofNat (2 * (c + 1)) from (Int32.ofNat_add _ _).symm]
    have hv' : ∀ M' : rf_m, M'.1 198 f = B.1 198 f → -12959999 ≤ (M'.1 198 f + t).toInt ∧ (M'.1 198 f + t).toInt ≤ 25919998 := fun M' e => by rw [e]; exact hv hfd
    have hvr := rnd_rng (hv hfd).1 (hv hfd).2
    -- the last writes, from M1 with the layer right
    have wr : ∀ (M1 : rf_m) (c' : Nat), frC B M1 → M1.1 197 = M.1 197 → M1.1 198 = M.1 198 → M1.1 200 = M.1 200 → M1.1 193 11 = Int32.ofNat (2 * c') → (∀ i, i < 2 * c' → ∃ p, p < 900 ∧ M1.1 201 i = Int32.ofNat p ∧ upO O q f a p ≠ none) → (∀ p, p < 900 → upO O q f a p ≠ none → ∃ i, i < 2 * c' ∧ M1.1 201 i = Int32.ofNat p) → ∃ M', g_X10_carry_128 w (Int32.ofNat f) (Int32.ofNat q) (Int32.ofNat (d + 1)) t (Int32.ofNat (ρ f * 80 + a)) (Int32.ofNat (bk q)) M1 = some M' ∧ frC B M' ∧ CL (B.1 197) (B.1 198) ρ d c' (upO O q f a) (upV V q (rnd (B.1 198 f + t))) M' := by
      intro M1 c' w1 w2 w3 w4 w5 w6 w7
      have e98 : M1.1 198 f = B.1 198 f := by rw [w3, F2]
      refine ⟨_, carry128 f900 q900 b900 (hv' M1 e98), ?_, ?_⟩
      · refine ⟨fun z z1 z2 z3 z4 z5 => ?_, fun k hk => ?_, w1.2.2⟩
        · rw [rf_i_c, if_neg z4, rf_i_c, if_neg z4, rf_i_c, if_neg z3, rf_i_c, if_neg z3, rf_i_c, if_neg z2, rf_i_c, if_neg z2]
          exact w1.1 z z1 z2 z3 z4 z5
        · rw [rf_i_c, if_neg (by decide), rf_i_c, if_neg (by decide), rf_i_c, if_neg (by decide), rf_i_c, if_neg (by decide), rf_i_c, if_neg (by decide), rf_i_c, if_neg (by decide)]
          exact w1.2.1 k hk
      · rw [e98]
        generalize hM' : rf_i (rf_i (rf_i (rf_i (rf_i (rf_i M1 197 q (Int32.ofNat (d + 1))) 197 (bk q) (Int32.ofNat (d + 1))) 198 q (rnd (B.1 198 f + t))) 198 (bk q) (hlf (rnd (B.1 198 f + t)))) 200 q (Int32.ofNat (ρ f * 80 + a))) 200 (bk q) (Int32.ofNat (ρ f * 80 + a)) = M'
        have g197 : M'.1 197 = pu (pu (M.1 197) q (Int32.ofNat (d + 1))) (bk q) (Int32.ofNat (d + 1)) := by
          rw [← hM', rf_i_c, if_neg (by decide), rf_i_c, if_neg (by decide), rf_i_c, if_neg (by decide), rf_i_c, if_neg (by decide), rf_i_c, if_pos rfl, rf_i_c, if_pos rfl, w2]
        have g198 : M'.1 198 = pu (pu (M.1 198) q (rnd (B.1 198 f + t))) (bk q) (hlf (rnd (B.1 198 f + t))) := by
          rw [← hM', rf_i_c, if_neg (by decide), rf_i_c, if_neg (by decide), rf_i_c, if_pos rfl, rf_i_c, if_pos rfl, rf_i_c, if_neg (by decide), rf_i_c, if_neg (by decide), w3]
        have g200 : M'.1 200 = pu (pu (M.1 200) q (Int32.ofNat (ρ f * 80 + a))) (bk q) (Int32.ofNat (ρ f * 80 + a)) := by
          rw [← hM', rf_i_c, if_pos rfl, rf_i_c, if_pos rfl, rf_i_c, if_neg (by decide), rf_i_c, if_neg (by decide), rf_i_c, if_neg (by decide), rf_i_c, if_neg (by decide), w4]
        have g201 : M'.1 201 = M1.1 201 := by
          rw [← hM', rf_i_c, if_neg (by decide), rf_i_c, if_neg (by decide), rf_i_c, if_neg (by decide), rf_i_c, if_neg (by decide), rf_i_c, if_neg (by decide), rf_i_c, if_neg (by decide)]
        have g193 : M'.1 193 = M1.1 193 := by
          rw [← hM', rf_i_c, if_neg (by decide), rf_i_c, if_neg (by decide), rf_i_c, if_neg (by decide), rf_i_c, if_neg (by decide), rf_i_c, if_neg (by decide), rf_i_c, if_neg (by decide)]
        refine ⟨fun p hp hn => ?_, fun p f' a' hp hn => ?_, by rw [g193]; exact w5, by rw [g201]; exact w6, by rw [g201]; exact w7⟩
        · have n1 : p ≠ q := fun z => by rw [upO_at (Or.inl z)] at hn; cases hn
          have n2 : p ≠ bk q := fun z => by rw [upO_at (Or.inr z)] at hn; cases hn
          rw [upO_ne n1 n2] at hn
          rw [g197, g198, pu_ne n2, pu_ne n1, pu_ne n2, pu_ne n1]
          exact C1 p hp hn
        · by_cases n1 : p = q
          · rw [upO_at (Or.inl n1)] at hn
            obtain ⟨rfl, rfl⟩ := Prod.mk.inj (Option.some.inj hn)
            subst n1
            rw [g197, g198, g200, (upV_at q4).1, pu_ne (fun z => q4 z.symm), pu_at, pu_ne (fun z => q4 z.symm), pu_at, pu_ne (fun z => q4 z.symm), pu_at]
            exact ⟨rfl, rfl, rfl⟩
          · by_cases n2 : p = bk q
            · rw [upO_at (Or.inr n2)] at hn
              obtain ⟨rfl, rfl⟩ := Prod.mk.inj (Option.some.inj hn)
              rw [n2, g197, g198, g200, (upV_at q4).2, pu_at, pu_at, pu_at]
              exact ⟨rfl, rfl, rfl⟩
            · rw [upO_ne n1 n2] at hn
              rw [g197, g198, g200, upV_ne n1 n2, pu_ne n2, pu_ne n1, pu_ne n2, pu_ne n1, pu_ne n2, pu_ne n1]
              exact C2 p f' a' hp hn
    rcases hq197 with ⟨Oq, E1, E2⟩ | ⟨f', a', Oq, E1, E2, E3, E4, E5⟩
    · rcases hs q hq with s | ⟨e, he, s⟩
      · have hO2 : O (bk q) = none := by
          cases z : O (bk q) with
          | none => rfl
          | some zz =>
            obtain ⟨f', a'⟩ := zz
            have := (hG (bk q) f' a' z).2.1
            rw [q3, Oq] at this
            cases this
        refine ⟨fun _ => ?_, fun hn => absurd ⟨hfd, s, fun f' a' z => by rw [Oq] at z; cases z⟩ hn⟩
        rw [E1, s, if_pos m2, c34, E1, s, if_neg (fun z => by have := nn (d + 1) (by omega); rw [← z] at this; exact this m2)]
        generalize hM1 : rf_i (rf_i (rf_i M 201 (2 * c) (Int32.ofNat q)) 201 (2 * c + 1) (Int32.ofNat (bk q))) 193 11 (Int32.ofNat (2 * (c + 1))) = M1
        have x0 : ∀ z, z ≠ 193 → z ≠ 201 → M1.1 z = M.1 z := fun z z1 z5 => by rw [← hM1, rf_i_c, if_neg z1, rf_i_c, if_neg z5, rf_i_c, if_neg z5]
        have x1 : M1.1 193 = pu (M.1 193) 11 (Int32.ofNat (2 * (c + 1))) := by rw [← hM1, rf_i_c, if_pos rfl, rf_i_c, if_neg (by decide), rf_i_c, if_neg (by decide)]
        have x2 : M1.1 201 = pu (pu (M.1 201) (2 * c) (Int32.ofNat q)) (2 * c + 1) (Int32.ofNat (bk q)) := by rw [← hM1, rf_i_c, if_neg (by decide), rf_i_c, if_pos rfl, rf_i_c, if_pos rfl]
        have y1 : frC B M1 := by
          refine ⟨fun z z1 z2 z3 z4 z5 => ?_, fun k hk => ?_, by rw [← hM1]; exact hfr.2.2⟩
          · rw [x0 z z1 z5]; exact hfr.1 z z1 z2 z3 z4 z5
          · rw [x1, pu_ne hk]; exact hfr.2.1 k hk
        have y2 : ∀ i, i < 2 * (c + 1) → ∃ p, p < 900 ∧ M1.1 201 i = Int32.ofNat p ∧ upO O q f a p ≠ none := by
          intro i hi
          rw [x2]
          by_cases i1 : i = 2 * c + 1
          · exact ⟨bk q, b900, by rw [i1, pu_at], by rw [upO_at (Or.inr rfl)]; exact Option.some_ne_none _⟩
          · by_cases i2 : i = 2 * c
            · exact ⟨q, q900, by rw [pu_ne i1, i2, pu_at], by rw [upO_at (Or.inl rfl)]; exact Option.some_ne_none _⟩
            · obtain ⟨p, p1, p2, p3⟩ := C4 i (by omega)
              refine ⟨p, p1, by rw [pu_ne i1, pu_ne i2]; exact p2, ?_⟩
              rw [upO_ne (fun z => p3 (by rw [z]; exact Oq)) (fun z => p3 (by rw [z]; exact hO2))]
              exact p3
        have y3 : ∀ p, p < 900 → upO O q f a p ≠ none → ∃ i, i < 2 * (c + 1) ∧ M1.1 201 i = Int32.ofNat p := by
          intro p hp hn
          rw [x2]
          by_cases p1 : p = q
          · exact ⟨2 * c, by omega, by rw [pu_ne (by omega), pu_at, p1]⟩
          · by_cases p2 : p = bk q
            · exact ⟨2 * c + 1, by omega, by rw [pu_at, p2]⟩
            · rw [upO_ne p1 p2] at hn
              obtain ⟨i, i1, i2⟩ := C5 p hp hn
              exact ⟨i, by omega, by rw [pu_ne (by omega), pu_ne (by omega)]; exact i2⟩
        obtain ⟨M', h1, h2, h3⟩ := wr M1 (c + 1) y1 (x0 197 (by decide) (by decide)) (x0 198 (by decide) (by decide)) (x0 200 (by decide) (by decide)) (by rw [x1, pu_at]) y2 y3
        exact ⟨M', c + 1, h1, Nat.le_refl _, h2, h3⟩
      · refine ⟨fun h => absurd (h.2.1.symm.trans s).symm (fun z => by have := nn e (by omega); rw [z] at this; exact this m2), fun _ => ?_⟩
        rw [E1, s, if_neg (nn e (by omega)), g_t, if_neg (nd e he)]
    · rw [E1, if_neg (nn (d + 1) (by omega)), g_t, if_pos (Int32.le_refl _), c34, E1, if_pos rfl, E2]
      have hlt : Int32.ofNat (ρ f * 80 + a) < Int32.ofNat (ρ f' * 80 + a') ↔ ρ f * 80 + a < ρ f' * 80 + a' := of_lt (by omega) (by omega)
      constructor
      · intro h
        rw [if_pos (hlt.mpr (h.2.2 f' a' Oq))]
        have O2 := (hG q f' a' Oq).2.1
        have up0 : ∀ p, upO O q f a p ≠ none ↔ O p ≠ none := fun p => by
          by_cases p1 : p = q
          · rw [upO_at (Or.inl p1), p1, Oq]; exact ⟨fun _ => Option.some_ne_none _, fun _ => Option.some_ne_none _⟩
          · by_cases p2 : p = bk q
            · rw [upO_at (Or.inr p2), p2, O2]; exact ⟨fun _ => Option.some_ne_none _, fun _ => Option.some_ne_none _⟩
            · rw [upO_ne p1 p2]
        obtain ⟨M', h1, h2, h3⟩ := wr M c hfr rfl rfl rfl C3 (fun i hi => by obtain ⟨p, p1, p2, p3⟩ := C4 i hi; exact ⟨p, p1, p2, (up0 p).mpr p3⟩) (fun p hp hn => C5 p hp ((up0 p).mp hn))
        exact ⟨M', c, h1, by omega, h2, h3⟩
      · intro h
        rw [if_neg (fun z => h ⟨hfd, E3, fun f'' a'' z' => by rw [Oq] at z'; obtain ⟨rfl, rfl⟩ := Prod.mk.inj (Option.some.inj z'); exact hlt.mp z⟩)]
  · have hne : ¬ M.1 197 f = Int32.ofNat d := by
      cases e : O f with
      | none => rw [(C1 f f900 e).1]; exact hfd
      | some z =>
        obtain ⟨f', a'⟩ := z
        rw [(C2 f f' a' f900 e).1]
        exact sne
    rw [if_neg hne]
    exact ⟨fun h => absurd h.1 hfd, fun _ => rfl⟩
theorem carry_no {w : rf_w} {S0 N0 : Nat → Int32} {M : rf_m} {d c f : Nat} {ρ : Nat → Nat} {O : Nat → Option (Nat × Nat)} {V : Nat → Int32} {q a t : Int32} (hd : d < 1000) (hC : CL S0 N0 ρ d c O V M) (f900 : f < 900) (hfd : ¬ S0 f = Int32.ofNat d) : g_X10_carry w M (Int32.ofNat f) q a (Int32.ofNat (d + 1)) t = some M := by
  obtain ⟨C1, C2, _⟩ := hC
  have em : Int32.ofNat (d + 1) - 1 = Int32.ofNat d := ofm1'
  have sne : ¬ Int32.ofNat (d + 1) = Int32.ofNat d := fun z => by have := (of_inj (by omega) (by omega)).mp z; omega
  have hne : ¬ M.1 197 f = Int32.ofNat d := by
    cases e : O f with
    | none => rw [(C1 f f900 e).1]; exact hfd
    | some z =>
      obtain ⟨f', a'⟩ := z
      rw [(C2 f f' a' f900 e).1]
      exact sne
  unfold g_X10_carry
  rw [gof f900 (by decide), g_t, tn_of (by omega), em, if_neg hne]
end PBCarry
