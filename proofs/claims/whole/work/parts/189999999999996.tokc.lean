/-! tokens: the class's words and wholes -/
section PBTokC
def ltr (b : Int32) : Bool := !decide (b < 97) && !decide (122 < b)
def dgt (b : Int32) : Bool := !decide (b < 48) && !decide (57 < b)
/-- how far a run goes -/
def rn (P : Nat → Bool) : Nat → Nat → Nat
  | 0, p => p
  | r + 1, p => if P p = true then rn P r (p + 1) else p
theorem rn_rng {P : Nat → Bool} : ∀ r p, p ≤ rn P r p ∧ rn P r p ≤ p + r := by
  intro r
  induction r with
  | zero => intro p; exact ⟨Nat.le_refl _, Nat.le_refl _⟩
  | succ r ih =>
    intro p
    have := ih (p + 1)
    show p ≤ (if P p = true then rn P r (p + 1) else p) ∧ (if P p = true then rn P r (p + 1) else p) ≤ _
    split <;> omega
theorem isLetter_c {w : rf_w} {m : rf_m} {b : Int32} : g_X8_isLetter w m b = some (if ltr b = true then 1 else 0, m) := by
  unfold g_X8_isLetter ltr
  by_cases h1 : b < 97
  · simp [h1]
  · by_cases h2 : 122 < b <;> simp [h1, h2]
theorem isDigit_c {w : rf_w} {m : rf_m} {b : Int32} : g_X8_isDigit w m b = some (if dgt b = true then 1 else 0, m) := by
  unfold g_X8_isDigit dgt
  by_cases h1 : b < 48
  · simp [h1]
  · by_cases h2 : 57 < b <;> simp [h1, h2]
theorem takeWord_c {w : rf_w} {n : Nat} (hn : n ≤ 300) : ∀ r f p (m : rf_m), p + r = n → r < f → m.1 14 7 = Int32.ofNat n → m.1 14 9 = Int32.ofNat p → ∃ M, g_X8_takeWord_0 w f m = g_X8_takeWord_39 w M ∧ M.2 = m.2 ∧ (∀ z, z ≠ 14 → M.1 z = m.1 z) ∧ M.1 14 = pu (m.1 14) 9 (Int32.ofNat (rn (fun k => ltr (m.1 15 k)) r p)) := by
  intro r
  induction r with
  | zero =>
    intro f p m hp hf h7 h9
    obtain ⟨f, rfl⟩ : ∃ g, f = g + 1 := ⟨f - 1, by omega⟩
    refine ⟨m, ?_, rfl, fun _ _ => rfl, ?_⟩
    · show g_X8_takeWord_0_b w _ m = _
      unfold g_X8_takeWord_0_b
      rw [h7, h9, show p = n by omega, if_pos (Int32.le_refl _)]
    · funext k
      by_cases e : k = 9
      · rw [e, pu_at, h9]; rfl
      · rw [pu_ne e]
  | succ r ih =>
    intro f p m hp hf h7 h9
    obtain ⟨f, rfl⟩ : ∃ g, f = g + 1 := ⟨f - 1, by omega⟩
    have nl : ¬ Int32.ofNat n ≤ Int32.ofNat p := nle (by omega) (by omega)
    have gp : rf_in (Int32.ofNat p) 300 = true := gof (n := p) (by omega) (by decide)
    have tp : (Int32.ofNat p).toNatClampNeg = p := tn_of (by omega)
    have st : g_X8_takeWord_0 w (f + 1) m = g_X8_takeWord_0_b w (g_X8_takeWord_0 w f) m := rfl
    have o1 : ¬ (1 : Int32) = 0 := by decide
    have er : rn (fun k => ltr (m.1 15 k)) (r + 1) p = if ltr (m.1 15 p) = true then rn (fun k => ltr (m.1 15 k)) r (p + 1) else p := rfl
    rw [st]
    unfold g_X8_takeWord_0_b
    rw [h7, h9, if_neg nl, gp, g_t, tp, isLetter_c, b_sm, er]
    by_cases q : ltr (m.1 15 p) = true
    · rw [if_pos q, if_neg o1, if_pos q, h9, of_succ]
      obtain ⟨M, k1, k2, k3, k4⟩ := ih f (p + 1) (rf_i m 14 9 (Int32.ofNat (p + 1))) (by omega) (by omega) (by rw [rf_i_c, if_pos rfl, pu_ne (by decide)]; exact h7) (by rw [rf_i_c, if_pos rfl, pu_at])
      refine ⟨M, k1, k2, fun z hz => by rw [k3 z hz, rf_i_c, if_neg hz], ?_⟩
      rw [k4, rf_i_c, if_pos rfl, rf_i_c, if_neg (by decide)]
      funext k
      by_cases e : k = 9
      · rw [e, pu_at, pu_at]
      · rw [pu_ne e, pu_ne e, pu_ne e]
    · rw [if_neg q, if_pos rfl, if_neg q]
      refine ⟨m, rfl, rfl, fun _ _ => rfl, ?_⟩
      funext k
      by_cases e : k = 9
      · rw [e, pu_at, h9]
      · rw [pu_ne e]
end PBTokC
