/-! tokens: the reference's words -/
section PBTokR
theorem byteAt_r {w : rf_w} {m : rf_m} {n p : Nat} (hn : n ≤ 300) (h45 : m.1 206 45 = Int32.ofNat n) (hp : p ≤ n) : g_X14_byteAt w m (Int32.ofNat p) = some (if p < n then m.1 234 p &&& 255 else -1, m) := by
  unfold g_X14_byteAt
  rw [h45]
  by_cases q : p < n
  · rw [if_neg (nle q (by omega)), gof (n := p) (by omega) (by decide), g_t, tn_of (by omega), if_pos q]
  · rw [show p = n by omega, if_pos (Int32.le_refl _), if_neg (Nat.lt_irrefl _)]
theorem isLetter_r {w : rf_w} {m : rf_m} {b : Int32} : g_X14_isLetter w m b = some (if ltr b = true then 1 else 0, m) := by
  unfold g_X14_isLetter ltr
  by_cases h1 : b < 97
  · simp [h1]
  · by_cases h2 : 122 < b <;> simp [h1, h2]
theorem isDigit_r {w : rf_w} {m : rf_m} {b : Int32} : g_X14_isDigit w m b = some (if dgt b = true then 1 else 0, m) := by
  unfold g_X14_isDigit dgt
  by_cases h1 : b < 48
  · simp [h1]
  · by_cases h2 : 57 < b <;> simp [h1, h2]
/-- a word as the reference packs it -/
def wl (f : Nat → Int32) : Nat → Nat → Int64 → Int64
  | 0, _, v => v
  | k + 1, p, v => wl f k (p + 1) (32 * v + Int32.toInt64 ((f p - 97) + 1))
theorem next80_r {w : rf_w} {n : Nat} (hn : n ≤ 300) : ∀ r f p c (m : rf_m), p + r = n → r < f → c ≤ p → m.1 206 45 = Int32.ofNat n → m.1 206 46 = Int32.ofNat p → ∃ M, g_X14_next_80 w f (Int32.ofNat c) m = some (if 8 < c + (rn (fun k => ltr (m.1 234 k &&& 255)) r p - p) then M else rf_i M 206 47 2) ∧ (∀ z, z ≠ 206 → M.1 z = m.1 z) ∧ M.1 206 = pu (m.1 206) 46 (Int32.ofNat (rn (fun k => ltr (m.1 234 k &&& 255)) r p)) ∧ (∀ z k, ¬ (z = 206 ∧ k = 53) → M.2 z k = m.2 z k) ∧ (c + (rn (fun k => ltr (m.1 234 k &&& 255)) r p - p) ≤ 8 → M.2 206 53 = wl (fun k => m.1 234 k &&& 255) (rn (fun k => ltr (m.1 234 k &&& 255)) r p - p) p (m.2 206 53)) := by
  have o1 : ¬ (1 : Int32) = 0 := by decide
  have l0 : ltr (-1) = false := by decide
  have c8 : ∀ c, c ≤ 300 → ((8 : Int32) < Int32.ofNat c ↔ 8 < c) := fun c hc => by
    rw [show (8 : Int32) = Int32.ofNat 8 from rfl, of_lt (by omega) (by omega)]
  have c8' : ∀ c, c ≤ 300 → ((8 : Int32) ≤ Int32.ofNat c ↔ 8 ≤ c) := fun c hc => by
    rw [show (8 : Int32) = Int32.ofNat 8 from rfl, of_le (by omega) (by omega)]
  have stop : ∀ f p c (m : rf_m), p ≤ n → c ≤ p → m.1 206 45 = Int32.ofNat n → m.1 206 46 = Int32.ofNat p → ltr (if p < n then m.1 234 p &&& 255 else -1) = false → g_X14_next_80 w (f + 1) (Int32.ofNat c) m = some (if 8 < c then m else rf_i m 206 47 2) := by
    intro f p c m hp hc h45 h46 hl
    have st : g_X14_next_80 w (f + 1) (Int32.ofNat c) m = g_X14_next_80_b w (g_X14_next_80 w f) (Int32.ofNat c) m := rfl
    rw [st]
    unfold g_X14_next_80_b
    rw [h46, byteAt_r hn h45 hp, b_sm, isLetter_r, b_sm, hl]
    rw [if_pos (show (if false = true then (1 : Int32) else 0) = 0 from rfl)]
    by_cases q : 8 < c
    · rw [if_pos ((c8 c (by omega)).mpr q), if_pos q]
    · rw [if_neg (fun z => q ((c8 c (by omega)).mp z)), if_neg q]
  intro r
  induction r with
  | zero =>
    intro f p c m hp hf hc h45 h46
    obtain ⟨f, rfl⟩ : ∃ g, f = g + 1 := ⟨f - 1, by omega⟩
    refine ⟨m, ?_, fun _ _ => rfl, ?_, fun _ _ _ => rfl, fun _ => ?_⟩
    · rw [stop f p c m (by omega) hc h45 h46 (by rw [if_neg (by omega)]; exact l0)]
      show _ = some (if 8 < c + (p - p) then _ else _)
      rw [Nat.sub_self, Nat.add_zero]
    · funext k
      by_cases e : k = 46
      · rw [e, pu_at, h46]; rfl
      · rw [pu_ne e]
    · show _ = wl _ (p - p) p _
      rw [Nat.sub_self]; rfl
  | succ r ih =>
    intro f p c m hp hf hc h45 h46
    obtain ⟨f, rfl⟩ : ∃ g, f = g + 1 := ⟨f - 1, by omega⟩
    have er : rn (fun k => ltr (m.1 234 k &&& 255)) (r + 1) p = if ltr (m.1 234 p &&& 255) = true then rn (fun k => ltr (m.1 234 k &&& 255)) r (p + 1) else p := rfl
    have pn : p < n := by omega
    by_cases q : ltr (m.1 234 p &&& 255) = true
    · rw [er, if_pos q]
      have rg := rn_rng (P := fun k => ltr (m.1 234 k &&& 255)) r (p + 1)
      have st : g_X14_next_80 w (f + 1) (Int32.ofNat c) m = g_X14_next_80_b w (g_X14_next_80 w f) (Int32.ofNat c) m := rfl
      rw [st]
      unfold g_X14_next_80_b g_X14_next_127
      rw [h46, byteAt_r hn h45 (by omega), b_sm, isLetter_r, b_sm, if_pos pn, if_pos q, if_neg o1]
      generalize hQ : rn (fun k => ltr (m.1 234 k &&& 255)) r (p + 1) = Q at *
      by_cases e8 : 8 ≤ c
      · rw [if_pos ((c8' c (by omega)).mpr e8), h46, of_succ, of_succ]
        obtain ⟨M, k1, k2, k3, k4, k5⟩ := ih f (p + 1) (c + 1) (rf_i m 206 46 (Int32.ofNat (p + 1))) (by omega) (by omega) (by omega) (by rw [rf_i_c, if_pos rfl, pu_ne (by decide)]; exact h45) (by rw [rf_i_c, if_pos rfl, pu_at])
        have e234 : (rf_i m 206 46 (Int32.ofNat (p + 1))).1 234 = m.1 234 := by rw [rf_i_c, if_neg (by decide)]
        rw [e234, hQ] at k1 k3
        refine ⟨M, ?_, fun z hz => by rw [k2 z hz, rf_i_c, if_neg hz], ?_, k4, fun h => by omega⟩
        · rw [k1, if_pos (by omega), if_pos (by omega)]
        · rw [k3, rf_i_c, if_pos rfl]
          funext k
          by_cases e : k = 46
          · rw [e, pu_at, pu_at]
          · rw [pu_ne e, pu_ne e, pu_ne e]
      · rw [if_neg (fun z => e8 ((c8' c (by omega)).mp z)), h46, byteAt_r hn h45 (by omega), b_sm, if_pos pn, rf_l_i, h46, of_succ, of_succ]
        obtain ⟨M, k1, k2, k3, k4, k5⟩ := ih f (p + 1) (c + 1) (rf_i (rf_l m 206 53 (32 * m.2 206 53 + Int32.toInt64 ((m.1 234 p &&& 255) - 97 + 1))) 206 46 (Int32.ofNat (p + 1))) (by omega) (by omega) (by omega) (by rw [rf_i_c, if_pos rfl, pu_ne (by decide)]; exact h45) (by rw [rf_i_c, if_pos rfl, pu_at])
        have e234 : (rf_i (rf_l m 206 53 (32 * m.2 206 53 + Int32.toInt64 ((m.1 234 p &&& 255) - 97 + 1))) 206 46 (Int32.ofNat (p + 1))).1 234 = m.1 234 := by rw [rf_i_c, if_neg (by decide)]; rfl
        rw [e234, hQ] at k1 k3 k5
        refine ⟨M, ?_, fun z hz => by rw [k2 z hz, rf_i_c, if_neg hz]; rfl, ?_, fun z k hz => ?_, fun h => ?_⟩
        · rw [k1]
          have : c + 1 + (Q - (p + 1)) = c + (Q - p) := by omega
          rw [this]
        · rw [k3, rf_i_c, if_pos rfl]
          funext k
          by_cases e : k = 46
          · rw [e, pu_at, pu_at]
          · rw [pu_ne e, pu_ne e, pu_ne e]; rfl
        · rw [k4 z k hz]
          show (rf_l m 206 53 _).2 z k = _
          rw [rf_l_c]
          by_cases ez : z = 206
          · rw [if_pos ez, pu_ne (fun ek => hz ⟨ez, ek⟩), ez]
          · rw [if_neg ez]
        · rw [k5 (by omega), show Q - p = (Q - (p + 1)) + 1 by omega]
          show wl _ _ _ ((rf_l m 206 53 _).2 206 53) = wl _ _ _ _
          rw [rf_l_c, if_pos rfl, pu_at]
          rfl
    · rw [er, if_neg q, Nat.sub_self, Nat.add_zero]
      refine ⟨m, ?_, fun _ _ => rfl, ?_, fun _ _ _ => rfl, fun _ => rfl⟩
      · exact stop f p c m (by omega) hc h45 h46 (by rw [if_pos pn]; exact Bool.eq_false_iff.mpr q)
      · funext k
        by_cases e : k = 46
        · rw [e, pu_at, h46]
        · rw [pu_ne e]
end PBTokR
