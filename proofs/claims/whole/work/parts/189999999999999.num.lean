/-! tokens: the reference's whole numbers -/
section PBTokN
theorem next169_r {w : rf_w} {n : Nat} (hn : n ≤ 300) : ∀ r f p c (m : rf_m), p + r = n → r < f → c ≤ p → m.1 206 45 = Int32.ofNat n → m.1 206 46 = Int32.ofNat p → ∃ M X, g_X14_next_169 w f (Int32.ofNat c) m = some (if 8 ≤ c + (rn (fun k => dgt (m.1 234 k &&& 255)) r p - p) then M else rf_i M 206 47 3) ∧ (∀ z, z ≠ 206 → M.1 z = m.1 z) ∧ M.1 206 = pu (pu (m.1 206) 46 (Int32.ofNat (rn (fun k => dgt (m.1 234 k &&& 255)) r p))) 50 X ∧ M.2 = m.2 ∧ (c + (rn (fun k => dgt (m.1 234 k &&& 255)) r p - p) ≤ 7 → X = nl (fun k => m.1 234 k &&& 255) (rn (fun k => dgt (m.1 234 k &&& 255)) r p - p) p (m.1 206 50)) := by
  have o1 : ¬ (1 : Int32) = 0 := by decide
  have l0 : dgt (-1) = false := by decide
  have c8 : ∀ c, c ≤ 300 → ((8 : Int32) ≤ Int32.ofNat c ↔ 8 ≤ c) := fun c hc => by
    rw [show (8 : Int32) = Int32.ofNat 8 from rfl, of_le (by omega) (by omega)]
  have c7 : ∀ c, c ≤ 300 → ((7 : Int32) ≤ Int32.ofNat c ↔ 7 ≤ c) := fun c hc => by
    rw [show (7 : Int32) = Int32.ofNat 7 from rfl, of_le (by omega) (by omega)]
  have same : ∀ (f : Nat → Int32) p, f 46 = Int32.ofNat p → f = pu (pu f 46 (Int32.ofNat p)) 50 (f 50) := fun f p h => by
    funext k
    by_cases e : k = 50
    · rw [e, pu_at]
    · rw [pu_ne e]
      by_cases e : k = 46
      · rw [e, pu_at, h]
      · rw [pu_ne e]
  have stop : ∀ f p c (m : rf_m), p ≤ n → c ≤ p → m.1 206 45 = Int32.ofNat n → m.1 206 46 = Int32.ofNat p → dgt (if p < n then m.1 234 p &&& 255 else -1) = false → g_X14_next_169 w (f + 1) (Int32.ofNat c) m = some (if 8 ≤ c then m else rf_i m 206 47 3) := by
    intro f p c m hp hc h45 h46 hl
    have st : g_X14_next_169 w (f + 1) (Int32.ofNat c) m = g_X14_next_169_b w (g_X14_next_169 w f) (Int32.ofNat c) m := rfl
    rw [st]
    unfold g_X14_next_169_b
    rw [h46, byteAt_r hn h45 hp, b_sm, isDigit_r, b_sm, hl]
    rw [if_pos (show (if false = true then (1 : Int32) else 0) = 0 from rfl)]
    by_cases q : 8 ≤ c
    · rw [if_pos ((c8 c (by omega)).mpr q), if_pos q]
    · rw [if_neg (fun z => q ((c8 c (by omega)).mp z)), if_neg q]
  intro r
  induction r with
  | zero =>
    intro f p c m hp hf hc h45 h46
    obtain ⟨f, rfl⟩ : ∃ g, f = g + 1 := ⟨f - 1, by omega⟩
    refine ⟨m, m.1 206 50, ?_, fun _ _ => rfl, same _ p h46, rfl, fun _ => ?_⟩
    · rw [stop f p c m (by omega) hc h45 h46 (by rw [if_neg (by omega)]; exact l0)]
      show _ = some (if 8 ≤ c + (p - p) then _ else _)
      rw [Nat.sub_self, Nat.add_zero]
    · show _ = nl _ (p - p) p _
      rw [Nat.sub_self]; rfl
  | succ r ih =>
    intro f p c m hp hf hc h45 h46
    obtain ⟨f, rfl⟩ : ∃ g, f = g + 1 := ⟨f - 1, by omega⟩
    have er : rn (fun k => dgt (m.1 234 k &&& 255)) (r + 1) p = if dgt (m.1 234 p &&& 255) = true then rn (fun k => dgt (m.1 234 k &&& 255)) r (p + 1) else p := rfl
    have pn : p < n := by omega
    by_cases q : dgt (m.1 234 p &&& 255) = true
    · rw [er, if_pos q]
      have rg := rn_rng (P := fun k => dgt (m.1 234 k &&& 255)) r (p + 1)
      have st : g_X14_next_169 w (f + 1) (Int32.ofNat c) m = g_X14_next_169_b w (g_X14_next_169 w f) (Int32.ofNat c) m := rfl
      rw [st]
      unfold g_X14_next_169_b g_X14_next_212
      rw [h46, byteAt_r hn h45 (by omega), b_sm, isDigit_r, b_sm, if_pos pn, if_pos q, if_neg o1]
      generalize hQ : rn (fun k => dgt (m.1 234 k &&& 255)) r (p + 1) = Q at *
      by_cases e8 : 7 ≤ c
      · rw [if_pos ((c7 c (by omega)).mpr e8), h46, of_succ, of_succ]
        obtain ⟨M, X, k1, k2, k3, k4, k5⟩ := ih f (p + 1) (c + 1) (rf_i m 206 46 (Int32.ofNat (p + 1))) (by omega) (by omega) (by omega) (by rw [rf_i_c, if_pos rfl, pu_ne (by decide)]; exact h45) (by rw [rf_i_c, if_pos rfl, pu_at])
        have e234 : (rf_i m 206 46 (Int32.ofNat (p + 1))).1 234 = m.1 234 := by rw [rf_i_c, if_neg (by decide)]
        rw [e234, hQ] at k1 k3
        refine ⟨M, X, ?_, fun z hz => by rw [k2 z hz, rf_i_c, if_neg hz], ?_, k4, fun h => by omega⟩
        · rw [k1, if_pos (by omega), if_pos (by omega)]
        · rw [k3, rf_i_c, if_pos rfl]
          funext k
          by_cases e : k = 50
          · rw [e, pu_at, pu_at]
          · rw [pu_ne e, pu_ne e]
            by_cases e : k = 46
            · rw [e, pu_at, pu_at]
            · rw [pu_ne e, pu_ne e, pu_ne e]
      · rw [if_neg (fun z => e8 ((c7 c (by omega)).mp z)), h46, byteAt_r hn h45 (by omega), b_sm, if_pos pn]
        have e46 : (rf_i m 206 50 (10 * m.1 206 50 + (m.1 234 p &&& 255) - 48)).1 206 46 = Int32.ofNat p := by rw [rf_i_c, if_pos rfl, pu_ne (by decide)]; exact h46
        rw [e46, of_succ, of_succ]
        obtain ⟨M, X, k1, k2, k3, k4, k5⟩ := ih f (p + 1) (c + 1) (rf_i (rf_i m 206 50 (10 * m.1 206 50 + (m.1 234 p &&& 255) - 48)) 206 46 (Int32.ofNat (p + 1))) (by omega) (by omega) (by omega) (by rw [rf_i_c, if_pos rfl, pu_ne (by decide), rf_i_c, if_pos rfl, pu_ne (by decide)]; exact h45) (by rw [rf_i_c, if_pos rfl, pu_at])
        have e234 : (rf_i (rf_i m 206 50 (10 * m.1 206 50 + (m.1 234 p &&& 255) - 48)) 206 46 (Int32.ofNat (p + 1))).1 234 = m.1 234 := by rw [rf_i_c, if_neg (by decide), rf_i_c, if_neg (by decide)]
        have e206 : (rf_i (rf_i m 206 50 (10 * m.1 206 50 + (m.1 234 p &&& 255) - 48)) 206 46 (Int32.ofNat (p + 1))).1 206 = pu (pu (m.1 206) 50 (10 * m.1 206 50 + (m.1 234 p &&& 255) - 48)) 46 (Int32.ofNat (p + 1)) := by rw [rf_i_c, if_pos rfl, rf_i_c, if_pos rfl]
        rw [e234, hQ] at k1 k5
        rw [e234, hQ, e206] at k3
        rw [e206] at k5
        refine ⟨M, X, ?_, fun z hz => by rw [k2 z hz, rf_i_c, if_neg hz, rf_i_c, if_neg hz], ?_, k4, fun h => ?_⟩
        · rw [k1]
          have : c + 1 + (Q - (p + 1)) = c + (Q - p) := by omega
          rw [this]
        · rw [k3]
          funext k
          by_cases e : k = 50
          · rw [e, pu_at, pu_at]
          · rw [pu_ne e, pu_ne e]
            by_cases e' : k = 46
            · rw [e', pu_at, pu_at]
            · rw [pu_ne e', pu_ne e', pu_ne e', pu_ne e]
        · rw [k5 (by omega), show Q - p = (Q - (p + 1)) + 1 by omega]
          show nl _ _ _ (pu (pu (m.1 206) 50 _) 46 _ 50) = nl _ _ _ (m.1 206 50 * 10 + (m.1 234 p &&& 255) - 48)
          rw [pu_ne (by decide), pu_at, Int32.mul_comm]
    · rw [er, if_neg q, Nat.sub_self, Nat.add_zero]
      refine ⟨m, m.1 206 50, ?_, fun _ _ => rfl, same _ p h46, rfl, fun _ => rfl⟩
      exact stop f p c m (by omega) hc h45 h46 (by rw [if_pos pn]; exact Bool.eq_false_iff.mpr q)
end PBTokN
