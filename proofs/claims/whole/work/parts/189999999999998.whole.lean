/-! tokens: whole numbers, both sides -/
section PBTokW
/-- a whole as both build it -/
def nl (f : Nat → Int32) : Nat → Nat → Int32 → Int32
  | 0, _, v => v
  | k + 1, p, v => nl f k (p + 1) (v * 10 + f p - 48)
theorem takeWhole_c {w : rf_w} {n : Nat} (hn : n ≤ 300) : ∀ r f p (m : rf_m), p + r = n → r < f → m.1 14 7 = Int32.ofNat n → m.1 14 9 = Int32.ofNat p → ∃ M, g_X8_takeWhole_5 w f m = g_X8_takeWhole_68 w M ∧ M.2 = m.2 ∧ (∀ z, z ≠ 14 → M.1 z = m.1 z) ∧ M.1 14 = pu (pu (m.1 14) 9 (Int32.ofNat (rn (fun k => dgt (m.1 15 k)) r p))) 11 (nl (m.1 15) (rn (fun k => dgt (m.1 15 k)) r p - p) p (m.1 14 11)) := by
  have same : ∀ (f : Nat → Int32) p, f 9 = Int32.ofNat p → f = pu (pu f 9 (Int32.ofNat p)) 11 (f 11) := fun f p h => by
    funext k
    by_cases e : k = 11
    · rw [e, pu_at]
    · rw [pu_ne e]
      by_cases e : k = 9
      · rw [e, pu_at, h]
      · rw [pu_ne e]
  intro r
  induction r with
  | zero =>
    intro f p m hp hf h7 h9
    obtain ⟨f, rfl⟩ : ∃ g, f = g + 1 := ⟨f - 1, by omega⟩
    refine ⟨m, ?_, rfl, fun _ _ => rfl, ?_⟩
    · show g_X8_takeWhole_5_b w _ m = _
      unfold g_X8_takeWhole_5_b
      rw [h7, h9, show p = n by omega, if_pos (Int32.le_refl _)]
    · show _ = pu (pu _ 9 (Int32.ofNat p)) 11 (nl _ (p - p) p _)
      rw [Nat.sub_self]
      exact same _ p h9
  | succ r ih =>
    intro f p m hp hf h7 h9
    obtain ⟨f, rfl⟩ : ∃ g, f = g + 1 := ⟨f - 1, by omega⟩
    have nl0 : ¬ Int32.ofNat n ≤ Int32.ofNat p := nle (by omega) (by omega)
    have gp : rf_in (Int32.ofNat p) 300 = true := gof (n := p) (by omega) (by decide)
    have tp : (Int32.ofNat p).toNatClampNeg = p := tn_of (by omega)
    have st : g_X8_takeWhole_5 w (f + 1) m = g_X8_takeWhole_5_b w (g_X8_takeWhole_5 w f) m := rfl
    have o1 : ¬ (1 : Int32) = 0 := by decide
    have er : rn (fun k => dgt (m.1 15 k)) (r + 1) p = if dgt (m.1 15 p) = true then rn (fun k => dgt (m.1 15 k)) r (p + 1) else p := rfl
    rw [st]
    unfold g_X8_takeWhole_5_b
    rw [h7, h9, if_neg nl0, gp, g_t, tp, isDigit_c, b_sm, er]
    by_cases q : dgt (m.1 15 p) = true
    · rw [if_pos q, if_neg o1, if_pos q, h9, gp, g_t, tp]
      have e9 : (rf_i m 14 11 (m.1 14 11 * 10 + m.1 15 p - 48)).1 14 9 = Int32.ofNat p := by rw [rf_i_c, if_pos rfl, pu_ne (by decide)]; exact h9
      rw [e9, of_succ]
      have rg := rn_rng (P := fun k => dgt (m.1 15 k)) r (p + 1)
      obtain ⟨M, k1, k2, k3, k4⟩ := ih f (p + 1) (rf_i (rf_i m 14 11 (m.1 14 11 * 10 + m.1 15 p - 48)) 14 9 (Int32.ofNat (p + 1))) (by omega) (by omega) (by rw [rf_i_c, if_pos rfl, pu_ne (by decide), rf_i_c, if_pos rfl, pu_ne (by decide)]; exact h7) (by rw [rf_i_c, if_pos rfl, pu_at])
      refine ⟨M, k1, k2, fun z hz => by rw [k3 z hz, rf_i_c, if_neg hz, rf_i_c, if_neg hz], ?_⟩
      have e15 : (rf_i (rf_i m 14 11 (m.1 14 11 * 10 + m.1 15 p - 48)) 14 9 (Int32.ofNat (p + 1))).1 15 = m.1 15 := by rw [rf_i_c, if_neg (by decide), rf_i_c, if_neg (by decide)]
      have e14 : (rf_i (rf_i m 14 11 (m.1 14 11 * 10 + m.1 15 p - 48)) 14 9 (Int32.ofNat (p + 1))).1 14 = pu (pu (m.1 14) 11 (m.1 14 11 * 10 + m.1 15 p - 48)) 9 (Int32.ofNat (p + 1)) := by rw [rf_i_c, if_pos rfl, rf_i_c, if_pos rfl]
      rw [e15, e14] at k4
      rw [k4, show rn (fun k => dgt (m.1 15 k)) r (p + 1) - p = (rn (fun k => dgt (m.1 15 k)) r (p + 1) - (p + 1)) + 1 by omega]
      funext k
      by_cases e : k = 11
      · rw [e, pu_at, pu_at, pu_ne (by decide), pu_at]
        rfl
      · rw [pu_ne e, pu_ne e]
        by_cases e' : k = 9
        · rw [e', pu_at, pu_at]
        · rw [pu_ne e', pu_ne e', pu_ne e', pu_ne e]
    · rw [if_neg q, if_pos rfl, if_neg q, Nat.sub_self]
      exact ⟨m, rfl, rfl, fun _ _ => rfl, same _ p h9⟩
end PBTokW
