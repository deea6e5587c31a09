/-! north and steps -/
section PBNorth
theorem mean_up {c a : Nat} {w : rf_w} {m : rf_m} (J : JCnt c w m) (ha : a < 80) : meanV w m 9999 a = -2 ∨ iv 0 12959999 (meanV w m 9999 a) := by
  have ki := kpt_in (a := a) (d := 9999) J
  have h20 := ki.2 ha
  have hs := smL_rng' (m := m) (l := kpt w m 9999 a) (fun r hr => (mid_rng J.2.1 (ki.1 r hr).1 (ki.1 r hr).2.1).2) h20
  unfold meanV
  by_cases z : (kpt w m 9999 a).length = 0
  · rw [if_pos z]; exact Or.inl rfl
  · rw [if_neg z]
    have hp : (0 : Int32) < Int32.ofNat (kpt w m 9999 a).length := (of_lt (a := 0) (by omega) (by omega)).mpr (by omega)
    have e : (smL m (kpt w m 9999 a) / Int32.ofNat (kpt w m 9999 a).length).toInt = (smL m (kpt w m 9999 a)).toInt / ((kpt w m 9999 a).length : Int) := by
      rw [divI hp, ofI (by omega), (tdiv_pos (by omega)).2.2.1 hs.1]
    refine Or.inr ⟨i_le.mpr ?_, i_le.mpr ?_⟩
    · rw [e]; exact Int.ediv_nonneg hs.1 (by omega)
    · rw [e]
      have : (smL m (kpt w m 9999 a)).toInt / ((kpt w m 9999 a).length : Int) ≤ (12959999 * ((kpt w m 9999 a).length : Int)) / ((kpt w m 9999 a).length : Int) := Int.ediv_le_ediv (by omega) hs.2
      rw [Int.mul_ediv_cancel _ (by omega)] at this
      exact this
/-- both sides tell the same of a sight -/
def agr (MC MR : rf_m) (p : Nat) : Prop := (MC.1 197 p = -2 ∧ MR.1 293 p = -1) ∨ ∃ e, e ≤ 2000 ∧ MC.1 197 p = Int32.ofNat e ∧ MR.1 293 p = Int32.ofNat e ∧ MR.1 292 p = MC.1 198 p
theorem AS_f {B BR M MR : rf_m} {K A : Nat} {at_ fr to : Nat → Nat} {mu : Nat → Int32} (h : AS B BR K A at_ fr to mu) (f1 : frC2 B M) (f2 : frR2 BR MR) : AS M MR K A at_ fr to mu := by
  unfold AS at h ⊢
  rw [f1.1 26 (by decide) (by decide) (by decide) (by decide) (by decide) (by decide), f1.1 28 (by decide) (by decide) (by decide) (by decide) (by decide) (by decide), f1.1 29 (by decide) (by decide) (by decide) (by decide) (by decide) (by decide), f1.1 30 (by decide) (by decide) (by decide) (by decide) (by decide) (by decide), f1.1 31 (by decide) (by decide) (by decide) (by decide) (by decide) (by decide), f2.1 206 (by decide), f2.1 217 (by decide), f2.1 218 (by decide), f2.1 219 (by decide), f2.1 248 (by decide)]
  exact h
theorem walk {w : rf_w} {K A x y : Nat} {at_ fr to : Nat → Nat} {mu : Nat → Int32} (hK : K ≤ 30) (hA : A ≤ 80) (hx : x < K) (hy : y < K) (hxy : x ≠ y) : ∀ n d F F' B BR ρ σ, n + Us (B.1 197) A at_ fr to = A → d ≤ Us (B.1 197) A at_ fr to → n + 1 < F → n + 1 < F' → BR.1 206 4 = Int32.ofNat K → BS B BR K A d ρ σ → AS B BR K A at_ fr to mu → ∃ MR, g_X14_norths_159 w F' 1 (Int32.ofNat d) BR = some MR ∧ frR2 BR MR ∧ (∀ p, vs K p → B.1 197 p ≠ -2 → MR.1 293 p = BR.1 293 p ∧ MR.1 292 p = BR.1 292 p) ∧ ∃ MC, g_X10_carryNorth_18 w F (Int32.ofNat x) (Int32.ofNat y) 1 (Int32.ofNat (d + 1)) B = some MC ∧ frC2 B MC ∧ agr MC MR (30 * x + y) := by
  have o1 : ¬ (1 : Int32) = 0 := by decide
  have vp : vs K (30 * x + y) := by unfold vs; omega
  have p9 := (vs_bk hK vp).1
  intro n
  induction n using Nat.strongRecOn with
  | ind n ih =>
    intro d F F' B BR ρ σ hn hd hF hF' h4 hB hS
    obtain ⟨F, rfl⟩ : ∃ g, F = g + 2 := ⟨F - 2, by omega⟩
    obtain ⟨F', rfl⟩ : ∃ g, F' = g + 2 := ⟨F' - 2, by omega⟩
    have hU := cnt_le (P := fun a => B.1 197 (30 * at_ a + fr a) ≠ -2 ∧ B.1 197 (30 * at_ a + to a) ≠ -2) A
    obtain ⟨M1, MR1, s, ρ', σ', hs, e1, e2, f1, f2, hB1, S1, S2, S3⟩ := step_l (w := w) (rec18 := g_X10_carryNorth_18 w (F + 1)) (rec159 := g_X14_norths_159 w (F' + 1)) (x1 := Int32.ofNat x) (x2 := Int32.ofNat y) hK hA (show d < 900 by unfold Us at *; omega) h4 hB hS
    rcases hs with hs | hs
    · subst hs
      have hr : g_X14_norths_159 w (F' + 2) 1 (Int32.ofNat d) BR = some MR1 := by
        show g_X14_norths_159_b w (g_X14_norths_159 w (F' + 1)) _ _ BR = _
        unfold g_X14_norths_159_b
        rw [if_neg o1, e2]
        rfl
      have ag0 : agr B MR1 (30 * x + y) := by
        unfold agr
        rw [(S2 rfl _ vp).2.1, (S2 rfl _ vp).2.2]
        rcases hB.1 _ vp with z | ⟨e, he, z1, z2, z3, _⟩
        · exact Or.inl z
        · exact Or.inr ⟨e, by unfold Us at *; omega, z1, z2, z3⟩
      refine ⟨MR1, hr, f2, fun p hp hq => ⟨(S2 rfl p hp).2.1, (S2 rfl p hp).2.2⟩, ?_⟩
      show ∃ MC, g_X10_carryNorth_18_b w (g_X10_carryNorth_18 w (F + 1)) _ _ _ _ B = _ ∧ _
      unfold g_X10_carryNorth_18_b g_X10_sight
      by_cases t1 : (80 : Int32) < Int32.ofNat (d + 1)
      · rw [if_pos t1]
        exact ⟨B, rfl, ⟨fun _ _ _ _ _ _ _ => rfl, fun _ _ => rfl, rfl⟩, ag0⟩
      · rw [if_neg t1, if_neg o1]
        simp only [rf_b]
        rw [o30 (by omega) (by omega), gof p9 (by decide), g_t, tn_of (by omega)]
        by_cases t2 : (0 : Int32) ≤ B.1 197 (30 * x + y)
        · rw [if_pos t2]
          exact ⟨B, rfl, ⟨fun _ _ _ _ _ _ _ => rfl, fun _ _ => rfl, rfl⟩, ag0⟩
        · rw [if_neg t2, e1]
          have u : B.1 197 (30 * x + y) = -2 ∧ BR.1 293 (30 * x + y) = -1 := by
            rcases hB.1 _ vp with z | ⟨e, he, z1, _⟩
            · exact z
            · rw [z1] at t2; exact absurd (of_nn (by unfold Us at *; omega)) t2
          refine ⟨M1, ?_, f1, Or.inl ⟨by rw [(S2 rfl _ vp).1]; exact u.1, by rw [(S2 rfl _ vp).2.1]; exact u.2⟩⟩
          show g_X10_carryNorth_18_b w _ _ _ _ _ M1 = _
          unfold g_X10_carryNorth_18_b
          by_cases t3 : (80 : Int32) < Int32.ofNat (d + 2)
          · rw [if_pos t3]
          · rw [if_neg t3, if_pos rfl]
    · have hl := S3 hs
      have hU1 : Us (M1.1 197) A at_ fr to ≤ A := cnt_le (P := fun a => M1.1 197 (30 * at_ a + fr a) ≠ -2 ∧ M1.1 197 (30 * at_ a + to a) ≠ -2) A
      subst hs
      obtain ⟨MR, g1, g2, g3, MC, g4, g5, g6⟩ := ih (A - Us (M1.1 197) A at_ fr to) (by omega) (d + 1) (F + 1) (F' + 1) M1 MR1 ρ' σ' (by omega) (by omega) (by omega) (by omega) (by rw [f2.1 206 (by decide)]; exact h4) hB1 (AS_f hS f1 f2)
      refine ⟨MR, ?_, frR2_t f2 g2, fun p hp hq => ?_, ?_⟩
      · show g_X14_norths_159_b w (g_X14_norths_159 w (F' + 1)) _ _ BR = _
        unfold g_X14_norths_159_b
        rw [if_neg o1, e2, g1]
      · obtain ⟨z1, z2, z3, z4⟩ := S1 p hp hq
        rw [(g3 p hp (by rw [z1]; exact hq)).1, (g3 p hp (by rw [z1]; exact hq)).2]
        exact ⟨z3, z4⟩
      · show ∃ MC, g_X10_carryNorth_18_b w (g_X10_carryNorth_18 w (F + 1)) _ _ _ _ B = _ ∧ _
        unfold g_X10_carryNorth_18_b g_X10_sight
        have t1 : ¬ (80 : Int32) < Int32.ofNat (d + 1) := fun z => by
          have := (of_lt (a := 80) (by omega) (by omega)).mp z
          omega
        rw [if_neg t1, if_neg o1]
        simp only [rf_b]
        rw [o30 (by omega) (by omega), gof p9 (by decide), g_t, tn_of (by omega)]
        by_cases t2 : (0 : Int32) ≤ B.1 197 (30 * x + y)
        · rw [if_pos t2]
          refine ⟨B, rfl, ⟨fun _ _ _ _ _ _ _ => rfl, fun _ _ => rfl, rfl⟩, ?_⟩
          rcases hB.1 _ vp with z | ⟨e, he, z1, z2, z3, _⟩
          · rw [z.1] at t2; exact absurd t2 (by decide)
          · have hne : B.1 197 (30 * x + y) ≠ -2 := fun q => by rw [q] at t2; exact absurd t2 (by decide)
            obtain ⟨y1, y2, y3, y4⟩ := S1 _ vp hne
            have y5 := g3 _ vp (by rw [y1]; exact hne)
            exact Or.inr ⟨e, by omega, z1, by rw [y5.1, y3]; exact z2, by rw [y5.2, y4]; exact z3⟩
        · rw [if_neg t2, e1]
          exact ⟨MC, g4, frC2_t f1 g5, g6⟩
end PBNorth
