/-! the reference's judging -/
section PBGoes
theorem sk_loop {w : rf_w} {a : Int32} : ∀ n f i (M : rf_m), i + n = 7 → n < f → ∃ g, g_X14_strikerOf_2 w f a (Int32.ofNat i) M = g_X14_strikerOf_2 w 1 a 7 (stc M 228 g) ∧ ∀ k, k < 7 → g k = if i ≤ k then 0 else M.1 228 k := by
  intro n
  induction n with
  | zero =>
    intro f i M hi hf
    obtain ⟨f, rfl⟩ : ∃ g, f = g + 1 := ⟨f - 1, by omega⟩
    refine ⟨M.1 228, ?_, fun k hk => by rw [if_neg (by omega)]⟩
    rw [stc_self, show i = 7 by omega]
    show g_X14_strikerOf_2_b w _ a _ M = g_X14_strikerOf_2_b w _ a _ M
    unfold g_X14_strikerOf_2_b
    have h7 : (7 : Int32) ≤ Int32.ofNat 7 := by decide
    have h7' : (7 : Int32) ≤ 7 := by decide
    rw [if_pos h7, if_pos h7']
  | succ n ih =>
    intro f i M hi hf
    obtain ⟨f, rfl⟩ : ∃ g, f = g + 1 := ⟨f - 1, by omega⟩
    obtain ⟨g, h1, h2⟩ := ih f (i + 1) (rf_i M 228 i 0) (by omega) (by omega)
    refine ⟨g, ?_, fun k hk => ?_⟩
    · show g_X14_strikerOf_2_b w (g_X14_strikerOf_2 w f) a _ M = _
      unfold g_X14_strikerOf_2_b
      have n7 : ¬ (7 : Int32) ≤ Int32.ofNat i := nle (R := 7) (by omega) (by decide)
      rw [if_neg n7, gof (by omega) (by decide), g_t, tn_of (by omega), of_succ, h1, show rf_i M 228 i 0 = stc M 228 (pu (M.1 228) i 0) from stc_i, stc_stc]
    · rw [h2 k hk, rf_i_c, if_pos rfl]
      unfold pu
      by_cases q : k = i
      · rw [if_neg (by omega), if_pos q, if_pos (by omega)]
      · by_cases q2 : i + 1 ≤ k
        · rw [if_pos q2, if_pos (by omega)]
        · rw [if_neg q2, if_neg q, if_neg (by omega)]
theorem strikerOf_r {w : rf_w} {m M : rf_m} {d : Int32} {a r : Nat} (j : JRead m) (ju : JRule w m) (ja : JAng m) (jm : JMark m) (ha : a < (m.1 206 16).toNatClampNeg) (hr : r ∈ rdl m a) (hk : okP m d r) (hA : rAg w m M) (hD : rdM m M) (h17 : M.1 217 = m.1 217) (h33 : M.1 206 33 = Int32.ofNat (srt m d (rdl m a)).length) (h35 : M.1 206 35 = midV m d a) : ∃ g G, g_X14_strikerOf w M (Int32.ofNat r) = some (skV m d a r, stc (stc M 228 g) 235 G) := by
  have j' := j
  obtain ⟨c1, c2, c3, c4⟩ := j
  have hrn := rds_lt _ _ hr
  have hn : (m.1 206 17).toNatClampNeg ≤ 1200 := tn_le c2.1 c2.2 (by decide)
  have hr1 : r < 1200 := by omega
  have ha80 : a < 80 := by have h := ja.2.1; have := tn_le h.1 h.2 (N := 80) (by decide); omega
  have hs20 : (srt m d (rdl m a)).length ≤ 20 := by
    have b2 := (c4 a ha80).2.1
    have := srt_len (m := m) (d := d) (l := rdl m a) (rdl m a).length (Nat.le_refl _)
    rw [List.take_of_length_le (Nat.le_refl _)] at this
    omega
  have hN := nm_ok j' ja jm ha hr hk hs20
  obtain ⟨D1, D2, D3, D4, D5, D6⟩ := hD
  obtain ⟨g, hg1, hg2⟩ := sk_loop (w := w) (a := Int32.ofNat r) 7 rf_fuel 0 M (by omega) (by unfold rf_fuel; omega)
  have hg1' : g_X14_strikerOf w M (Int32.ofNat r) = g_X14_strikerOf_2 w 1 (Int32.ofNat r) 7 (stc M 228 g) := hg1
  rw [hg1']
  show ∃ g' G, g_X14_strikerOf_2_b w _ (Int32.ofNat r) 7 (stc M 228 g) = _
  unfold g_X14_strikerOf_2_b
  have z0 : (0 : Int32).toNatClampNeg = 0 := rfl
  have z1 : (1 : Int32).toNatClampNeg = 1 := rfl
  have z2 : (2 : Int32).toNatClampNeg = 2 := rfl
  have z3 : (3 : Int32).toNatClampNeg = 3 := rfl
  have z6 : (6 : Int32).toNatClampNeg = 6 := rfl
  have e0 : (stc M 228 g).1 221 = m.1 221 := by rw [stc_c, if_neg (by decide)]; exact D3
  have e35 : (stc M 228 g).1 206 35 = midV m d a := by rw [stc_c, if_neg (by decide)]; exact h35
  rw [if_pos (by decide), gof hr1 (by decide), g_t, tn_of (by omega), e0, e35, abs_eq, z0, z1, z2, z3, z6]
  simp only [rf_b, g_t]
  have hX : ∀ (X : rf_m) k x c, c ≠ 228 → (rf_i X 228 k x).1 c = X.1 c := fun X k x c hc => by rw [rf_i_c, if_neg hc]
  have s1 : (stc M 228 g).1 222 = m.1 222 := by rw [stc_c, if_neg (by decide)]; exact D4
  have s2 : (stc M 228 g).1 223 = m.1 223 := by rw [stc_c, if_neg (by decide)]; exact D5
  have s3 : (stc M 228 g).1 206 = M.1 206 := by rw [stc_c, if_neg (by decide)]
  have s4 : (stc M 228 g).1 220 = m.1 220 := by rw [stc_c, if_neg (by decide)]; exact D2
  have s5 : (stc M 228 g).1 217 = m.1 217 := by rw [stc_c, if_neg (by decide)]; exact h17
  simp only [hX _ _ _ 222 (by decide), hX _ _ _ 223 (by decide), hX _ _ _ 206 (by decide), hX _ _ _ 220 (by decide), hX _ _ _ 217 (by decide), s1, s2, s3, s4, s5, h33]
  rw [hrn.2, gof ha80 (by decide), g_t, tn_of (show a < 2147483648 by omega)]
  generalize hM : rf_i (rf_i (rf_i (rf_i (rf_i (stc M 228 g) 228 0 (ab (m.1 221 r - midV m d a))) 228 1 (m.1 222 r)) 228 2 (m.1 223 r)) 228 3 (Int32.ofNat (srt m d (rdl m a)).length)) 228 6 (m.1 217 a) = M1
  have M8 : M1.1 228 = pu (pu (pu (pu (pu g 0 (ab (m.1 221 r - midV m d a))) 1 (m.1 222 r)) 2 (m.1 223 r)) 3 (Int32.ofNat (srt m d (rdl m a)).length)) 6 (m.1 217 a) := by
    rw [← hM, rf_i_c, if_pos rfl, rf_i_c, if_pos rfl, rf_i_c, if_pos rfl, rf_i_c, if_pos rfl, rf_i_c, if_pos rfl, stc_c, if_pos rfl]
  have Mc : ∀ c, c ≠ 228 → M1.1 c = M.1 c := fun c hc => by
    rw [← hM, hX _ _ _ c hc, hX _ _ _ c hc, hX _ _ _ c hc, hX _ _ _ c hc, hX _ _ _ c hc, stc_c, if_neg hc]
  have eM : M1 = stc M 228 (M1.1 228) := stc_eq rfl Mc (by rw [← hM]; rfl)
  have Nn : ∀ i, i < 7 → M1.1 228 i = nmV m d a r i := by
    intro i hi
    rw [M8]
    unfold pu nmV
    have : i = 0 ∨ i = 1 ∨ i = 2 ∨ i = 3 ∨ i = 4 ∨ i = 5 ∨ i = 6 := by omega
    rcases this with rfl | rfl | rfl | rfl | rfl | rfl | rfl
    · simp
    · simp
    · simp
    · simp
    · simp [hg2 4 (by omega)]
    · simp [hg2 5 (by omega)]
    · simp
  have nokM : nok (M1.1 228) := fun i hi => by rw [Nn i hi]; exact hN i hi
  have hA1 : rAg w m M1 := by rw [eM]; exact rAg_228 ju hA
  obtain ⟨G, hG⟩ := striker_r (w := w) (a := Int32.ofNat r) ju hA1 nokM (gof hr1 (by decide))
  refine ⟨M1.1 228, G, ?_⟩
  rw [hG, ← eM]
  congr 2
  unfold skV
  rw [stkV_N (N' := nmV m d a r) Nn, Mc 224 (by decide), D6, tn_of (by omega)]
end PBGoes
