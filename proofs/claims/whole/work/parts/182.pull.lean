/-! pull, between, doubt, sine -/
section PBPull
theorem rel_loop {σ β γ : Type} {Fc : Nat → Int32 → σ → Option β} {Fr : Nat → Int32 → σ → Option γ} {P : Option β → Option γ → Prop} {I : Nat → σ → Prop} {R : Nat} (stop : ∀ n s, I R s → P (Fc (n + 1) (Int32.ofNat R) s) (Fr (n + 1) (Int32.ofNat R) s)) (go : ∀ n i s, i < R → I i s → P (Fc (n + 1) (Int32.ofNat i) s) (Fr (n + 1) (Int32.ofNat i) s) ∨ ∃ s', I (i + 1) s' ∧ Fc (n + 1) (Int32.ofNat i) s = Fc n (Int32.ofNat (i + 1)) s' ∧ Fr (n + 1) (Int32.ofNat i) s = Fr n (Int32.ofNat (i + 1)) s') : ∀ n i s, i ≤ R → R - i < n → I i s → P (Fc n (Int32.ofNat i) s) (Fr n (Int32.ofNat i) s) := by
  intro n
  induction n with
  | zero => intro i s _ h; omega
  | succ n ih =>
    intro i s h1 h2 h3
    by_cases h : i = R
    · subst h; exact stop n s h3
    · rcases go n i s (by omega) h3 with g | ⟨s', g1, g2, g3⟩
      · exact g
      · rw [g2, g3]
        exact ih (i + 1) s' (by omega) (by omega) g1
/-- both sides answer the same, and leave the memory as it was -/
def same2 (m M : rf_m) (a b : Option (Int32 × rf_m)) : Prop := ∃ v, a = some (v, m) ∧ b = some (v, M)
theorem sq0 {x z : Int32} (hx : -31 ≤ x.toInt ∧ x.toInt ≤ 31) (hz : -31 ≤ z.toInt ∧ z.toInt ≤ 31) : (x * x + z * z ≤ 0 ↔ x = 0 ∧ z = 0) := by
  have key : ∀ c : Int, -31 ≤ c ∧ c ≤ 31 → 0 ≤ c * c ∧ c * c ≤ 961 ∧ (c ≠ 0 → 0 < c * c) := by
    intro c hc
    have h1 : c.natAbs ≤ 31 := by omega
    have h2 : c * c = (c.natAbs * c.natAbs : Nat) := by rw [Int.natAbs_mul_self]
    have h3 : c.natAbs * c.natAbs ≤ 31 * 31 := Nat.mul_le_mul h1 h1
    refine ⟨by omega, by omega, fun h => ?_⟩
    have : 0 < c.natAbs * c.natAbs := Nat.mul_pos (by omega) (by omega)
    omega
  have k1 := key _ hx
  have k2 := key _ hz
  have e1 : (x * x).toInt = x.toInt * x.toInt := mulI (by omega) (by omega)
  have e2 : (z * z).toInt = z.toInt * z.toInt := mulI (by omega) (by omega)
  have e3 : (x * x + z * z).toInt = x.toInt * x.toInt + z.toInt * z.toInt := by rw [addI (by rw [e1, e2]; omega) (by rw [e1, e2]; omega), e1, e2]
  rw [i_le, i_0, e3, i_eq, i_eq, i_0]
  constructor
  · intro h
    constructor
    · by_cases q : x.toInt = 0
      · exact q
      · have := k1.2.2 q; omega
    · by_cases q : z.toInt = 0
      · exact q
      · have := k2.2.2 q; omega
  · rintro ⟨h1, h2⟩
    rw [h1, h2]; decide
theorem nz_ne {b : Int32} (h : ¬ b = 0) : rf_nz b = true := by unfold rf_nz; simp [h]
theorem pull_eq {w : rf_w} {m : rf_m} {a b : Int32} (jm : JMark m) (js : JMass m) (ha : ib a (m.1 206 4)) : same2 m (rf_i m 206 0 0) (g_X5_pullAt w m a b) (g_X14_pull_22 w rf_fuel a b 0 0 (rf_i m 206 0 0)) := by
  obtain ⟨m1, m2, m3, m4, m5⟩ := jm
  obtain ⟨c1, c2, c3, c4, c5, c6⟩ := js
  have hR := of_tn c2.1
  have hb : (m.1 206 137).toNatClampNeg ≤ 12 := tn_le c2.1 c2.2 (by decide)
  have ga : rf_in a 30 = true := gin ha.1 (by grind [iv, ib]) (by decide)
  have q1 : (rf_i m 206 0 0).1 206 137 = m.1 206 137 := rfl
  have q2 : (rf_i m 206 0 0).1 301 = m.1 301 := rfl
  have q3 : (rf_i m 206 0 0).1 302 = m.1 302 := rfl
  have q4 : (rf_i m 206 0 0).1 209 = m.1 209 := rfl
  refine rel_loop (Fc := fun n i s => g_X5_pullAt_5 w n a b s i m) (Fr := fun n i s => g_X14_pull_22 w n a b s i (rf_i m 206 0 0)) (P := same2 m (rf_i m 206 0 0)) (I := fun _ _ => True) (R := (m.1 206 137).toNatClampNeg) (fun n s _ => ?_) (fun n i s hi _ => ?_) rf_fuel 0 (0 : Int32) (by omega) (by unfold rf_fuel; omega) trivial
  · refine ⟨s, ?_, ?_⟩
    · show g_X5_pullAt_5_b w _ a b s _ m = _
      unfold g_X5_pullAt_5_b
      rw [hR, if_pos (by rw [c1]; exact Int32.le_refl _)]
    · show g_X14_pull_22_b w _ a b s _ _ = _
      unfold g_X14_pull_22_b
      rw [hR, if_pos (by rw [q1]; exact Int32.le_refl _)]
  · have h1 : ¬ m.1 206 137 ≤ Int32.ofNat i := by rw [← hR]; exact nle hi (by omega)
    have g : rf_in (Int32.ofNat i) 12 = true := gof (by omega) (by decide)
    have t : (Int32.ofNat i).toNatClampNeg = i := tn_of (by omega)
    obtain ⟨x1, x2⟩ := cell_xy (c4 i)
    obtain ⟨z1, z2⟩ := cell_xy (m4 a.toNatClampNeg)
    have sq := sq0 (x := m.1 301 i - m.1 301 i / 32 * 32 - (m.1 209 a.toNatClampNeg - m.1 209 a.toNatClampNeg / 32 * 32)) (z := m.1 301 i / 32 - m.1 209 a.toNatClampNeg / 32) (by rw [sub_I2 x1 z1]; omega) (by rw [sub_I2 x2 z2]; omega)
    refine Or.inr ?_
    show ∃ s', True ∧ g_X5_pullAt_5_b w (g_X5_pullAt_5 w n) a b s _ m = _ ∧ g_X14_pull_22_b w (g_X14_pull_22 w n) a b s _ _ = _
    unfold g_X5_pullAt_5_b g_X14_pull_22_b
    rw [c1, q1, if_neg h1, if_neg h1, c3, m3, q2, q4, g, ga, t]
    simp only [g_t, rf_vi, g_X14_pull_88, g_X14_pull_107, g_X14_pull_122, g_X5_pullAt_101, g_X5_pullAt_95, q3, t, g, c5]
    generalize m.1 301 i - m.1 301 i / 32 * 32 - (m.1 209 a.toNatClampNeg - m.1 209 a.toNatClampNeg / 32 * 32) = X at *
    generalize m.1 301 i / 32 - m.1 209 a.toNatClampNeg / 32 = Z at *
    rw [of_succ]
    by_cases h0 : X = 0
    · by_cases h2 : Z = 0
      · rw [if_pos (sq.mpr ⟨h0, h2⟩), if_pos h0, if_pos h2]
        exact ⟨s, trivial, rfl, rfl⟩
      · have h3 : ¬ X * X + Z * Z ≤ 0 := fun hh => h2 (sq.mp hh).2
        have h4 : rf_nz (X * X + Z * Z) = true := nz_ne (fun e => h3 (by rw [e]; decide))
        rw [if_neg h3, if_pos h0, if_neg h2, h4]
        simp only [g_t]
        split
        · exact ⟨_, trivial, rfl, rfl⟩
        · exact ⟨_, trivial, rfl, rfl⟩
    · have h3 : ¬ X * X + Z * Z ≤ 0 := fun hh => h0 (sq.mp hh).1
      have h4 : rf_nz (X * X + Z * Z) = true := nz_ne (fun e => h3 (by rw [e]; decide))
      rw [if_neg h3, if_neg h0, h4]
      simp only [g_t]
      split
      · exact ⟨_, trivial, rfl, rfl⟩
      · exact ⟨_, trivial, rfl, rfl⟩
theorem k51 {w : rf_w} {m : rf_m} {y : Nat → Int32} (jm : JMark m) (js : JMass m) : wp (g_lc_51 w m y) (fun r => r.1 = w) := by
  have m1 := jm.1
  unfold g_lc_51 g_X11_pull g_X14_pull
  have q0 : (rf_i m 206 0 0).1 206 4 = m.1 206 4 := rfl
  by_cases h1 : ib (y 1) (m.1 206 4)
  · obtain ⟨v, e1, e2⟩ := pull_eq (w := w) (b := rf_bz (y 2)) jm js h1
    simp [wp_b, wp_g, wp_ite, wp_some, X5_isMark, X14_isMark, bi_eq0, m1, q0, h1, e1, e2]
  · simp [wp_b, wp_g, wp_ite, wp_some, X5_isMark, X14_isMark, bi_eq0, m1, q0, h1]
/-- a mean of levels: none, or within -/
def upv (v : Int32) : Prop := v = -2147483648 ∨ iv (-1000000) 1000000 v
theorem meanUp_eq {w : rf_w} {m M : rf_m} {a b : Int32} (jl : JLevel m) (q1 : M.1 206 136 = m.1 206 136) (q2 : M.1 298 = m.1 298) (q3 : M.1 299 = m.1 299) (q4 : M.1 300 = m.1 300) : ∃ v, g_X10_meanUp w m a b = some (v, m) ∧ g_X14_meanUp w M a b = some (v, M) ∧ upv v := by
  obtain ⟨c1, c2, c3, c4, c5, c6⟩ := jl
  have hR := of_tn c2.1
  have hb : (m.1 206 136).toNatClampNeg ≤ 60 := tn_le c2.1 c2.2 (by decide)
  refine rel_loop (Fc := fun n i (s : Int32 × Int32) => g_X10_meanUp_8 w n a b s.1 s.2 i m) (Fr := fun n i (s : Int32 × Int32) => g_X14_meanUp_8 w n a b s.1 s.2 i M) (P := fun x z => ∃ v, x = some (v, m) ∧ z = some (v, M) ∧ upv v) (I := fun i s => 0 ≤ s.2.toInt ∧ s.2.toInt ≤ i ∧ -1000000 * s.2.toInt ≤ s.1.toInt ∧ s.1.toInt ≤ 1000000 * s.2.toInt) (R := (m.1 206 136).toNatClampNeg) (fun n s hs => ?_) (fun n i s hi hs => ?_) rf_fuel 0 (0, 0) (by omega) (by unfold rf_fuel; omega) (by decide)
  · show ∃ v, g_X10_meanUp_8_b w _ a b s.1 s.2 _ m = _ ∧ g_X14_meanUp_8_b w _ a b s.1 s.2 _ M = _ ∧ _
    unfold g_X10_meanUp_8_b g_X14_meanUp_8_b
    have hA : m.1 193 1 ≤ m.1 206 136 := by rw [c1]; exact Int32.le_refl _
    have hB : M.1 206 136 ≤ m.1 206 136 := by rw [q1]; exact Int32.le_refl _
    rw [hR, if_pos hA, if_pos hB]
    by_cases h : s.2 = 0
    · have h0 : s.2 ≤ 0 := by rw [h]; decide
      rw [if_pos h, if_pos h0]
      exact ⟨_, rfl, rfl, Or.inl rfl⟩
    · have h2 : 0 < s.2 := by
        rw [i_lt, i_0]
        have : s.2.toInt ≠ 0 := fun e => h (i_eq.mpr e)
        omega
      have h0 : ¬ s.2 ≤ 0 := by clear hs c6; grind
      rw [if_neg h, if_neg h0, J9_floorDiv h2, X14_down' h2]
      refine ⟨dwn s.1 s.2, rfl, rfl, Or.inr ?_⟩
      have h3 : 0 < s.2.toInt := by rw [i_lt, i_0] at h2; exact h2
      have e : (dwn s.1 s.2).toInt = s.1.toInt / s.2.toInt := dwn_I h2 (by omega)
      constructor
      · rw [i_le, e, Int.le_ediv_iff_mul_le h3]
        exact hs.2.2.1
      · rw [i_le, e]
        have : s.1.toInt / s.2.toInt < 1000000 + 1 := by
          rw [Int.ediv_lt_iff_lt_mul h3]; omega
        show _ ≤ (1000000 : Int)
        omega
  · have h1 : ¬ m.1 206 136 ≤ Int32.ofNat i := by rw [← hR]; exact nle hi (by omega)
    have g : rf_in (Int32.ofNat i) 60 = true := gof (by omega) (by decide)
    have t : (Int32.ofNat i).toNatClampNeg = i := tn_of (by omega)
    refine Or.inr ?_
    show ∃ s' : Int32 × Int32, _ ∧ g_X10_meanUp_8_b w (g_X10_meanUp_8 w n) a b s.1 s.2 _ m = _ ∧ g_X14_meanUp_8_b w (g_X14_meanUp_8 w n) a b s.1 s.2 _ M = _
    unfold g_X10_meanUp_8_b g_X14_meanUp_8_b
    rw [c1, q1, if_neg h1, if_neg h1, q2, q3, q4, c3, c4, c5, g, t]
    simp only [g_t, rf_vi, g_X10_meanUp_52, g_X14_meanUp_55]
    rw [of_succ]
    have b1 := c6 i
    have b2 : -1000000 ≤ (m.1 300 i).toInt := by have := b1.1; rw [i_le] at this; exact this
    have b3 : (m.1 300 i).toInt ≤ 1000000 := by have := b1.2; rw [i_le] at this; exact this
    split
    · split
      · refine ⟨(s.1 + m.1 300 i, s.2 + 1), ?_, rfl, rfl⟩
        have o : (1 : Int32).toInt = 1 := rfl
        have e1 : (s.2 + 1).toInt = s.2.toInt + 1 := by rw [addI (by rw [o]; omega) (by rw [o]; omega), o]
        have e2 : (s.1 + m.1 300 i).toInt = s.1.toInt + (m.1 300 i).toInt := addI (by omega) (by omega)
        simp only [e1, e2]
        omega
      · exact ⟨s, by omega, rfl, rfl⟩
    · exact ⟨s, by omega, rfl, rfl⟩
theorem upv_ne {v : Int32} (h : upv v) (hn : ¬ v = -2147483648) : -1000000 ≤ v.toInt ∧ v.toInt ≤ 1000000 := by
  rcases h with h | h
  · exact absurd h hn
  · obtain ⟨a, b⟩ := h
    rw [i_le] at a b
    exact ⟨a, b⟩
theorem ne_min {v : Int32} (h : -2147483648 < v.toInt) : ¬ v = -2147483648 := by
  intro e
  rw [e] at h
  exact absurd h (by decide)
theorem half_ne {a b : Int32} (ha : -1000000 ≤ a.toInt ∧ a.toInt ≤ 1000000) (hb : -1000000 ≤ b.toInt ∧ b.toInt ≤ 1000000) : ¬ (a - b) / 2 = -2147483648 := by
  apply ne_min
  have e : (a - b).toInt = a.toInt - b.toInt := subI (by omega) (by omega)
  rw [divI (by decide), e]
  show _ < Int.tdiv _ (2 : Int)
  obtain ⟨q1, q2, q3, q4⟩ := tdiv_pos (a := a.toInt - b.toInt) (b := 2) (by decide)
  omega
theorem neg_ne {b : Int32} (hb : -1000000 ≤ b.toInt ∧ b.toInt ≤ 1000000) : ¬ -b = -2147483648 := by
  apply ne_min
  rw [Int32.toInt_neg, bm32 (by omega) (by omega)]
  omega
theorem k48 {w : rf_w} {m : rf_m} {y : Nat → Int32} (jm : JMark m) (jl : JLevel m) : wp (g_lc_48 w m y) (fun r => r.1 = w) := by
  have m1 := jm.1
  have q0 : (rf_i m 206 0 0).1 206 4 = m.1 206 4 := rfl
  obtain ⟨u, u1, u2, u3⟩ := meanUp_eq (w := w) (a := y 1) (b := y 2) (M := rf_i m 206 0 0) jl rfl rfl rfl rfl
  obtain ⟨v, v1, v2, v3⟩ := meanUp_eq (w := w) (a := y 2) (b := y 1) (M := rf_i m 206 0 0) jl rfl rfl rfl rfl
  unfold g_lc_48 g_X11_between g_X14_between g_X10_heightFrom g_X14_isLevelled
  by_cases h1 : ib (y 1) (m.1 206 4)
  · by_cases h2 : ib (y 2) (m.1 206 4)
    · by_cases h3 : y 1 = y 2
      · simp [wp_b, wp_g, wp_ite, wp_some, X5_isPair, X14_isMark, bi_eq0, m1, q0, h1, h2, h3]
      · by_cases e1 : u = -2147483648 <;> by_cases e2 : v = -2147483648 <;> simp [wp_b, wp_g, wp_ite, wp_some, X5_isPair, X14_isMark, bi_eq0, m1, q0, h1, h2, h3, u1, u2, v1, v2, e1, e2, g_X14_isLevelled_50, g_X14_isLevelled_65, g_X14_isLevelled_79, g_X14_isLevelled_99, g_X14_isLevelled_111, abs_eq, rf_i_c, pu]
    · simp [wp_b, wp_g, wp_ite, wp_some, X5_isPair, X14_isMark, bi_eq0, m1, q0, h1, h2]
  · simp [wp_b, wp_g, wp_ite, wp_some, X5_isPair, X14_isMark, bi_eq0, m1, q0, h1]
theorem k49 {w : rf_w} {m : rf_m} {y : Nat → Int32} (jm : JMark m) (jl : JLevel m) : wp (g_lc_49 w m y) (fun r => r.1 = w) := by
  have m1 := jm.1
  have q0 : (rf_i m 206 0 0).1 206 4 = m.1 206 4 := rfl
  obtain ⟨u, u1, u2, u3⟩ := meanUp_eq (w := w) (a := y 1) (b := y 2) (M := rf_i m 206 0 0) jl rfl rfl rfl rfl
  obtain ⟨v, v1, v2, v3⟩ := meanUp_eq (w := w) (a := y 2) (b := y 1) (M := rf_i m 206 0 0) jl rfl rfl rfl rfl
  unfold g_lc_49 g_X11_doubt g_X14_doubt g_X10_doubtOf g_X10_heightFrom g_X14_isLevelled
  by_cases h1 : ib (y 1) (m.1 206 4)
  · by_cases h2 : ib (y 2) (m.1 206 4)
    · by_cases h3 : y 1 = y 2
      · simp [wp_b, wp_g, wp_ite, wp_some, X5_isPair, X14_isMark, bi_eq0, m1, q0, h1, h2, h3]
      · by_cases e1 : u = -2147483648
        · by_cases e2 : v = -2147483648
          · simp [wp_b, wp_g, wp_ite, wp_some, X5_isPair, X14_isMark, bi_eq0, m1, q0, h1, h2, h3, u1, u2, v1, v2, e1, e2, g_X14_isLevelled_50, g_X14_isLevelled_65, g_X14_isLevelled_79, g_X14_isLevelled_99, g_X14_isLevelled_111, abs_eq, rf_i_c, pu, g_X10_doubtOf_41, g_X10_doubtOf_42]
          · have z : ¬ v = 2147483648 := fun e => e2 (by rw [e]; rfl)
            simp [wp_b, wp_g, wp_ite, wp_some, X5_isPair, X14_isMark, bi_eq0, m1, q0, h1, h2, h3, u1, u2, v1, v2, e1, e2, z, g_X14_isLevelled_50, g_X14_isLevelled_65, g_X14_isLevelled_79, g_X14_isLevelled_99, g_X14_isLevelled_111, abs_eq, rf_i_c, pu, g_X10_doubtOf_41, g_X10_doubtOf_42]
        · by_cases e2 : v = -2147483648
          · simp [wp_b, wp_g, wp_ite, wp_some, X5_isPair, X14_isMark, bi_eq0, m1, q0, h1, h2, h3, u1, u2, v1, v2, e1, e2, g_X14_isLevelled_50, g_X14_isLevelled_65, g_X14_isLevelled_79, g_X14_isLevelled_99, g_X14_isLevelled_111, abs_eq, rf_i_c, pu, g_X10_doubtOf_41, g_X10_doubtOf_42]
          · have z := half_ne (upv_ne u3 e1) (upv_ne v3 e2)
            simp [wp_b, wp_g, wp_ite, wp_some, X5_isPair, X14_isMark, bi_eq0, m1, q0, h1, h2, h3, u1, u2, v1, v2, e1, e2, z, g_X14_isLevelled_50, g_X14_isLevelled_65, g_X14_isLevelled_79, g_X14_isLevelled_99, g_X14_isLevelled_111, abs_eq, rf_i_c, pu, g_X10_doubtOf_41, g_X10_doubtOf_42]
    · simp [wp_b, wp_g, wp_ite, wp_some, X5_isPair, X14_isMark, bi_eq0, m1, q0, h1, h2]
  · simp [wp_b, wp_g, wp_ite, wp_some, X5_isPair, X14_isMark, bi_eq0, m1, q0, h1]
end PBPull
