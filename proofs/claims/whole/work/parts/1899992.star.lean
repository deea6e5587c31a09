/-! stars: the first norths -/
section PBStar
def stS (A B T : Nat → Int32) (x y : Int32) : Nat → Int
  | 0 => 0
  | n + 1 => stS A B T x y n + (if A n = x ∧ B n = y then (T n).toInt else 0)
def stC (A B : Nat → Int32) (x y : Int32) : Nat → Nat
  | 0 => 0
  | n + 1 => stC A B x y n + (if A n = x ∧ B n = y then 1 else 0)
def ownV (A B T : Nat → Int32) (x y : Int32) (n : Nat) : Int32 := if stC A B x y n = 0 then -2 else Int32.ofInt (stS A B T x y n / stC A B x y n)
theorem st_rng {A B T : Nat → Int32} {x y : Int32} (hT : ∀ i, iv 0 12959999 (T i)) : ∀ n, stC A B x y n ≤ n ∧ 0 ≤ stS A B T x y n ∧ stS A B T x y n ≤ 12959999 * (stC A B x y n : Int) := by
  intro n
  induction n with
  | zero => exact ⟨Nat.le_refl _, Int.le_refl _, Int.le_refl _⟩
  | succ n ih =>
    obtain ⟨h1, h2⟩ := ivI (hT n)
    have h1' : 0 ≤ (T n).toInt := h1
    have h2' : (T n).toInt ≤ 12959999 := h2
    unfold stS stC
    by_cases q : A n = x ∧ B n = y
    · rw [if_pos q, if_pos q]; omega
    · rw [if_neg q, if_neg q]; omega
theorem own_div {A B T : Nat → Int32} {x y : Int32} {n : Nat} (hT : ∀ i, iv 0 12959999 (T i)) (hn : n ≤ 20) (h0 : stC A B x y n ≠ 0) : ∃ v : Int, v = stS A B T x y n / stC A B x y n ∧ 0 ≤ v ∧ v ≤ 12959999 := by
  obtain ⟨a, b, c⟩ := st_rng (A := A) (B := B) (x := x) (y := y) hT n
  refine ⟨_, rfl, ?_, ?_⟩
  · exact Int.ediv_nonneg b (by omega)
  · have : (stS A B T x y n) / (stC A B x y n : Int) ≤ (12959999 * (stC A B x y n : Int)) / (stC A B x y n : Int) := Int.ediv_le_ediv (by omega) c
    rw [Int.mul_ediv_cancel _ (by omega)] at this
    exact this
theorem ofI_I {v : Int} (h0 : -2147483648 ≤ v) (h1 : v < 2147483648) : (Int32.ofInt v).toInt = v := by
  rw [Int32.toInt_ofInt, bm32 h0 h1]
theorem own_rng {A B T : Nat → Int32} {x y : Int32} {n : Nat} (hT : ∀ i, iv 0 12959999 (T i)) (hn : n ≤ 20) : (stC A B x y n = 0 ∧ ownV A B T x y n = -2) ∨ (stC A B x y n ≠ 0 ∧ iv 0 12959999 (ownV A B T x y n)) := by
  unfold ownV
  by_cases h : stC A B x y n = 0
  · rw [if_pos h]; exact Or.inl ⟨h, rfl⟩
  · rw [if_neg h]
    obtain ⟨v, e, h1, h2⟩ := own_div (A := A) (B := B) (x := x) (y := y) hT hn h
    refine Or.inr ⟨h, ?_⟩
    rw [← e]
    refine ⟨i_le.mpr ?_, i_le.mpr ?_⟩
    · rw [ofI_I (by omega) (by omega)]; exact h1
    · rw [ofI_I (by omega) (by omega)]; exact h2
theorem mos_c {w : rf_w} {m : rf_m} {x y : Int32} {n : Nat} (h0 : m.1 193 0 = Int32.ofNat n) (hn : n ≤ 20) (hT : ∀ i, iv 0 12959999 (m.1 196 i)) : g_X10_meanOfStars w m x y = some (ownV (m.1 194) (m.1 195) (m.1 196) x y n, m) := by
  have key : ∀ k F i (s : Int32), i + k = n → k < F → s.toInt = stS (m.1 194) (m.1 195) (m.1 196) x y i → g_X10_meanOfStars_8 w F x y s (Int32.ofNat (stC (m.1 194) (m.1 195) x y i)) (Int32.ofNat i) m = some (ownV (m.1 194) (m.1 195) (m.1 196) x y n, m) := by
    intro k
    induction k with
    | zero =>
      intro F i s hi hF hs
      obtain ⟨F, rfl⟩ : ∃ g, F = g + 1 := ⟨F - 1, by omega⟩
      have hin : i = n := by omega
      subst hin
      obtain ⟨r1, r2, r3⟩ := st_rng (A := m.1 194) (B := m.1 195) (x := x) (y := y) hT i
      show g_X10_meanOfStars_8_b w _ _ _ _ _ _ m = _
      unfold g_X10_meanOfStars_8_b ownV
      rw [h0, if_pos (Int32.le_refl _)]
      by_cases z : stC (m.1 194) (m.1 195) x y i = 0
      · rw [z, if_pos (by decide), if_pos rfl]
      · have hp : 0 < Int32.ofNat (stC (m.1 194) (m.1 195) x y i) := (of_lt (a := 0) (by omega) (by omega)).mpr (by omega)
        have hnl : ¬ Int32.ofNat (stC (m.1 194) (m.1 195) x y i) ≤ 0 := by have := hp; rw [i_lt, i_0] at this; rw [i_le, i_0]; omega
        rw [if_neg hnl, if_neg z, nz_of hp, g_t]
        obtain ⟨v, e, h1, h2⟩ := own_div (A := m.1 194) (B := m.1 195) (x := x) (y := y) hT hn z
        have : s / Int32.ofNat (stC (m.1 194) (m.1 195) x y i) = Int32.ofInt v := by
          rw [i_eq, ofI_I (by omega) (by omega), divI hp, ofI (by omega), hs, (tdiv_pos (by omega)).2.2.1 r2, e]
        rw [this, e]
    | succ k ih =>
      intro F i s hi hF hs
      obtain ⟨F, rfl⟩ : ∃ g, F = g + 1 := ⟨F - 1, by omega⟩
      obtain ⟨r1, r2, r3⟩ := st_rng (A := m.1 194) (B := m.1 195) (x := x) (y := y) hT i
      obtain ⟨t1, t2⟩ := ivI (hT i)
      have t1' : 0 ≤ (m.1 196 i).toInt := t1
      have t2' : (m.1 196 i).toInt ≤ 12959999 := t2
      show g_X10_meanOfStars_8_b w (g_X10_meanOfStars_8 w F) _ _ _ _ _ m = _
      unfold g_X10_meanOfStars_8_b g_X10_meanOfStars_52
      rw [h0, if_neg (nle (by omega) (by omega)), gof (by omega) (by decide), tn_of (by omega), of_succ]
      simp only [g_t, rf_vi]
      have nx := fun s' => ih F (i + 1) s' (by omega) (by omega)
      unfold stS stC at nx
      by_cases q1 : m.1 194 i = x
      · rw [if_pos q1]
        by_cases q2 : m.1 195 i = y
        · rw [if_pos q2]
          have q : m.1 194 i = x ∧ m.1 195 i = y := ⟨q1, q2⟩
          simp only [if_pos q] at nx
          rw [of_succ]
          exact nx _ (by rw [addI (by omega) (by omega), hs])
        · rw [if_neg q2]
          have q : ¬ (m.1 194 i = x ∧ m.1 195 i = y) := fun z => q2 z.2
          simp only [if_neg q] at nx
          rw [of_succ]; exact nx _ (by rw [hs]; omega)
      · rw [if_neg q1]
        have q : ¬ (m.1 194 i = x ∧ m.1 195 i = y) := fun z => q1 z.1
        simp only [if_neg q] at nx
        rw [of_succ]; exact nx _ (by rw [hs]; omega)
  exact key n rf_fuel 0 0 (by omega) (by unfold rf_fuel; omega) rfl
theorem own_r {w : rf_w} {m : rf_m} {x y : Int32} {n : Nat} (h0 : m.1 206 126 = Int32.ofNat n) (hn : n ≤ 20) (hT : ∀ i, iv 0 12959999 (m.1 291 i)) : g_X14_ownNorth w m x y = some (ownV (m.1 289) (m.1 290) (m.1 291) x y n, m) := by
  have key : ∀ k F i (s : Int64), i + k = n → k < F → s.toInt = stS (m.1 289) (m.1 290) (m.1 291) x y i → g_X14_ownNorth_8 w F x y s (Int32.ofNat (stC (m.1 289) (m.1 290) x y i)) (Int32.ofNat i) m = some (ownV (m.1 289) (m.1 290) (m.1 291) x y n, m) := by
    intro k
    induction k with
    | zero =>
      intro F i s hi hF hs
      obtain ⟨F, rfl⟩ : ∃ g, F = g + 1 := ⟨F - 1, by omega⟩
      have hin : i = n := by omega
      subst hin
      obtain ⟨r1, r2, r3⟩ := st_rng (A := m.1 289) (B := m.1 290) (x := x) (y := y) hT i
      show g_X14_ownNorth_8_b w _ _ _ _ _ _ m = _
      unfold g_X14_ownNorth_8_b ownV
      rw [h0, if_pos (Int32.le_refl _)]
      by_cases z : stC (m.1 289) (m.1 290) x y i = 0
      · rw [z, if_pos (by decide), if_pos rfl]
      · have hnl : ¬ Int32.ofNat (stC (m.1 289) (m.1 290) x y i) = 0 := fun q => z ((of_inj (b := 0) (by omega) (by omega)).mp q)
        have hp : (Int32.toInt64 (Int32.ofNat (stC (m.1 289) (m.1 290) x y i))).toInt = stC (m.1 289) (m.1 290) x y i := by rw [i2l, ofI (by omega)]
        rw [if_neg hnl, if_neg z, nzl_of (by rw [hp]; omega), g_t]
        obtain ⟨v, e, h1, h2⟩ := own_div (A := m.1 289) (B := m.1 290) (x := x) (y := y) hT hn z
        have hd : (s / Int32.toInt64 (Int32.ofNat (stC (m.1 289) (m.1 290) x y i))).toInt = v := by
          rw [divL (by rw [hp]; omega), hp, hs, (tdiv_pos (by omega)).2.2.1 r2, e]
        have : Int64.toInt32 (s / Int32.toInt64 (Int32.ofNat (stC (m.1 289) (m.1 290) x y i))) = Int32.ofInt v := by
          rw [i_eq, ofI_I (by omega) (by omega), l2i (by omega) (by omega), hd]
        rw [this, e]
    | succ k ih =>
      intro F i s hi hF hs
      obtain ⟨F, rfl⟩ : ∃ g, F = g + 1 := ⟨F - 1, by omega⟩
      obtain ⟨r1, r2, r3⟩ := st_rng (A := m.1 289) (B := m.1 290) (x := x) (y := y) hT i
      obtain ⟨t1, t2⟩ := ivI (hT i)
      have t1' : 0 ≤ (m.1 291 i).toInt := t1
      have t2' : (m.1 291 i).toInt ≤ 12959999 := t2
      show g_X14_ownNorth_8_b w (g_X14_ownNorth_8 w F) _ _ _ _ _ m = _
      unfold g_X14_ownNorth_8_b g_X14_ownNorth_56
      rw [h0, if_neg (nle (by omega) (by omega)), gof (by omega) (by decide), tn_of (by omega), of_succ]
      simp only [g_t, rf_vl]
      have nx := fun s' => ih F (i + 1) s' (by omega) (by omega)
      unfold stS stC at nx
      by_cases q1 : m.1 289 i = x
      · rw [if_pos q1]
        by_cases q2 : m.1 290 i = y
        · rw [if_pos q2]
          have q : m.1 289 i = x ∧ m.1 290 i = y := ⟨q1, q2⟩
          simp only [if_pos q] at nx
          rw [of_succ]
          exact nx _ (by rw [addL (by rw [i2l]; omega) (by rw [i2l]; omega), i2l, hs])
        · rw [if_neg q2]
          have q : ¬ (m.1 289 i = x ∧ m.1 290 i = y) := fun z => q2 z.2
          simp only [if_neg q] at nx
          rw [of_succ]; exact nx _ (by rw [hs]; omega)
      · rw [if_neg q1]
        have q : ¬ (m.1 289 i = x ∧ m.1 290 i = y) := fun z => q1 z.1
        simp only [if_neg q] at nx
        rw [of_succ]; exact nx _ (by rw [hs]; omega)
  exact key n rf_fuel 0 0 (by omega) (by unfold rf_fuel; omega) rfl
/-- into the full turn -/
def rnd (u : Int32) : Int32 := if 0 ≤ u then (if u < 12960000 then u else u - 12960000) else u + 12960000
def hlf (v : Int32) : Int32 := rnd (v + 6480000)
theorem rounded_r {w : rf_w} {m : rf_m} {u : Int32} : g_X14_rounded w m u = some (rnd u, m) := by
  unfold g_X14_rounded rnd
  by_cases a : (0 : Int32) ≤ u
  · rw [if_pos a, if_pos a]
    by_cases b : u < 12960000
    · rw [if_pos b, if_pos b]
    · rw [if_neg b, if_neg b]
  · rw [if_neg a, if_neg a]
theorem rnd_I {u : Int32} (h1 : -12959999 ≤ u.toInt) (h2 : u.toInt ≤ 25919998) : (rnd u).toInt = (if 0 ≤ u.toInt then (if u.toInt < 12960000 then u.toInt else u.toInt - 12960000) else u.toInt + 12960000) := by
  unfold rnd
  have c : (12960000 : Int32).toInt = 12960000 := rfl
  by_cases a : (0 : Int32) ≤ u
  · have a' : 0 ≤ u.toInt := i_le.mp a
    rw [if_pos a, if_pos a']
    by_cases b : u < 12960000
    · have b' : u.toInt < 12960000 := i_lt.mp b
      rw [if_pos b, if_pos b']
    · have b' : ¬ u.toInt < 12960000 := fun z => b (i_lt.mpr z)
      rw [if_neg b, if_neg b', subI (by rw [c]; omega) (by rw [c]; omega), c]
  · have a' : ¬ 0 ≤ u.toInt := fun z => a (i_le.mpr z)
    rw [if_neg a, if_neg a', addI (by rw [c]; omega) (by rw [c]; omega), c]
theorem rnd_rng {u : Int32} (h1 : -12959999 ≤ u.toInt) (h2 : u.toInt ≤ 25919998) : iv 0 12959999 (rnd u) := by
  have := rnd_I h1 h2
  refine ⟨i_le.mpr ?_, i_le.mpr ?_⟩
  · show 0 ≤ (rnd u).toInt
    rw [this]; split
    · split <;> omega
    · omega
  · show (rnd u).toInt ≤ 12959999
    rw [this]; split
    · split <;> omega
    · omega
theorem hlf_a {v : Int32} (h : iv 0 12959999 v) : (v + 6480000).toInt = v.toInt + 6480000 := by
  obtain ⟨a, b⟩ := ivI h
  have a' : 0 ≤ v.toInt := a
  have b' : v.toInt ≤ 12959999 := b
  have c : (6480000 : Int32).toInt = 6480000 := rfl
  rw [addI (by rw [c]; omega) (by rw [c]; omega), c]
theorem hlf_rng {v : Int32} (h : iv 0 12959999 v) : iv 0 12959999 (hlf v) := by
  obtain ⟨a, b⟩ := ivI h
  have a' : 0 ≤ v.toInt := a
  have b' : v.toInt ≤ 12959999 := b
  have := hlf_a h
  exact rnd_rng (by omega) (by omega)
theorem md_hlf {v : Int32} (h : iv 0 12959999 v) : (v + 6480000) - (v + 6480000) / 12960000 * 12960000 = hlf v := by
  obtain ⟨a, b⟩ := ivI h
  have a' : 0 ≤ v.toInt := a
  have b' : v.toInt ≤ 12959999 := b
  have e := hlf_a h
  have c : (12960000 : Int32).toInt = 12960000 := rfl
  unfold hlf
  rw [i_eq, (rem_I (by decide)).2, rnd_I (by omega) (by omega), c, e, (tdiv_pos (by omega)).2.2.1 (by omega)]
  split
  · split <;> omega
  · omega
theorem fmod_c {w : rf_w} {m : rf_m} {u : Int32} (h1 : -12959999 ≤ u.toInt) (h2 : u.toInt ≤ 25919998) : g_J9_floorMod_7cf53 w m u 12960000 = some (rnd u, m) := by
  have c : (12960000 : Int32).toInt = 12960000 := rfl
  have hr := (rem_I (a := u) (b := 12960000) (by decide)).2
  have hI := rnd_I h1 h2
  obtain ⟨p1, p2, p3, p4⟩ := tdiv_pos (a := u.toInt) (b := 12960000) (by decide)
  rw [c] at hr
  unfold g_J9_floorMod_7cf53
  rw [nz_of (by decide), g_t]
  by_cases a : (0 : Int32) ≤ u
  · have a' : 0 ≤ u.toInt := i_le.mp a
    rw [if_pos (xor_nn.mpr ⟨fun _ => by decide, fun _ => a⟩)]
    have : u - u / 12960000 * 12960000 = rnd u := by
      rw [i_eq, hr, hI, if_pos a', p3 a']
      split <;> omega
    rw [this]
  · have a' : ¬ 0 ≤ u.toInt := fun z => a (i_le.mpr z)
    have hx : ¬ 0 ≤ u ^^^ 12960000 := fun z => a ((xor_nn.mp z).mpr (by decide))
    have p4' := p4 (by omega)
    have q0 : (-u.toInt) / 12960000 = 0 := by omega
    have e0 : (u - u / 12960000 * 12960000).toInt = u.toInt := by rw [hr, p4', q0]; omega
    have e1 : u - u / 12960000 * 12960000 = u := i_eq.mpr e0
    have n0 : ¬ u = 0 := fun z => a (by rw [z]; exact Int32.le_refl _)
    rw [if_neg hx, e1, if_neg n0]
    unfold rnd
    rw [if_neg a]
end PBStar
