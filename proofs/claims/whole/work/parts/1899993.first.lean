/-! the norths that the stars give -/
section PBFirst
theorem stC_pos {A B : Nat → Int32} {i : Nat} : ∀ n, i < n → stC A B (A i) (B i) n ≠ 0 := by
  intro n
  induction n with
  | zero => intro h; omega
  | succ n ih =>
    intro h
    unfold stC
    by_cases e : i = n
    · rw [e, if_pos ⟨rfl, rfl⟩]; omega
    · have := ih (by omega); omega
/-- what the first norths are, of the two own ones -/
def fsT (A B T : Nat → Int32) (n : Nat) (none : Int32) (x y : Nat) (S N R : Int32) : Prop := (stC A B (Int32.ofNat x) (Int32.ofNat y) n = 0 → stC A B (Int32.ofNat y) (Int32.ofNat x) n = 0 → S = none) ∧ (stC A B (Int32.ofNat x) (Int32.ofNat y) n ≠ 0 → S = 0 ∧ N = ownV A B T (Int32.ofNat x) (Int32.ofNat y) n ∧ R = Int32.ofNat x) ∧ (stC A B (Int32.ofNat x) (Int32.ofNat y) n = 0 → stC A B (Int32.ofNat y) (Int32.ofNat x) n ≠ 0 → S = 0 ∧ N = hlf (ownV A B T (Int32.ofNat y) (Int32.ofNat x) n) ∧ R = Int32.ofNat y)
theorem o30 {a b : Nat} (ha : a < 30) (hb : b < 30) : Int32.ofNat a * 30 + Int32.ofNat b = Int32.ofNat (30 * a + b) := by
  rw [Nat.mul_comm, Int32.ofNat_add, Int32.ofNat_mul]; rfl
theorem o30' {a b : Nat} (ha : a < 30) (hb : b < 30) : 30 * Int32.ofNat a + Int32.ofNat b = Int32.ofNat (30 * a + b) := by
  rw [Int32.ofNat_add, Int32.ofNat_mul]; rfl
theorem fill197 {w : rf_w} {v : Int32} : ∀ k F i (M : rf_m), i + k = 900 → k < F → g_J7_fill_53178__197_5 w F v (Int32.ofNat i) 900 M = some (stc M 197 (fun k => if i ≤ k ∧ k < 900 then v else M.1 197 k)) := by
  intro k
  induction k with
  | zero =>
    intro F i M hi hF
    obtain ⟨F, rfl⟩ : ∃ g, F = g + 1 := ⟨F - 1, by omega⟩
    show g_J7_fill_53178__197_5_b w _ _ _ _ M = _
    unfold g_J7_fill_53178__197_5_b
    rw [show i = 900 by omega, if_pos (by decide)]
    have : (fun k => if 900 ≤ k ∧ k < 900 then v else M.1 197 k) = M.1 197 := by
      funext k; rw [if_neg (by omega)]
    rw [this, stc_self]
  | succ k ih =>
    intro F i M hi hF
    obtain ⟨F, rfl⟩ : ∃ g, F = g + 1 := ⟨F - 1, by omega⟩
    have h1 : ¬ (900 : Int32) ≤ Int32.ofNat i := nle (R := 900) (by omega) (by omega)
    show g_J7_fill_53178__197_5_b w (g_J7_fill_53178__197_5 w F) _ _ _ M = _
    unfold g_J7_fill_53178__197_5_b
    rw [if_neg h1, gof (by omega) (by decide), g_t, tn_of (by omega), of_succ, ih F (i + 1) _ (by omega) (by omega), stc_i, stc_stc, stc_c, if_pos rfl]
    congr 2
    funext j
    unfold pu
    by_cases q : j = i
    · rw [if_neg (by omega), if_pos q, if_pos (by omega)]
    · by_cases q2 : i + 1 ≤ j ∧ j < 900
      · rw [if_pos q2, if_pos (by omega)]
      · rw [if_neg q2, if_neg q, if_neg (by omega)]
/-- the class takes the stars -/
theorem stars_c {w : rf_w} {m : rf_m} {n : Nat} (h0 : m.1 193 0 = Int32.ofNat n) (hn : n ≤ 20) (hT : ∀ i, iv 0 12959999 (m.1 196 i)) (hA : ∀ i, i < n → ib (m.1 194 i) 30 ∧ ib (m.1 195 i) 30) (hS : ∀ p, p < 900 → m.1 197 p = -2) : ∃ M, g_X10_takeStars w m = some M ∧ (∀ c, c ≠ 197 → c ≠ 198 → c ≠ 199 → M.1 c = m.1 c) ∧ M.2 = m.2 ∧ ∀ x y, x < 30 → y < 30 → fsT (m.1 194) (m.1 195) (m.1 196) n (-2) x y (M.1 197 (30 * x + y)) (M.1 198 (30 * x + y)) (M.1 199 (30 * x + y)) := by
  have tA : ∀ i, i < n → ∃ a b, a < 30 ∧ b < 30 ∧ m.1 194 i = Int32.ofNat a ∧ m.1 195 i = Int32.ofNat b := fun i hi => by
    obtain ⟨h1, h2⟩ := hA i hi
    exact ⟨_, _, tn_lt h1.1 h1.2 (by decide), tn_lt h2.1 h2.2 (by decide), (of_tn h1.1).symm, (of_tn h2.1).symm⟩
  have o0 : ¬ (0 : Int32) ≤ -2 := by decide
  generalize hAA : m.1 194 = A at *
  generalize hBB : m.1 195 = B at *
  generalize hTT : m.1 196 = T at *
  -- the way back
  have key2 : ∀ k F i (M : rf_m), i + k = n → k < F → (∀ c, c ≠ 197 → c ≠ 198 → c ≠ 199 → M.1 c = m.1 c) → M.2 = m.2 → (∀ x y, x < 30 → y < 30 → (stC A B (Int32.ofNat x) (Int32.ofNat y) n = 0 → stC A B (Int32.ofNat y) (Int32.ofNat x) i = 0 → M.1 197 (30 * x + y) = -2) ∧ (stC A B (Int32.ofNat x) (Int32.ofNat y) n ≠ 0 → M.1 197 (30 * x + y) = 0 ∧ M.1 198 (30 * x + y) = ownV A B T (Int32.ofNat x) (Int32.ofNat y) n ∧ M.1 199 (30 * x + y) = Int32.ofNat x) ∧ (stC A B (Int32.ofNat x) (Int32.ofNat y) n = 0 → stC A B (Int32.ofNat y) (Int32.ofNat x) i ≠ 0 → M.1 197 (30 * x + y) = 0 ∧ M.1 198 (30 * x + y) = hlf (ownV A B T (Int32.ofNat y) (Int32.ofNat x) n) ∧ M.1 199 (30 * x + y) = Int32.ofNat y)) → ∃ M', g_X10_takeStars_75 w F (Int32.ofNat i) M = some M' ∧ (∀ c, c ≠ 197 → c ≠ 198 → c ≠ 199 → M'.1 c = m.1 c) ∧ M'.2 = m.2 ∧ ∀ x y, x < 30 → y < 30 → fsT A B T n (-2) x y (M'.1 197 (30 * x + y)) (M'.1 198 (30 * x + y)) (M'.1 199 (30 * x + y)) := by
    intro k
    induction k with
    | zero =>
      intro F i M hi hF hc h2 hI
      obtain ⟨F, rfl⟩ : ∃ g, F = g + 1 := ⟨F - 1, by omega⟩
      refine ⟨M, ?_, hc, h2, ?_⟩
      · show g_X10_takeStars_75_b w _ _ M = _
        unfold g_X10_takeStars_75_b
        rw [hc 193 (by decide) (by decide) (by decide), h0, show i = n by omega, if_pos (Int32.le_refl _)]
      · rw [show i = n by omega] at hI
        exact hI
    | succ k ih =>
      intro F i M hi hF hc h2 hI
      obtain ⟨F, rfl⟩ : ∃ g, F = g + 1 := ⟨F - 1, by omega⟩
      obtain ⟨a, b, ha, hb, ea, eb⟩ := tA i (by omega)
      have e194 : M.1 194 = A := by rw [hc 194 (by decide) (by decide) (by decide), hAA]
      have e195 : M.1 195 = B := by rw [hc 195 (by decide) (by decide) (by decide), hBB]
      have e193 : M.1 193 = m.1 193 := hc 193 (by decide) (by decide) (by decide)
      have hp := stC_pos (A := A) (B := B) (i := i) n (by omega)
      rw [ea, eb] at hp
      obtain ⟨u1, u2, u3⟩ := (hI a b ha hb).2.1 hp
      have hov : iv 0 12959999 (ownV A B T (Int32.ofNat a) (Int32.ofNat b) n) := by
        rcases own_rng (A := A) (B := B) (x := Int32.ofNat a) (y := Int32.ofNat b) hT hn with ⟨z, _⟩ | ⟨_, z⟩
        · exact absurd z hp
        · exact z
      show ∃ M', g_X10_takeStars_75_b w (g_X10_takeStars_75 w F) _ M = _ ∧ _
      unfold g_X10_takeStars_75_b g_X10_takeStars_159
      have hnl : ¬ Int32.ofNat n ≤ Int32.ofNat i := nle (by omega) (by omega)
      simp only [g_X10_sight, rf_b, e193, h0, if_neg hnl, gof (show i < 20 by omega) (show 20 ≤ 2147483648 by decide), g_t, tn_of (show i < 2147483648 by omega), e194, e195, ea, eb, o30 hb ha, gof (show 30 * b + a < 900 by omega) (show 900 ≤ 2147483648 by decide), tn_of (show 30 * b + a < 2147483648 by omega)]
      have nxt : ∀ M' : rf_m, (∀ c, c ≠ 197 → c ≠ 198 → c ≠ 199 → M'.1 c = m.1 c) → M'.2 = m.2 → (∀ x y, x < 30 → y < 30 → (stC A B (Int32.ofNat x) (Int32.ofNat y) n = 0 → stC A B (Int32.ofNat y) (Int32.ofNat x) (i + 1) = 0 → M'.1 197 (30 * x + y) = -2) ∧ (stC A B (Int32.ofNat x) (Int32.ofNat y) n ≠ 0 → M'.1 197 (30 * x + y) = 0 ∧ M'.1 198 (30 * x + y) = ownV A B T (Int32.ofNat x) (Int32.ofNat y) n ∧ M'.1 199 (30 * x + y) = Int32.ofNat x) ∧ (stC A B (Int32.ofNat x) (Int32.ofNat y) n = 0 → stC A B (Int32.ofNat y) (Int32.ofNat x) (i + 1) ≠ 0 → M'.1 197 (30 * x + y) = 0 ∧ M'.1 198 (30 * x + y) = hlf (ownV A B T (Int32.ofNat y) (Int32.ofNat x) n) ∧ M'.1 199 (30 * x + y) = Int32.ofNat y)) → ∃ M'', g_X10_takeStars_75 w F (Int32.ofNat i + 1) M' = some M'' ∧ (∀ c, c ≠ 197 → c ≠ 198 → c ≠ 199 → M''.1 c = m.1 c) ∧ M''.2 = m.2 ∧ ∀ x y, x < 30 → y < 30 → fsT A B T n (-2) x y (M''.1 197 (30 * x + y)) (M''.1 198 (30 * x + y)) (M''.1 199 (30 * x + y)) := fun M' q1 q2 q3 => by rw [of_succ]; exact ih F (i + 1) M' (by omega) (by omega) q1 q2 q3
      have stp : ∀ x y, x < 30 → y < 30 → stC A B (Int32.ofNat y) (Int32.ofNat x) (i + 1) = stC A B (Int32.ofNat y) (Int32.ofNat x) i + (if x = b ∧ y = a then 1 else 0) := by
        intro x y hx hy
        show stC A B (Int32.ofNat y) (Int32.ofNat x) i + (if A i = Int32.ofNat y ∧ B i = Int32.ofNat x then 1 else 0) = _
        rw [ea, eb]
        by_cases q : x = b ∧ y = a
        · rw [if_pos q, if_pos (by rw [q.1, q.2]; exact ⟨rfl, rfl⟩)]
        · have q' : ¬ (Int32.ofNat a = Int32.ofNat y ∧ Int32.ofNat b = Int32.ofNat x) := fun z => q ⟨((of_inj (by omega) (by omega)).mp z.2).symm, ((of_inj (by omega) (by omega)).mp z.1).symm⟩
          rw [if_neg q, if_neg q']
      obtain ⟨v1, v2, v3⟩ := hI b a hb ha
      by_cases z : (0 : Int32) ≤ M.1 197 (30 * b + a)
      · rw [if_pos z]
        refine nxt M hc h2 (fun x y hx hy => ?_)
        rw [stp x y hx hy]
        obtain ⟨w1, w2, w3⟩ := hI x y hx hy
        by_cases q : x = b ∧ y = a
        · obtain ⟨rfl, rfl⟩ := q
          rw [if_pos ⟨rfl, rfl⟩]
          refine ⟨fun _ p => by omega, v2, fun p1 _ => v3 p1 (fun p2 => ?_)⟩
          rw [v1 p1 p2] at z
          exact o0 z
        · rw [if_neg q]
          exact hI x y hx hy
      · rw [if_neg z]
        have f197 : ∀ c, c ≠ 197 → (rf_i M 197 (30 * b + a) 0).1 c = M.1 c := fun c hc => by rw [rf_i_c, if_neg hc]
        rw [f197 194 (by decide), f197 195 (by decide), e194, e195, ea, eb, o30 ha hb, gof (show 30 * a + b < 900 by omega) (by decide), tn_of (show 30 * a + b < 2147483648 by omega), g_t, f197 198 (by decide), u2, md_hlf hov]
        rw [show (rf_i (rf_i M 197 (30 * b + a) 0) 198 (30 * b + a) (hlf (ownV A B T (Int32.ofNat a) (Int32.ofNat b) n))).1 194 = A from by rw [rf_i_c, if_neg (by decide), rf_i_c, if_neg (by decide), e194], ea]
        have hno : stC A B (Int32.ofNat b) (Int32.ofNat a) n = 0 := Decidable.byContradiction (fun p => z (by rw [(v2 p).1]; exact Int32.le_refl _))
        refine nxt _ (fun c c1 c2 c3 => ?_) h2 (fun x y hx hy => ?_)
        · rw [rf_i_c, if_neg c3, rf_i_c, if_neg c2, rf_i_c, if_neg c1]; exact hc c c1 c2 c3
        · rw [stp x y hx hy]
          have g197 : (rf_i (rf_i (rf_i M 197 (30 * b + a) 0) 198 (30 * b + a) (hlf (ownV A B T (Int32.ofNat a) (Int32.ofNat b) n))) 199 (30 * b + a) (Int32.ofNat a)).1 197 = pu (M.1 197) (30 * b + a) 0 := by rw [rf_i_c, if_neg (by decide), rf_i_c, if_neg (by decide), rf_i_c, if_pos rfl]
          have g198 : (rf_i (rf_i (rf_i M 197 (30 * b + a) 0) 198 (30 * b + a) (hlf (ownV A B T (Int32.ofNat a) (Int32.ofNat b) n))) 199 (30 * b + a) (Int32.ofNat a)).1 198 = pu (M.1 198) (30 * b + a) (hlf (ownV A B T (Int32.ofNat a) (Int32.ofNat b) n)) := by rw [rf_i_c, if_neg (by decide), rf_i_c, if_pos rfl, rf_i_c, if_neg (by decide)]
          have g199 : (rf_i (rf_i (rf_i M 197 (30 * b + a) 0) 198 (30 * b + a) (hlf (ownV A B T (Int32.ofNat a) (Int32.ofNat b) n))) 199 (30 * b + a) (Int32.ofNat a)).1 199 = pu (M.1 199) (30 * b + a) (Int32.ofNat a) := by rw [rf_i_c, if_pos rfl, rf_i_c, if_neg (by decide), rf_i_c, if_neg (by decide)]
          rw [g197, g198, g199]
          by_cases q : x = b ∧ y = a
          · obtain ⟨rfl, rfl⟩ := q
            rw [if_pos ⟨rfl, rfl⟩, pu_at, pu_at, pu_at]
            exact ⟨fun _ p => by omega, fun p => absurd hno p, fun _ _ => ⟨rfl, rfl, rfl⟩⟩
          · rw [if_neg q, pu_ne (by omega), pu_ne (by omega), pu_ne (by omega)]
            exact hI x y hx hy
  -- the own ones
  have key1 : ∀ k F i (M : rf_m), i + k = n → k < F → (∀ c, c ≠ 197 → c ≠ 198 → c ≠ 199 → M.1 c = m.1 c) → M.2 = m.2 → (∀ x y, x < 30 → y < 30 → (stC A B (Int32.ofNat x) (Int32.ofNat y) i = 0 → M.1 197 (30 * x + y) = -2) ∧ (stC A B (Int32.ofNat x) (Int32.ofNat y) i ≠ 0 → M.1 197 (30 * x + y) = 0 ∧ M.1 198 (30 * x + y) = ownV A B T (Int32.ofNat x) (Int32.ofNat y) n ∧ M.1 199 (30 * x + y) = Int32.ofNat x)) → ∃ M', g_X10_takeStars_2 w F (Int32.ofNat i) M = some M' ∧ (∀ c, c ≠ 197 → c ≠ 198 → c ≠ 199 → M'.1 c = m.1 c) ∧ M'.2 = m.2 ∧ ∀ x y, x < 30 → y < 30 → fsT A B T n (-2) x y (M'.1 197 (30 * x + y)) (M'.1 198 (30 * x + y)) (M'.1 199 (30 * x + y)) := by
    intro k
    induction k with
    | zero =>
      intro F i M hi hF hc h2 hI
      obtain ⟨F, rfl⟩ : ∃ g, F = g + 1 := ⟨F - 1, by omega⟩
      show ∃ M', g_X10_takeStars_2_b w _ _ M = _ ∧ _
      unfold g_X10_takeStars_2_b
      rw [hc 193 (by decide) (by decide) (by decide), h0, show i = n by omega, if_pos (Int32.le_refl _)]
      rw [show i = n by omega] at hI
      refine key2 n rf_fuel 0 M (by omega) (by unfold rf_fuel; omega) hc h2 (fun x y hx hy => ?_)
      obtain ⟨w1, w2⟩ := hI x y hx hy
      exact ⟨fun p _ => w1 p, w2, fun _ p => absurd rfl p⟩
    | succ k ih =>
      intro F i M hi hF hc h2 hI
      obtain ⟨F, rfl⟩ : ∃ g, F = g + 1 := ⟨F - 1, by omega⟩
      obtain ⟨a, b, ha, hb, ea, eb⟩ := tA i (by omega)
      have e194 : M.1 194 = A := by rw [hc 194 (by decide) (by decide) (by decide), hAA]
      have e195 : M.1 195 = B := by rw [hc 195 (by decide) (by decide) (by decide), hBB]
      have e196 : M.1 196 = T := by rw [hc 196 (by decide) (by decide) (by decide), hTT]
      have e193 : M.1 193 = m.1 193 := hc 193 (by decide) (by decide) (by decide)
      have f197 : ∀ c, c ≠ 197 → (rf_i M 197 (30 * a + b) 0).1 c = M.1 c := fun c hc => by rw [rf_i_c, if_neg hc]
      have hm := mos_c (w := w) (m := rf_i M 197 (30 * a + b) 0) (x := Int32.ofNat a) (y := Int32.ofNat b) (n := n) (by rw [f197 193 (by decide), e193]; exact h0) hn (by rw [f197 196 (by decide), e196]; exact hT)
      rw [f197 194 (by decide), f197 195 (by decide), f197 196 (by decide), e194, e195, e196] at hm
      show ∃ M', g_X10_takeStars_2_b w (g_X10_takeStars_2 w F) _ M = _ ∧ _
      unfold g_X10_takeStars_2_b
      have hnl : ¬ Int32.ofNat n ≤ Int32.ofNat i := nle (by omega) (by omega)
      simp only [g_X10_sight, rf_b, e193, h0, if_neg hnl, gof (show i < 20 by omega) (show 20 ≤ 2147483648 by decide), g_t, tn_of (show i < 2147483648 by omega), e194, e195, ea, eb, o30 ha hb, gof (show 30 * a + b < 900 by omega) (show 900 ≤ 2147483648 by decide), tn_of (show 30 * a + b < 2147483648 by omega), f197 194 (by decide), f197 195 (by decide), hm]
      rw [show (rf_i (rf_i M 197 (30 * a + b) 0) 198 (30 * a + b) (ownV A B T (Int32.ofNat a) (Int32.ofNat b) n)).1 194 = A from by rw [rf_i_c, if_neg (by decide), rf_i_c, if_neg (by decide), e194], ea, of_succ]
      refine ih F (i + 1) _ (by omega) (by omega) (fun c c1 c2 c3 => ?_) h2 (fun x y hx hy => ?_)
      · rw [rf_i_c, if_neg c3, rf_i_c, if_neg c2, rf_i_c, if_neg c1]; exact hc c c1 c2 c3
      · have g197 : (rf_i (rf_i (rf_i M 197 (30 * a + b) 0) 198 (30 * a + b) (ownV A B T (Int32.ofNat a) (Int32.ofNat b) n)) 199 (30 * a + b) (Int32.ofNat a)).1 197 = pu (M.1 197) (30 * a + b) 0 := by rw [rf_i_c, if_neg (by decide), rf_i_c, if_neg (by decide), rf_i_c, if_pos rfl]
        have g198 : (rf_i (rf_i (rf_i M 197 (30 * a + b) 0) 198 (30 * a + b) (ownV A B T (Int32.ofNat a) (Int32.ofNat b) n)) 199 (30 * a + b) (Int32.ofNat a)).1 198 = pu (M.1 198) (30 * a + b) (ownV A B T (Int32.ofNat a) (Int32.ofNat b) n) := by rw [rf_i_c, if_neg (by decide), rf_i_c, if_pos rfl, rf_i_c, if_neg (by decide)]
        have g199 : (rf_i (rf_i (rf_i M 197 (30 * a + b) 0) 198 (30 * a + b) (ownV A B T (Int32.ofNat a) (Int32.ofNat b) n)) 199 (30 * a + b) (Int32.ofNat a)).1 199 = pu (M.1 199) (30 * a + b) (Int32.ofNat a) := by rw [rf_i_c, if_pos rfl, rf_i_c, if_neg (by decide), rf_i_c, if_neg (by decide)]
        rw [g197, g198, g199]
        have stp : stC A B (Int32.ofNat x) (Int32.ofNat y) (i + 1) = stC A B (Int32.ofNat x) (Int32.ofNat y) i + (if x = a ∧ y = b then 1 else 0) := by
          show stC A B (Int32.ofNat x) (Int32.ofNat y) i + (if A i = Int32.ofNat x ∧ B i = Int32.ofNat y then 1 else 0) = _
          rw [ea, eb]
          by_cases q : x = a ∧ y = b
          · rw [if_pos q, if_pos (by rw [q.1, q.2]; exact ⟨rfl, rfl⟩)]
          · have q' : ¬ (Int32.ofNat a = Int32.ofNat x ∧ Int32.ofNat b = Int32.ofNat y) := fun z => q ⟨((of_inj (by omega) (by omega)).mp z.1).symm, ((of_inj (by omega) (by omega)).mp z.2).symm⟩
            rw [if_neg q, if_neg q']
        rw [stp]
        by_cases q : x = a ∧ y = b
        · obtain ⟨rfl, rfl⟩ := q
          rw [if_pos ⟨rfl, rfl⟩, pu_at, pu_at, pu_at]
          exact ⟨fun p => by omega, fun _ => ⟨rfl, rfl, rfl⟩⟩
        · rw [if_neg q, pu_ne (by omega), pu_ne (by omega), pu_ne (by omega)]
          exact hI x y hx hy
  exact key1 n rf_fuel 0 m (by omega) (by unfold rf_fuel; omega) (fun _ _ _ _ => rfl) rfl (fun x y hx hy => ⟨fun _ => hS _ (by omega), fun p => absurd rfl p⟩)
/-- the reference takes the stars -/
theorem stars_r {w : rf_w} {m : rf_m} {n K : Nat} (h0 : m.1 206 126 = Int32.ofNat n) (hn : n ≤ 20) (hK : m.1 206 4 = Int32.ofNat K) (hK30 : K ≤ 30) (hT : ∀ i, iv 0 12959999 (m.1 291 i)) : ∃ M, g_X14_norths w m = rf_bv (g_X14_allMeans w M) (fun m0 => g_X14_norths_159 w rf_fuel 1 0 m0) ∧ (∀ c, c ≠ 292 → c ≠ 293 → c ≠ 294 → M.1 c = m.1 c) ∧ M.2 = m.2 ∧ ∀ x y, x < K → y < K → (x ≠ y → fsT (m.1 289) (m.1 290) (m.1 291) n (-1) x y (M.1 293 (30 * x + y)) (M.1 292 (30 * x + y)) (M.1 294 (30 * x + y))) ∧ (x = y → M.1 293 (30 * x + y) = -1) := by
  have o2 : ∀ {v : Int32}, iv 0 12959999 v → ¬ v = -2 := fun h e => by rw [e] at h; exact absurd h.1 (by decide)
  generalize hAA : m.1 289 = A at *
  generalize hBB : m.1 290 = B at *
  generalize hTT : m.1 291 = T at *
  have row : ∀ (rec2 : Int32 → rf_m → Option rf_m) x, x < K → ∀ k F y (M : rf_m), y + k = K → k < F → (∀ c, c ≠ 292 → c ≠ 293 → c ≠ 294 → M.1 c = m.1 c) → M.2 = m.2 → (∀ p q, p < K → q < K → (p < x ∨ (p = x ∧ q < y)) → (p ≠ q → fsT A B T n (-1) p q (M.1 293 (30 * p + q)) (M.1 292 (30 * p + q)) (M.1 294 (30 * p + q))) ∧ (p = q → M.1 293 (30 * p + q) = -1)) → ∃ M', g_X14_norths_12 w rec2 F (Int32.ofNat x) (Int32.ofNat y) M = rec2 (Int32.ofNat (x + 1)) M' ∧ (∀ c, c ≠ 292 → c ≠ 293 → c ≠ 294 → M'.1 c = m.1 c) ∧ M'.2 = m.2 ∧ (∀ p q, p < K → q < K → p < x + 1 → (p ≠ q → fsT A B T n (-1) p q (M'.1 293 (30 * p + q)) (M'.1 292 (30 * p + q)) (M'.1 294 (30 * p + q))) ∧ (p = q → M'.1 293 (30 * p + q) = -1)) := by
    intro rec2 x hx k
    induction k with
    | zero =>
      intro F y M hy hF hc h2 hI
      obtain ⟨F, rfl⟩ : ∃ g, F = g + 1 := ⟨F - 1, by omega⟩
      refine ⟨M, ?_, hc, h2, fun p q hp hq h => hI p q hp hq (by omega)⟩
      show g_X14_norths_12_b w _ _ _ _ M = _
      unfold g_X14_norths_12_b
      rw [hc 206 (by decide) (by decide) (by decide), hK, show y = K by omega, if_pos (Int32.le_refl _), of_succ]
    | succ k ih =>
      intro F y M hy hF hc h2 hI
      obtain ⟨F, rfl⟩ : ∃ g, F = g + 1 := ⟨F - 1, by omega⟩
      have hyK : y < K := by omega
      show ∃ M', g_X14_norths_12_b w rec2 (g_X14_norths_12 w rec2 F) _ _ M = _ ∧ _
      unfold g_X14_norths_12_b
      have hnl : ¬ Int32.ofNat K ≤ Int32.ofNat y := nle (by omega) (by omega)
      generalize hM1 : rf_i M 293 (30 * x + y) (-1) = M1
      have a0 : ∀ c, c ≠ 293 → M1.1 c = M.1 c := fun c h => by rw [← hM1, rf_i_c, if_neg h]
      have a1 : M1.1 293 = pu (M.1 293) (30 * x + y) (-1) := by rw [← hM1, rf_i_c, if_pos rfl]
      have a2 : M1.2 = m.2 := by rw [← hM1]; exact h2
      have b0 : ∀ c, c ≠ 292 → c ≠ 293 → c ≠ 294 → M1.1 c = m.1 c := fun c h1 h2 h3 => by rw [a0 c h2]; exact hc c h1 h2 h3
      rw [hc 206 (by decide) (by decide) (by decide), hK, if_neg hnl, o30' (show x < 30 by omega) (show y < 30 by omega), gof (show 30 * x + y < 900 by omega) (by decide), g_t, tn_of (show 30 * x + y < 2147483648 by omega), hM1]
      have own : ∀ u v, g_X14_ownNorth w M1 u v = some (ownV A B T u v n, M1) := fun u v => by
        have := own_r (w := w) (m := M1) (x := u) (y := v) (n := n) (by rw [b0 206 (by decide) (by decide) (by decide)]; exact h0) hn (by rw [b0 291 (by decide) (by decide) (by decide), hTT]; exact hT)
        rw [b0 289 (by decide) (by decide) (by decide), b0 290 (by decide) (by decide) (by decide), b0 291 (by decide) (by decide) (by decide), hAA, hBB, hTT] at this
        exact this
      -- on, with any memory that has the row's place right
      have nxt : ∀ M' : rf_m, (∀ c, c ≠ 292 → c ≠ 293 → c ≠ 294 → M'.1 c = m.1 c) → M'.2 = m.2 → (∀ p, p ≠ 30 * x + y → M'.1 293 p = M.1 293 p ∧ M'.1 292 p = M.1 292 p ∧ M'.1 294 p = M.1 294 p) → ((x ≠ y → fsT A B T n (-1) x y (M'.1 293 (30 * x + y)) (M'.1 292 (30 * x + y)) (M'.1 294 (30 * x + y))) ∧ (x = y → M'.1 293 (30 * x + y) = -1)) → ∃ M'', g_X14_norths_12 w rec2 F (Int32.ofNat x) (Int32.ofNat y + 1) M' = rec2 (Int32.ofNat (x + 1)) M'' ∧ (∀ c, c ≠ 292 → c ≠ 293 → c ≠ 294 → M''.1 c = m.1 c) ∧ M''.2 = m.2 ∧ (∀ p q, p < K → q < K → p < x + 1 → (p ≠ q → fsT A B T n (-1) p q (M''.1 293 (30 * p + q)) (M''.1 292 (30 * p + q)) (M''.1 294 (30 * p + q))) ∧ (p = q → M''.1 293 (30 * p + q) = -1)) := by
        intro M' q1 q2 q3 q4
        rw [of_succ]
        refine ih F (y + 1) M' (by omega) (by omega) q1 q2 (fun p q hp hq h => ?_)
        by_cases e : p = x ∧ q = y
        · obtain ⟨rfl, rfl⟩ := e; exact q4
        · obtain ⟨r1, r2, r3⟩ := q3 (30 * p + q) (by omega)
          rw [r1, r2, r3]
          exact hI p q hp hq (by omega)
      have idle : ∀ p, p ≠ 30 * x + y → M1.1 293 p = M.1 293 p ∧ M1.1 292 p = M.1 292 p ∧ M1.1 294 p = M.1 294 p := fun p hp => ⟨by rw [a1, pu_ne hp], by rw [a0 292 (by decide)], by rw [a0 294 (by decide)]⟩
      by_cases e : x = y
      · rw [if_pos (by rw [e])]
        unfold g_X14_norths_50 g_X14_norths_68 g_X14_norths_139
        rw [if_pos (by rw [e]), if_pos rfl, if_pos rfl]
        exact nxt M1 b0 a2 idle ⟨fun q => absurd e q, fun _ => by rw [a1, pu_at]⟩
      · have e' : ¬ Int32.ofNat x = Int32.ofNat y := fun q => e ((of_inj (by omega) (by omega)).mp q)
        rw [if_neg e', own]
        simp only [rf_b]
        unfold g_X14_norths_50
        rw [if_neg e', own]
        simp only [rf_b]
        unfold g_X14_norths_68
        -- the place set
        have set1 : ∀ N R : Int32, fsT A B T n (-1) x y 0 N R → ∃ M'', g_X14_norths_12 w rec2 F (Int32.ofNat x) (Int32.ofNat y + 1) (rf_i (rf_i (rf_i M1 293 (30 * x + y) 0) 292 (30 * x + y) N) 294 (30 * x + y) R) = rec2 (Int32.ofNat (x + 1)) M'' ∧ (∀ c, c ≠ 292 → c ≠ 293 → c ≠ 294 → M''.1 c = m.1 c) ∧ M''.2 = m.2 ∧ (∀ p q, p < K → q < K → p < x + 1 → (p ≠ q → fsT A B T n (-1) p q (M''.1 293 (30 * p + q)) (M''.1 292 (30 * p + q)) (M''.1 294 (30 * p + q))) ∧ (p = q → M''.1 293 (30 * p + q) = -1)) := by
          intro N R hf
          have g293 : (rf_i (rf_i (rf_i M1 293 (30 * x + y) 0) 292 (30 * x + y) N) 294 (30 * x + y) R).1 293 = pu (M1.1 293) (30 * x + y) 0 := by rw [rf_i_c, if_neg (by decide), rf_i_c, if_neg (by decide), rf_i_c, if_pos rfl]
          have g292 : (rf_i (rf_i (rf_i M1 293 (30 * x + y) 0) 292 (30 * x + y) N) 294 (30 * x + y) R).1 292 = pu (M1.1 292) (30 * x + y) N := by rw [rf_i_c, if_neg (by decide), rf_i_c, if_pos rfl, rf_i_c, if_neg (by decide)]
          have g294 : (rf_i (rf_i (rf_i M1 293 (30 * x + y) 0) 292 (30 * x + y) N) 294 (30 * x + y) R).1 294 = pu (M1.1 294) (30 * x + y) R := by rw [rf_i_c, if_pos rfl, rf_i_c, if_neg (by decide), rf_i_c, if_neg (by decide)]
          refine nxt _ (fun c c1 c2 c3 => ?_) a2 (fun p hp => ?_) ⟨fun _ => ?_, fun q => absurd q e⟩
          · rw [rf_i_c, if_neg c3, rf_i_c, if_neg c1, rf_i_c, if_neg c2]; exact b0 c c1 c2 c3
          · rw [g293, g292, g294, pu_ne hp, pu_ne hp, pu_ne hp]; exact idle p hp
          · rw [g293, g292, g294, pu_at, pu_at, pu_at]; exact hf
        rcases own_rng (A := A) (B := B) (x := Int32.ofNat x) (y := Int32.ofNat y) hT hn with ⟨z1, z2⟩ | ⟨z1, z2⟩
        · rw [if_pos z2]
          rcases own_rng (A := A) (B := B) (x := Int32.ofNat y) (y := Int32.ofNat x) hT hn with ⟨w1, w2⟩ | ⟨w1, w2⟩
          · rw [if_pos w2]
            unfold g_X14_norths_139
            exact nxt M1 b0 a2 idle ⟨fun _ => ⟨fun _ _ => by rw [a1, pu_at], fun q => absurd z1 q, fun _ q => absurd w1 q⟩, fun q => absurd q e⟩
          · rw [if_neg (o2 w2)]
            unfold g_X14_norths_87
            rw [gof (show 30 * x + y < 900 by omega) (by decide), g_t, if_pos z2, rounded_r]
            simp only [rf_b]
            unfold g_X14_norths_120 g_X14_norths_138 g_X14_norths_139
            rw [gof (show 30 * x + y < 900 by omega) (by decide), g_t, if_pos z2, g_t, tn_of (show 30 * x + y < 2147483648 by omega)]
            exact set1 _ _ ⟨fun _ q => absurd q w1, fun q => absurd z1 q, fun _ _ => ⟨rfl, rfl, rfl⟩⟩
        · rw [if_neg (o2 z2)]
          unfold g_X14_norths_87
          rw [gof (show 30 * x + y < 900 by omega) (by decide), g_t, if_neg (o2 z2)]
          unfold g_X14_norths_120 g_X14_norths_138 g_X14_norths_139
          rw [gof (show 30 * x + y < 900 by omega) (by decide), g_t, if_neg (o2 z2), g_t, tn_of (show 30 * x + y < 2147483648 by omega)]
          exact set1 _ _ ⟨fun q => absurd q z1, fun _ => ⟨rfl, rfl, rfl⟩, fun q => absurd q z1⟩
  have col : ∀ k F x (M : rf_m), x + k = K → k < F → (∀ c, c ≠ 292 → c ≠ 293 → c ≠ 294 → M.1 c = m.1 c) → M.2 = m.2 → (∀ p q, p < K → q < K → p < x → (p ≠ q → fsT A B T n (-1) p q (M.1 293 (30 * p + q)) (M.1 292 (30 * p + q)) (M.1 294 (30 * p + q))) ∧ (p = q → M.1 293 (30 * p + q) = -1)) → ∃ M', g_X14_norths_2 w F (Int32.ofNat x) M = rf_bv (g_X14_allMeans w M') (fun m0 => g_X14_norths_159 w rf_fuel 1 0 m0) ∧ (∀ c, c ≠ 292 → c ≠ 293 → c ≠ 294 → M'.1 c = m.1 c) ∧ M'.2 = m.2 ∧ ∀ p q, p < K → q < K → (p ≠ q → fsT A B T n (-1) p q (M'.1 293 (30 * p + q)) (M'.1 292 (30 * p + q)) (M'.1 294 (30 * p + q))) ∧ (p = q → M'.1 293 (30 * p + q) = -1) := by
    intro k
    induction k with
    | zero =>
      intro F x M hx hF hc h2 hI
      obtain ⟨F, rfl⟩ : ∃ g, F = g + 1 := ⟨F - 1, by omega⟩
      refine ⟨M, ?_, hc, h2, fun p q hp hq => hI p q hp hq (by omega)⟩
      show g_X14_norths_2_b w _ _ M = _
      unfold g_X14_norths_2_b
      rw [hc 206 (by decide) (by decide) (by decide), hK, show x = K by omega, if_pos (Int32.le_refl _)]
    | succ k ih =>
      intro F x M hx hF hc h2 hI
      obtain ⟨F, rfl⟩ : ∃ g, F = g + 1 := ⟨F - 1, by omega⟩
      have hnl : ¬ Int32.ofNat K ≤ Int32.ofNat x := nle (by omega) (by omega)
      show ∃ M', g_X14_norths_2_b w (g_X14_norths_2 w F) _ M = _ ∧ _
      unfold g_X14_norths_2_b
      rw [hc 206 (by decide) (by decide) (by decide), hK, if_neg hnl]
      obtain ⟨M1, r1, r2, r3, r4⟩ := row (g_X14_norths_2 w F) x (by omega) K rf_fuel 0 M (by omega) (by unfold rf_fuel; omega) hc h2 (fun p q hp hq h => hI p q hp hq (by omega))
      rw [show Int32.ofNat 0 = 0 from rfl] at r1
      rw [r1]
      exact ih F (x + 1) M1 (by omega) (by omega) r2 r3 r4
  exact col K rf_fuel 0 m (by omega) (by unfold rf_fuel; omega) (fun _ _ _ _ => rfl) rfl (fun p q _ _ h => absurd h (by omega))
end PBFirst
