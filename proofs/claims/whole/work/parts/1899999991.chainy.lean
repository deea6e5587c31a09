/-! chains: the class's search finds the best -/
section PBChainY
/-- what the class's search reads and never changes -/
def chS (w : rf_w) (m X : rf_m) (A : List Nat) (go : Int32) (sh : Int) : Prop := X.1 175 8 = Int32.ofNat A.length ∧ X.1 175 18 = go ∧ (X.2 175 12).toInt = sh ∧ ∀ a (h : a < A.length), X.1 177 a = Int32.ofNat A[a] ∧ ∀ i, i < 3 → X.1 178 (3 * a + i) = sidV m A[a] i ∧ X.1 179 (3 * a + i) = sLv w m (cnr m A[a] i) ∧ X.1 180 (3 * a + i) = sMv w m (cnr m A[a] i)
def cdF (X X' : rf_m) : Prop := (∀ z, z ≠ 175 → z ≠ 181 → z ≠ 182 → X'.1 z = X.1 z) ∧ (∀ k, k ≠ 15 → X'.1 175 k = X.1 175 k) ∧ (∀ z, z ≠ 175 → X'.2 z = X.2 z) ∧ ∀ k, k ≠ 16 → k ≠ 17 → X'.2 175 k = X.2 175 k
theorem cdF_refl (X : rf_m) : cdF X X := ⟨fun _ _ _ _ => rfl, fun _ _ => rfl, fun _ _ => rfl, fun _ _ _ => rfl⟩
theorem cdF_trans {A B C : rf_m} (h1 : cdF A B) (h2 : cdF B C) : cdF A C := ⟨fun z a b c => (h2.1 z a b c).trans (h1.1 z a b c), fun k a => (h2.2.1 k a).trans (h1.2.1 k a), fun z a => (h2.2.2.1 z a).trans (h1.2.2.1 z a), fun k a b => (h2.2.2.2 k a b).trans (h1.2.2.2 k a b)⟩
theorem chS_e {w : rf_w} {m X X' : rf_m} {A : List Nat} {go : Int32} {sh : Int} (h : chS w m X A go sh) (f : cdF X X') : chS w m X' A go sh := by
  obtain ⟨h1, h2, h3, h4⟩ := h
  refine ⟨by rw [f.2.1 8 (by decide)]; exact h1, by rw [f.2.1 18 (by decide)]; exact h2, by rw [f.2.2.2 12 (by decide) (by decide)]; exact h3, fun a ha => ?_⟩
  rw [f.1 177 (by decide) (by decide) (by decide), f.1 178 (by decide) (by decide) (by decide), f.1 179 (by decide) (by decide) (by decide), f.1 180 (by decide) (by decide) (by decide)]
  exact h4 a ha
def rcE (n : Nat) (X X' : rf_m) : Prop := ∀ j, j < n → X'.1 181 j = X.1 181 j ∧ X'.1 181 (6 + j) = X.1 181 (6 + j)
theorem rc_e {m X X' : rf_m} {p : List (Nat × Nat)} (h : rwC m (X.1 181) p) (e : rcE p.length X X') : rwC m (X'.1 181) p := fun j hj => by
  obtain ⟨e1, e2⟩ := e j hj
  rw [e1, e2]
  exact h j hj
theorem rc_snoc {m X : rf_m} {p : List (Nat × Nat)} {t i : Nat} (lp : p.length < 6) (r : rwC m (X.1 181) p) : rwC m (pu (pu (X.1 181) p.length (Int32.ofNat t)) (6 + p.length) (sidV m t i)) (p ++ [(t, i)]) := by
  intro j hj
  rw [List.length_append] at hj
  have hj : j < p.length + 1 := hj
  by_cases e : j = p.length
  · subst e
    have : (p ++ [(t, i)])[p.length] = (t, i) := by simp
    rw [pu_at, pu_ne (by omega), pu_at, this]
    exact ⟨rfl, rfl⟩
  · have : (p ++ [(t, i)])[j] = p[j]'(by omega) := List.getElem_append_left (by omega)
    rw [pu_ne (by omega), pu_ne e, pu_ne (by omega), pu_ne (by omega), this]
    exact r j (by omega)
theorem bsC_e {E : chE} {m X X' : rf_m} {B : Option (List (Nat × Nat))} (h : bsC E m X B) (e1 : X'.1 175 15 = X.1 175 15) (e2 : X'.2 175 16 = X.2 175 16) (e3 : X'.2 175 17 = X.2 175 17) (e4 : X'.1 182 = X.1 182) : bsC E m X' B := by
  cases B with
  | none => show X'.1 175 15 = -1; rw [e1]; exact h
  | some q =>
    obtain ⟨h1, h2, h3, h4, h5⟩ := h
    refine ⟨by rw [e1]; exact h1, by rw [e2, e3]; exact h2, h3, by rw [e4]; exact h4, by rw [e2, e3]; exact h5⟩
theorem node_c {m X : rf_m} {E : chE} {p : List (Nat × Nat)} {lo hi : Int64} (hp : pOK m p) (hr : rnE E p = some (eGo E, lo.toInt, hi.toInt)) (hO : stO (eGo E, lo.toInt, hi.toInt)) (hrw : rwC m (X.1 181) p) : cdF X (rf_l (rf_l (rf_i (rf_ci X 181 182 0 0 12) 175 15 (Int32.ofNat p.length)) 175 16 lo) 175 17 hi) ∧ rcE p.length X (rf_l (rf_l (rf_i (rf_ci X 181 182 0 0 12) 175 15 (Int32.ofNat p.length)) 175 16 lo) 175 17 hi) ∧ bsC E m (rf_l (rf_l (rf_i (rf_ci X 181 182 0 0 12) 175 15 (Int32.ofNat p.length)) 175 16 lo) 175 17 hi) (some p) := by
  have cz : ∀ z, z ≠ 182 → (rf_ci X 181 182 0 0 12).1 z = X.1 z := fun z hz => by
    funext b
    show (if z = 182 then _ else X.1 z b) = _
    rw [if_neg hz]
  have c2 : ∀ j, j < 12 → (rf_ci X 181 182 0 0 12).1 182 j = X.1 181 j := fun j hj => by
    show (if (182 : Nat) = 182 then va_cpy (X.1 181) (X.1 182) (0 : Int32).toNatClampNeg (0 : Int32).toNatClampNeg (12 : Int32).toNatClampNeg j else X.1 182 j) = _
    have t0 : (0 : Int32).toNatClampNeg = 0 := by decide
    have t12 : (12 : Int32).toNatClampNeg = 12 := by decide
    rw [if_pos rfl, t0, t12]
    unfold va_cpy
    rw [if_pos (by omega), Nat.sub_zero, Nat.zero_add]
  have cl : (rf_ci X 181 182 0 0 12).2 = X.2 := rfl
  generalize rf_ci X 181 182 0 0 12 = Y at *
  generalize hZ : rf_l (rf_l (rf_i Y 175 15 (Int32.ofNat p.length)) 175 16 lo) 175 17 hi = Z
  have z1 : ∀ z, Z.1 z = if z = 175 then pu (Y.1 175) 15 (Int32.ofNat p.length) else Y.1 z := fun z => by rw [← hZ, rf_l_i, rf_l_i, rf_i_c]
  have z2 : ∀ z, Z.2 z = if z = 175 then pu (pu (Y.2 175) 16 lo) 17 hi else Y.2 z := fun z => by
    rw [← hZ, rf_l_c]
    by_cases e : z = 175
    · rw [if_pos e, if_pos e, rf_l_c, if_pos rfl, rf_i_l]
    · rw [if_neg e, if_neg e, rf_l_c, if_neg e, rf_i_l]
  have q15 : Z.1 175 15 = Int32.ofNat p.length := by rw [z1, if_pos rfl, pu_at]
  have q16 : Z.2 175 16 = lo := by rw [z2, if_pos rfl, pu_ne (by decide), pu_at]
  have q17 : Z.2 175 17 = hi := by rw [z2, if_pos rfl, pu_at]
  have q181 : Z.1 181 = X.1 181 := by rw [z1, if_neg (by decide), cz 181 (by decide)]
  refine ⟨⟨fun z h1 h2 h3 => by rw [z1, if_neg h1, cz z h3], fun k hk => by rw [z1, if_pos rfl, pu_ne hk, cz 175 (by decide)], fun z hz => by rw [z2, if_neg hz, cl], fun k h1 h2 => by rw [z2, if_pos rfl, pu_ne h2, pu_ne h1, cl]⟩, fun j _ => by rw [q181]; exact ⟨rfl, rfl⟩, q15, by rw [q16, q17]; exact hr, hp, fun j hj => ?_, by rw [q16, q17]; exact hO⟩
  have l6 := hp.1
  rw [z1, if_neg (by decide), c2 j (by omega), c2 (6 + j) (by omega)]
  exact hrw j hj
theorem mod3 : ∀ o, o < 3 → ∀ k, k < 2 → (Int32.ofNat o + Int32.ofNat (k + 1)) - (Int32.ofNat o + Int32.ofNat (k + 1)) / 3 * 3 = Int32.ofNat ((o + (k + 1)) % 3) := by decide
theorem place_c {w : rf_w} {m X : rf_m} {E : chE} {a t : Nat} {s : Int32} (ha : a < 8) (hid : eSid E = sidV m) (h : ∀ i, i < 3 → X.1 178 (3 * a + i) = sidV m t i) : g_X4_placeOf w X s (Int32.ofNat a) = some ((match plc E t s with | none => -1 | some o => Int32.ofNat o), X) := by
  have st : ∀ f i, i < 3 → g_X4_placeOf_2 w (f + 1) s (Int32.ofNat a) (Int32.ofNat i) X = @ite _ (sidV m t i = s) (Classical.propDecidable _) (some (Int32.ofNat i, X)) (g_X4_placeOf_2 w f s (Int32.ofNat a) (Int32.ofNat (i + 1)) X) := fun f i hi => by
    have g1 : ¬ (3 : Int32) ≤ Int32.ofNat i := nle (R := 3) hi (by decide)
    show g_X4_placeOf_2_b w _ _ _ _ X = _
    unfold g_X4_placeOf_2_b
    rw [if_neg g1, t3, gof (by omega) (by decide), g_t, tn_of (by omega), h i hi, of_succ]
    by_cases c : sidV m t i = s
    · rw [if_pos c, if_pos c]
    · rw [if_neg c, if_neg c]
  obtain ⟨F, hF, hFb⟩ := fuel_ex
  obtain ⟨f, rfl⟩ : ∃ f, F = f + 4 := ⟨F - 4, by omega⟩
  have en : g_X4_placeOf_2 w (f + 1) s (Int32.ofNat a) (Int32.ofNat 3) X = some (-1, X) := by
    show g_X4_placeOf_2_b w _ _ _ _ X = _
    unfold g_X4_placeOf_2_b
    have p3 : (3 : Int32) ≤ Int32.ofNat 3 := by decide
    rw [if_pos p3]
  have e0 : g_X4_placeOf w X s (Int32.ofNat a) = g_X4_placeOf_2 w (f + 4) s (Int32.ofNat a) (Int32.ofNat 0) X := by unfold g_X4_placeOf; rw [hF]; rfl
  rw [e0, st (f + 3) 0 (by decide), st (f + 2) 1 (by decide), st (f + 1) 2 (by decide), en]
  unfold plc
  rw [hid]
  by_cases c0 : sidV m t 0 = s
  · rw [if_pos c0, if_pos c0]
  · rw [if_neg c0, if_neg c0]
    by_cases c1 : sidV m t 1 = s
    · rw [if_pos c1, if_pos c1]
    · rw [if_neg c1, if_neg c1]
      by_cases c2 : sidV m t 2 = s
      · rw [if_pos c2, if_pos c2]
      · rw [if_neg c2, if_neg c2]
/-- one carrying, by the class -/
theorem carr_c {w : rf_w} {X : rf_m} {a o i : Nat} {lo hi : Int64} {SLo SMo SLi SMi : Int32} (ha : a < 8) (o3 : o < 3) (i3 : i < 3) (eo : X.1 179 (3 * a + o) = SLo ∧ X.1 180 (3 * a + o) = SMo) (ei : X.1 179 (3 * a + i) = SLi ∧ X.1 180 (3 * a + i) = SMi) (ro : 1 ≤ SLo.toInt ∧ SLo.toInt ≤ SMo.toInt ∧ SMo.toInt ≤ 1000000) (ri : 1 ≤ SLi.toInt ∧ SLi.toInt ≤ SMi.toInt ∧ SMi.toInt ≤ 1000000) (h0 : 0 ≤ lo.toInt) (h1 : lo.toInt ≤ hi.toInt) (h2 : hi.toInt ≤ 1000000000) : ∃ u v : Int64, g_X4_carriedLeast w X lo (Int32.ofNat (3 * a + i)) (Int32.ofNat (3 * a + o)) = some (u, X) ∧ g_X4_carriedMost w X hi (Int32.ofNat (3 * a + i)) (Int32.ofNat (3 * a + o)) = some (v, X) ∧ u.toInt = lo.toInt * SLi.toInt / SMo.toInt ∧ v.toInt = (hi.toInt * SMi.toInt + SLo.toInt - 1) / SLo.toInt := by
  have n1 : ¬ SMo ≤ 0 := fun z => by have := i_le.mp z; rw [i_0] at this; omega
  have n2 : ¬ SLo ≤ 0 := fun z => by have := i_le.mp z; rw [i_0] at this; omega
  have cv := carLo (a := lo) (b := Int32.toInt64 SLi) (c := Int32.toInt64 SMo) h0 (by omega) (by rw [i2l]; omega) (by rw [i2l]; omega) (by rw [i2l]; omega)
  have cw := carHi (a := hi) (b := Int32.toInt64 SMi) (c := Int32.toInt64 SLo) (by omega) h2 (by rw [i2l]; omega) (by rw [i2l]; omega) (by rw [i2l]; omega) (by rw [i2l]; omega)
  rw [i2l, i2l] at cv cw
  refine ⟨_, _, ?_, ?_, cv, cw⟩
  · unfold g_X4_carriedLeast
    rw [gof (by omega) (by decide), gof (by omega) (by decide), tn_of (by omega), tn_of (by omega), eo.2, ei.1, nzl_of (by rw [i2l]; omega)]
    simp only [g_t]
    rw [if_neg n1]
  · unfold g_X4_carriedMost
    rw [gof (by omega) (by decide), gof (by omega) (by decide), tn_of (by omega), tn_of (by omega), eo.1, ei.2, nzl_of (by rw [i2l]; omega)]
    simp only [g_t]
    rw [if_neg n2]
end PBChainY
