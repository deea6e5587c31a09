/-! bases -/
section PBBase
theorem rel_loop2 {σ β γ : Type} {Fc : Nat → Int32 → σ → Option β} {Fr : Nat → Int32 → σ → Option γ} {P : Option β → Option γ → Prop} {I : Nat → σ → Prop} {R : Nat} (stop : ∀ n s, I R s → P (Fc (n + 1) (Int32.ofNat R) s) (Fr (n + 1) (Int32.ofNat R) s)) (go : ∀ n i s, i < R → R - i ≤ n → I i s → P (Fc (n + 1) (Int32.ofNat i) s) (Fr (n + 1) (Int32.ofNat i) s) ∨ ∃ s', I (i + 1) s' ∧ Fc (n + 1) (Int32.ofNat i) s = Fc n (Int32.ofNat (i + 1)) s' ∧ Fr (n + 1) (Int32.ofNat i) s = Fr n (Int32.ofNat (i + 1)) s') : ∀ n i s, i ≤ R → R - i < n → I i s → P (Fc n (Int32.ofNat i) s) (Fr n (Int32.ofNat i) s) := by
  intro n
  induction n with
  | zero => intro i s _ h; omega
  | succ n ih =>
    intro i s h1 h2 h3
    by_cases h : i = R
    · subst h; exact stop n s h3
    · rcases go n i s (by omega) (by omega) h3 with g | ⟨s', g1, g2, g3⟩
      · exact g
      · rw [g2, g3]
        exact ih (i + 1) s' (by omega) (by omega) g1
/-- the base i lies between a and b -/
def isOfP (f g : Nat → Int32) (i : Nat) (a b : Int32) : Prop := (f i = a ∧ g i = b) ∨ (f i = b ∧ g i = a)
theorem X14_isOf {w : rf_w} {M : rf_m} {i a b : Int32} (h : rf_in i 6 = true) : g_X14_isOf w M i a b = some (bi (isOfP (M.1 236) (M.1 237) i.toNatClampNeg a b), M) := by
  refine wp_eq.mp ?_
  unfold g_X14_isOf g_X14_isOf_20
  simp only [wp_g, wp_ite, wp_some, h]
  by_cases q : isOfP (M.1 236) (M.1 237) i.toNatClampNeg a b
  · rw [bi_t q]
    unfold isOfP at q
    generalize M.1 236 i.toNatClampNeg = u at *
    generalize M.1 237 i.toNatClampNeg = v at *
    simp
    grind
  · rw [bi_f q]
    unfold isOfP at q
    generalize M.1 236 i.toNatClampNeg = u at *
    generalize M.1 237 i.toNatClampNeg = v at *
    simp
    grind
/-- a side's number -/
def sd (a b : Int32) : Int32 := (if b < a then b else a) * 32 + (if a < b then b else a)
theorem X11_sideOf {w : rf_w} {m : rf_m} {a b : Int32} : g_X11_sideOf w m a b = some (sd a b, m) := by
  refine wp_eq.mp ?_
  unfold g_X11_sideOf
  simp only [wp_b, min_eq, max_eq, wp_some]
  rfl
theorem sd_le {a b : Int32} : sd a b = (if a ≤ b then a * 32 + b else b * 32 + a) := by
  unfold sd
  by_cases h1 : a < b
  · rw [if_neg (by grind), if_pos h1, if_pos (by grind)]
  · by_cases h2 : b < a
    · rw [if_pos h2, if_neg h1, if_neg (by grind)]
    · have : a = b := by grind
      subst this
      rw [if_neg h1, if_pos (Int32.le_refl _)]
theorem sd_iff {a b c d : Int32} (ha : ib a 30) (hb : ib b 30) (hc : ib c 30) (hd : ib d 30) : sd c d = sd a b ↔ (c = a ∧ d = b) ∨ (c = b ∧ d = a) := by
  rw [sd_le, sd_le]
  unfold ib at *
  constructor
  · intro h
    split at h <;> split at h <;> grind
  · rintro (⟨rfl, rfl⟩ | ⟨rfl, rfl⟩)
    · rfl
    · split <;> split <;> grind
theorem base_same1 {w : rf_w} {M : rf_m} {a b p : Int32} (c2 : iv 0 6 (M.1 206 55)) : ∀ n i z, i ≤ (M.1 206 55).toNatClampNeg → (M.1 206 55).toNatClampNeg - i < n → g_X14_base_53 w n a b p z 1 (Int32.ofNat i) M = some (-1, rf_i (rf_i M 206 1 5) 206 2 (-1)) := by
  have hR := of_tn c2.1
  have hb : (M.1 206 55).toNatClampNeg ≤ 6 := tn_le c2.1 c2.2 (by decide)
  have o1 : ¬ (1 : Int32) = 0 := by decide
  intro n
  induction n with
  | zero => intro i z _ h; omega
  | succ n ih =>
    intro i z h1 h2
    show g_X14_base_53_b w (g_X14_base_53 w n) a b p z 1 _ M = _
    unfold g_X14_base_53_b
    by_cases h : i = (M.1 206 55).toNatClampNeg
    · rw [h, hR, if_pos (Int32.le_refl _), if_neg o1]
      rfl
    · have h3 : ¬ M.1 206 55 ≤ Int32.ofNat i := by rw [← hR]; exact nle (by omega) (by omega)
      have g : rf_in (Int32.ofNat i) 6 = true := gof (by omega) (by decide)
      rw [if_neg h3, X14_isOf g]
      unfold g_X14_base_102 g_X14_base_95 g_X14_base_100 g_X14_base_102
      simp only [rf_b, of_succ, o1, if_false]
      split
      · exact ih (i + 1) _ (by omega) (by omega)
      · exact ih (i + 1) _ (by omega) (by omega)
theorem base_eq {w : rf_w} {m M : rf_m} {a b p : Int32} (jb : JBase m) (jm : JMark m) (ha : ib a (m.1 206 4)) (hbb : ib b (m.1 206 4)) (q1 : M.1 206 55 = m.1 206 55) (q2 : M.1 236 = m.1 236) (q3 : M.1 237 = m.1 237) (q4 : M.1 238 = m.1 238) : ∃ v, g_X6_mayLay w m a b p = some (v, m) ∧ ((v = 0 ∧ g_X14_base_53 w rf_fuel a b p 0 0 0 M = some (-1, rf_i (rf_i M 206 1 5) 206 2 (-1))) ∨ (v = 1 ∧ g_X14_base_53 w rf_fuel a b p 0 0 0 M = (if (M.1 206 55) = 6 then rf_b (g_X14_refused w M 3) fun y5 m5 => some (y5, m5) else rf_g (rf_in (M.1 206 55) 6) (rf_g (rf_in ((rf_i M 236 (Int32.toNatClampNeg (M.1 206 55)) a).1 206 55) 6) (rf_g (rf_in ((rf_i (rf_i M 236 (Int32.toNatClampNeg (M.1 206 55)) a) 237 (Int32.toNatClampNeg ((rf_i M 236 (Int32.toNatClampNeg (M.1 206 55)) a).1 206 55)) b).1 206 55) 6) (rf_b (g_X14_done w (rf_i (rf_i (rf_i (rf_i M 236 (Int32.toNatClampNeg (M.1 206 55)) a) 237 (Int32.toNatClampNeg ((rf_i M 236 (Int32.toNatClampNeg (M.1 206 55)) a).1 206 55)) b) 238 (Int32.toNatClampNeg ((rf_i (rf_i M 236 (Int32.toNatClampNeg (M.1 206 55)) a) 237 (Int32.toNatClampNeg ((rf_i M 236 (Int32.toNatClampNeg (M.1 206 55)) a).1 206 55)) b).1 206 55)) p) 206 55 (((rf_i (rf_i (rf_i M 236 (Int32.toNatClampNeg (M.1 206 55)) a) 237 (Int32.toNatClampNeg ((rf_i M 236 (Int32.toNatClampNeg (M.1 206 55)) a).1 206 55)) b) 238 (Int32.toNatClampNeg ((rf_i (rf_i M 236 (Int32.toNatClampNeg (M.1 206 55)) a) 237 (Int32.toNatClampNeg ((rf_i M 236 (Int32.toNatClampNeg (M.1 206 55)) a).1 206 55)) b).1 206 55)) p).1 206 55) + 1)) (((rf_i (rf_i (rf_i (rf_i M 236 (Int32.toNatClampNeg (M.1 206 55)) a) 237 (Int32.toNatClampNeg ((rf_i M 236 (Int32.toNatClampNeg (M.1 206 55)) a).1 206 55)) b) 238 (Int32.toNatClampNeg ((rf_i (rf_i M 236 (Int32.toNatClampNeg (M.1 206 55)) a) 237 (Int32.toNatClampNeg ((rf_i M 236 (Int32.toNatClampNeg (M.1 206 55)) a).1 206 55)) b).1 206 55)) p) 206 55 (((rf_i (rf_i (rf_i M 236 (Int32.toNatClampNeg (M.1 206 55)) a) 237 (Int32.toNatClampNeg ((rf_i M 236 (Int32.toNatClampNeg (M.1 206 55)) a).1 206 55)) b) 238 (Int32.toNatClampNeg ((rf_i (rf_i M 236 (Int32.toNatClampNeg (M.1 206 55)) a) 237 (Int32.toNatClampNeg ((rf_i M 236 (Int32.toNatClampNeg (M.1 206 55)) a).1 206 55)) b).1 206 55)) p).1 206 55) + 1)).1 206 55) - 1)) fun y4 m4 => some (y4, m4))))))) := by
  obtain ⟨c1, c2, c3, c4, c5, c6, c7, c8, c9, ca, cb, cc⟩ := jb
  have m2 := jm.2.1
  have hR := of_tn c2.1
  have hb : (m.1 206 55).toNatClampNeg ≤ 6 := tn_le c2.1 c2.2 (by decide)
  refine rel_loop2 (Fc := fun n i (s : Int32) => g_X6_mayLay_6 w n a b p s i m) (Fr := fun n i (s : Int32) => g_X14_base_53 w n a b p s 0 i M) (P := fun x z => ∃ v, x = some (v, m) ∧ ((v = 0 ∧ z = some (-1, rf_i (rf_i M 206 1 5) 206 2 (-1))) ∨ (v = 1 ∧ z = (if (M.1 206 55) = 6 then rf_b (g_X14_refused w M 3) fun y5 m5 => some (y5, m5) else rf_g (rf_in (M.1 206 55) 6) (rf_g (rf_in ((rf_i M 236 (Int32.toNatClampNeg (M.1 206 55)) a).1 206 55) 6) (rf_g (rf_in ((rf_i (rf_i M 236 (Int32.toNatClampNeg (M.1 206 55)) a) 237 (Int32.toNatClampNeg ((rf_i M 236 (Int32.toNatClampNeg (M.1 206 55)) a).1 206 55)) b).1 206 55) 6) (rf_b (g_X14_done w (rf_i (rf_i (rf_i (rf_i M 236 (Int32.toNatClampNeg (M.1 206 55)) a) 237 (Int32.toNatClampNeg ((rf_i M 236 (Int32.toNatClampNeg (M.1 206 55)) a).1 206 55)) b) 238 (Int32.toNatClampNeg ((rf_i (rf_i M 236 (Int32.toNatClampNeg (M.1 206 55)) a) 237 (Int32.toNatClampNeg ((rf_i M 236 (Int32.toNatClampNeg (M.1 206 55)) a).1 206 55)) b).1 206 55)) p) 206 55 (((rf_i (rf_i (rf_i M 236 (Int32.toNatClampNeg (M.1 206 55)) a) 237 (Int32.toNatClampNeg ((rf_i M 236 (Int32.toNatClampNeg (M.1 206 55)) a).1 206 55)) b) 238 (Int32.toNatClampNeg ((rf_i (rf_i M 236 (Int32.toNatClampNeg (M.1 206 55)) a) 237 (Int32.toNatClampNeg ((rf_i M 236 (Int32.toNatClampNeg (M.1 206 55)) a).1 206 55)) b).1 206 55)) p).1 206 55) + 1)) (((rf_i (rf_i (rf_i (rf_i M 236 (Int32.toNatClampNeg (M.1 206 55)) a) 237 (Int32.toNatClampNeg ((rf_i M 236 (Int32.toNatClampNeg (M.1 206 55)) a).1 206 55)) b) 238 (Int32.toNatClampNeg ((rf_i (rf_i M 236 (Int32.toNatClampNeg (M.1 206 55)) a) 237 (Int32.toNatClampNeg ((rf_i M 236 (Int32.toNatClampNeg (M.1 206 55)) a).1 206 55)) b).1 206 55)) p) 206 55 (((rf_i (rf_i (rf_i M 236 (Int32.toNatClampNeg (M.1 206 55)) a) 237 (Int32.toNatClampNeg ((rf_i M 236 (Int32.toNatClampNeg (M.1 206 55)) a).1 206 55)) b) 238 (Int32.toNatClampNeg ((rf_i (rf_i M 236 (Int32.toNatClampNeg (M.1 206 55)) a) 237 (Int32.toNatClampNeg ((rf_i M 236 (Int32.toNatClampNeg (M.1 206 55)) a).1 206 55)) b).1 206 55)) p).1 206 55) + 1)).1 206 55) - 1)) fun y4 m4 => some (y4, m4)))))))) (I := fun _ s => True) (R := (m.1 206 55).toNatClampNeg) (fun n s _ => ?_) (fun n i s hi hf _ => ?_) rf_fuel 0 0 (by omega) (by unfold rf_fuel; omega) trivial
  · show ∃ v, g_X6_mayLay_6_b w _ a b p s _ m = _ ∧ ((v = 0 ∧ g_X14_base_53_b w _ a b p s 0 _ M = _) ∨ (v = 1 ∧ g_X14_base_53_b w _ a b p s 0 _ M = _))
    unfold g_X6_mayLay_6_b g_X14_base_53_b
    have hA : m.1 41 1 ≤ m.1 206 55 := by rw [c1]; exact Int32.le_refl _
    have hB : M.1 206 55 ≤ m.1 206 55 := by rw [q1]; exact Int32.le_refl _
    have o0 : (0 : Int32) = 0 := rfl
    rw [hR, if_pos hA, if_pos hB, if_pos o0]
    by_cases h : 2 ≤ s
    · have h' : ¬ s ≤ 1 := by grind
      rw [if_pos h, if_neg h']
      exact ⟨0, rfl, Or.inl ⟨rfl, rfl⟩⟩
    · have h' : s ≤ 1 := by grind
      rw [if_neg h, if_pos h']
      exact ⟨1, rfl, Or.inr ⟨rfl, rfl⟩⟩
  · have h1 : ¬ m.1 206 55 ≤ Int32.ofNat i := by rw [← hR]; exact nle hi (by omega)
    have g : rf_in (Int32.ofNat i) 6 = true := gof (by omega) (by decide)
    have t : (Int32.ofNat i).toNatClampNeg = i := tn_of (by omega)
    obtain ⟨z1, z2, z3, z4⟩ := cb i hi
    have iff : m.1 43 i = sd a b ↔ isOfP (m.1 236) (m.1 237) i a b := by
      rw [z4, ← sd_le]
      exact sd_iff (by unfold ib iv at *; grind) (by unfold ib iv at *; grind) (by unfold ib iv at *; grind) (by unfold ib iv at *; grind)
    show (∃ v, g_X6_mayLay_6_b w (g_X6_mayLay_6 w n) a b p s _ m = _ ∧ ((v = 0 ∧ g_X14_base_53_b w (g_X14_base_53 w n) a b p s 0 _ M = _) ∨ (v = 1 ∧ g_X14_base_53_b w (g_X14_base_53 w n) a b p s 0 _ M = _))) ∨ (∃ s' : Int32, True ∧ g_X6_mayLay_6_b w (g_X6_mayLay_6 w n) a b p s _ m = _ ∧ g_X14_base_53_b w (g_X14_base_53 w n) a b p s 0 _ M = _)
    unfold g_X6_mayLay_6_b g_X14_base_53_b
    have o0 : (0 : Int32) = 0 := rfl
    rw [c1, q1, if_neg h1, if_neg h1, X14_isOf g, X11_sideOf, g, t, q2, q3]
    simp only [g_t, rf_b, g_X6_mayLay_46, g_X14_base_102, g_X14_base_95, g_X14_base_100, of_succ, if_true, q4, c5]
    by_cases hP : isOfP (m.1 236) (m.1 237) i a b
    · rw [bi_t hP, if_pos (iff.mpr hP), if_neg (show ¬ (1 : Int32) = 0 by decide)]
      by_cases hp : m.1 238 i = p
      · rw [if_pos hp, if_pos hp]
        refine Or.inl ⟨0, rfl, Or.inl ⟨rfl, ?_⟩⟩
        exact base_same1 (by rw [q1]; exact c2) n (i + 1) _ (by rw [q1]; omega) (by rw [q1]; omega)
      · rw [if_neg hp, if_neg hp]
        exact Or.inr ⟨s + 1, trivial, rfl, rfl⟩
    · rw [bi_f hP, if_neg (fun e => hP (iff.mp e)), if_pos o0]
      exact Or.inr ⟨s, trivial, rfl, rfl⟩

theorem k20 {w : rf_w} {m : rf_m} {y : Nat → Int32} (jm : JMark m) (jp : JParty m) (jt : JT m) (jbase : JBase m) : wp (g_lc_20 w m y) (fun r => r.1 = w ∧ JT r.2 ∧ JBase r.2) := by
  unfold g_lc_20 g_X11_base g_X14_base
  obtain ⟨t1, t2, t3⟩ := jt
  have jb' := jbase
  obtain ⟨c1, c2, c3, c4, c5, c6, c7, c8, c9, ca, cb, cc⟩ := jbase
  have m1 := jm.1
  have p1 := jp.1
  have o1 : ¬ (1 : Int32) = 0 := by decide
  by_cases h1 : ib (y 1) (m.1 206 4)
  · by_cases h2 : ib (y 2) (m.1 206 4)
    · by_cases h3 : ib (y 3) (m.1 206 15)
      · by_cases h4 : y 1 = y 2
        · have e2 : ∀ M : rf_m, M.1 206 55 = m.1 206 55 → g_X14_base_53 w rf_fuel (y 1) (y 2) (y 3) 0 1 0 M = some (-1, rf_i (rf_i M 206 1 5) 206 2 (-1)) := by
            intro M q1
            have hb : (M.1 206 55).toNatClampNeg ≤ 6 := by rw [q1]; exact tn_le c2.1 c2.2 (by decide)
            exact base_same1 (by rw [q1]; exact c2) rf_fuel 0 0 (by omega) (by unfold rf_fuel; omega)
          rw [h4] at e2
          simp [wp_b, wp_bv, wp_g, wp_ite, wp_some, wp_vi, wp_vl, X11_isCell, X11_isWithin, X11_isDay, X11_isHour, X11_isTime, X5_isMark, X5_isPair, X3_isParty, X3_isAngle, X3_isReading, X6_isBase, X7_isTriangle, X14_isCell, X14_in, X14_isMark, X14_isDay, X14_isHour, X14_isParty, X14_isAngle, X14_isReading, X14_isBase, X14_isTriangle, g_X11_denied, g_X11_granted, g_X11_refused, g_X11_answered, g_X14_denied, g_X14_granted, g_X14_refused, g_X14_done, bi_eq0, bi_01, rf01_0, rf01_1, rf_i_c, rf_i_l, pu, h1, h2, h3, h4, e2, g_X14_base_48, JT, JBase, t1, t2, c1, c3, c5, c6, c7, c8, c9, m1, p1]
          exact ⟨c2, c4, ca, cb, cc⟩
        · obtain ⟨v, e1, _⟩ := base_eq (w := w) (m := m) (M := m) (p := y 3) jb' jm h1 h2 rfl rfl rfl rfl
          have e2 : ∀ M : rf_m, M.1 206 55 = m.1 206 55 → M.1 236 = m.1 236 → M.1 237 = m.1 237 → M.1 238 = m.1 238 → (v = 0 ∧ g_X14_base_53 w rf_fuel (y 1) (y 2) (y 3) 0 0 0 M = some (-1, rf_i (rf_i M 206 1 5) 206 2 (-1))) ∨ (v = 1 ∧ g_X14_base_53 w rf_fuel (y 1) (y 2) (y 3) 0 0 0 M = (if (M.1 206 55) = 6 then rf_b (g_X14_refused w M 3) fun y5 m5 => some (y5, m5) else rf_g (rf_in (M.1 206 55) 6) (rf_g (rf_in ((rf_i M 236 (Int32.toNatClampNeg (M.1 206 55)) (y 1)).1 206 55) 6) (rf_g (rf_in ((rf_i (rf_i M 236 (Int32.toNatClampNeg (M.1 206 55)) (y 1)) 237 (Int32.toNatClampNeg ((rf_i M 236 (Int32.toNatClampNeg (M.1 206 55)) (y 1)).1 206 55)) (y 2)).1 206 55) 6) (rf_b (g_X14_done w (rf_i (rf_i (rf_i (rf_i M 236 (Int32.toNatClampNeg (M.1 206 55)) (y 1)) 237 (Int32.toNatClampNeg ((rf_i M 236 (Int32.toNatClampNeg (M.1 206 55)) (y 1)).1 206 55)) (y 2)) 238 (Int32.toNatClampNeg ((rf_i (rf_i M 236 (Int32.toNatClampNeg (M.1 206 55)) (y 1)) 237 (Int32.toNatClampNeg ((rf_i M 236 (Int32.toNatClampNeg (M.1 206 55)) (y 1)).1 206 55)) (y 2)).1 206 55)) (y 3)) 206 55 (((rf_i (rf_i (rf_i M 236 (Int32.toNatClampNeg (M.1 206 55)) (y 1)) 237 (Int32.toNatClampNeg ((rf_i M 236 (Int32.toNatClampNeg (M.1 206 55)) (y 1)).1 206 55)) (y 2)) 238 (Int32.toNatClampNeg ((rf_i (rf_i M 236 (Int32.toNatClampNeg (M.1 206 55)) (y 1)) 237 (Int32.toNatClampNeg ((rf_i M 236 (Int32.toNatClampNeg (M.1 206 55)) (y 1)).1 206 55)) (y 2)).1 206 55)) (y 3)).1 206 55) + 1)) (((rf_i (rf_i (rf_i (rf_i M 236 (Int32.toNatClampNeg (M.1 206 55)) (y 1)) 237 (Int32.toNatClampNeg ((rf_i M 236 (Int32.toNatClampNeg (M.1 206 55)) (y 1)).1 206 55)) (y 2)) 238 (Int32.toNatClampNeg ((rf_i (rf_i M 236 (Int32.toNatClampNeg (M.1 206 55)) (y 1)) 237 (Int32.toNatClampNeg ((rf_i M 236 (Int32.toNatClampNeg (M.1 206 55)) (y 1)).1 206 55)) (y 2)).1 206 55)) (y 3)) 206 55 (((rf_i (rf_i (rf_i M 236 (Int32.toNatClampNeg (M.1 206 55)) (y 1)) 237 (Int32.toNatClampNeg ((rf_i M 236 (Int32.toNatClampNeg (M.1 206 55)) (y 1)).1 206 55)) (y 2)) 238 (Int32.toNatClampNeg ((rf_i (rf_i M 236 (Int32.toNatClampNeg (M.1 206 55)) (y 1)) 237 (Int32.toNatClampNeg ((rf_i M 236 (Int32.toNatClampNeg (M.1 206 55)) (y 1)).1 206 55)) (y 2)).1 206 55)) (y 3)).1 206 55) + 1)).1 206 55) - 1)) fun y4 m4 => some (y4, m4)))))) := by
            intro M q1 q2 q3 q4
            obtain ⟨v', e3, e4⟩ := base_eq (w := w) (p := y 3) jb' jm h1 h2 q1 q2 q3 q4
            rw [e1] at e3
            have : v = v' := (Prod.mk.inj (Option.some.inj e3)).1
            rw [this]; exact e4
          rcases e2 m rfl rfl rfl rfl with ⟨rfl, _⟩ | ⟨rfl, _⟩
          · have e5 : ∀ M : rf_m, M.1 206 55 = m.1 206 55 → M.1 236 = m.1 236 → M.1 237 = m.1 237 → M.1 238 = m.1 238 → g_X14_base_53 w rf_fuel (y 1) (y 2) (y 3) 0 0 0 M = some (-1, rf_i (rf_i M 206 1 5) 206 2 (-1)) := by
              intro M q1 q2 q3 q4
              rcases e2 M q1 q2 q3 q4 with ⟨_, h⟩ | ⟨h, _⟩
              · exact h
              · exact absurd h (by decide)
            clear e2
            simp [wp_b, wp_bv, wp_g, wp_ite, wp_some, wp_vi, wp_vl, X11_isCell, X11_isWithin, X11_isDay, X11_isHour, X11_isTime, X5_isMark, X5_isPair, X3_isParty, X3_isAngle, X3_isReading, X6_isBase, X7_isTriangle, X14_isCell, X14_in, X14_isMark, X14_isDay, X14_isHour, X14_isParty, X14_isAngle, X14_isReading, X14_isBase, X14_isTriangle, g_X11_denied, g_X11_granted, g_X11_refused, g_X11_answered, g_X14_denied, g_X14_granted, g_X14_refused, g_X14_done, bi_eq0, bi_01, rf01_0, rf01_1, rf_i_c, rf_i_l, pu, h1, h2, h3, h4, e1, e5, g_X14_base_48, JT, JBase, t1, t2, c1, c3, c5, c6, c7, c8, c9, m1, p1]
            exact ⟨c2, c4, ca, cb, cc⟩
          · by_cases h5 : m.1 206 55 = 6
            · have hx : ¬ m.1 206 55 < 6 := by rw [h5]; decide
              have hx2 : 6 ≤ m.1 206 55 := by rw [h5]; decide
              have e5 : ∀ M : rf_m, M.1 206 55 = m.1 206 55 → M.1 236 = m.1 236 → M.1 237 = m.1 237 → M.1 238 = m.1 238 → g_X14_base_53 w rf_fuel (y 1) (y 2) (y 3) 0 0 0 M = some (-1, rf_i (rf_i M 206 1 3) 206 2 (-1)) := by
                intro M q1 q2 q3 q4
                rcases e2 M q1 q2 q3 q4 with ⟨h, _⟩ | ⟨_, h⟩
                · exact absurd h (by decide)
                · rw [h, if_pos (by rw [q1, h5])]
                  rfl
              clear e2
              simp [wp_b, wp_bv, wp_g, wp_ite, wp_some, wp_vi, wp_vl, X11_isCell, X11_isWithin, X11_isDay, X11_isHour, X11_isTime, X5_isMark, X5_isPair, X3_isParty, X3_isAngle, X3_isReading, X6_isBase, X7_isTriangle, X14_isCell, X14_in, X14_isMark, X14_isDay, X14_isHour, X14_isParty, X14_isAngle, X14_isReading, X14_isBase, X14_isTriangle, g_X11_denied, g_X11_granted, g_X11_refused, g_X11_answered, g_X14_denied, g_X14_granted, g_X14_refused, g_X14_done, bi_eq0, bi_01, rf01_0, rf01_1, rf_i_c, rf_i_l, pu, h1, h2, h3, h4, e1, e5, eq_true h5, hx, hx2, g_X14_base_48, JT, JBase, t1, t2, c1, c3, c5, c6, c7, c8, c9, m1, p1]
              exact ⟨c2, c4, ca, cb, cc⟩
            · have hx : m.1 206 55 < 6 := by grind [iv]
              have hx2 : ¬ 6 ≤ m.1 206 55 := by grind [iv]
              have g : rf_in (m.1 206 55) 6 = true := gin c2.1 hx (by decide)
              have e5 : ∀ M : rf_m, M.1 206 55 = m.1 206 55 → M.1 236 = m.1 236 → M.1 237 = m.1 237 → M.1 238 = m.1 238 → g_X14_base_53 w rf_fuel (y 1) (y 2) (y 3) 0 0 0 M = some (m.1 206 55 + 1 - 1, rf_i (rf_i (rf_i (rf_i (rf_i (rf_i M 236 (m.1 206 55).toNatClampNeg (y 1)) 237 (m.1 206 55).toNatClampNeg (y 2)) 238 (m.1 206 55).toNatClampNeg (y 3)) 206 55 (m.1 206 55 + 1)) 206 1 0) 206 2 (-1)) := by
                intro M q1 q2 q3 q4
                rcases e2 M q1 q2 q3 q4 with ⟨h, _⟩ | ⟨_, h⟩
                · exact absurd h (by decide)
                · rw [h, if_neg (by rw [q1]; exact h5)]
                  simp [rf_i_c, pu, q1, g, g_t, rf_b, g_X14_done]
              clear e2
              simp [wp_b, wp_bv, wp_g, wp_ite, wp_some, wp_vi, wp_vl, X11_isCell, X11_isWithin, X11_isDay, X11_isHour, X11_isTime, X5_isMark, X5_isPair, X3_isParty, X3_isAngle, X3_isReading, X6_isBase, X7_isTriangle, X14_isCell, X14_in, X14_isMark, X14_isDay, X14_isHour, X14_isParty, X14_isAngle, X14_isReading, X14_isBase, X14_isTriangle, g_X11_denied, g_X11_granted, g_X11_refused, g_X11_answered, g_X14_denied, g_X14_granted, g_X14_refused, g_X14_done, bi_eq0, bi_01, rf01_0, rf01_1, rf_i_c, rf_i_l, pu, h1, h2, h3, h4, e1, e5, h5, hx, hx2, g, g_X14_base_48, g_X6_addBase, X11_sideOf, JT, JBase, t1, t2, c1, c3, c5, c6, c7, c8, c9, m1, p1]
              refine ⟨by grind [iv], c4, ca, all_succ c2.1 (by grind [iv]) (fun i hi => ?_) ?_, cc⟩
              · have := cb i hi
                have e : i ≠ (m.1 206 55).toNatClampNeg := by omega
                simpa [e] using this
              · unfold ib at h1 h2
                simp [h1, h2, h4, sd_le]
      · simp [wp_b, wp_bv, wp_g, wp_ite, wp_some, wp_vi, wp_vl, X11_isCell, X11_isWithin, X11_isDay, X11_isHour, X11_isTime, X5_isMark, X5_isPair, X3_isParty, X3_isAngle, X3_isReading, X6_isBase, X7_isTriangle, X14_isCell, X14_in, X14_isMark, X14_isDay, X14_isHour, X14_isParty, X14_isAngle, X14_isReading, X14_isBase, X14_isTriangle, g_X11_denied, g_X11_granted, g_X11_refused, g_X11_answered, g_X14_denied, g_X14_granted, g_X14_refused, g_X14_done, bi_eq0, bi_01, rf01_0, rf01_1, rf_i_c, rf_i_l, pu, h1, h2, h3, JT, JBase, t1, t2, c1, c3, c5, c6, c7, c8, c9, m1, p1]
        exact ⟨c2, c4, ca, cb, cc⟩
    · simp [wp_b, wp_bv, wp_g, wp_ite, wp_some, wp_vi, wp_vl, X11_isCell, X11_isWithin, X11_isDay, X11_isHour, X11_isTime, X5_isMark, X5_isPair, X3_isParty, X3_isAngle, X3_isReading, X6_isBase, X7_isTriangle, X14_isCell, X14_in, X14_isMark, X14_isDay, X14_isHour, X14_isParty, X14_isAngle, X14_isReading, X14_isBase, X14_isTriangle, g_X11_denied, g_X11_granted, g_X11_refused, g_X11_answered, g_X14_denied, g_X14_granted, g_X14_refused, g_X14_done, bi_eq0, bi_01, rf01_0, rf01_1, rf_i_c, rf_i_l, pu, h1, h2, JT, JBase, t1, t2, c1, c3, c5, c6, c7, c8, c9, m1, p1]
      exact ⟨c2, c4, ca, cb, cc⟩
  · simp [wp_b, wp_bv, wp_g, wp_ite, wp_some, wp_vi, wp_vl, X11_isCell, X11_isWithin, X11_isDay, X11_isHour, X11_isTime, X5_isMark, X5_isPair, X3_isParty, X3_isAngle, X3_isReading, X6_isBase, X7_isTriangle, X14_isCell, X14_in, X14_isMark, X14_isDay, X14_isHour, X14_isParty, X14_isAngle, X14_isReading, X14_isBase, X14_isTriangle, g_X11_denied, g_X11_granted, g_X11_refused, g_X11_answered, g_X14_denied, g_X14_granted, g_X14_refused, g_X14_done, bi_eq0, bi_01, rf01_0, rf01_1, rf_i_c, rf_i_l, pu, h1, JT, JBase, t1, t2, c1, c3, c5, c6, c7, c8, c9, m1, p1]
    exact ⟨c2, c4, ca, cb, cc⟩
end PBBase
