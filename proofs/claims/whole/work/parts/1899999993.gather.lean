/-! chains: the triangles that are well, and those that carry -/
section PBGather
noncomputable def fl (P : Nat → Prop) (n : Nat) : List Nat := (List.range n).filter (fun t => @decide (P t) (Classical.propDecidable _))
theorem fl_mem {P : Nat → Prop} {n t : Nat} : t ∈ fl P n ↔ t < n ∧ P t := by
  unfold fl
  rw [List.mem_filter, List.mem_range, @decide_eq_true_eq _ (Classical.propDecidable _)]
theorem fl_nd {P : Nat → Prop} {n : Nat} : (fl P n).Nodup := List.nodup_range.filter _
theorem fl_t {P : Nat → Prop} {n : Nat} (h : P n) : fl P (n + 1) = fl P n ++ [n] := by
  unfold fl
  rw [List.range_succ, List.filter_append]
  congr 1
  have : @decide (P n) (Classical.propDecidable _) = true := @decide_eq_true _ (Classical.propDecidable _) h
  simp [this]
theorem fl_f {P : Nat → Prop} {n : Nat} (h : ¬ P n) : fl P (n + 1) = fl P n := by
  unfold fl
  rw [List.range_succ, List.filter_append]
  have : @decide (P n) (Classical.propDecidable _) = false := @decide_eq_false _ (Classical.propDecidable _) h
  simp [this]
theorem fl_le {P : Nat → Prop} {n : Nat} : ∀ k, (fl P n).length ≤ (fl P (n + k)).length := by
  intro k
  induction k with
  | zero => exact Nat.le_refl _
  | succ k ih =>
    refine Nat.le_trans ih ?_
    rw [← Nat.add_assoc]
    by_cases h : P (n + k)
    · rw [fl_t h, List.length_append]; omega
    · rw [fl_f h]; exact Nat.le_refl _
theorem fl_imp {P Q : Nat → Prop} (h : ∀ t, Q t → P t) : ∀ n, (fl Q n).length ≤ (fl P n).length := by
  intro n
  induction n with
  | zero => exact Nat.le_refl _
  | succ n ih =>
    by_cases q : Q n
    · rw [fl_t q, fl_t (h n q), List.length_append, List.length_append]; exact Nat.succ_le_succ ih
    · rw [fl_f q]
      by_cases p : P n
      · rw [fl_t p, List.length_append]; omega
      · rw [fl_f p]; exact ih
theorem fl_len {P : Nat → Prop} : ∀ n, (fl P n).length ≤ n := by
  intro n
  induction n with
  | zero => exact Nat.le_refl _
  | succ n ih =>
    by_cases p : P n
    · rw [fl_t p, List.length_append]; show _ + 1 ≤ _; omega
    · rw [fl_f p]; omega
/-- the class's rows of those that carry -/
def chR (w : rf_w) (m X : rf_m) (A : List Nat) : Prop := X.1 175 8 = Int32.ofNat A.length ∧ ∀ a (h : a < A.length), X.1 177 a = Int32.ofNat A[a] ∧ ∀ i, i < 3 → X.1 178 (3 * a + i) = sidV m A[a] i ∧ X.1 179 (3 * a + i) = sLv w m (cnr m A[a] i) ∧ X.1 180 (3 * a + i) = sMv w m (cnr m A[a] i)
def guF (X X' : rf_m) : Prop := (∀ z, z ≠ 175 → (z < 177 ∨ 180 < z) → X'.1 z = X.1 z) ∧ (∀ k, k ≠ 8 → X'.1 175 k = X.1 175 k) ∧ X'.2 = X.2
theorem guF_refl (X : rf_m) : guF X X := ⟨fun _ _ _ => rfl, fun _ _ => rfl, rfl⟩
theorem guF_trans {A B C : rf_m} (h1 : guF A B) (h2 : guF B C) : guF A C := ⟨fun z a b => (h2.1 z a b).trans (h1.1 z a b), fun k a => (h2.2.1 k a).trans (h1.2.1 k a), h2.2.2.trans h1.2.2⟩
/-- rows of a new triangle, so far -/
def tkF (w : rf_w) (m X Y : rf_m) (a t i : Nat) : Prop := (∀ z, z < 178 ∨ 180 < z → Y.1 z = X.1 z) ∧ Y.2 = X.2 ∧ (∀ j, j < 3 * a → Y.1 178 j = X.1 178 j ∧ Y.1 179 j = X.1 179 j ∧ Y.1 180 j = X.1 180 j) ∧ ∀ k, k < i → Y.1 178 (3 * a + k) = sidV m t k ∧ Y.1 179 (3 * a + k) = sLv w m (cnr m t k) ∧ Y.1 180 (3 * a + k) = sMv w m (cnr m t k)
theorem takeUp_c {c t : Nat} {w : rf_w} {m X : rf_m} {A : List Nat} (J : JCnt c w m) (jn : JNet m) (h : clA w m X) (hA : chR w m X A) (l8 : A.length < 8) (ht : t < (m.1 206 64).toNatClampNeg) (hb : abP w m t) : ∃ X', g_X4_takeUp w X (Int32.ofNat t) = some X' ∧ chR w m X' (A ++ [t]) ∧ guF X X' := by
  have ja := J.2.2.2.2.1
  have n30 := (net30 jn).1
  obtain ⟨F, hF, hFb⟩ := fuel_ex
  have gm : ∀ (Y : rf_m) (u v : Int32), g_min w Y u v = some (if v < u then v else u, Y) := fun Y u v => by unfold g_min; split <;> rfl
  have gx : ∀ (Y : rf_m) (u v : Int32), g_max w Y u v = some (if u < v then v else u, Y) := fun Y u v => by unfold g_max; split <;> rfl
  have key : ∀ n f i (Y : rf_m), i + n = 3 → n < f → tkF w m X Y A.length t i → ∃ Y', g_X4_takeUp_2 w f (Int32.ofNat t) (Int32.ofNat i) Y = some (rf_i (rf_i Y' 177 A.length (Int32.ofNat t)) 175 8 (Int32.ofNat (A.length + 1))) ∧ tkF w m X Y' A.length t 3 := by
    intro n
    induction n with
    | zero =>
      intro f i Y hi hf hY
      obtain ⟨f, rfl⟩ : ∃ g, f = g + 1 := ⟨f - 1, by omega⟩
      have e : i = 3 := by omega
      subst e
      refine ⟨Y, ?_, hY⟩
      have y8 : Y.1 175 8 = Int32.ofNat A.length := by rw [hY.1 175 (by omega)]; exact hA.1
      have y8' : (rf_i Y 177 A.length (Int32.ofNat t)).1 175 8 = Int32.ofNat A.length := by rw [rf_i_c, if_neg (by decide)]; exact y8
      show g_X4_takeUp_2_b w _ _ _ Y = _
      unfold g_X4_takeUp_2_b
      have p3 : (3 : Int32) ≤ Int32.ofNat 3 := by decide
      rw [if_pos p3, y8, gof (by omega) (by decide), g_t, tn_of (by omega), y8', of_succ]
    | succ n ih =>
      intro f i Y hi hf hY
      obtain ⟨f, rfl⟩ : ∃ g, f = g + 1 := ⟨f - 1, by omega⟩
      have i3 : i < 3 := by omega
      have g1 : ¬ (3 : Int32) ≤ Int32.ofNat i := nle (R := 3) i3 (by decide)
      have hYA : clA w m Y := clA_e h (fun z hz => hY.1 z (by omega))
      obtain ⟨q1, q2⟩ := net_t jn ja ht i3
      have ta := hYA.2.2.2.2 _ q2
      have l2 := tly_c (w := w) (X := Y) (k := 2) q1 (by decide) (by decide)
      have l3 := tly_c (w := w) (X := Y) (k := 3) q1 (by decide) (by decide)
      rw [ta.2.2.1] at l2
      rw [ta.2.2.2.1] at l3
      have l2 : g_X3_tallyOf w Y (m.1 243 (3 * t + i)) 2 = some (loV w m 9999 (cnr m t i), Y) := l2
      have l3 : g_X3_tallyOf w Y (m.1 243 (3 * t + i)) 3 = some (hiV w m 9999 (cnr m t i), Y) := l3
      obtain ⟨c1, c2, c3⟩ := car_I J (hb i i3)
      have c1 : 36000 ≤ (loV w m 9999 (cnr m t i)).toInt := c1
      have c2 : (loV w m 9999 (cnr m t i)).toInt ≤ (hiV w m 9999 (cnr m t i)).toInt := c2
      have c3 : (hiV w m 9999 (cnr m t i)).toInt ≤ 6444000 := c3
      have t1 := ten_I (t := loV w m 9999 (cnr m t i)) (by omega)
      have t2 := ten_I (t := hiV w m 9999 (cnr m t i)) (by omega)
      have s1 := X11_sineOf (w := w) (m := Y) (s := loV w m 9999 (cnr m t i) / 10) (by omega) (by omega)
      have s2 := X11_sineOf (w := w) (m := Y) (s := hiV w m 9999 (cnr m t i) / 10) (by omega) (by omega)
      have y8 : Y.1 175 8 = Int32.ofNat A.length := by rw [hY.1 175 (by omega)]; exact hA.1
      have op := opp_c (w := w) jn ja ht i3 (clA_g hYA)
      have eS : (if sn (hiV w m 9999 (cnr m t i) / 10) < sn (loV w m 9999 (cnr m t i) / 10) then sn (hiV w m 9999 (cnr m t i) / 10) else sn (loV w m 9999 (cnr m t i) / 10)) = sLv w m (cnr m t i) := rfl
      have eM1 : (324000 < loV w m 9999 (cnr m t i) / 10 ∨ hiV w m 9999 (cnr m t i) / 10 < 324000) → (if sn (loV w m 9999 (cnr m t i) / 10) < sn (hiV w m 9999 (cnr m t i) / 10) then sn (hiV w m 9999 (cnr m t i) / 10) else sn (loV w m 9999 (cnr m t i) / 10)) = sMv w m (cnr m t i) := fun z => by unfold sMv; rw [if_pos z]
      have eM2 : ¬ (324000 < loV w m 9999 (cnr m t i) / 10 ∨ hiV w m 9999 (cnr m t i) / 10 < 324000) → sn 324000 = sMv w m (cnr m t i) := fun z => by unfold sMv; rw [if_neg z]
      -- both ends
      have g24 := gof (n := 3 * A.length + i) (N := 24) (by omega) (by decide)
      have en : ∀ (s0 : Int32), (s0 = 0 → 324000 < loV w m 9999 (cnr m t i) / 10 ∨ hiV w m 9999 (cnr m t i) / 10 < 324000) → (s0 ≠ 0 → ¬ (324000 < loV w m 9999 (cnr m t i) / 10 ∨ hiV w m 9999 (cnr m t i) / 10 < 324000)) → ∃ Y', g_X4_takeUp_78 w (g_X4_takeUp_2 w f) (Int32.ofNat t) (Int32.ofNat i) (sn (loV w m 9999 (cnr m t i) / 10)) (sn (hiV w m 9999 (cnr m t i) / 10)) s0 Y = some (rf_i (rf_i Y' 177 A.length (Int32.ofNat t)) 175 8 (Int32.ofNat (A.length + 1))) ∧ tkF w m X Y' A.length t 3 := by
        intro s0 h0 h1
        unfold g_X4_takeUp_78 g_X4_takeUp_154
        have a8 : (rf_i Y 178 (3 * A.length + i) (sidV m t i)).1 175 8 = Int32.ofNat A.length := by rw [rf_i_c, if_neg (by decide)]; exact y8
        have a8' : (rf_i (rf_i Y 178 (3 * A.length + i) (sidV m t i)) 179 (3 * A.length + i) (sLv w m (cnr m t i))).1 175 8 = Int32.ofNat A.length := by rw [rf_i_c, if_neg (by decide)]; exact a8
        rw [op, b_sm, y8, t3, g24, g_t, tn_of (by omega), gm, b_sm, eS, a8, t3, g24, g_t, tn_of (by omega)]
        have fin : ∀ v, v = sMv w m (cnr m t i) → ∃ Y', g_X4_takeUp_2 w f (Int32.ofNat t) (Int32.ofNat i + 1) (rf_i (rf_i (rf_i Y 178 (3 * A.length + i) (sidV m t i)) 179 (3 * A.length + i) (sLv w m (cnr m t i))) 180 (3 * A.length + i) v) = some (rf_i (rf_i Y' 177 A.length (Int32.ofNat t)) 175 8 (Int32.ofNat (A.length + 1))) ∧ tkF w m X Y' A.length t 3 := fun v hv => by
          rw [of_succ, hv]
          refine ih f (i + 1) _ (by omega) (by omega) ⟨fun z hz => ?_, ?_, fun j hj => ?_, fun k hk => ?_⟩
          · rw [rf_i_c, if_neg (by omega), rf_i_c, if_neg (by omega), rf_i_c, if_neg (by omega)]; exact hY.1 z hz
          · rw [rf_i_l, rf_i_l, rf_i_l]; exact hY.2.1
          · obtain ⟨w1, w2, w3⟩ := hY.2.2.1 j hj
            simp only [rf_i_c, Nat.reduceEqDiff, if_true, if_false]
            rw [pu_ne (by omega), pu_ne (by omega), pu_ne (by omega)]
            exact ⟨w1, w2, w3⟩
          · simp only [rf_i_c, Nat.reduceEqDiff, if_true, if_false]
            by_cases e : k = i
            · subst e
              rw [pu_at, pu_at, pu_at]
              exact ⟨rfl, rfl, rfl⟩
            · rw [pu_ne (by omega), pu_ne (by omega), pu_ne (by omega)]
              exact hY.2.2.2 k (by omega)
        by_cases z : s0 = 0
        · rw [if_pos z, gx, b_sm, a8', t3, g24, g_t, tn_of (by omega)]
          exact fin _ (eM1 (h0 z))
        · rw [if_neg z, X11_sineOf (by decide) (by decide), b_sm, a8', t3, g24, g_t, tn_of (by omega)]
          exact fin _ (eM2 (h1 z))
      show ∃ Y', g_X4_takeUp_2_b w _ _ _ Y = _ ∧ _
      unfold g_X4_takeUp_2_b g_X7_cornerOf g_X4_takeUp_77
      rw [if_neg g1, t3, gof (by omega) (by decide), g_t, tn_of (by omega), b_sm, hYA.1, l2, b_sm, l3, b_sm, s1, b_sm, s2, b_sm]
      have o1 : (1 : Int32) ≠ 0 := by decide
      by_cases d1 : 324000 < loV w m 9999 (cnr m t i) / 10
      · rw [if_pos d1]
        exact en 0 (fun _ => Or.inl d1) (fun z => absurd rfl z)
      · rw [if_neg d1]
        by_cases d2 : hiV w m 9999 (cnr m t i) / 10 < 324000
        · rw [if_pos d2]
          exact en 0 (fun _ => Or.inr d2) (fun z => absurd rfl z)
        · rw [if_neg d2]
          exact en 1 (fun z => absurd z o1) (fun _ z => z.elim d1 d2)
  obtain ⟨Y', h1, h2, h3, h4, h5⟩ := key 3 F 0 X (by omega) (by omega) ⟨fun _ _ => rfl, rfl, fun _ _ => ⟨rfl, rfl, rfl⟩, fun k hk => by omega⟩
  have h1 : g_X4_takeUp_2 w F (Int32.ofNat t) 0 X = _ := h1
  generalize hZ : rf_i (rf_i Y' 177 A.length (Int32.ofNat t)) 175 8 (Int32.ofNat (A.length + 1)) = Z at h1
  have z175 : Z.1 175 = pu (X.1 175) 8 (Int32.ofNat (A.length + 1)) := by rw [← hZ, rf_i_c, if_pos rfl, rf_i_c, if_neg (by decide), h2 175 (by omega)]
  have z177 : Z.1 177 = pu (X.1 177) A.length (Int32.ofNat t) := by rw [← hZ, rf_i_c, if_neg (by decide), rf_i_c, if_pos rfl, h2 177 (by omega)]
  have zz : ∀ z, z ≠ 175 → z ≠ 177 → Z.1 z = Y'.1 z := fun z a b => by rw [← hZ, rf_i_c, if_neg a, rf_i_c, if_neg b]
  refine ⟨Z, by unfold g_X4_takeUp; rw [hF]; exact h1, ⟨by rw [z175, pu_at, List.length_append]; rfl, fun a ha => ?_⟩, fun z a b => by rw [zz z a (by omega), h2 z (by omega)], fun k hk => by rw [z175, pu_ne hk], by rw [← hZ, rf_i_l, rf_i_l, h3]⟩
  rw [List.length_append] at ha
  have ha : a < A.length + 1 := ha
  rw [z177, zz 178 (by decide) (by decide), zz 179 (by decide) (by decide), zz 180 (by decide) (by decide)]
  by_cases e : a = A.length
  · subst e
    have : (A ++ [t])[A.length] = t := by simp
    rw [this, pu_at]
    exact ⟨rfl, fun i hi => h5 i hi⟩
  · have : (A ++ [t])[a] = A[a]'(by omega) := List.getElem_append_left (by omega)
    rw [this, pu_ne e]
    obtain ⟨k1, k2⟩ := hA.2 a (by omega)
    refine ⟨k1, fun i hi => ?_⟩
    obtain ⟨w1, w2, w3⟩ := h4 (3 * a + i) (by omega)
    rw [w1, w2, w3]
    exact k2 i hi
theorem gather_c {c : Nat} {w : rf_w} {m X : rf_m} {L : Int32} (J : JCnt c w m) (jn : JNet m) (h : clA w m X) (h50 : X.1 50 0 = m.1 206 64) : ∃ X', guF X X' ∧ (((fl (fun t => wlI (tmF w m t) L 3 0 ≠ 0) (m.1 206 64).toNatClampNeg).length ≤ 8 ∧ g_X4_gatherWell w X L = some (1, X') ∧ chR w m X' (fl (fun t => wlI (tmF w m t) L 3 0 ≠ 0 ∧ abP w m t) (m.1 206 64).toNatClampNeg)) ∨ (¬ (fl (fun t => wlI (tmF w m t) L 3 0 ≠ 0) (m.1 206 64).toNatClampNeg).length ≤ 8 ∧ g_X4_gatherWell w X L = some (0, X'))) := by
  have ja := J.2.2.2.2.1
  have n30 := (net30 jn).1
  have hR := of_tn jn.2.1.1
  have o1 : ¬ (1 : Int32) = 0 := by decide
  obtain ⟨F, hF, hFb⟩ := fuel_ex
  generalize hT : (m.1 206 64).toNatClampNeg = T at *
  generalize hW : (fun t => wlI (tmF w m t) L 3 0 ≠ 0) = W
  have eW : ∀ t, W t ↔ wlI (tmF w m t) L 3 0 ≠ 0 := fun t => by rw [← hW]
  have hAB : (fun t => wlI (tmF w m t) L 3 0 ≠ 0 ∧ abP w m t) = (fun t => W t ∧ abP w m t) := by rw [← hW]
  rw [hAB]
  have key : ∀ n f t (Y : rf_m), t + n = T → n < f → guF X Y → (fl W t).length ≤ 8 → chR w m Y (fl (fun t => W t ∧ abP w m t) t) → ∃ X', guF X X' ∧ (((fl W T).length ≤ 8 ∧ g_X4_gatherWell_9 w f L (Int32.ofNat (fl W t).length) (Int32.ofNat t) Y = some (1, X') ∧ chR w m X' (fl (fun t => W t ∧ abP w m t) T)) ∨ (¬ (fl W T).length ≤ 8 ∧ g_X4_gatherWell_9 w f L (Int32.ofNat (fl W t).length) (Int32.ofNat t) Y = some (0, X'))) := by
    intro n
    induction n with
    | zero =>
      intro f t Y ht hf hg h8 hc
      obtain ⟨f, rfl⟩ : ∃ g, f = g + 1 := ⟨f - 1, by omega⟩
      have e : t = T := by omega
      subst e
      refine ⟨Y, hg, Or.inl ⟨h8, ?_, hc⟩⟩
      show g_X4_gatherWell_9_b w _ _ _ _ Y = _
      unfold g_X4_gatherWell_9_b
      rw [hg.1 50 (by decide) (by omega), h50, ← hR, if_pos (Int32.le_refl _)]
    | succ n ih =>
      intro f t Y ht hf hg h8 hc
      obtain ⟨f, rfl⟩ : ∃ g, f = g + 1 := ⟨f - 1, by omega⟩
      have g1 : ¬ m.1 206 64 ≤ Int32.ofNat t := by rw [← hR]; exact nle (by omega) (by omega)
      have hYA : clA w m Y := clA_e h (fun z hz => hg.1 z (by omega) (by omega))
      have htT : t < (m.1 206 64).toNatClampNeg := by omega
      have wl := wl_c2 (L := L) J jn hYA htT
      have ab := able_c ja jn hYA htT
      have st : g_X4_gatherWell_9 w (f + 1) L (Int32.ofNat (fl W t).length) (Int32.ofNat t) Y = g_X4_gatherWell_9_b w (g_X4_gatherWell_9 w f) L (Int32.ofNat (fl W t).length) (Int32.ofNat t) Y := rfl
      rw [st]
      unfold g_X4_gatherWell_9_b g_X4_gatherWell_56
      rw [hg.1 50 (by decide) (by omega), h50, if_neg g1, wl, b_sm, of_succ]
      by_cases c1 : W t
      · rw [if_neg ((eW t).mp c1)]
        have ft := fl_t c1
        by_cases c8 : (fl W t).length < 8
        · have c8' : Int32.ofNat (fl W t).length < 8 := (of_lt (b := 8) (by omega) (by omega)).mpr c8
          rw [if_pos c8', ab, b_sm, of_succ]
          have el : (fl W t).length + 1 = (fl W (t + 1)).length := by rw [ft, List.length_append]; rfl
          rw [el]
          by_cases c2 : abP w m t
          · have la : (fl (fun t => W t ∧ abP w m t) t).length < 8 := by have := fl_imp (P := W) (Q := fun t => W t ∧ abP w m t) (fun _ q => q.1) t; omega
            obtain ⟨Y', k1, k2, k3⟩ := takeUp_c J jn hYA hc la htT c2
            rw [bi_t c2, if_neg o1, k1, bv_sm]
            refine ih f (t + 1) Y' (by omega) (by omega) (guF_trans hg k3) (by omega) ?_
            rw [fl_t (P := fun t => W t ∧ abP w m t) ⟨c1, c2⟩]
            exact k2
          · rw [bi_f c2, if_pos rfl]
            refine ih f (t + 1) Y (by omega) (by omega) hg (by omega) ?_
            rw [fl_f (P := fun t => W t ∧ abP w m t) (fun q => c2 q.2)]
            exact hc
        · have c8' : ¬ Int32.ofNat (fl W t).length < 8 := fun z => c8 ((of_lt (b := 8) (by omega) (by omega)).mp z)
          rw [if_neg c8']
          refine ⟨Y, hg, Or.inr ⟨fun z => ?_, rfl⟩⟩
          have := fl_le (P := W) (n := t + 1) n
          rw [show t + 1 + n = T by omega, ft, List.length_append] at this
          have this : (fl W t).length + 1 ≤ (fl W T).length := this
          omega
      · rw [if_pos (Classical.byContradiction fun z => c1 ((eW t).mpr z))]
        have ft := fl_f c1
        rw [← ft]
        refine ih f (t + 1) Y (by omega) (by omega) hg (by rw [ft]; exact h8) ?_
        rw [fl_f (P := fun t => W t ∧ abP w m t) (fun q => c1 q.1)]
        exact hc
  obtain ⟨X', k1, k2⟩ := key T F 0 (rf_i X 175 8 0) (by omega) (by omega) ⟨fun z a _ => by rw [rf_i_c, if_neg a], fun k hk => by rw [rf_i_c, if_pos rfl, pu_ne hk], rfl⟩ (by show (0 : Nat) ≤ 8; decide) ⟨by rw [rf_i_c, if_pos rfl, pu_at]; rfl, fun a ha => absurd ha (Nat.not_lt_zero a)⟩
  refine ⟨X', k1, ?_⟩
  unfold g_X4_gatherWell
  rw [hF]
  exact k2
end PBGather
