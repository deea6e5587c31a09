/-! the class's evaluation -/
section PBEvalC
def stl (m : rf_m) (c : Nat) (f : Nat → Int64) : rf_m := (m.1, fun a => if a = c then f else m.2 a)
theorem stl_c {m : rf_m} {c a : Nat} {f : Nat → Int64} : (stl m c f).2 a = if a = c then f else m.2 a := rfl
theorem stl_i {m : rf_m} {c : Nat} {f : Nat → Int64} : (stl m c f).1 = m.1 := rfl
theorem stl_eq {m m' : rf_m} {c : Nat} {f : Nat → Int64} (h1 : m'.2 c = f) (h2 : ∀ a, a ≠ c → m'.2 a = m.2 a) (h3 : m'.1 = m.1) : m' = stl m c f := by
  refine Prod.ext h3 ?_
  funext a
  rw [stl_c]
  by_cases e : a = c
  · rw [if_pos e, e, h1]
  · rw [if_neg e, h2 a e]
theorem stl_self {m : rf_m} {c : Nat} : stl m c (m.2 c) = m := (stl_eq rfl (fun _ _ => rfl) rfl).symm
theorem stl_l {m : rf_m} {c k : Nat} {x : Int64} : rf_l m c k x = stl m c (pu (m.2 c) k x) := by
  refine stl_eq ?_ (fun a ha => ?_) rfl
  · rw [rf_l_c, if_pos rfl]
  · rw [rf_l_c, if_neg ha]
theorem stl_stl {m : rf_m} {c : Nat} {f g : Nat → Int64} : stl (stl m c f) c g = stl m c g := by
  refine stl_eq ?_ (fun a ha => ?_) rfl
  · rw [stl_c, if_pos rfl]
  · rw [stl_c, if_neg ha, stl_c, if_neg ha]
/-- the stack of longs holds s, its top last -/
def plL (f : Nat → Int64) : List Int → Prop
  | [] => True
  | x :: t => (f t.length).toInt = x ∧ plL f t
theorem plL_pu {f : Nat → Int64} {s : List Int} {k : Nat} {x : Int64} (h : plL f s) (hk : s.length ≤ k) : plL (pu f k x) s := by
  induction s with
  | nil => trivial
  | cons y t ih =>
    obtain ⟨h1, h2⟩ := h
    refine ⟨?_, ih h2 (by simp at hk; omega)⟩
    rw [pu_ne (by simp at hk; omega)]
    exact h1
theorem j116_I {w : rf_w} {m : rf_m} {x : Int64} : ∃ v, g_X9_joined_116 w x m = some (v, m) ∧ v.toInt = clp x.toInt := by
  have c1 : (1000000000 : Int64).toInt = 1000000000 := rfl
  have c2 : (-1000000000 : Int64).toInt = -1000000000 := rfl
  unfold g_X9_joined_116
  by_cases h1 : lg_cmp x 1000000000 ≤ 0
  · have h1' := cmp_le.mp h1
    rw [c1] at h1'
    rw [if_pos h1]
    by_cases h2 : (0 : Int32) ≤ lg_cmp x (-1000000000)
    · have h2' := cmp_nn.mp h2
      rw [c2] at h2'
      rw [if_pos h2]
      refine ⟨x, rfl, ?_⟩
      unfold clp
      rw [if_neg (by omega), if_neg (by omega)]
    · have h2' : ¬ _ := fun q => h2 (cmp_nn.mpr q)
      rw [c2] at h2'
      rw [if_neg h2]
      refine ⟨_, rfl, ?_⟩
      rw [c2]
      unfold clp
      rw [if_neg (by omega), if_pos (by omega)]
  · have h1' : ¬ _ := fun q => h1 (cmp_le.mpr q)
    rw [c1] at h1'
    rw [if_neg h1]
    refine ⟨_, rfl, ?_⟩
    rw [c1]
    unfold clp
    rw [if_pos (by omega)]
theorem l_of {x : Int64} {v : Int} (h : x.toInt = v) : v = 0 ∨ v = 1 → x = 0 ∨ x = 1 := by
  rintro (rfl | rfl)
  · exact Or.inl (l_eq.mpr h)
  · exact Or.inr (l_eq.mpr h)
/-- the sign that a step is, for two that are joined -/
theorem joined_I {w : rf_w} {m : rf_m} {st : Int32} {K : Nat} {x y : Int64} {a b : Int} (hd : dC st = (K, 0)) (h3 : 3 ≤ K) (hx : x.toInt = a) (hy : y.toInt = b) (ba : -1000000000 ≤ a ∧ a ≤ 1000000000) (bb : -1000000000 ≤ b ∧ b ≤ 1000000000) (hbl : K < 9 ∨ (bol a ∧ bol b)) : ∃ v, g_X9_joined w m st x y = some (v, m) ∧ v.toInt = opv (K - 3) a b := by
  unfold dC at hd
  by_cases d0 : 0 ≤ st
  · rw [if_pos d0] at hd; have := (Prod.mk.inj hd).1; omega
  rw [if_neg d0] at hd
  by_cases d1 : -7 ≤ st
  · rw [if_pos d1] at hd; have := (Prod.mk.inj hd).1; omega
  rw [if_neg d1] at hd
  by_cases d2 : st = -17
  · rw [if_pos d2] at hd; have := (Prod.mk.inj hd).1; omega
  rw [if_neg d2] at hd
  unfold g_X9_joined
  have o0 : (0 : Int64).toInt = 0 := rfl
  have o1 : (1 : Int64).toInt = 1 := rfl
  by_cases e12 : st = -12
  · subst e12
    have : K = 3 := (Prod.mk.inj hd).1.symm
    subst this
    rw [if_neg (by decide), if_neg (by decide), if_neg (by decide), if_neg (by decide), if_neg (by decide), if_neg (by decide), if_pos rfl]
    obtain ⟨v, v1, v2⟩ := j116_I (w := w) (m := m) (x := x + y)
    refine ⟨v, v1, ?_⟩
    rw [v2, addL (by omega) (by omega), hx, hy]
    simp [opv]
  rw [if_neg e12] at hd
  by_cases e13 : st = -13
  · subst e13
    have : K = 4 := (Prod.mk.inj hd).1.symm
    subst this
    rw [if_neg (by decide), if_neg (by decide), if_neg (by decide), if_neg (by decide), if_neg (by decide), if_pos rfl]
    obtain ⟨v, v1, v2⟩ := j116_I (w := w) (m := m) (x := x - y)
    refine ⟨v, v1, ?_⟩
    rw [v2, subL (by omega) (by omega), hx, hy]
    simp [opv]
  rw [if_neg e13] at hd
  by_cases e11 : st = -11
  · subst e11
    have : K = 5 := (Prod.mk.inj hd).1.symm
    subst this
    rw [if_neg (by decide), if_neg (by decide), if_neg (by decide), if_neg (by decide), if_neg (by decide), if_neg (by decide), if_neg (by decide), if_pos rfl]
    obtain ⟨v, v1, v2⟩ := j116_I (w := w) (m := m) (x := x * y)
    refine ⟨v, v1, ?_⟩
    have pr := mul_rng ba bb
    rw [v2, mulL (by rw [hx, hy]; omega) (by rw [hx, hy]; omega), hx, hy]
    simp [opv]
  rw [if_neg e11] at hd
  by_cases e14 : st = -14
  · subst e14
    have : K = 6 := (Prod.mk.inj hd).1.symm
    subst this
    rw [if_neg (by decide), if_neg (by decide), if_neg (by decide), if_neg (by decide), if_pos rfl]
    by_cases z : (0 : Int32) ≤ lg_cmp x y
    · have z' := cmp_nn.mp z
      rw [hx, hy] at z'
      rw [if_pos z]
      exact ⟨0, rfl, by rw [o0]; show (0 : Int) = b01 (a < b); rw [b01_f (by omega)]⟩
    · have z' : ¬ _ := fun q => z (cmp_nn.mpr q)
      rw [hx, hy] at z'
      rw [if_neg z]
      exact ⟨1, rfl, by rw [o1]; show (1 : Int) = b01 (a < b); rw [b01_t (by omega)]⟩
  rw [if_neg e14] at hd
  by_cases e15 : st = -15
  · subst e15
    have : K = 7 := (Prod.mk.inj hd).1.symm
    subst this
    rw [if_neg (by decide), if_neg (by decide), if_neg (by decide), if_pos rfl]
    by_cases z : lg_cmp x y ≤ 0
    · have z' := cmp_le.mp z
      rw [hx, hy] at z'
      rw [if_pos z]
      exact ⟨0, rfl, by rw [o0]; show (0 : Int) = b01 (b < a); rw [b01_f (by omega)]⟩
    · have z' : ¬ _ := fun q => z (cmp_le.mpr q)
      rw [hx, hy] at z'
      rw [if_neg z]
      exact ⟨1, rfl, by rw [o1]; show (1 : Int) = b01 (b < a); rw [b01_t (by omega)]⟩
  rw [if_neg e15] at hd
  by_cases e16 : st = -16
  · subst e16
    have : K = 8 := (Prod.mk.inj hd).1.symm
    subst this
    rw [if_neg (by decide), if_neg (by decide), if_pos rfl]
    by_cases z : lg_cmp x y = 0
    · have z' := l_eq.mp (cmp_eq0.mp z)
      rw [hx, hy] at z'
      rw [if_pos z]
      exact ⟨1, rfl, by rw [o1]; show (1 : Int) = b01 (a = b); rw [b01_t z']⟩
    · have z' : ¬ a = b := fun q => z (cmp_eq0.mpr (l_eq.mpr (by rw [hx, hy, q])))
      rw [if_neg z]
      exact ⟨0, rfl, by rw [o0]; show (0 : Int) = b01 (a = b); rw [b01_f z']⟩
  rw [if_neg e16] at hd
  by_cases e18 : st = -18
  · subst e18
    have : K = 9 := (Prod.mk.inj hd).1.symm
    subst this
    have bl : bol a ∧ bol b := by rcases hbl with q | q; omega; exact q
    rw [if_pos rfl]
    refine ⟨_, rfl, ?_⟩
    show _ = b01 (a = 1 ∧ b = 1)
    have hx' := l_of hx bl.1
    have hy' := l_of hy bl.2
    have e0 : (0 : Int64) &&& 0 = 0 := by decide
    have e1 : (0 : Int64) &&& 1 = 0 := by decide
    have e2 : (1 : Int64) &&& 0 = 0 := by decide
    have e3 : (1 : Int64) &&& 1 = 1 := by decide
    rcases hx' with rfl | rfl <;> rcases hy' with rfl | rfl
    · rw [e0, b01_f (by omega)]; rfl
    · rw [e1, b01_f (by omega)]; rfl
    · rw [e2, b01_f (by omega)]; rfl
    · rw [e3, b01_t (by omega)]; rfl
  rw [if_neg e18] at hd
  have : K = 10 := (Prod.mk.inj hd).1.symm
  subst this
  have bl : bol a ∧ bol b := by rcases hbl with q | q; omega; exact q
  rw [if_neg e18, if_neg d2, if_neg e16, if_neg e15, if_neg e14, if_neg e13, if_neg e12, if_neg e11]
  refine ⟨_, rfl, ?_⟩
  show _ = b01 (a = 1 ∨ b = 1)
  have hx' := l_of hx bl.1
  have hy' := l_of hy bl.2
  have e0 : (0 : Int64) ||| 0 = 0 := by decide
  have e1 : (0 : Int64) ||| 1 = 1 := by decide
  have e2 : (1 : Int64) ||| 0 = 1 := by decide
  have e3 : (1 : Int64) ||| 1 = 1 := by decide
  rcases hx' with rfl | rfl <;> rcases hy' with rfl | rfl
  · rw [e0, b01_f (by omega)]; rfl
  · rw [e1, b01_t (by omega)]; rfl
  · rw [e2, b01_t (by omega)]; rfl
  · rw [e3, b01_t (by omega)]; rfl
theorem run_run {w : rf_w} {R E : Nat} (hR : R < 24) (hE : E ≤ 160) : ∀ n k (s s' : List Int) (m : rf_m) f, n < f → k + n = E → nok (m.1 18) → bnd s → plL (m.2 25) s → runA (fun k => dC (m.1 24 (160 * R + k))) (m.1 18) n k s = some s' → s.length ≤ 31 → ∃ F, g_X9_run_12 w f (Int32.ofNat R) (Int32.ofNat E) (Int32.ofNat s.length) (Int32.ofNat (160 * R + k)) m = some (if Int32.ofNat s'.length ≤ 0 then 0 else F 0, stl m 25 F) ∧ plL F s' := by
  have eE : Int32.ofNat R * 160 + Int32.ofNat E = Int32.ofNat (160 * R + E) := by rw [Int32.ofNat_add, Int32.ofNat_mul, Int32.mul_comm]; rfl
  intro n
  induction n with
  | zero =>
    intro k s s' m f hf hk hN hb hp hrun hl
    obtain ⟨f, rfl⟩ : ∃ g, f = g + 1 := ⟨f - 1, by omega⟩
    obtain rfl := Option.some.inj hrun
    refine ⟨m.2 25, ?_, hp⟩
    show g_X9_run_12_b w _ _ _ _ _ m = _
    unfold g_X9_run_12_b
    rw [eE, show k = E by omega, if_pos (Int32.le_refl _), stl_self]
    split <;> rfl
  | succ n ih =>
    intro k s s' m f hf hk hN hb hp hrun hl
    obtain ⟨f, rfl⟩ : ∃ g, f = g + 1 := ⟨f - 1, by omega⟩
    unfold runA at hrun
    have nl : ¬ Int32.ofNat (160 * R + E) ≤ Int32.ofNat (160 * R + k) := nle (by omega) (by omega)
    have g0 : rf_in (Int32.ofNat (160 * R + k)) 3840 = true := gof (by omega) (by decide)
    have t0 : (Int32.ofNat (160 * R + k)).toNatClampNeg = 160 * R + k := tn_of (by omega)
    have go : ∀ (s1 : List Int) (F : Nat → Int64), stepA (m.1 18) (dC (m.1 24 (160 * R + k))) s = some s1 → plL F s1 → s1.length ≤ 31 → ∃ F', g_X9_run_158 w (g_X9_run_12 w f) (Int32.ofNat R) (Int32.ofNat E) (Int32.ofNat s1.length) (Int32.ofNat (160 * R + k)) (stl m 25 F) = some (if Int32.ofNat s'.length ≤ 0 then 0 else F' 0, stl m 25 F') ∧ plL F' s' := by
      intro s1 F hst hF hl1
      rw [hst] at hrun
      have c4 : (stl m 25 F).2 25 = F := by rw [stl_c, if_pos rfl]
      obtain ⟨F', h1, h2⟩ := ih (k + 1) s1 s' (stl m 25 F) f (by omega) (by omega) hN (stepA_bnd hN hb hst) (by rw [c4]; exact hF) hrun hl1
      refine ⟨F', ?_, h2⟩
      unfold g_X9_run_158
      rw [of_succ, show 160 * R + k + 1 = 160 * R + (k + 1) by omega, h1, stl_stl]
    show ∃ F, g_X9_run_12_b w (g_X9_run_12 w f) _ _ _ _ m = _ ∧ _
    unfold g_X9_run_12_b
    rw [eE, if_neg nl, g0, g_t, t0]
    simp only [rf_vi]
    cases hst : stepA (m.1 18) (dC (m.1 24 (160 * R + k))) s with
    | none => rw [hst] at hrun; cases hrun
    | some s1 =>
    have goS := go s1
    clear go hrun ih
    generalize hst0 : m.1 24 (160 * R + k) = st at *
    by_cases d0 : 0 ≤ st
    · have hd : dC st = (0, st.toInt) := by unfold dC; rw [if_pos d0]
      have hst' := hst
      rw [hd] at hst
      unfold stepA at hst
      rw [if_pos rfl] at hst
      split at hst
      · rename_i q
        obtain rfl := Option.some.inj hst
        have q1 : ¬ st < -7 := by clear hN hp; grind
        have q2 : ¬ st < 0 := by clear hN hp; grind
        have q3 : ¬ (31 : Int32) ≤ Int32.ofNat s.length := nle (R := 31) q.1 (by decide)
        unfold g_X9_run_77
        rw [if_neg q1, if_neg q3, if_neg q2, gof q.1 (by decide), g_t, tn_of (by omega), of_succ, stl_l]
        exact goS _ hst' ⟨by rw [pu_at, i2l], plL_pu hp (Nat.le_refl _)⟩ (by simp; omega)
      · cases hst
    · by_cases d1 : -7 ≤ st
      · have hd : dC st = (1, -1 - st.toInt) := by unfold dC; rw [if_neg d0, if_pos d1]
        have hst' := hst
        rw [hd] at hst
        unfold stepA at hst
        rw [if_neg (show ¬ (1 : Nat) = 0 by decide), if_pos rfl] at hst
        split at hst
        · rename_i q
          obtain rfl := Option.some.inj hst
          have q1 : ¬ st < -7 := by clear hN hp; grind
          have q2 : st < 0 := by clear hN hp; grind
          have q3 : ¬ (31 : Int32) ≤ Int32.ofNat s.length := nle (R := 31) q.1 (by decide)
          have m1 : (-1 : Int32).toInt = -1 := rfl
          have q4 : s.length < 31 ∧ 0 ≤ -1 - st.toInt ∧ -1 - st.toInt < 7 := q
          have e : (-1 - st).toInt = -1 - st.toInt := by rw [subI (by rw [m1]; omega) (by rw [m1]; omega), m1]
          have g7 : rf_in (-1 - st) 7 = true := gin (by rw [i_le, i_0, e]; exact q4.2.1) (by rw [i_lt, e]; exact q4.2.2) (by decide)
          unfold g_X9_run_77
          rw [if_neg q1, if_neg q3, if_pos q2, g7, g_t, gof q.1 (by decide), g_t, tn_of (by omega), of_succ, stl_l]
          refine goS _ hst' ⟨?_, plL_pu hp (Nat.le_refl _)⟩ (by simp; omega)
          rw [pu_at, i2l]
          have : (-1 - st).toNatClampNeg = (-1 - st.toInt).toNat := by show (-1 - st).toInt.toNat = _; rw [e]
          rw [this]
        · cases hst
      · have q1 : st < -7 := by clear hN hp; grind
        rw [if_pos q1]
        by_cases d2 : st = -17
        · have hd : dC st = (2, 0) := by unfold dC; rw [if_neg d0, if_neg d1, if_pos d2]
          have hst' := hst
          rw [hd] at hst
          rw [if_pos d2]
          cases s with
          | nil =>
            unfold stepA at hst
            rw [if_neg (by decide), if_neg (by decide), if_pos rfl] at hst
            cases hst
          | cons x t =>
            unfold stepA at hst
            rw [if_neg (by decide), if_neg (by decide), if_pos rfl] at hst
            simp only at hst
            split at hst
            · rename_i q
              obtain rfl := Option.some.inj hst
              have hl' : t.length + 1 ≤ 31 := hl
              have hx : (m.2 25 t.length).toInt = x := hp.1
              have q3 : ¬ Int32.ofNat (t.length + 1) ≤ 0 := nle (i := 0) (by omega) (by omega)
              rw [show (x :: t).length = t.length + 1 from rfl, if_neg q3, ofm1', gof (by omega) (by decide), g_t, g_t, tn_of (by omega), stl_l]
              have hv : (1 - m.2 25 t.length).toInt = 1 - x := by
                have o : (1 : Int64).toInt = 1 := rfl
                unfold bol at q
                rw [subL (by rw [o, hx]; omega) (by rw [o, hx]; omega), o, hx]
              exact goS _ hst' ⟨by rw [pu_at]; exact hv, plL_pu hp.2 (Nat.le_refl _)⟩ hl
            · cases hst
        · rw [if_neg d2]
          have hK : ∃ K, dC st = (K, 0) ∧ 3 ≤ K := by
            unfold dC
            rw [if_neg d0, if_neg d1, if_neg d2]
            repeat' split
            all_goals exact ⟨_, rfl, by decide⟩
          obtain ⟨K, hd, h3⟩ := hK
          have hst' := hst
          rw [hd] at hst
          obtain ⟨a, b, t, rfl, rfl, hbl⟩ := stepA_bin h3 hst
          have hl' : t.length + 1 + 1 ≤ 31 := hl
          have hB : (m.2 25 (t.length + 1)).toInt = b := hp.1
          have hA : (m.2 25 t.length).toInt = a := hp.2.1
          have bB := hb b (List.mem_cons_self ..)
          have bA := hb a (List.mem_cons_of_mem _ (List.mem_cons_self ..))
          have q3 : ¬ Int32.ofNat (t.length + 1 + 1) ≤ 1 := nle (i := 1) (by omega) (by omega)
          obtain ⟨v, v1, v2⟩ := joined_I (w := w) (m := m) hd h3 hA hB bA bB hbl
          rw [show (b :: a :: t).length = t.length + 1 + 1 from rfl, if_neg q3, ofm1, ofm1', gof (by omega) (by decide), g_t, gof (by omega) (by decide), tn_of (by omega), tn_of (by omega), v1]
          simp only [rf_b, g_t]
          rw [stl_l]
          exact goS _ hst' ⟨by rw [pu_at]; exact v2, plL_pu hp.2.2 (Nat.le_refl _)⟩ (by show t.length + 1 ≤ 31; omega)
end PBEvalC
