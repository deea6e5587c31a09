/-! what a rule's text comes to: one machine for both codes -/
section PBEval
def clp (x : Int) : Int := if 1000000000 < x then 1000000000 else if x < -1000000000 then -1000000000 else x
def bol (x : Int) : Prop := x = 0 ∨ x = 1
noncomputable def b01 (p : Prop) : Int := @ite Int p (Classical.propDecidable p) 1 0
noncomputable def opv (o : Nat) (a b : Int) : Int := if o = 0 then clp (a + b) else if o = 1 then clp (a - b) else if o = 2 then clp (a * b) else if o = 3 then b01 (a < b) else if o = 4 then b01 (b < a) else if o = 5 then b01 (a = b) else if o = 6 then b01 (a = 1 ∧ b = 1) else b01 (a = 1 ∨ b = 1)
/-- one step: 0 a whole, 1 a name, 2 not, 3 and more a sign; none where it isn't sound -/
noncomputable def stepA (N : Nat → Int32) (it : Nat × Int) (s : List Int) : Option (List Int) :=
  if it.1 = 0 then @ite _ (s.length < 31 ∧ 0 ≤ it.2 ∧ it.2 ≤ 1000000000) (Classical.propDecidable _) (some (it.2 :: s)) none
  else if it.1 = 1 then @ite _ (s.length < 31 ∧ 0 ≤ it.2 ∧ it.2 < 7) (Classical.propDecidable _) (some ((N it.2.toNat).toInt :: s)) none
  else if it.1 = 2 then match s with
    | x :: t => @ite _ (bol x) (Classical.propDecidable _) (some ((1 - x) :: t)) none
    | [] => none
  else match s with
    | b :: a :: t => @ite _ (it.1 < 9 ∨ (bol a ∧ bol b)) (Classical.propDecidable _) (some (opv (it.1 - 3) a b :: t)) none
    | _ => none
noncomputable def runA (d : Nat → Nat × Int) (N : Nat → Int32) : Nat → Nat → List Int → Option (List Int)
  | 0, _, s => some s
  | n + 1, k, s => match stepA N (d k) s with
    | none => none
    | some s' => runA d N n (k + 1) s'
def dR (sg va : Int32) : Nat × Int := if sg = 0 then (0, va.toInt) else if sg = 1 then (1, va.toInt) else if sg = 8 then (2, 0) else if sg = 2 then (3, 0) else if sg = 3 then (4, 0) else if sg = 4 then (5, 0) else if sg = 5 then (6, 0) else if sg = 6 then (7, 0) else if sg = 7 then (8, 0) else if sg = 9 then (9, 0) else (10, 0)
def dC (st : Int32) : Nat × Int := if 0 ≤ st then (0, st.toInt) else if -7 ≤ st then (1, -1 - st.toInt) else if st = -17 then (2, 0) else if st = -12 then (3, 0) else if st = -13 then (4, 0) else if st = -11 then (5, 0) else if st = -14 then (6, 0) else if st = -15 then (7, 0) else if st = -16 then (8, 0) else if st = -18 then (9, 0) else (10, 0)
def nok (N : Nat → Int32) : Prop := ∀ i, i < 7 → iv 0 1000000000 (N i)
def bnd (s : List Int) : Prop := ∀ x, x ∈ s → -1000000000 ≤ x ∧ x ≤ 1000000000
theorem b01_t {p : Prop} (h : p) : b01 p = 1 := if_pos h
theorem b01_f {p : Prop} (h : ¬ p) : b01 p = 0 := if_neg h
theorem b01_rng {p : Prop} : b01 p = 0 ∨ b01 p = 1 := by
  by_cases h : p
  · exact Or.inr (b01_t h)
  · exact Or.inl (b01_f h)
theorem clp_rng (x : Int) : -1000000000 ≤ clp x ∧ clp x ≤ 1000000000 := by unfold clp; split <;> (try split) <;> omega
theorem opv_rng (o : Nat) (a b : Int) : -1000000000 ≤ opv o a b ∧ opv o a b ≤ 1000000000 := by
  unfold opv
  split
  · exact clp_rng _
  · split
    · exact clp_rng _
    · split
      · exact clp_rng _
      · split
        · have := @b01_rng (a < b); omega
        · split
          · have := @b01_rng (b < a); omega
          · split
            · have := @b01_rng (a = b); omega
            · split
              · have := @b01_rng (a = 1 ∧ b = 1); omega
              · have := @b01_rng (a = 1 ∨ b = 1); omega
theorem stepA_bnd {N : Nat → Int32} {it : Nat × Int} {s s' : List Int} (hN : nok N) (hs : bnd s) (h : stepA N it s = some s') : bnd s' := by
  unfold stepA at h
  split at h
  · split at h
    · rename_i q; obtain rfl := Option.some.inj h
      intro x hx
      rcases List.mem_cons.mp hx with rfl | hx
      · omega
      · exact hs x hx
    · cases h
  · split at h
    · split at h
      · rename_i qq
        obtain rfl := Option.some.inj h
        intro x hx
        rcases List.mem_cons.mp hx with rfl | hx
        · have q := ivI (hN it.2.toNat (by omega))
          have q1 : 0 ≤ (N it.2.toNat).toInt := q.1
          have q2 : (N it.2.toNat).toInt ≤ 1000000000 := q.2
          omega
        · exact hs x hx
      · cases h
    · split at h
      · cases s with
        | nil => cases h
        | cons z t =>
          simp only at h
          split at h
          · rename_i q; obtain rfl := Option.some.inj h
            intro x hx
            rcases List.mem_cons.mp hx with rfl | hx
            · unfold bol at q; omega
            · exact hs x (List.mem_cons_of_mem _ hx)
          · cases h
      · cases s with
        | nil => cases h
        | cons b t =>
          cases t with
          | nil => cases h
          | cons a t =>
            simp only at h
            split at h
            · obtain rfl := Option.some.inj h
              intro x hx
              rcases List.mem_cons.mp hx with rfl | hx
              · exact opv_rng _ _ _
              · exact hs x (List.mem_cons_of_mem _ (List.mem_cons_of_mem _ hx))
            · cases h
theorem stepA_N {N N' : Nat → Int32} {it : Nat × Int} {s : List Int} (h : ∀ i, i < 7 → N i = N' i) : stepA N it s = stepA N' it s := by
  unfold stepA
  split
  · rfl
  · split
    · by_cases q : s.length < 31 ∧ 0 ≤ it.2 ∧ it.2 < 7
      · rw [if_pos q, if_pos q, h it.2.toNat (by omega)]
      · rw [if_neg q, if_neg q]
    · rfl
theorem runA_N {d : Nat → Nat × Int} {N N' : Nat → Int32} (h : ∀ i, i < 7 → N i = N' i) : ∀ n k s, runA d N n k s = runA d N' n k s := by
  intro n
  induction n with
  | zero => intro k s; rfl
  | succ n ih =>
    intro k s
    unfold runA
    rw [stepA_N h]
    cases stepA N' (d k) s with
    | none => rfl
    | some s' => exact ih (k + 1) s'
/-- the pile holds s, its top last -/
def pl (f : Nat → Int32) : List Int → Prop
  | [] => True
  | x :: t => (f t.length).toInt = x ∧ pl f t
theorem pl_pu {f : Nat → Int32} {s : List Int} {k : Nat} {x : Int32} (h : pl f s) (hk : s.length ≤ k) : pl (pu f k x) s := by
  induction s with
  | nil => trivial
  | cons y t ih =>
    obtain ⟨h1, h2⟩ := h
    refine ⟨?_, ih h2 (by simp at hk; omega)⟩
    rw [pu_ne (by simp at hk; omega)]
    exact h1
theorem bound_I {w : rf_w} {m : rf_m} {x : Int64} : ∃ v, g_X14_bound w m x = some (v, m) ∧ v.toInt = clp x.toInt := by
  have c1 : (1000000000 : Int64).toInt = 1000000000 := rfl
  have c2 : (-1000000000 : Int64).toInt = -1000000000 := rfl
  unfold g_X14_bound g_minL g_maxL
  by_cases h1 : (0 : Int32) < lg_cmp 1000000000 x
  · have h1' := cmp_pos.mp h1
    rw [c1] at h1'
    rw [if_pos h1]
    simp only [rf_b]
    by_cases h2 : lg_cmp (-1000000000) x < 0
    · have h2' := cmp_neg.mp h2
      rw [c2] at h2'
      rw [if_pos h2]
      refine ⟨Int64.toInt32 x, rfl, ?_⟩
      rw [l2i (by omega) (by omega)]
      unfold clp
      rw [if_neg (by omega), if_neg (by omega)]
    · have h2' : ¬ _ := fun q => h2 (cmp_neg.mpr q)
      rw [c2] at h2'
      rw [if_neg h2]
      refine ⟨_, rfl, ?_⟩
      rw [l2i (by rw [c2]; omega) (by rw [c2]; omega), c2]
      unfold clp
      rw [if_neg (by omega)]
      by_cases h3 : x.toInt < -1000000000
      · rw [if_pos h3]
      · rw [if_neg h3]; omega
  · have h1' : ¬ _ := fun q => h1 (cmp_pos.mpr q)
    rw [c1] at h1'
    rw [if_neg h1]
    simp only [rf_b]
    rw [if_pos (cmp_neg.mpr (by rw [c1, c2]; omega))]
    refine ⟨_, rfl, ?_⟩
    rw [l2i (by rw [c1]; omega) (by rw [c1]; omega), c1]
    unfold clp
    by_cases h3 : 1000000000 < x.toInt
    · rw [if_pos h3]
    · rw [if_neg h3, if_neg (by omega)]; omega
/-- a rule's object and its two rows -/
def rob (w : rf_w) (c : Nat) : Prop := rf_isO w c 12 = true ∧ rf_isR w c 5 (c + 1) = true ∧ rf_isA w (c + 1) .int 300 = true ∧ rf_isR w c 6 (c + 2) = true ∧ rf_isA w (c + 2) .int 300 = true ∧ (c = 230 ∨ 306 ≤ c)
theorem ofm1 {n : Nat} : Int32.ofNat (n + 1) + (-1) = Int32.ofNat n := by rw [← of_succ]; grind
theorem ofm1' {n : Nat} : Int32.ofNat (n + 1) - 1 = Int32.ofNat n := by rw [← of_succ]; grind
theorem b01I {p : Prop} [hd : Decidable p] {m : rf_m} {α : Type} {f : Int32 → α} : (if p then f 1 else f 0) = f (if p then 1 else 0) := by split <;> rfl
theorem cmp_le {a b : Int64} : lg_cmp a b ≤ 0 ↔ a.toInt ≤ b.toInt := by
  have h1 := cmp_pos (a := a) (b := b)
  constructor
  · intro h
    have : ¬ (0 : Int32) < lg_cmp a b := by grind
    rw [h1] at this; omega
  · intro h
    have : ¬ (0 : Int32) < lg_cmp a b := by rw [h1]; omega
    grind
theorem stepA_bin {N : Nat → Int32} {K : Nat} {z : Int} {s s1 : List Int} (hK : 3 ≤ K) (h : stepA N (K, z) s = some s1) : ∃ a b t, s = b :: a :: t ∧ s1 = opv (K - 3) a b :: t ∧ (K < 9 ∨ (bol a ∧ bol b)) := by
  unfold stepA at h
  simp only at h
  rw [if_neg (by omega), if_neg (by omega), if_neg (by omega)] at h
  cases s with
  | nil => cases h
  | cons b t =>
    cases t with
    | nil => cases h
    | cons a t =>
      simp only at h
      split at h
      · rename_i q
        exact ⟨a, b, t, rfl, (Option.some.inj h).symm, q⟩
      · cases h
theorem mul_rng {a b : Int} (ha : -1000000000 ≤ a ∧ a ≤ 1000000000) (hb : -1000000000 ≤ b ∧ b ≤ 1000000000) : -1000000000000000000 ≤ a * b ∧ a * b ≤ 1000000000000000000 := by
  have h1 : (a * b).natAbs ≤ 1000000000000000000 := by
    rw [Int.natAbs_mul]
    exact Nat.le_trans (Nat.mul_le_mul (show a.natAbs ≤ 1000000000 by omega) (show b.natAbs ≤ 1000000000 by omega)) (by decide)
  omega
theorem valueOf_run {w : rf_w} {c : Nat} (hr : rob w c) : ∀ n k (s s' : List Int) (m : rf_m) f, n < f → k + n ≤ 300 → nok (m.1 228) → bnd s → pl (m.1 235) s → runA (fun k => dR (m.1 (c + 1) k) (m.1 (c + 2) k)) (m.1 228) n k s = some s' → s.length ≤ 31 → ∃ F, g_X14_valueOf_6 w f c (Int32.ofNat (k + n)) (Int32.ofNat s.length) (Int32.ofNat k) m = some (F 0, stc m 235 F) ∧ pl F s' := by
  obtain ⟨r1, r2, r3, r4, r5, r6⟩ := hr
  intro n
  induction n with
  | zero =>
    intro k s s' m f hf hk hN hb hp hrun hl
    obtain ⟨f, rfl⟩ : ∃ g, f = g + 1 := ⟨f - 1, by omega⟩
    obtain rfl := Option.some.inj hrun
    refine ⟨m.1 235, ?_, hp⟩
    show g_X14_valueOf_6_b w _ c _ _ _ m = _
    unfold g_X14_valueOf_6_b
    rw [r1, r2, r3, r4, r5, g_t, g_t, g_t, g_t, g_t, Nat.add_zero, if_pos (Int32.le_refl _), stc_self]
    rfl
  | succ n ih =>
    intro k s s' m f hf hk hN hb hp hrun hl
    obtain ⟨f, rfl⟩ : ∃ g, f = g + 1 := ⟨f - 1, by omega⟩
    unfold runA at hrun
    have nl : ¬ Int32.ofNat (k + (n + 1)) ≤ Int32.ofNat k := nle (by omega) (by omega)
    have g0 : rf_in (Int32.ofNat k) 300 = true := gof (by omega) (by decide)
    have t0 : (Int32.ofNat k).toNatClampNeg = k := tn_of (by omega)
    -- how it goes on once the step is done
    have go : ∀ (s1 : List Int) (F : Nat → Int32), stepA (m.1 228) (dR (m.1 (c + 1) k) (m.1 (c + 2) k)) s = some s1 → pl F s1 → s1.length ≤ 31 → ∃ F', g_X14_valueOf_309 w (g_X14_valueOf_6 w f) c (Int32.ofNat (k + (n + 1))) (Int32.ofNat s1.length) (Int32.ofNat k) (stc m 235 F) = some (F' 0, stc m 235 F') ∧ pl F' s' := by
      intro s1 F hst hF hl1
      rw [hst] at hrun
      have c1 : (stc m 235 F).1 (c + 1) = m.1 (c + 1) := by rw [stc_c, if_neg (by omega)]
      have c2 : (stc m 235 F).1 (c + 2) = m.1 (c + 2) := by rw [stc_c, if_neg (by omega)]
      have c3 : (stc m 235 F).1 228 = m.1 228 := by rw [stc_c, if_neg (by omega)]
      have c4 : (stc m 235 F).1 235 = F := by rw [stc_c, if_pos rfl]
      obtain ⟨F', h1, h2⟩ := ih (k + 1) s1 s' (stc m 235 F) f (by omega) (by omega) (by rw [c3]; exact hN) (stepA_bnd hN hb hst) (by rw [c4]; exact hF) (by rw [c1, c2, c3]; exact hrun) hl1
      refine ⟨F', ?_, h2⟩
      unfold g_X14_valueOf_309
      rw [r1, r2, r3, r4, r5, g_t, g_t, g_t, g_t, g_t, of_succ, show k + (n + 1) = k + 1 + n by omega, h1, stc_stc]
    show ∃ F, g_X14_valueOf_6_b w (g_X14_valueOf_6 w f) c _ _ _ m = _ ∧ _
    unfold g_X14_valueOf_6_b
    rw [r1, r2, r3, r4, r5, g_t, g_t, g_t, g_t, g_t, if_neg nl, g0, g_t, t0]
    simp only [rf_vi]
    cases hst : stepA (m.1 228) (dR (m.1 (c + 1) k) (m.1 (c + 2) k)) s with
    | none => rw [hst] at hrun; cases hrun
    | some s1 =>
    have goS := go s1
    clear go hrun ih
    unfold dR at hst
    by_cases e0 : m.1 (c + 1) k = 0
    · rw [if_pos e0] at hst ⊢
      unfold stepA at hst
      rw [if_pos rfl] at hst
      split at hst
      · rename_i q
        obtain rfl := Option.some.inj hst
        unfold g_X14_valueOf_32 g_X14_valueOf_65
        rw [r1, r2, r3, r4, r5, g_t, g_t, g_t, g_t, g_t, if_pos e0, g0, g_t, g_t, g_t, g_t, g_t, g_t, t0, gof (by omega) (by decide), g_t, tn_of (by omega), of_succ, stc_i]
        refine goS _ ?_ ⟨by rw [pu_at], pl_pu hp (Nat.le_refl _)⟩ (by simp; omega)
        unfold dR stepA
        rw [if_pos e0, if_pos rfl, if_pos q]
      · cases hst
    · rw [if_neg e0] at hst ⊢
      by_cases e1 : m.1 (c + 1) k = 1
      · rw [if_pos e1] at hst ⊢
        unfold stepA at hst
        rw [if_neg (show ¬ (1 : Nat) = 0 by decide), if_pos rfl] at hst
        split at hst
        · rename_i q
          have q' : s.length < 31 ∧ 0 ≤ (m.1 (c + 2) k).toInt ∧ (m.1 (c + 2) k).toInt < 7 := q
          obtain rfl := Option.some.inj hst
          have g7 : rf_in (m.1 (c + 2) k) 7 = true := gin (by rw [i_le, i_0]; exact q'.2.1) (by rw [i_lt]; exact q'.2.2) (by decide)
          unfold g_X14_valueOf_32 g_X14_valueOf_65
          rw [r1, r2, r3, r4, r5, g_t, g_t, g_t, g_t, g_t, if_neg e0, g0, g_t, t0, g7, g_t, g_t, g_t, g_t, g_t, g_t, gof (by omega) (by decide), g_t, tn_of (by omega), of_succ, stc_i]
          refine goS _ ?_ ⟨by rw [pu_at]; rfl, pl_pu hp (Nat.le_refl _)⟩ (by simp; omega)
          unfold dR stepA
          rw [if_neg e0, if_pos e1, if_neg (show ¬ (1 : Nat) = 0 by decide), if_pos rfl, if_pos q]
        · cases hst
      · rw [if_neg e1] at hst ⊢
        by_cases e8 : m.1 (c + 1) k = 8
        · rw [if_pos e8] at hst ⊢
          cases s with
          | nil =>
            unfold stepA at hst
            rw [if_neg (by decide), if_neg (by decide), if_pos rfl] at hst
            cases hst
          | cons x t =>
            unfold stepA at hst
            rw [if_neg (by decide), if_neg (by decide), if_pos rfl] at hst
            simp only at hst
            split at hst
            · rename_i q
              obtain rfl := Option.some.inj hst
              have hl' : t.length + 1 ≤ 31 := hl
              have hx : (m.1 235 t.length).toInt = x := hp.1
              rw [show (x :: t).length = t.length + 1 from rfl, ofm1', gof (by omega) (by decide), g_t, g_t, tn_of (by omega), stc_i]
              have hv : (1 - m.1 235 t.length).toInt = 1 - x := by
                have o : (1 : Int32).toInt = 1 := rfl
                unfold bol at q
                rw [subI (by rw [o, hx]; omega) (by rw [o, hx]; omega), o, hx]
              refine goS _ ?_ ⟨by rw [pu_at]; exact hv, pl_pu hp.2 (Nat.le_refl _)⟩ hl
              unfold dR stepA
              rw [if_neg e0, if_neg e1, if_pos e8, if_neg (by decide), if_neg (by decide), if_pos rfl]
              simp only
              rw [if_pos q]
            · cases hst
        · rw [if_neg e8] at hst ⊢
          have hK : ∃ K, dR (m.1 (c + 1) k) (m.1 (c + 2) k) = (K, 0) ∧ 3 ≤ K ∧ (if m.1 (c + 1) k = 2 then ((3, 0) : Nat × Int) else if m.1 (c + 1) k = 3 then (4, 0) else if m.1 (c + 1) k = 4 then (5, 0) else if m.1 (c + 1) k = 5 then (6, 0) else if m.1 (c + 1) k = 6 then (7, 0) else if m.1 (c + 1) k = 7 then (8, 0) else if m.1 (c + 1) k = 9 then (9, 0) else (10, 0)) = (K, 0) := by
            unfold dR
            rw [if_neg e0, if_neg e1, if_neg e8]
            repeat' split
            all_goals exact ⟨_, rfl, by decide, rfl⟩
          obtain ⟨K, hd, h3, hK⟩ := hK
          rw [hK] at hst
          obtain ⟨a, b, t, rfl, rfl, hbl⟩ := stepA_bin h3 hst
          have hl' : t.length + 1 + 1 ≤ 31 := hl
          have hB : (m.1 235 (t.length + 1)).toInt = b := hp.1
          have hA : (m.1 235 t.length).toInt = a := hp.2.1
          have bB := hb b (List.mem_cons_self ..)
          have bA := hb a (List.mem_cons_of_mem _ (List.mem_cons_self ..))
          have fin : ∀ v : Int32, v.toInt = opv (K - 3) a b → ∃ F, g_X14_valueOf_308 w (g_X14_valueOf_6 w f) c (Int32.ofNat (k + (n + 1))) (Int32.ofNat (t.length + 1)) (Int32.ofNat k) (Int32.ofNat (t.length + 1) - 1) v m = some (F 0, stc m 235 F) ∧ pl F s' := by
            intro v hv
            unfold g_X14_valueOf_308
            rw [r1, r2, r3, r4, r5, g_t, g_t, g_t, g_t, g_t, ofm1', gof (by omega) (by decide), g_t, tn_of (by omega), stc_i]
            refine goS _ ?_ ⟨by rw [pu_at]; exact hv, pl_pu hp.2.2 (Nat.le_refl _)⟩ (by show t.length + 1 ≤ 31; omega)
            rw [hd]; exact hst
          have tail : ∀ s0 : Int32, (m.1 (c + 1) k = 2 ∨ m.1 (c + 1) k = 3 ∨ m.1 (c + 1) k = 4 ∨ (if s0 = 0 then (0 : Int) else 1) = opv (K - 3) a b) → ∃ F, g_X14_valueOf_237 w (g_X14_valueOf_6 w f) c (Int32.ofNat (k + (n + 1))) (Int32.ofNat (t.length + 1)) (Int32.ofNat k) (m.1 (c + 1) k) (Int32.toInt64 (m.1 235 t.length)) (Int32.toInt64 (m.1 235 (t.length + 1))) s0 m = some (F 0, stc m 235 F) ∧ pl F s' := by
            intro s0 hs0
            unfold g_X14_valueOf_237
            rw [r1, r2, r3, r4, r5, g_t, g_t, g_t, g_t, g_t]
            by_cases e2 : m.1 (c + 1) k = 2
            · rw [if_pos e2] at hK ⊢
              have : K = 3 := (Prod.mk.inj hK).1.symm
              subst this
              obtain ⟨v, hv1, hv2⟩ := bound_I (w := w) (m := m) (x := Int32.toInt64 (m.1 235 t.length) + Int32.toInt64 (m.1 235 (t.length + 1)))
              rw [hv1]
              refine fin v ?_
              rw [hv2, addL (by rw [i2l, i2l]; omega) (by rw [i2l, i2l]; omega), i2l, i2l, hA, hB]
              simp [opv]
            · rw [if_neg e2] at hK ⊢
              by_cases e3 : m.1 (c + 1) k = 3
              · rw [if_pos e3] at hK ⊢
                have : K = 4 := (Prod.mk.inj hK).1.symm
                subst this
                obtain ⟨v, hv1, hv2⟩ := bound_I (w := w) (m := m) (x := Int32.toInt64 (m.1 235 t.length) - Int32.toInt64 (m.1 235 (t.length + 1)))
                rw [hv1]
                refine fin v ?_
                rw [hv2, subL (by rw [i2l, i2l]; omega) (by rw [i2l, i2l]; omega), i2l, i2l, hA, hB]
                simp [opv]
              · rw [if_neg e3] at hK ⊢
                by_cases e4 : m.1 (c + 1) k = 4
                · rw [if_pos e4] at hK ⊢
                  have : K = 5 := (Prod.mk.inj hK).1.symm
                  subst this
                  obtain ⟨v, hv1, hv2⟩ := bound_I (w := w) (m := m) (x := Int32.toInt64 (m.1 235 t.length) * Int32.toInt64 (m.1 235 (t.length + 1)))
                  rw [hv1]
                  refine fin v ?_
                  have pr : -1000000000000000000 ≤ a * b ∧ a * b ≤ 1000000000000000000 := by
                    exact mul_rng bA bB
                  rw [hv2, mulL (by rw [i2l, i2l, hA, hB]; omega) (by rw [i2l, i2l, hA, hB]; omega), i2l, i2l, hA, hB]
                  simp [opv]
                · rw [if_neg e4] at hK ⊢
                  rcases hs0 with q | q | q | q
                  · exact absurd q e2
                  · exact absurd q e3
                  · exact absurd q e4
                  · by_cases z : s0 = 0
                    · rw [if_pos z] at q ⊢
                      exact fin 0 q
                    · rw [if_neg z] at q ⊢
                      exact fin 1 q
          rw [show (b :: a :: t).length = t.length + 1 + 1 from rfl, ofm1, ofm1', gof (by omega) (by decide), g_t, gof (by omega) (by decide), tn_of (by omega), tn_of (by omega)]
          simp only [rf_vl, g_t]
          have L8 : (Int32.toInt64 (m.1 235 t.length)).toInt = a := by rw [i2l, hA]
          have L10 : (Int32.toInt64 (m.1 235 (t.length + 1))).toInt = b := by rw [i2l, hB]
          have LS : (Int32.toInt64 (m.1 235 t.length) + Int32.toInt64 (m.1 235 (t.length + 1))).toInt = a + b := by rw [addL (by rw [L8, L10]; omega) (by rw [L8, L10]; omega), L8, L10]
          by_cases e5 : m.1 (c + 1) k = 5
          · have : K = 6 := by rw [e5] at hK; exact (Prod.mk.inj hK).1.symm
            subst this
            rw [if_pos e5]
            by_cases z : (0 : Int32) ≤ lg_cmp (Int32.toInt64 (m.1 235 t.length)) (Int32.toInt64 (m.1 235 (t.length + 1)))
            · rw [if_pos z]
              have z' := cmp_nn.mp z
              rw [L8, L10] at z'
              exact tail 0 (Or.inr (Or.inr (Or.inr (by show (0 : Int) = b01 (a < b); rw [b01_f (by omega)]))))
            · rw [if_neg z]
              have z' : ¬ _ := fun q => z (cmp_nn.mpr q)
              rw [L8, L10] at z'
              exact tail 1 (Or.inr (Or.inr (Or.inr (by show (1 : Int) = b01 (a < b); rw [b01_t (by omega)]))))
          · rw [if_neg e5]
            by_cases e6 : m.1 (c + 1) k = 6
            · have : K = 7 := by rw [e6] at hK; exact (Prod.mk.inj hK).1.symm
              subst this
              rw [if_pos e6]
              by_cases z : lg_cmp (Int32.toInt64 (m.1 235 t.length)) (Int32.toInt64 (m.1 235 (t.length + 1))) ≤ 0
              · rw [if_pos z]
                have z' := cmp_le.mp z
                rw [L8, L10] at z'
                exact tail 0 (Or.inr (Or.inr (Or.inr (by show (0 : Int) = b01 (b < a); rw [b01_f (by omega)]))))
              · rw [if_neg z]
                have z' : ¬ _ := fun q => z (cmp_le.mpr q)
                rw [L8, L10] at z'
                exact tail 1 (Or.inr (Or.inr (Or.inr (by show (1 : Int) = b01 (b < a); rw [b01_t (by omega)]))))
            · rw [if_neg e6]
              by_cases e7 : m.1 (c + 1) k = 7
              · have : K = 8 := by rw [e7] at hK; exact (Prod.mk.inj hK).1.symm
                subst this
                rw [if_pos e7]
                by_cases z : lg_cmp (Int32.toInt64 (m.1 235 t.length)) (Int32.toInt64 (m.1 235 (t.length + 1))) = 0
                · rw [if_pos z]
                  have z' := l_eq.mp (cmp_eq0.mp z)
                  rw [L8, L10] at z'
                  exact tail 1 (Or.inr (Or.inr (Or.inr (by show (1 : Int) = b01 (a = b); rw [b01_t z']))))
                · rw [if_neg z]
                  have z' : ¬ a = b := fun q => z (cmp_eq0.mpr (l_eq.mpr (by rw [L8, L10, q])))
                  exact tail 0 (Or.inr (Or.inr (Or.inr (by show (0 : Int) = b01 (a = b); rw [b01_f z']))))
              · rw [if_neg e7]
                by_cases e9 : m.1 (c + 1) k = 9
                · have : K = 9 := by rw [e9] at hK; exact (Prod.mk.inj hK).1.symm
                  subst this
                  have bl : bol a ∧ bol b := by rcases hbl with q | q; omega; exact q
                  unfold bol at bl
                  rw [if_pos e9]
                  have c2 : (2 : Int64).toInt = 2 := rfl
                  by_cases z : lg_cmp (Int32.toInt64 (m.1 235 t.length) + Int32.toInt64 (m.1 235 (t.length + 1))) 2 = 0
                  · rw [if_pos z]
                    have z' := l_eq.mp (cmp_eq0.mp z)
                    rw [LS, c2] at z'
                    exact tail 1 (Or.inr (Or.inr (Or.inr (by show (1 : Int) = b01 (a = 1 ∧ b = 1); rw [b01_t (by omega)]))))
                  · rw [if_neg z]
                    have z' : ¬ a + b = 2 := fun q => z (cmp_eq0.mpr (l_eq.mpr (by rw [LS, c2, q])))
                    exact tail 0 (Or.inr (Or.inr (Or.inr (by show (0 : Int) = b01 (a = 1 ∧ b = 1); rw [b01_f (by omega)]))))
                · rw [if_neg e9]
                  by_cases z : lg_cmp (Int32.toInt64 (m.1 235 t.length) + Int32.toInt64 (m.1 235 (t.length + 1))) 0 ≤ 0
                  · rw [if_pos z]
                    refine tail 0 ?_
                    by_cases e2 : m.1 (c + 1) k = 2
                    · exact Or.inl e2
                    · by_cases e3 : m.1 (c + 1) k = 3
                      · exact Or.inr (Or.inl e3)
                      · by_cases e4 : m.1 (c + 1) k = 4
                        · exact Or.inr (Or.inr (Or.inl e4))
                        · rw [if_neg e2, if_neg e3, if_neg e4, if_neg e5, if_neg e6, if_neg e7, if_neg e9] at hK
                          have : K = 10 := (Prod.mk.inj hK).1.symm
                          subst this
                          have bl : bol a ∧ bol b := by rcases hbl with q | q; omega; exact q
                          unfold bol at bl
                          have z' := cmp_le.mp z
                          rw [LS, l_0] at z'
                          exact Or.inr (Or.inr (Or.inr (by show (0 : Int) = b01 (a = 1 ∨ b = 1); rw [b01_f (by omega)])))
                  · rw [if_neg z]
                    refine tail 1 ?_
                    by_cases e2 : m.1 (c + 1) k = 2
                    · exact Or.inl e2
                    · by_cases e3 : m.1 (c + 1) k = 3
                      · exact Or.inr (Or.inl e3)
                      · by_cases e4 : m.1 (c + 1) k = 4
                        · exact Or.inr (Or.inr (Or.inl e4))
                        · rw [if_neg e2, if_neg e3, if_neg e4, if_neg e5, if_neg e6, if_neg e7, if_neg e9] at hK
                          have : K = 10 := (Prod.mk.inj hK).1.symm
                          subst this
                          have bl : bol a ∧ bol b := by rcases hbl with q | q; omega; exact q
                          unfold bol at bl
                          have z' : ¬ _ := fun q => z (cmp_le.mpr q)
                          rw [LS, l_0] at z'
                          exact Or.inr (Or.inr (Or.inr (by show (1 : Int) = b01 (a = 1 ∨ b = 1); rw [b01_t (by omega)])))
end PBEval
