/-! check: the reference's sides -/
section PBCheckR
def canR (G : Nat → Int32) (S : Int32 → Prop) : Prop := (∀ k, k < 900 → G k = 0 ∨ G k = 1) ∧ ∀ x y : Nat, x < 30 → y < 30 → (G (30 * x + y) ≠ 0 ↔ S (sd (Int32.ofNat x) (Int32.ofNat y)))
theorem canR_c {G : Nat → Int32} {S S' : Int32 → Prop} (h : canR G S) (e : ∀ s, S s ↔ S' s) : canR G S' := ⟨h.1, fun x y hx hy => (h.2 x y hx hy).trans (e _)⟩
theorem ofib {a : Nat} (h : a < 30) : ib (Int32.ofNat a) 30 := ⟨of_nn (by omega), (of_lt (b := 30) (by omega) (by omega)).mpr h⟩
theorem alw_R {G : Nat → Int32} {S : Int32 → Prop} {a b : Nat} (ha : a < 30) (hb : b < 30) (h : canR G S) : canR (pu (pu G (30 * a + b) 1) (30 * b + a) 1) (fun s => S s ∨ s = sd (Int32.ofNat a) (Int32.ofNat b)) := by
  have o1 : (1 : Int32) ≠ 0 := by decide
  refine ⟨fun k hk => ?_, fun x y hx hy => ?_⟩
  · by_cases e1 : k = 30 * b + a
    · rw [e1, pu_at]; exact Or.inr rfl
    · rw [pu_ne e1]
      by_cases e2 : k = 30 * a + b
      · rw [e2, pu_at]; exact Or.inr rfl
      · rw [pu_ne e2]; exact h.1 k hk
  · by_cases e1 : 30 * x + y = 30 * b + a
    · rw [e1, pu_at]
      have hx1 : x = b := by omega
      have hy1 : y = a := by omega
      exact ⟨fun _ => Or.inr ((sd_iff (ofib ha) (ofib hb) (ofib hx) (ofib hy)).mpr (Or.inr ⟨by rw [hx1], by rw [hy1]⟩)), fun _ => o1⟩
    · rw [pu_ne e1]
      by_cases e2 : 30 * x + y = 30 * a + b
      · rw [e2, pu_at]
        have hx1 : x = a := by omega
        have hy1 : y = b := by omega
        exact ⟨fun _ => Or.inr (by rw [hx1, hy1]), fun _ => o1⟩
      · rw [pu_ne e2]
        refine (h.2 x y hx hy).trans ⟨Or.inl, fun q => q.elim id (fun q => ?_)⟩
        exfalso
        rcases (sd_iff (ofib ha) (ofib hb) (ofib hx) (ofib hy)).mp q with ⟨q1, q2⟩ | ⟨q1, q2⟩
        · have := (of_inj (by omega) (by omega)).mp q1
          have := (of_inj (by omega) (by omega)).mp q2
          omega
        · have := (of_inj (by omega) (by omega)).mp q1
          have := (of_inj (by omega) (by omega)).mp q2
          omega
theorem thirty {x y : Int32} (hx : ib x 30) (hy : ib y 30) : 30 * x + y = Int32.ofNat (30 * x.toNatClampNeg + y.toNatClampNeg) ∧ x.toNatClampNeg < 30 ∧ y.toNatClampNeg < 30 := by
  refine ⟨?_, tn_lt hx.1 hx.2 (by decide), tn_lt hy.1 hy.2 (by decide)⟩
  rw [Int32.ofNat_add, Int32.ofNat_mul, of_tn hx.1, of_tn hy.1]
  rfl
theorem allow1 {w : rf_w} {M : rf_m} {G : Nat → Int32} {x y : Int32} (hx : ib x 30) (hy : ib y 30) : g_X14_allows__281 w (stc M 281 G) x y = some (stc M 281 (pu (pu G (30 * x.toNatClampNeg + y.toNatClampNeg) 1) (30 * y.toNatClampNeg + x.toNatClampNeg) 1)) := by
  obtain ⟨e1, h1, h2⟩ := thirty hx hy
  obtain ⟨e2, _, _⟩ := thirty hy hx
  unfold g_X14_allows__281
  rw [e1, e2, gof (by omega) (by decide), g_t, gof (by omega) (by decide), g_t, tn_of (by omega), tn_of (by omega), nar01 (Or.inr rfl), stc_i2, stc_i2]
theorem allow0 {w : rf_w} {M : rf_m} {G : Nat → Int32} {x y : Int32} (hx : ib x 30) (hy : ib y 30) : g_X14_allows__280 w (stc M 280 G) x y = some (stc M 280 (pu (pu G (30 * x.toNatClampNeg + y.toNatClampNeg) 1) (30 * y.toNatClampNeg + x.toNatClampNeg) 1)) := by
  obtain ⟨e1, h1, h2⟩ := thirty hx hy
  obtain ⟨e2, _, _⟩ := thirty hy hx
  unfold g_X14_allows__280
  rw [e1, e2, gof (by omega) (by decide), g_t, gof (by omega) (by decide), g_t, tn_of (by omega), tn_of (by omega), nar01 (Or.inr rfl), stc_i2, stc_i2]
/-- the corner's other marks -/
theorem cor_ib {m : rf_m} {t i : Nat} (jn : JNet m) (ja : JAng m) (jm : JMark m) (ht : t < (m.1 206 64).toNatClampNeg) (hi : i < 3) : ib (m.1 218 (m.1 243 (3 * t + i)).toNatClampNeg) 30 ∧ ib (m.1 219 (m.1 243 (3 * t + i)).toNatClampNeg) 30 := by
  obtain ⟨_, q⟩ := net_t jn ja ht hi
  obtain ⟨_, ⟨a1, a2⟩, ⟨a3, a4⟩, _⟩ := ja.2.2.2.2.2 _ q
  have h := jm.2.1.2
  exact ⟨⟨a1, by clear jn ja; grind⟩, ⟨a3, by clear jn ja; grind⟩⟩
theorem r404 {w : rf_w} {m M : rf_m} {t i : Nat} {r208 : Int32 → Int32 → Int32 → Int32 → Int32 → rf_m → Option (Int32 × rf_m)} {r335 : Int32 → Int32 → Int32 → Int32 → Int32 → Int32 → Int32 → Int32 → Int32 → rf_m → Option (Int32 × rf_m)} {a2 a3 a10 a11 a12 a14 a15 : Int32} {S : Int32 → Prop} {G : Nat → Int32} (jn : JNet m) (ja : JAng m) (jm : JMark m) (ht : t < (m.1 206 64).toNatClampNeg) (hi : i < 3) (h3 : M.1 243 = m.1 243) (h8 : M.1 218 = m.1 218) (h9 : M.1 219 = m.1 219) (hG : canR G S) : ∃ G', canR G' (fun s => S s ∨ ∃ j, j < 3 ∧ i ≠ j ∧ s = sidV m t j) ∧ g_X14_check_404 w r208 r335 rf_fuel a2 a3 a10 a11 a12 (Int32.ofNat t) a14 a15 (Int32.ofNat i) 0 (stc M 281 G) = r335 a2 a3 a10 a11 a12 (Int32.ofNat t) a14 a15 (Int32.ofNat (i + 1)) (stc M 281 G') := by
  have n30 := (net30 jn).1
  have key : ∀ n f j G, j + n = 3 → n < f → canR G (fun s => S s ∨ ∃ j', j' < j ∧ i ≠ j' ∧ s = sidV m t j') → ∃ G', canR G' (fun s => S s ∨ ∃ j, j < 3 ∧ i ≠ j ∧ s = sidV m t j) ∧ g_X14_check_404 w r208 r335 f a2 a3 a10 a11 a12 (Int32.ofNat t) a14 a15 (Int32.ofNat i) (Int32.ofNat j) (stc M 281 G) = r335 a2 a3 a10 a11 a12 (Int32.ofNat t) a14 a15 (Int32.ofNat (i + 1)) (stc M 281 G') := by
    intro n
    induction n with
    | zero =>
      intro f j G hj hf hG
      obtain ⟨f, rfl⟩ : ∃ g, f = g + 1 := ⟨f - 1, by omega⟩
      have e : j = 3 := by omega
      subst e
      refine ⟨G, hG, ?_⟩
      show g_X14_check_404_b w _ _ _ _ _ _ _ _ _ _ _ _ _ _ = _
      unfold g_X14_check_404_b g_X14_check_465
      rw [if_pos (by decide), of_succ]
    | succ n ih =>
      intro f j G hj hf hG
      obtain ⟨f, rfl⟩ : ∃ g, f = g + 1 := ⟨f - 1, by omega⟩
      have h1 : ¬ (3 : Int32) ≤ Int32.ofNat j := nle (R := 3) (by omega) (by decide)
      have go : ∃ G1, canR G1 (fun s => S s ∨ ∃ j', j' < j + 1 ∧ i ≠ j' ∧ s = sidV m t j') ∧ g_X14_check_404 w r208 r335 (f + 1) a2 a3 a10 a11 a12 (Int32.ofNat t) a14 a15 (Int32.ofNat i) (Int32.ofNat j) (stc M 281 G) = g_X14_check_404 w r208 r335 f a2 a3 a10 a11 a12 (Int32.ofNat t) a14 a15 (Int32.ofNat i) (Int32.ofNat (j + 1)) (stc M 281 G1) := by
        show ∃ G1, _ ∧ g_X14_check_404_b w _ _ _ _ _ _ _ _ _ _ _ _ _ _ = _
        unfold g_X14_check_404_b g_X14_check_459
        by_cases e : j = i
        · refine ⟨G, canR_c hG (fun s => ?_), by rw [if_neg h1, e, if_pos rfl, of_succ]⟩
          refine or_congr Iff.rfl ⟨fun ⟨j', q1, q2⟩ => ⟨j', by omega, q2⟩, fun ⟨j', q1, q2, q3⟩ => ⟨j', by omega, q2, q3⟩⟩
        · have e' : ¬ Int32.ofNat j = Int32.ofNat i := fun q => e ((of_inj (by omega) (by omega)).mp q)
          obtain ⟨q1, q2⟩ := net_t jn ja ht (show j < 3 by omega)
          obtain ⟨p1, p2⟩ := cor_ib jn ja jm ht (show j < 3 by omega)
          have b1 : (stc M 281 G).1 243 = m.1 243 := by rw [stc_ne (by decide)]; exact h3
          have b2 : (stc M 281 G).1 218 = m.1 218 := by rw [stc_ne (by decide)]; exact h8
          have b3 : (stc M 281 G).1 219 = m.1 219 := by rw [stc_ne (by decide)]; exact h9
          have al := alw_R (tn_lt p1.1 p1.2 (by decide)) (tn_lt p2.1 p2.2 (by decide)) hG
          rw [of_tn p1.1, of_tn p2.1] at al
          refine ⟨_, canR_c al (fun s => ?_), by rw [if_neg h1, if_neg e', t3', gof (by omega) (by decide), g_t, tn_of (by omega), b1, in_ib q1, g_t, g_t, g_t, b2, b3, allow1 p1 p2, bv_sm, of_succ]⟩
          constructor
          · rintro ((q | ⟨j', q1, q2, q3⟩) | q)
            · exact Or.inl q
            · exact Or.inr ⟨j', by omega, q2, q3⟩
            · exact Or.inr ⟨j, by omega, fun z => e z.symm, q⟩
          · rintro (q | ⟨j', q1, q2, q3⟩)
            · exact Or.inl (Or.inl q)
            · by_cases z : j' = j
              · exact Or.inr (by rw [q3, z]; rfl)
              · exact Or.inl (Or.inr ⟨j', by omega, q2, q3⟩)
      obtain ⟨G1, k1, k2⟩ := go
      rw [k2]
      exact ih f (j + 1) G1 (by omega) (by omega) k1
  exact key 3 rf_fuel 0 G (by omega) (by unfold rf_fuel; omega) (canR_c hG (fun s => ⟨Or.inl, fun q => q.elim id (fun ⟨j', q1, _⟩ => by omega)⟩))
theorem r335 {w : rf_w} {m M : rf_m} {t : Nat} {r208 : Int32 → Int32 → Int32 → Int32 → Int32 → rf_m → Option (Int32 × rf_m)} {a2 a3 a10 a11 a12 a14 : Int32} {S : Int32 → Prop} {G : Nat → Int32} (jn : JNet m) (ja : JAng m) (jm : JMark m) (ht : t < (m.1 206 64).toNatClampNeg) (h3 : M.1 243 = m.1 243) (h8 : M.1 218 = m.1 218) (h9 : M.1 219 = m.1 219) (hS : canR (M.1 280) S) (hG : canR G (fun _ => False)) : ∃ G', canR G' (nxt m t S) ∧ g_X14_check_335 w r208 rf_fuel a2 a3 a10 a11 a12 (Int32.ofNat t) a14 0 0 (stc M 281 G) = g_X14_check_335 w r208 1 a2 a3 a10 a11 a12 (Int32.ofNat t) a14 (bi (∃ i, i < 3 ∧ S (sidV m t i))) 3 (stc M 281 G') := by
  have n30 := (net30 jn).1
  have key : ∀ n f i G, i + n = 3 → n < f → canR G (fun s => ∃ i' j', i' < i ∧ j' < 3 ∧ i' ≠ j' ∧ S (sidV m t i') ∧ s = sidV m t j') → ∃ G', canR G' (nxt m t S) ∧ g_X14_check_335 w r208 f a2 a3 a10 a11 a12 (Int32.ofNat t) a14 (bi (∃ i', i' < i ∧ S (sidV m t i'))) (Int32.ofNat i) (stc M 281 G) = g_X14_check_335 w r208 1 a2 a3 a10 a11 a12 (Int32.ofNat t) a14 (bi (∃ i, i < 3 ∧ S (sidV m t i))) 3 (stc M 281 G') := by
    intro n
    induction n with
    | zero =>
      intro f i G hi hf hG
      obtain ⟨f, rfl⟩ : ∃ g, f = g + 1 := ⟨f - 1, by omega⟩
      have e : i = 3 := by omega
      subst e
      refine ⟨G, hG, ?_⟩
      show g_X14_check_335_b w _ _ _ _ _ _ _ _ _ _ _ _ = g_X14_check_335_b w _ _ _ _ _ _ _ _ _ _ _ _
      unfold g_X14_check_335_b
      have p3 : (3 : Int32) ≤ Int32.ofNat 3 := by decide
      have p3' : (3 : Int32) ≤ 3 := by decide
      rw [if_pos p3, if_pos p3']
    | succ n ih =>
      intro f i G hi hf hG
      obtain ⟨f, rfl⟩ : ∃ g, f = g + 1 := ⟨f - 1, by omega⟩
      have h1 : ¬ (3 : Int32) ≤ Int32.ofNat i := nle (R := 3) (by omega) (by decide)
      have i3 : i < 3 := by omega
      obtain ⟨q1, q2⟩ := net_t jn ja ht i3
      obtain ⟨p1, p2⟩ := cor_ib jn ja jm ht i3
      obtain ⟨e1, d1, d2⟩ := thirty p1 p2
      have b1 : (stc M 281 G).1 243 = m.1 243 := by rw [stc_ne (by decide)]; exact h3
      have b2 : (stc M 281 G).1 218 = m.1 218 := by rw [stc_ne (by decide)]; exact h8
      have b3 : (stc M 281 G).1 219 = m.1 219 := by rw [stc_ne (by decide)]; exact h9
      have b4 : (stc M 281 G).1 280 = M.1 280 := by rw [stc_ne (by decide)]
      have sS := hS.2 _ _ d1 d2
      rw [of_tn p1.1, of_tn p2.1] at sS
      have sS : _ ↔ S (sidV m t i) := sS
      have go : ∃ G1, canR G1 (fun s => ∃ i' j', i' < i + 1 ∧ j' < 3 ∧ i' ≠ j' ∧ S (sidV m t i') ∧ s = sidV m t j') ∧ g_X14_check_335 w r208 (f + 1) a2 a3 a10 a11 a12 (Int32.ofNat t) a14 (bi (∃ i', i' < i ∧ S (sidV m t i'))) (Int32.ofNat i) (stc M 281 G) = g_X14_check_335 w r208 f a2 a3 a10 a11 a12 (Int32.ofNat t) a14 (bi (∃ i', i' < i + 1 ∧ S (sidV m t i'))) (Int32.ofNat (i + 1)) (stc M 281 G1) := by
        show ∃ G1, _ ∧ g_X14_check_335_b w _ _ _ _ _ _ _ _ _ _ _ _ = _
        unfold g_X14_check_335_b g_X14_check_465
        simp only [rf_vi]
        rw [if_neg h1, t3', gof (by omega) (by decide), g_t, tn_of (by omega), b1, in_ib q1, g_t, g_t, g_t, b2, b3, e1, gof (by omega) (by decide), g_t, tn_of (by omega), b4]
        by_cases q : S (sidV m t i)
        · rw [if_neg (sS.mpr q)]
          obtain ⟨G1, c1, c2⟩ := r404 (w := w) (r208 := r208) (r335 := g_X14_check_335 w r208 f) (a2 := a2) (a3 := a3) (a10 := a10) (a11 := a11) (a12 := a12) (a14 := a14) (a15 := 1) jn ja jm ht i3 h3 h8 h9 hG
          refine ⟨G1, canR_c c1 (fun s => ?_), ?_⟩
          · constructor
            · rintro (⟨i', j', z1, z2⟩ | ⟨j', z1, z2, z3⟩)
              · exact ⟨i', j', by omega, z2⟩
              · exact ⟨i, j', by omega, z1, z2, q, z3⟩
            · rintro ⟨i', j', z1, z2, z3, z4, z5⟩
              by_cases e : i' = i
              · exact Or.inr ⟨j', z2, by omega, z5⟩
              · exact Or.inl ⟨i', j', by omega, z2, z3, z4, z5⟩
          · rw [c2, bi_t ⟨i, by omega, q⟩]
        · have z0 : M.1 280 (30 * (m.1 218 (m.1 243 (3 * t + i)).toNatClampNeg).toNatClampNeg + (m.1 219 (m.1 243 (3 * t + i)).toNatClampNeg).toNatClampNeg) = 0 := Classical.byContradiction fun z => q (sS.mp z)
          rw [if_pos z0, of_succ]
          refine ⟨G, canR_c hG (fun s => ?_), ?_⟩
          · constructor
            · rintro ⟨i', j', z1, z2⟩
              exact ⟨i', j', by omega, z2⟩
            · rintro ⟨i', j', z1, z2, z3, z4, z5⟩
              by_cases e : i' = i
              · rw [e] at z4; exact absurd z4 q
              · exact ⟨i', j', by omega, z2, z3, z4, z5⟩
          · rw [bi_congr (P := ∃ i', i' < i ∧ S (sidV m t i')) (Q := ∃ i', i' < i + 1 ∧ S (sidV m t i')) ⟨fun ⟨i', z1, z2⟩ => ⟨i', by omega, z2⟩, fun ⟨i', z1, z2⟩ => ⟨i', by
              have : i' ≠ i := fun e => q (e ▸ z2)
              omega, z2⟩⟩]
      obtain ⟨G1, k1, k2⟩ := go
      rw [k2]
      exact ih f (i + 1) G1 (by omega) (by omega) k1
  have := key 3 rf_fuel 0 G (by omega) (by unfold rf_fuel; omega) (canR_c hG (fun s => ⟨False.elim, fun ⟨i', _, q, _⟩ => by omega⟩))
  rw [bi_f (P := ∃ i', i' < 0 ∧ S (sidV m t i')) (fun ⟨i', q, _⟩ => by omega)] at this
  exact this
theorem canR_0 {G : Nat → Int32} (h : ∀ k, k < 900 → G k = 0) : canR G (fun _ => False) := ⟨fun k hk => Or.inl (h k hk), fun x y hx hy => ⟨fun q => q (h _ (by omega)), False.elim⟩⟩
theorem r307 {w : rf_w} {M : rf_m} {r208 : Int32 → Int32 → Int32 → Int32 → Int32 → rf_m → Option (Int32 × rf_m)} {a2 a3 a10 a11 a12 a13 a14 : Int32} : ∃ G, canR G (fun _ => False) ∧ g_X14_check_307 w r208 rf_fuel a2 a3 a10 a11 a12 a13 a14 0 M = g_X14_check_335 w r208 rf_fuel a2 a3 a10 a11 a12 a13 a14 0 0 (stc M 281 G) := by
  have key : ∀ n f i G, i + n = 900 → n < f → (∀ k, k < i → G k = 0) → ∃ G', canR G' (fun _ => False) ∧ g_X14_check_307 w r208 f a2 a3 a10 a11 a12 a13 a14 (Int32.ofNat i) (stc M 281 G) = g_X14_check_335 w r208 rf_fuel a2 a3 a10 a11 a12 a13 a14 0 0 (stc M 281 G') := by
    intro n
    induction n with
    | zero =>
      intro f i G hi hf hG
      obtain ⟨f, rfl⟩ : ∃ g, f = g + 1 := ⟨f - 1, by omega⟩
      have e : i = 900 := by omega
      subst e
      refine ⟨G, canR_0 hG, ?_⟩
      show g_X14_check_307_b w _ _ _ _ _ _ _ _ _ _ _ = _
      unfold g_X14_check_307_b
      have p : (900 : Int32) ≤ Int32.ofNat 900 := by decide
      rw [if_pos p]
    | succ n ih =>
      intro f i G hi hf hG
      obtain ⟨f, rfl⟩ : ∃ g, f = g + 1 := ⟨f - 1, by omega⟩
      have h1 : ¬ (900 : Int32) ≤ Int32.ofNat i := nle (R := 900) (by omega) (by decide)
      show ∃ G', _ ∧ g_X14_check_307_b w _ _ _ _ _ _ _ _ _ _ _ = _
      unfold g_X14_check_307_b
      rw [if_neg h1, gof (by omega) (by decide), g_t, tn_of (by omega), nar01 (Or.inl rfl), stc_i2, of_succ]
      refine ih f (i + 1) _ (by omega) (by omega) (fun k hk => ?_)
      by_cases e : k = i
      · rw [e, pu_at]
      · rw [pu_ne e]; exact hG k (by omega)
  have := key 900 rf_fuel 0 (M.1 281) (by omega) (by unfold rf_fuel; omega) (fun k hk => by omega)
  rw [stc_self] at this
  exact this
theorem r163 {w : rf_w} {M : rf_m} {a1 a2 a3 a10 a11 : Int32} (h6 : ib a1 6) (p1 : ib (M.1 236 a1.toNatClampNeg) 30) (p2 : ib (M.1 237 a1.toNatClampNeg) 30) : ∃ G, canR G (fun s => s = sd (M.1 236 a1.toNatClampNeg) (M.1 237 a1.toNatClampNeg)) ∧ g_X14_check_163 w rf_fuel a1 a2 a3 a10 a11 0 M = g_X14_check_208 w rf_fuel a2 a3 a10 a11 0 (stc M 280 G) := by
  have key : ∀ n f i G, i + n = 900 → n < f → (∀ k, k < i → G k = 0) → ∃ G', canR G' (fun s => s = sd (M.1 236 a1.toNatClampNeg) (M.1 237 a1.toNatClampNeg)) ∧ g_X14_check_163 w f a1 a2 a3 a10 a11 (Int32.ofNat i) (stc M 280 G) = g_X14_check_208 w rf_fuel a2 a3 a10 a11 0 (stc M 280 G') := by
    intro n
    induction n with
    | zero =>
      intro f i G hi hf hG
      obtain ⟨f, rfl⟩ : ∃ g, f = g + 1 := ⟨f - 1, by omega⟩
      have e : i = 900 := by omega
      subst e
      have al := alw_R (tn_lt p1.1 p1.2 (by decide)) (tn_lt p2.1 p2.2 (by decide)) (canR_0 hG)
      rw [of_tn p1.1, of_tn p2.1] at al
      refine ⟨_, canR_c al (fun s => ⟨fun q => q.elim False.elim id, Or.inr⟩), ?_⟩
      show g_X14_check_163_b w _ _ _ _ _ _ _ _ = _
      unfold g_X14_check_163_b
      have p : (900 : Int32) ≤ Int32.ofNat 900 := by decide
      have b1 : (stc M 280 G).1 236 = M.1 236 := stc_ne (by decide)
      have b2 : (stc M 280 G).1 237 = M.1 237 := stc_ne (by decide)
      rw [if_pos p, gin (N := 6) h6.1 h6.2 (by decide), g_t, g_t, b1, b2, allow0 p1 p2, bv_sm]
    | succ n ih =>
      intro f i G hi hf hG
      obtain ⟨f, rfl⟩ : ∃ g, f = g + 1 := ⟨f - 1, by omega⟩
      have h1 : ¬ (900 : Int32) ≤ Int32.ofNat i := nle (R := 900) (by omega) (by decide)
      show ∃ G', _ ∧ g_X14_check_163_b w _ _ _ _ _ _ _ _ = _
      unfold g_X14_check_163_b
      rw [if_neg h1, gof (by omega) (by decide), g_t, tn_of (by omega), nar01 (Or.inl rfl), stc_i2, of_succ]
      refine ih f (i + 1) _ (by omega) (by omega) (fun k hk => ?_)
      by_cases e : k = i
      · rw [e, pu_at]
      · rw [pu_ne e]; exact hG k (by omega)
  have := key 900 rf_fuel 0 (M.1 280) (by omega) (by unfold rf_fuel; omega) (fun k hk => by omega)
  rw [stc_self] at this
  exact this
theorem r516 {w : rf_w} {M : rf_m} {r208 : Int32 → Int32 → Int32 → Int32 → Int32 → rf_m → Option (Int32 × rf_m)} {a2 a3 a10 a11 a12 : Int32} {S : Int32 → Prop} (hS : canR (M.1 281) S) : ∃ G, canR G S ∧ g_X14_check_516 w r208 rf_fuel a2 a3 a10 a11 a12 0 M = r208 a2 a3 a10 a11 (a12 + 1) (stc M 280 G) := by
  have key : ∀ n f i G, i + n = 900 → n < f → (∀ k, k < i → G k = M.1 281 k) → ∃ G', canR G' S ∧ g_X14_check_516 w r208 f a2 a3 a10 a11 a12 (Int32.ofNat i) (stc M 280 G) = r208 a2 a3 a10 a11 (a12 + 1) (stc M 280 G') := by
    intro n
    induction n with
    | zero =>
      intro f i G hi hf hG
      obtain ⟨f, rfl⟩ : ∃ g, f = g + 1 := ⟨f - 1, by omega⟩
      have e : i = 900 := by omega
      subst e
      refine ⟨G, ⟨fun k hk => by rw [hG k hk]; exact hS.1 k hk, fun x y hx hy => by rw [hG _ (by omega)]; exact hS.2 x y hx hy⟩, ?_⟩
      show g_X14_check_516_b w _ _ _ _ _ _ _ _ _ = _
      unfold g_X14_check_516_b
      have p : (900 : Int32) ≤ Int32.ofNat 900 := by decide
      rw [if_pos p]
    | succ n ih =>
      intro f i G hi hf hG
      obtain ⟨f, rfl⟩ : ∃ g, f = g + 1 := ⟨f - 1, by omega⟩
      have h1 : ¬ (900 : Int32) ≤ Int32.ofNat i := nle (R := 900) (by omega) (by decide)
      show ∃ G', _ ∧ g_X14_check_516_b w _ _ _ _ _ _ _ _ _ = _
      unfold g_X14_check_516_b
      have b1 : (stc M 280 G).1 281 = M.1 281 := stc_ne (by decide)
      rw [if_neg h1, gof (by omega) (by decide), g_t, g_t, tn_of (by omega), b1, nar01 (hS.1 i (by omega)), stc_i2, of_succ]
      refine ih f (i + 1) _ (by omega) (by omega) (fun k hk => ?_)
      by_cases e : k = i
      · rw [e, pu_at]
      · rw [pu_ne e]; exact hG k (by omega)
  have := key 900 rf_fuel 0 (M.1 280) (by omega) (by unfold rf_fuel; omega) (fun k hk => by omega)
  rw [stc_self] at this
  exact this
theorem r267 {w : rf_w} {M : rf_m} {r208 : Int32 → Int32 → Int32 → Int32 → Int32 → rf_m → Option (Int32 × rf_m)} {a2 a3 a10 a11 a13 : Int32} {k : Nat} {P : Prop} (hk : k < 6) : g_X14_check_267 w r208 rf_fuel a2 a3 a10 a11 (Int32.ofNat k) a13 (bi P) 0 M = g_X14_check_307 w r208 rf_fuel a2 a3 a10 a11 (Int32.ofNat k) a13 (bi (P ∧ ¬ ∃ j, j < k ∧ M.1 279 j = a13)) 0 M := by
  have o1 : ¬ (1 : Int32) = 0 := by decide
  have key : ∀ n f i (Q : Prop), i + n = k → n < f → (Q ↔ (P ∧ ¬ ∃ j, j < i ∧ M.1 279 j = a13)) → g_X14_check_267 w r208 f a2 a3 a10 a11 (Int32.ofNat k) a13 (bi Q) (Int32.ofNat i) M = g_X14_check_307 w r208 rf_fuel a2 a3 a10 a11 (Int32.ofNat k) a13 (bi (P ∧ ¬ ∃ j, j < k ∧ M.1 279 j = a13)) 0 M := by
    intro n
    induction n with
    | zero =>
      intro f i Q hi hf hQ
      obtain ⟨f, rfl⟩ : ∃ g, f = g + 1 := ⟨f - 1, by omega⟩
      have e : i = k := by omega
      subst e
      show g_X14_check_267_b w _ _ _ _ _ _ _ _ _ _ M = _
      unfold g_X14_check_267_b
      rw [if_pos (Int32.le_refl _), bi_congr hQ]
    | succ n ih =>
      intro f i Q hi hf hQ
      obtain ⟨f, rfl⟩ : ∃ g, f = g + 1 := ⟨f - 1, by omega⟩
      have h1 : ¬ Int32.ofNat k ≤ Int32.ofNat i := nle (by omega) (by omega)
      show g_X14_check_267_b w _ _ _ _ _ _ _ _ _ _ M = _
      unfold g_X14_check_267_b g_X14_check_295 g_X14_check_296
      have nx : ∀ Q' : Prop, (Q' ↔ (P ∧ ¬ ∃ j, j < i + 1 ∧ M.1 279 j = a13)) → g_X14_check_267 w r208 f a2 a3 a10 a11 (Int32.ofNat k) a13 (bi Q') (Int32.ofNat (i + 1)) M = _ := fun Q' hQ' => ih f (i + 1) Q' (by omega) (by omega) hQ'
      rw [if_neg h1, gof (by omega) (by decide), g_t, tn_of (by omega), of_succ]
      have n0 := nx False
      have n1 := nx True
      rw [bi_F] at n0
      rw [bi_T] at n1
      by_cases q : Q
      · rw [bi_t q, if_neg o1]
        by_cases z : M.1 279 i = a13
        · rw [if_pos z]
          exact n0 ⟨False.elim, fun ⟨_, r⟩ => r ⟨i, by omega, z⟩⟩
        · rw [if_neg z]
          refine n1 ⟨fun _ => ⟨(hQ.mp q).1, fun ⟨j, r1, r2⟩ => ?_⟩, fun _ => trivial⟩
          by_cases e : j = i
          · exact z (e ▸ r2)
          · exact (hQ.mp q).2 ⟨j, by omega, r2⟩
      · rw [bi_f q, if_pos rfl]
        refine n0 ⟨False.elim, fun ⟨r1, r2⟩ => q (hQ.mpr ⟨r1, fun ⟨j, r3, r4⟩ => r2 ⟨j, by omega, r4⟩⟩)⟩
  exact key k rf_fuel 0 P (by omega) (by unfold rf_fuel; omega) ⟨fun p => ⟨p, fun ⟨j, q, _⟩ => by omega⟩, fun p => p.1⟩
end PBCheckR
