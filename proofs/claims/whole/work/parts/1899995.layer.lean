/-! the north is carried on: a layer's offers, side by side -/
section PBLayer
/-- the ranks of the last step are in the same order on both sides -/
def iso (S0 : Nat → Int32) (K d : Nat) (ρ σ : Nat → Nat) : Prop := ∀ p q, vs K p → vs K q → S0 p = Int32.ofNat d → S0 q = Int32.ofNat d → (ρ p < ρ q ↔ σ p < σ q)
theorem bk_dm {q : Nat} (h : q < 900) : bk q / 30 = q % 30 ∧ bk q % 30 = q / 30 := by
  unfold bk
  constructor <;> omega
theorem offers_r {w : rf_w} {BR M : rf_m} {S0 : Nat → Int32} {K A d f q a : Nat} {f1 f2 : Nat → Nat} {ρ σ : Nat → Nat} {O : Nat → Option (Nat × Nat)} {V : Nat → Int32} {v : Int32} (hK : K ≤ 30) (hA : A ≤ 80) (hfr : frR BR M) (hC : RLy σ O V M) (hG : GI S0 K A d f1 f2 O V) (hi : iso S0 K d ρ σ) (hσ : ∀ p, vs K p → S0 p = Int32.ofNat d → σ p ≤ 1000) (hf : vs K f) (hq : vs K q) (ha : a < A) (s1 : S0 f = Int32.ofNat d) (s2 : S0 q = -2) (hv : iv 0 12959999 v) :
    (acc S0 ρ d O f q a → ∃ M', g_X14_offers w M (Int32.ofNat (q / 30)) (Int32.ofNat (q % 30)) (Int32.ofNat (σ f)) (Int32.ofNat a) v = some M' ∧ frR BR M' ∧ RLy σ (upO O q f a) (upV V q v) M') ∧ (¬ acc S0 ρ d O f q a → g_X14_offers w M (Int32.ofNat (q / 30)) (Int32.ofNat (q % 30)) (Int32.ofNat (σ f)) (Int32.ofNat a) v = some M) := by
  obtain ⟨q900, b900, q3, q4, q5⟩ := vs_bk hK hq
  have o1 : ¬ (1 : Int32) = 0 := by decide
  have hσf := hσ f hf s1
  -- the place p, x the one that is offered to, s whether it is turned
  have main : ∀ p s v', p < 900 → p / 30 < p % 30 → O p = O q → (s = 0 ∨ s = 1) → (if s = 0 then v else hlf v) = v' → (∀ u, u < 900 → u / 30 < u % 30 → (u = p ↔ u = q ∨ u = bk q)) → upV V q v p = v' → (p = q ∨ p = bk q) → (acc S0 ρ d O f q a → ∃ M', g_X14_offers_32 w (Int32.ofNat (σ f)) (Int32.ofNat a) v s (Int32.ofNat p) M = some M' ∧ frR BR M' ∧ RLy σ (upO O q f a) (upV V q v) M') ∧ (¬ acc S0 ρ d O f q a → g_X14_offers_32 w (Int32.ofNat (σ f)) (Int32.ofNat a) v s (Int32.ofNat p) M = some M) := by
    intro p s v' p900 plt hOp hs hv' hu hV hpq
    have c80 : g_X14_offers_80 w (Int32.ofNat (σ f)) (Int32.ofNat a) v s (Int32.ofNat p) M = some (rf_i (rf_i (rf_i M 295 p (Int32.ofNat (σ f))) 296 p (Int32.ofNat a)) 297 p v') := by
      unfold g_X14_offers_80
      rw [gof p900 (by decide), tn_of (by omega)]
      simp only [g_t]
      rcases hs with hs | hs
      · rw [if_pos hs]; rw [if_pos hs] at hv'; rw [hv']
      · have hs' : ¬ s = 0 := by rw [hs]; exact o1
        rw [if_neg hs', rounded_r, show rnd (v + 6480000) = hlf v from rfl]; rw [if_neg hs'] at hv'; rw [hv']; simp only [rf_b]
    have put : ∃ M', some (rf_i (rf_i (rf_i M 295 p (Int32.ofNat (σ f))) 296 p (Int32.ofNat a)) 297 p v') = some M' ∧ frR BR M' ∧ RLy σ (upO O q f a) (upV V q v) M' := by
      generalize hM' : rf_i (rf_i (rf_i M 295 p (Int32.ofNat (σ f))) 296 p (Int32.ofNat a)) 297 p v' = M'
      have g295 : M'.1 295 = pu (M.1 295) p (Int32.ofNat (σ f)) := by rw [← hM', rf_i_c, if_neg (by decide), rf_i_c, if_neg (by decide), rf_i_c, if_pos rfl]
      have g296 : M'.1 296 = pu (M.1 296) p (Int32.ofNat a) := by rw [← hM', rf_i_c, if_neg (by decide), rf_i_c, if_pos rfl, rf_i_c, if_neg (by decide)]
      have g297 : M'.1 297 = pu (M.1 297) p v' := by rw [← hM', rf_i_c, if_pos rfl, rf_i_c, if_neg (by decide), rf_i_c, if_neg (by decide)]
      refine ⟨M', rfl, ⟨fun z z1 z2 z3 => ?_, ?_⟩, fun u hu900 => ?_⟩
      · rw [← hM', rf_i_c, if_neg z3, rf_i_c, if_neg z2, rf_i_c, if_neg z1]; exact hfr.1 z z1 z2 z3
      · rw [← hM']; exact hfr.2
      · rw [g295, g296, g297]
        by_cases e : u = p
        · subst e
          refine ⟨fun _ => ⟨fun z => ?_, fun f' a' z => ?_⟩, fun z => absurd plt z⟩
          · rw [upO_at hpq] at z; cases z
          · rw [upO_at hpq] at z
            obtain ⟨rfl, rfl⟩ := Prod.mk.inj (Option.some.inj z)
            rw [pu_at, pu_at, pu_at, hV]
            exact ⟨rfl, rfl, rfl⟩
        · rw [pu_ne e, pu_ne e, pu_ne e]
          by_cases l : u / 30 < u % 30
          · have n := hu u hu900 l
            have n1 : u ≠ q := fun z => e (n.mpr (Or.inl z))
            have n2 : u ≠ bk q := fun z => e (n.mpr (Or.inr z))
            rw [upO_ne n1 n2, upV_ne n1 n2]
            exact hC u hu900
          · exact ⟨fun z => absurd z l, fun _ => (hC u hu900).2 l⟩
    unfold g_X14_offers_32
    rw [gof p900 (by decide), tn_of (by omega)]
    simp only [g_t]
    rw [c80]
    obtain ⟨h1, h2⟩ := (hC p p900).1 plt
    cases e : O q with
    | none =>
      rw [h1 (by rw [hOp, e]), if_pos rfl]
      exact ⟨fun _ => put, fun hn => absurd ⟨s1, s2, fun f' a' z => by rw [e] at z; cases z⟩ hn⟩
    | some z =>
      obtain ⟨f', a'⟩ := z
      obtain ⟨k1, k2, k3⟩ := h2 f' a' (by rw [hOp, e])
      obtain ⟨g1, g2, g3, g4, g5, g6, g7, g8⟩ := hG q f' a' e
      have hσ' := hσ f' g5 g6
      have i1 := hi f f' hf g5 s1 g6
      have i2 := hi f' f g5 hf g6 s1
      have na : ¬ Int32.ofNat a' = -1 := fun z => by have := of_nn (a := a') (by omega); rw [z] at this; exact absurd this (by decide)
      have ac : acc S0 ρ d O f q a ↔ ρ f * 80 + a < ρ f' * 80 + a' := ⟨fun h => h.2.2 f' a' e, fun h => ⟨s1, s2, fun f'' a'' z => by rw [e] at z; obtain ⟨rfl, rfl⟩ := Prod.mk.inj (Option.some.inj z); exact h⟩⟩
      rw [k1, k2, if_neg na, ac]
      have l1 : Int32.ofNat (σ f') < Int32.ofNat (σ f) ↔ σ f' < σ f := of_lt (by omega) (by omega)
      have l2 : Int32.ofNat (σ f') = Int32.ofNat (σ f) ↔ σ f' = σ f := of_inj (by omega) (by omega)
      have l3 : Int32.ofNat a < Int32.ofNat a' ↔ a < a' := of_lt (by omega) (by omega)
      by_cases t1 : σ f' < σ f
      · rw [if_pos (l1.mpr t1)]
        exact ⟨fun h => by omega, fun _ => rfl⟩
      · rw [if_neg (fun z => t1 (l1.mp z))]
        by_cases t2 : σ f' = σ f
        · rw [if_pos (l2.mpr t2)]
          by_cases t3 : a < a'
          · rw [if_pos (l3.mpr t3)]
            exact ⟨fun _ => put, fun h => by omega⟩
          · rw [if_neg (fun z => t3 (l3.mp z))]
            exact ⟨fun h => by omega, fun _ => rfl⟩
        · rw [if_neg (fun z => t2 (l2.mp z))]
          exact ⟨fun _ => put, fun h => by omega⟩
  unfold g_X14_offers g_X14_offers_10
  have hq' := hq
  unfold vs at hq
  by_cases lt : q / 30 < q % 30
  · rw [if_pos ((of_le (by omega) (by omega)).mpr (Nat.le_of_lt lt)), if_pos rfl, o30' (by omega) (by omega), show 30 * (q / 30) + q % 30 = q by omega]
    refine main q 0 v q900 lt rfl (Or.inl rfl) (if_pos rfl) (fun u hu l => ⟨fun z => Or.inl z, fun z => ?_⟩) (upV_at q4).1 (Or.inl rfl)
    rcases z with z | z
    · exact z
    · have := bk_dm q900; rw [z] at l; omega
  · have hn : ¬ Int32.ofNat (q / 30) ≤ Int32.ofNat (q % 30) := nle (by omega) (by omega)
    rw [if_neg hn, if_neg o1, o30' (by omega) (by omega), show 30 * (q % 30) + q / 30 = bk q from rfl]
    have hO : O (bk q) = O q := by
      cases e : O q with
      | none =>
        cases e2 : O (bk q) with
        | none => rfl
        | some z => obtain ⟨f', a'⟩ := z; have := (hG (bk q) f' a' e2).2.1; rw [q3, e] at this; cases this
      | some z => obtain ⟨f', a'⟩ := z; exact (hG q f' a' e).2.1
    refine main (bk q) 1 (hlf v) b900 (by have := bk_dm q900; omega) hO (Or.inr rfl) (if_neg o1) (fun u hu l => ⟨fun z => Or.inr z, fun z => ?_⟩) (upV_at q4).2 (Or.inr rfl)
    rcases z with z | z
    · subst z; exact absurd l lt
    · exact z
/-- what both sides hold alike before a layer -/
def BS (B BR : rf_m) (K A d : Nat) (ρ σ : Nat → Nat) : Prop := (∀ p, vs K p → (B.1 197 p = -2 ∧ BR.1 293 p = -1) ∨ ∃ e, e ≤ d ∧ B.1 197 p = Int32.ofNat e ∧ BR.1 293 p = Int32.ofNat e ∧ BR.1 292 p = B.1 198 p ∧ iv 0 12959999 (B.1 198 p)) ∧ (∀ p, vs K p → B.1 197 (bk p) = B.1 197 p) ∧ (∀ p, vs K p → B.1 197 p = Int32.ofNat d → B.1 199 p = Int32.ofNat (ρ p) ∧ BR.1 294 p = Int32.ofNat (σ p) ∧ ρ p ≤ 200 ∧ σ p ≤ 1000) ∧ iso (B.1 197) K d ρ σ
/-- the angles, alike on both sides -/
def AS (B BR : rf_m) (K A : Nat) (at_ fr to : Nat → Nat) (mu : Nat → Int32) : Prop := B.1 26 6 = Int32.ofNat A ∧ BR.1 206 16 = Int32.ofNat A ∧ ∀ a, a < A → B.1 28 a = Int32.ofNat (at_ a) ∧ B.1 29 a = Int32.ofNat (fr a) ∧ B.1 30 a = Int32.ofNat (to a) ∧ B.1 31 a = mu a ∧ BR.1 217 a = Int32.ofNat (at_ a) ∧ BR.1 218 a = Int32.ofNat (fr a) ∧ BR.1 219 a = Int32.ofNat (to a) ∧ BR.1 248 a = mu a ∧ at_ a < K ∧ fr a < K ∧ to a < K ∧ at_ a ≠ fr a ∧ at_ a ≠ to a ∧ (mu a = -2 ∨ iv 0 12959999 (mu a))
theorem layer_l {w : rf_w} {B BR : rf_m} {K A d : Nat} {ρ σ : Nat → Nat} {at_ fr to : Nat → Nat} {mu : Nat → Int32} {rec18 : Int32 → Int32 → Int32 → Int32 → rf_m → Option rf_m} {rec159 : Int32 → Int32 → rf_m → Option rf_m} {x1 x2 x3 : Int32} (hK : K ≤ 30) (hA : A ≤ 80) (hd : d < 1000) (hB : BS B BR K A d ρ σ) (hS : AS B BR K A at_ fr to mu) : ∀ k a F F' c O V M MR, a + k = A → k < F → k < F' → c ≤ a → frC B M → CL (B.1 197) (B.1 198) ρ d c O V M → frR BR MR → RLy σ O V MR → GI (B.1 197) K A d (fun a => 30 * at_ a + fr a) (fun a => 30 * at_ a + to a) O V → ∃ O' V' c' M' MR', g_X10_carryNorth_50 w rec18 F x1 x2 (Int32.ofNat (d + 1)) (Int32.ofNat a) M = (rf_bv (g_X10_rankLayer w M') fun m0 => (if (m0.1 193 11) ≤ 0 then g_X10_carryNorth_192 w rec18 x1 x2 (Int32.ofNat (d + 1)) 0 m0 else g_X10_carryNorth_192 w rec18 x1 x2 (Int32.ofNat (d + 1)) 1 m0)) ∧ g_X14_norths_189 w rec159 F' x3 (Int32.ofNat d) (Int32.ofNat a) MR = g_X14_norths_381 w rec159 rf_fuel x3 (Int32.ofNat d) 0 MR' ∧ c' ≤ A ∧ frC B M' ∧ CL (B.1 197) (B.1 198) ρ d c' O' V' M' ∧ frR BR MR' ∧ RLy σ O' V' MR' ∧ GI (B.1 197) K A d (fun a => 30 * at_ a + fr a) (fun a => 30 * at_ a + to a) O' V' := by
  obtain ⟨b1, b2, b3, b4⟩ := hB
  intro k
  induction k with
  | zero =>
    intro a F F' c O V M MR hi hF hF' hc h1 h2 h3 h4 h5
    obtain ⟨F, rfl⟩ : ∃ g, F = g + 1 := ⟨F - 1, by omega⟩
    obtain ⟨F', rfl⟩ : ∃ g, F' = g + 1 := ⟨F' - 1, by omega⟩
    refine ⟨O, V, c, M, MR, ?_, ?_, by omega, h1, h2, h3, h4, h5⟩
    · show g_X10_carryNorth_50_b w _ _ _ _ _ _ M = _
      unfold g_X10_carryNorth_50_b
      rw [h1.1 26 (by decide) (by decide) (by decide) (by decide) (by decide), hS.1, show a = A by omega, if_pos (Int32.le_refl _)]
    · show g_X14_norths_189_b w _ _ _ _ _ MR = _
      unfold g_X14_norths_189_b
      rw [h3.1 206 (by decide) (by decide) (by decide), hS.2.1, show a = A by omega, if_pos (Int32.le_refl _)]
  | succ k ih =>
    intro a F F' c O V M MR hi hF hF' hc h1 h2 h3 h4 h5
    obtain ⟨F, rfl⟩ : ∃ g, F = g + 1 := ⟨F - 1, by omega⟩
    obtain ⟨F', rfl⟩ : ∃ g, F' = g + 1 := ⟨F' - 1, by omega⟩
    obtain ⟨a1, a2, a3, a4, r1, r2, r3, r4, l1, l2, l3, n1, n2, hmu⟩ := hS.2.2 a (by omega)
    have hnl : ¬ Int32.ofNat A ≤ Int32.ofNat a := nle (by omega) (by omega)
    have m2 : (-2 : Int32) < 0 := by decide
    have c31 : ∀ M' : rf_m, frC B M' → M'.1 31 a = mu a := fun M' h => by rw [h.1 31 (by decide) (by decide) (by decide) (by decide) (by decide)]; exact a4
    rcases hmu with z | z
    · -- no mean
      obtain ⟨O', V', c', M', MR', k1, k2, k3⟩ := ih (a + 1) F F' c O V M MR (by omega) (by omega) (by omega) (by omega) h1 h2 h3 h4 h5
      refine ⟨O', V', c', M', MR', ?_, ?_, k3⟩
      · rw [← k1]
        show g_X10_carryNorth_50_b w rec18 (g_X10_carryNorth_50 w rec18 F) _ _ _ _ M = _
        unfold g_X10_carryNorth_50_b g_X10_carryNorth_170
        rw [h1.1 26 (by decide) (by decide) (by decide) (by decide) (by decide), hS.1, if_neg hnl, gof (by omega) (by decide), g_t, tn_of (by omega), c31 M h1, z, if_pos m2, of_succ]
      · rw [← k2]
        show g_X14_norths_189_b w rec159 (g_X14_norths_189 w rec159 F') _ _ _ MR = _
        unfold g_X14_norths_189_b g_X14_norths_373
        rw [h3.1 206 (by decide) (by decide) (by decide), hS.2.1, if_neg hnl, gof (by omega) (by decide), g_t, tn_of (by omega), h3.1 248 (by decide) (by decide) (by decide), r4, z, if_pos rfl, of_succ]
    · have zn : ¬ mu a < 0 := fun y => by have := z.1; rw [i_le, i_0] at this; rw [i_lt, i_0] at y; omega
      have z2 : ¬ mu a = -2 := fun y => by rw [y] at zn; exact zn m2
      obtain ⟨zI1, zI2⟩ := ivI z
      have zI1' : 0 ≤ (mu a).toInt := zI1
      have zI2' : (mu a).toInt ≤ 12959999 := zI2
      have vf1 : vs K (30 * at_ a + fr a) := by unfold vs; omega
      have vf2 : vs K (30 * at_ a + to a) := by unfold vs; omega
      have f1900 := (vs_bk hK vf1).1
      have f2900 := (vs_bk hK vf2).1
      have hneg : (-(mu a)).toInt = -(mu a).toInt := by rw [Int32.toInt_neg, bm32 (by omega) (by omega)]
      have dm : ∀ p, vs K p → B.1 197 p = Int32.ofNat d → iv 0 12959999 (B.1 198 p) ∧ BR.1 292 p = B.1 198 p ∧ BR.1 293 p = Int32.ofNat d := fun p hp e => by
        rcases b1 p hp with ⟨y, _⟩ | ⟨e', he, y1, y2, y3, y4⟩
        · rw [e] at y; have := of_nn (a := d) (by omega); rw [y] at this; exact absurd this (by decide)
        · rw [y1] at e; rw [e] at y2 ; rw [← e] at y2; exact ⟨y4, y3, by rw [y2, e]⟩
      have dm2 : ∀ p, vs K p → BR.1 293 p = Int32.ofNat d → B.1 197 p = Int32.ofNat d := fun p hp e => by
        rcases b1 p hp with ⟨_, y⟩ | ⟨e', he, y1, y2, y3, y4⟩
        · rw [e] at y; have := of_nn (a := d) (by omega); rw [y] at this; exact absurd this (by decide)
        · rw [y1, ← y2]; exact e
      have un : ∀ p, vs K p → (BR.1 293 p = -1 ↔ B.1 197 p = -2) := fun p hp => by
        rcases b1 p hp with ⟨y1, y2⟩ | ⟨e', he, y1, y2, y3, y4⟩
        · exact ⟨fun _ => y1, fun _ => y2⟩
        · rw [y1, y2]
          have := of_nn (a := e') (by omega)
          exact ⟨fun q => by rw [q] at this; exact absurd this (by decide), fun q => by rw [q] at this; exact absurd this (by decide)⟩
      have hv1 : ∀ p t, vs K p → B.1 197 p = Int32.ofNat d → (t = mu a ∨ t = -(mu a)) → -12959999 ≤ (B.1 198 p + t).toInt ∧ (B.1 198 p + t).toInt ≤ 25919998 := fun p t hp e ht => by
        obtain ⟨q1, q2⟩ := ivI (dm p hp e).1
        have q1' : 0 ≤ (B.1 198 p).toInt := q1
        have q2' : (B.1 198 p).toInt ≤ 12959999 := q2
        rcases ht with ht | ht
        · rw [ht, addI (by omega) (by omega)]; omega
        · rw [ht, addI (by rw [hneg]; omega) (by rw [hneg]; omega), hneg]; omega
      have hs : ∀ p, vs K p → B.1 197 p = -2 ∨ ∃ e, e ≤ d ∧ B.1 197 p = Int32.ofNat e := fun p hp => by
        rcases b1 p hp with ⟨y1, _⟩ | ⟨e', he, y1, _⟩
        · exact Or.inl y1
        · exact Or.inr ⟨e', he, y1⟩
      generalize hf1 : 30 * at_ a + fr a = p1 at *
      generalize hf2 : 30 * at_ a + to a = p2 at *
      have fin : ∀ O1 V1 c1 M1 MR1, c1 ≤ a + 1 → frC B M1 → CL (B.1 197) (B.1 198) ρ d c1 O1 V1 M1 → frR BR MR1 → RLy σ O1 V1 MR1 → GI (B.1 197) K A d (fun a => 30 * at_ a + fr a) (fun a => 30 * at_ a + to a) O1 V1 → g_X10_carryNorth_50 w rec18 (F + 1) x1 x2 (Int32.ofNat (d + 1)) (Int32.ofNat a) M = g_X10_carryNorth_50 w rec18 F x1 x2 (Int32.ofNat (d + 1)) (Int32.ofNat (a + 1)) M1 → g_X14_norths_189 w rec159 (F' + 1) x3 (Int32.ofNat d) (Int32.ofNat a) MR = g_X14_norths_189 w rec159 F' x3 (Int32.ofNat d) (Int32.ofNat (a + 1)) MR1 → ∃ O' V' c' M' MR', g_X10_carryNorth_50 w rec18 (F + 1) x1 x2 (Int32.ofNat (d + 1)) (Int32.ofNat a) M = (rf_bv (g_X10_rankLayer w M') fun m0 => (if (m0.1 193 11) ≤ 0 then g_X10_carryNorth_192 w rec18 x1 x2 (Int32.ofNat (d + 1)) 0 m0 else g_X10_carryNorth_192 w rec18 x1 x2 (Int32.ofNat (d + 1)) 1 m0)) ∧ g_X14_norths_189 w rec159 (F' + 1) x3 (Int32.ofNat d) (Int32.ofNat a) MR = g_X14_norths_381 w rec159 rf_fuel x3 (Int32.ofNat d) 0 MR' ∧ c' ≤ A ∧ frC B M' ∧ CL (B.1 197) (B.1 198) ρ d c' O' V' M' ∧ frR BR MR' ∧ RLy σ O' V' MR' ∧ GI (B.1 197) K A d (fun a => 30 * at_ a + fr a) (fun a => 30 * at_ a + to a) O' V' := by
        intro O1 V1 c1 M1 MR1 q1 q2 q3 q4 q5 q6 e1 e2
        rw [e1, e2]
        exact ih (a + 1) F F' c1 O1 V1 M1 MR1 (by omega) (by omega) (by omega) q1 q2 q3 q4 q5 q6
      have cstep : ∀ M1 M2, g_X10_carry w M (Int32.ofNat p1) (Int32.ofNat p2) (Int32.ofNat a) (Int32.ofNat (d + 1)) (mu a) = some M1 → frC B M1 → g_X10_carry w M1 (Int32.ofNat p2) (Int32.ofNat p1) (Int32.ofNat a) (Int32.ofNat (d + 1)) (-(mu a)) = some M2 → g_X10_carryNorth_50 w rec18 (F + 1) x1 x2 (Int32.ofNat (d + 1)) (Int32.ofNat a) M = g_X10_carryNorth_50 w rec18 F x1 x2 (Int32.ofNat (d + 1)) (Int32.ofNat (a + 1)) M2 := by
        intro M1 M2 e1 hM1 e2
        have g28 : M.1 28 a = Int32.ofNat (at_ a) := by rw [h1.1 28 (by decide) (by decide) (by decide) (by decide) (by decide)]; exact a1
        have g29 : M.1 29 a = Int32.ofNat (fr a) := by rw [h1.1 29 (by decide) (by decide) (by decide) (by decide) (by decide)]; exact a2
        have g30 : M.1 30 a = Int32.ofNat (to a) := by rw [h1.1 30 (by decide) (by decide) (by decide) (by decide) (by decide)]; exact a3
        show g_X10_carryNorth_50_b w rec18 (g_X10_carryNorth_50 w rec18 F) _ _ _ _ M = _
        unfold g_X10_carryNorth_50_b g_X10_carryNorth_170
        rw [h1.1 26 (by decide) (by decide) (by decide) (by decide) (by decide), hS.1, if_neg hnl, gof (by omega) (by decide), tn_of (by omega)]
        simp only [g_t, c31 M h1, if_neg zn, g_X10_sight, rf_b, g28, g29, g30, o30 (show at_ a < 30 by omega) (show fr a < 30 by omega), o30 (show at_ a < 30 by omega) (show to a < 30 by omega), hf1, hf2, e1, rf_bv, c31 M1 hM1, e2, of_succ]
      have rhead : g_X14_norths_189 w rec159 (F' + 1) x3 (Int32.ofNat d) (Int32.ofNat a) MR = (if BR.1 293 p1 = Int32.ofNat d then (if BR.1 293 p2 = -1 then rf_bv (g_X14_offers w MR (Int32.ofNat (at_ a)) (Int32.ofNat (to a)) (BR.1 294 p1) (Int32.ofNat a) (rnd (BR.1 292 p1 + mu a))) fun m15 => g_X14_norths_310 w rec159 (g_X14_norths_189 w rec159 F') x3 (Int32.ofNat d) (Int32.ofNat a) (Int32.ofNat p1) (Int32.ofNat p2) m15 else g_X14_norths_310 w rec159 (g_X14_norths_189 w rec159 F') x3 (Int32.ofNat d) (Int32.ofNat a) (Int32.ofNat p1) (Int32.ofNat p2) MR) else g_X14_norths_310 w rec159 (g_X14_norths_189 w rec159 F') x3 (Int32.ofNat d) (Int32.ofNat a) (Int32.ofNat p1) (Int32.ofNat p2) MR) := by
        show g_X14_norths_189_b w rec159 (g_X14_norths_189 w rec159 F') _ _ _ MR = _
        unfold g_X14_norths_189_b
        rw [h3.1 206 (by decide) (by decide) (by decide), hS.2.1, if_neg hnl, gof (show a < 80 by omega) (by decide), tn_of (by omega), h3.1 248 (by decide) (by decide) (by decide), h3.1 217 (by decide) (by decide) (by decide), h3.1 218 (by decide) (by decide) (by decide), h3.1 219 (by decide) (by decide) (by decide), h3.1 292 (by decide) (by decide) (by decide), h3.1 293 (by decide) (by decide) (by decide), h3.1 294 (by decide) (by decide) (by decide), r1, r2, r3, r4]
        simp only [g_t, if_neg z2, rf_vi, o30' (show at_ a < 30 by omega) (show fr a < 30 by omega), o30' (show at_ a < 30 by omega) (show to a < 30 by omega), hf1, hf2, gof f1900 (show 900 ≤ 2147483648 by decide), gof f2900 (show 900 ≤ 2147483648 by decide), tn_of (show p1 < 2147483648 by omega), tn_of (show p2 < 2147483648 by omega), rounded_r, rf_b]
      have r310 : ∀ MR1, frR BR MR1 → g_X14_norths_310 w rec159 (g_X14_norths_189 w rec159 F') x3 (Int32.ofNat d) (Int32.ofNat a) (Int32.ofNat p1) (Int32.ofNat p2) MR1 = (if BR.1 293 p2 = Int32.ofNat d then (if BR.1 293 p1 = -1 then rf_bv (g_X14_offers w MR1 (Int32.ofNat (at_ a)) (Int32.ofNat (fr a)) (BR.1 294 p2) (Int32.ofNat a) (rnd (BR.1 292 p2 - mu a))) fun m8 => g_X14_norths_189 w rec159 F' x3 (Int32.ofNat d) (Int32.ofNat (a + 1)) m8 else g_X14_norths_189 w rec159 F' x3 (Int32.ofNat d) (Int32.ofNat (a + 1)) MR1) else g_X14_norths_189 w rec159 F' x3 (Int32.ofNat d) (Int32.ofNat (a + 1)) MR1) := by
        intro MR1 h3
        unfold g_X14_norths_310 g_X14_norths_373
        rw [gof f1900 (by decide), gof f2900 (by decide), gof (show a < 80 by omega) (by decide), tn_of (show a < 2147483648 by omega), tn_of (show p1 < 2147483648 by omega), tn_of (show p2 < 2147483648 by omega), h3.1 248 (by decide) (by decide) (by decide), h3.1 217 (by decide) (by decide) (by decide), h3.1 218 (by decide) (by decide) (by decide), h3.1 292 (by decide) (by decide) (by decide), h3.1 293 (by decide) (by decide) (by decide), h3.1 294 (by decide) (by decide) (by decide), r1, r2, r4]
        simp only [g_t, rounded_r, rf_b, of_succ]
      have d2 : ¬ (-1 : Int32) = Int32.ofNat d := fun y => by have := of_nn (a := d) (by omega); rw [← y] at this; exact absurd this (by decide)
      have d3 : ¬ (-2 : Int32) = Int32.ofNat d := fun y => by have := of_nn (a := d) (by omega); rw [← y] at this; exact absurd this (by decide)
      have hR' : ∀ p, vs K p → B.1 197 p = Int32.ofNat d → B.1 199 p = Int32.ofNat (ρ p) ∧ ρ p ≤ 200 := fun p hp e => ⟨(b3 p hp e).1, (b3 p hp e).2.2.1⟩
      have hσ' : ∀ p, vs K p → B.1 197 p = Int32.ofNat d → σ p ≤ 1000 := fun p hp e => (b3 p hp e).2.2.2
      -- one of the two: f the sight that is met, q the other
      have one : ∀ f q t, vs K f → vs K q → ((f = p1 ∧ q = p2) ∨ (f = p2 ∧ q = p1)) → (t = mu a ∨ t = -(mu a)) → B.1 197 f = Int32.ofNat d → B.1 197 q = -2 → ∃ O1 V1 c1 M1 MR1, c1 ≤ a + 1 ∧ frC B M1 ∧ CL (B.1 197) (B.1 198) ρ d c1 O1 V1 M1 ∧ frR BR MR1 ∧ RLy σ O1 V1 MR1 ∧ GI (B.1 197) K A d (fun a => 30 * at_ a + fr a) (fun a => 30 * at_ a + to a) O1 V1 ∧ g_X10_carry w M (Int32.ofNat f) (Int32.ofNat q) (Int32.ofNat a) (Int32.ofNat (d + 1)) t = some M1 ∧ g_X14_offers w MR (Int32.ofNat (q / 30)) (Int32.ofNat (q % 30)) (BR.1 294 f) (Int32.ofNat a) (rnd (BR.1 292 f + t)) = some MR1 := by
        intro f q t hf hq hw ht sf sq
        have hv := hv1 f t hf sf ht
        have cc := carry_c (w := w) (t := t) (a := a) hK hd (show c < 80 by omega) hA h1 h2 h5 hR' hs b2 hf hq (by omega) (fun _ => hv)
        have rr := offers_r (w := w) (v := rnd (B.1 198 f + t)) (a := a) hK hA h3 h4 h5 b4 hσ' hf hq (by omega) sf sq (rnd_rng hv.1 hv.2)
        rw [(dm f hf sf).2.1, (b3 f hf sf).2.1]
        by_cases ac : acc (B.1 197) ρ d O f q a
        · obtain ⟨M1, c1, y1, y2, y3, y4⟩ := cc.1 ac
          obtain ⟨MR1, u1, u2, u3⟩ := rr.1 ac
          refine ⟨_, _, c1, M1, MR1, by omega, y3, y4, u2, u3, ?_, y1, u1⟩
          refine GI_up hK h5 hq hf (by omega) sf sq (by rw [b2 q hq]; exact sq) (rnd_rng hv.1 hv.2) ?_
          show (f = 30 * at_ a + fr a ∧ q = 30 * at_ a + to a) ∨ (f = 30 * at_ a + to a ∧ q = 30 * at_ a + fr a)
          rw [hf1, hf2]; exact hw
        · exact ⟨O, V, c, M, MR, by omega, h1, h2, h3, h4, h5, cc.2 ac, rr.2 ac⟩
      have q1d : p1 / 30 = at_ a ∧ p1 % 30 = fr a := by omega
      have q2d : p2 / 30 = at_ a ∧ p2 % 30 = to a := by omega
      by_cases P1 : B.1 197 p1 = Int32.ofNat d ∧ B.1 197 p2 = -2
      · obtain ⟨s1, s2⟩ := P1
        obtain ⟨O1, V1, c1, M1, MR1, y1, y2, y3, y4, y5, y6, y7, y8⟩ := one p1 p2 (mu a) vf1 vf2 (Or.inl ⟨rfl, rfl⟩) (Or.inl rfl) s1 s2
        have no := carry_no (w := w) (q := Int32.ofNat p1) (a := Int32.ofNat a) (t := -(mu a)) hd y3 f2900 (by rw [s2]; exact d3)
        rw [q2d.1, q2d.2] at y8
        refine fin O1 V1 c1 M1 MR1 y1 y2 y3 y4 y5 y6 (cstep M1 M1 y7 y2 no) ?_
        rw [rhead, if_pos (dm p1 vf1 s1).2.2, if_pos ((un p2 vf2).mpr s2), y8]
        simp only [rf_bv]
        rw [r310 MR1 y4, (un p2 vf2).mpr s2, if_neg d2]
      · by_cases P2 : B.1 197 p2 = Int32.ofNat d ∧ B.1 197 p1 = -2
        · obtain ⟨s2, s1⟩ := P2
          obtain ⟨O1, V1, c1, M1, MR1, y1, y2, y3, y4, y5, y6, y7, y8⟩ := one p2 p1 (-(mu a)) vf2 vf1 (Or.inr ⟨rfl, rfl⟩) (Or.inr rfl) s2 s1
          have no := carry_no (w := w) (q := Int32.ofNat p2) (a := Int32.ofNat a) (t := mu a) hd h2 f1900 (by rw [s1]; exact d3)
          rw [q1d.1, q1d.2, ← Int32.sub_eq_add_neg] at y8
          refine fin O1 V1 c1 M1 MR1 y1 y2 y3 y4 y5 y6 (cstep M M1 no h1 y7) ?_
          rw [rhead, (un p1 vf1).mpr s1, if_neg d2, r310 MR h3, if_pos (dm p2 vf2 s2).2.2, if_pos ((un p1 vf1).mpr s1), y8]
          simp only [rf_bv]
        · -- neither
          have na1 : ¬ acc (B.1 197) ρ d O p1 p2 a := fun y => P1 ⟨y.1, y.2.1⟩
          have na2 : ¬ acc (B.1 197) ρ d O p2 p1 a := fun y => P2 ⟨y.1, y.2.1⟩
          have k1 := (carry_c (w := w) (t := mu a) (a := a) hK hd (show c < 80 by omega) hA h1 h2 h5 hR' hs b2 vf1 vf2 (by omega) (fun e => hv1 p1 _ vf1 e (Or.inl rfl))).2 na1
          have k2 := (carry_c (w := w) (t := -(mu a)) (a := a) hK hd (show c < 80 by omega) hA h1 h2 h5 hR' hs b2 vf2 vf1 (by omega) (fun e => hv1 p2 _ vf2 e (Or.inr rfl))).2 na2
          refine fin O V c M MR (by omega) h1 h2 h3 h4 h5 (cstep M M k1 h1 k2) ?_
          have r2 : g_X14_norths_310 w rec159 (g_X14_norths_189 w rec159 F') x3 (Int32.ofNat d) (Int32.ofNat a) (Int32.ofNat p1) (Int32.ofNat p2) MR = g_X14_norths_189 w rec159 F' x3 (Int32.ofNat d) (Int32.ofNat (a + 1)) MR := by
            rw [r310 MR h3]
            by_cases e : BR.1 293 p2 = Int32.ofNat d
            · rw [if_pos e, if_neg (fun y => P2 ⟨dm2 p2 vf2 e, (un p1 vf1).mp y⟩)]
            · rw [if_neg e]
          rw [rhead, r2]
          by_cases e : BR.1 293 p1 = Int32.ofNat d
          · rw [if_pos e, if_neg (fun y => P1 ⟨dm2 p1 vf1 e, (un p2 vf2).mp y⟩)]
          · rw [if_neg e]
end PBLayer
