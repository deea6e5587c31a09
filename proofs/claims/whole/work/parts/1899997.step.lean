/-! the north is carried on: one step, both sides -/
section PBStep
theorem fill296 {w : rf_w} {rec159 : Int32 → Int32 → rf_m → Option rf_m} {s dd : Int32} : ∀ k F i (M : rf_m), i + k = 900 → k < F → ∃ G, g_X14_norths_167 w rec159 F s dd (Int32.ofNat i) M = g_X14_norths_189 w rec159 rf_fuel s dd 0 (stc M 296 G) ∧ (∀ j, j < 900 → G j = if i ≤ j then -1 else M.1 296 j) := by
  intro k
  induction k with
  | zero =>
    intro F i M hi hF
    obtain ⟨F, rfl⟩ : ∃ g, F = g + 1 := ⟨F - 1, by omega⟩
    refine ⟨M.1 296, ?_, fun j hj => by rw [if_neg (by omega)]⟩
    show g_X14_norths_167_b w _ _ _ _ _ M = _
    unfold g_X14_norths_167_b
    rw [show i = 900 by omega, if_pos (by decide), stc_self]
  | succ k ih =>
    intro F i M hi hF
    obtain ⟨F, rfl⟩ : ∃ g, F = g + 1 := ⟨F - 1, by omega⟩
    obtain ⟨G, e1, e2⟩ := ih F (i + 1) (rf_i M 296 i (-1)) (by omega) (by omega)
    refine ⟨G, ?_, fun j hj => ?_⟩
    · show g_X14_norths_167_b w rec159 (g_X14_norths_167 w rec159 F) _ _ _ M = _
      unfold g_X14_norths_167_b
      have hnl : ¬ (900 : Int32) ≤ Int32.ofNat i := nle (R := 900) (by omega) (by omega)
      rw [if_neg hnl, gof (by omega) (by decide), g_t, tn_of (by omega), of_succ, e1, stc_i, stc_stc]
    · rw [e2 j hj, rf_i_c, if_pos rfl]
      by_cases q : j = i
      · rw [if_neg (by omega), q, pu_at, if_pos (Nat.le_refl _)]
      · rw [pu_ne q]
        by_cases q2 : i ≤ j
        · rw [if_pos (by omega), if_pos q2]
        · rw [if_neg (by omega), if_neg q2]
def frC2 (B M : rf_m) : Prop := (∀ z, z ≠ 193 → z ≠ 197 → z ≠ 198 → z ≠ 199 → z ≠ 200 → z ≠ 201 → M.1 z = B.1 z) ∧ (∀ k, k ≠ 11 → M.1 193 k = B.1 193 k) ∧ M.2 = B.2
def frR2 (B M : rf_m) : Prop := (∀ z, z < 292 ∨ 297 < z → M.1 z = B.1 z) ∧ M.2 = B.2
theorem frC2_t {a b c : rf_m} (h : frC2 a b) (k : frC2 b c) : frC2 a c := ⟨fun z h1 h2 h3 h4 h5 h6 => by rw [k.1 z h1 h2 h3 h4 h5 h6, h.1 z h1 h2 h3 h4 h5 h6], fun x hx => by rw [k.2.1 x hx, h.2.1 x hx], by rw [k.2.2, h.2.2]⟩
theorem frR2_t {a b c : rf_m} (h : frR2 a b) (k : frR2 b c) : frR2 a c := ⟨fun z hz => by rw [k.1 z hz, h.1 z hz], by rw [k.2, h.2]⟩
/-- how many angles have both their sights met -/
noncomputable def Us (S : Nat → Int32) (A : Nat) (at_ fr to : Nat → Nat) : Nat := cnt (fun a => S (30 * at_ a + fr a) ≠ -2 ∧ S (30 * at_ a + to a) ≠ -2) A
/-- a step: what is met stays, and when more is met an angle more has both its sights -/
def SP (B0 BR0 M1 MR1 : rf_m) (K A : Nat) (at_ fr to : Nat → Nat) (s : Int32) : Prop := (∀ p, vs K p → B0.1 197 p ≠ -2 → M1.1 197 p = B0.1 197 p ∧ M1.1 198 p = B0.1 198 p ∧ MR1.1 293 p = BR0.1 293 p ∧ MR1.1 292 p = BR0.1 292 p) ∧ (s = 0 → ∀ p, vs K p → M1.1 197 p = B0.1 197 p ∧ MR1.1 293 p = BR0.1 293 p ∧ MR1.1 292 p = BR0.1 292 p) ∧ (s = 1 → Us (B0.1 197) A at_ fr to < Us (M1.1 197) A at_ fr to)
theorem step_l {w : rf_w} {B0 BR0 : rf_m} {K A d : Nat} {ρ σ : Nat → Nat} {at_ fr to : Nat → Nat} {mu : Nat → Int32} {rec18 : Int32 → Int32 → Int32 → Int32 → rf_m → Option rf_m} {rec159 : Int32 → Int32 → rf_m → Option rf_m} {x1 x2 : Int32} (hK : K ≤ 30) (hA : A ≤ 80) (hd : d < 900) (hKr : BR0.1 206 4 = Int32.ofNat K) (hB : BS B0 BR0 K A d ρ σ) (hS : AS B0 BR0 K A at_ fr to mu) : ∃ M1 MR1 s ρ' σ', (s = 0 ∨ s = 1) ∧ g_X10_carryNorth_50 w rec18 rf_fuel x1 x2 (Int32.ofNat (d + 1)) 0 (rf_i B0 193 11 0) = rec18 x1 x2 s (Int32.ofNat (d + 2)) M1 ∧ g_X14_norths_167 w rec159 rf_fuel 0 (Int32.ofNat d) 0 BR0 = rec159 s (Int32.ofNat (d + 1)) MR1 ∧ frC2 B0 M1 ∧ frR2 BR0 MR1 ∧ BS M1 MR1 K A (d + 1) ρ' σ' ∧ SP B0 BR0 M1 MR1 K A at_ fr to s := by
  obtain ⟨G, fl1, fl2⟩ := fill296 (w := w) (rec159 := rec159) (s := 0) (dd := Int32.ofNat d) 900 rf_fuel 0 BR0 (by omega) (by unfold rf_fuel; omega)
  rw [show Int32.ofNat 0 = 0 from rfl] at fl1
  generalize hBR : stc BR0 296 G = BR at fl1
  have br0 : ∀ z, z ≠ 296 → BR.1 z = BR0.1 z := fun z hz => by rw [← hBR, stc_c, if_neg hz]
  have br1 : ∀ p, p < 900 → BR.1 296 p = -1 := fun p hp => by rw [← hBR, stc_c, if_pos rfl, fl2 p hp, if_pos (Nat.zero_le _)]
  have br2 : BR.2 = BR0.2 := by rw [← hBR]; rfl
  generalize hBB : rf_i B0 193 11 0 = B
  have b0 : ∀ z, z ≠ 193 → B.1 z = B0.1 z := fun z hz => by rw [← hBB, rf_i_c, if_neg hz]
  have b1 : B.1 193 = pu (B0.1 193) 11 0 := by rw [← hBB, rf_i_c, if_pos rfl]
  have b2 : B.2 = B0.2 := by rw [← hBB]; rfl
  have hB' : BS B BR K A d ρ σ := by
    unfold BS at hB ⊢
    rw [b0 197 (by decide), b0 198 (by decide), b0 199 (by decide), br0 292 (by decide), br0 293 (by decide), br0 294 (by decide)]
    exact hB
  have hS' : AS B BR K A at_ fr to mu := by
    unfold AS at hS ⊢
    rw [b0 26 (by decide), b0 28 (by decide), b0 29 (by decide), b0 30 (by decide), b0 31 (by decide), br0 206 (by decide), br0 217 (by decide), br0 218 (by decide), br0 219 (by decide), br0 248 (by decide)]
    exact hS
  obtain ⟨O, V, c, M', MR', k1, k2, hc, f1, C, f2, R, Gi⟩ := layer_l (w := w) (rec18 := rec18) (rec159 := rec159) (x1 := x1) (x2 := x2) (x3 := 0) hK hA (by omega) hB' hS' A 0 rf_fuel rf_fuel 0 (fun _ => none) (fun _ => 0) B BR (by omega) (by unfold rf_fuel; omega) (by unfold rf_fuel; omega) (Nat.le_refl _) ⟨fun _ _ _ _ _ _ => rfl, fun _ _ => rfl, rfl⟩ ⟨fun p _ _ => ⟨rfl, rfl⟩, fun p f a _ h => (by cases h), (by rw [b1, pu_at]; rfl), fun i hi => (by omega), fun p _ h => absurd rfl h⟩ ⟨fun _ _ _ _ => rfl, rfl⟩ (fun p hp => ⟨fun _ => ⟨fun _ => br1 p hp, fun f a h => (by cases h)⟩, fun _ => br1 p hp⟩) (fun p f a h => (by cases h))
  rw [show Int32.ofNat 0 = 0 from rfl] at k1 k2
  obtain ⟨C1, C2, C3, C4, C5⟩ := C
  obtain ⟨M1, q1, q2, q3, q4⟩ := rank_c (w := w) (M := M') (N := 2 * c) C3 (by omega) (fun i hi => by obtain ⟨p, p1, p2, _⟩ := C4 i hi; exact ⟨p, p1, p2⟩)
  obtain ⟨MR1, r1, r2, r3, r4, r5⟩ := rank_r (w := w) (M := MR') (K := K) (rec159 := rec159) (dd := Int32.ofNat d) (by rw [f2.1 206 (by decide) (by decide) (by decide), br0 206 (by decide)]; exact hKr) hK
  rw [of_succ] at r1 r4
  have m2d : ∀ e, e < 2000 → ¬ (-2 : Int32) = Int32.ofNat e := fun e he z => by have := of_nn (a := e) (by omega); rw [← z] at this; exact absurd this (by decide)
  have na : ∀ a, a < 2000 → ¬ Int32.ofNat a = -1 := fun a ha z => by have := of_nn (a := a) (by omega); rw [z] at this; exact absurd this (by decide)
  -- the place with the lesser mark first
  have nm : ∀ p, vs K p → ∃ x y, x < y ∧ y < K ∧ ((p = 30 * x + y ∧ bk p = 30 * y + x) ∨ (p = 30 * y + x ∧ bk p = 30 * x + y)) := fun p hp => by
    unfold vs at hp
    unfold bk
    by_cases l : p / 30 < p % 30
    · exact ⟨p / 30, p % 30, l, hp.2.1, Or.inl ⟨by omega, rfl⟩⟩
    · exact ⟨p % 30, p / 30, by omega, hp.1, Or.inr ⟨by omega, rfl⟩⟩
  have vxy : ∀ x y, x < y → y < K → vs K (30 * x + y) ∧ bk (30 * x + y) = 30 * y + x ∧ (30 * x + y) / 30 < (30 * x + y) % 30 := fun x y h1 h2 => by
    unfold vs bk; omega
  -- the reference at a pair that was offered
  have RO : ∀ x y f a, x < y → y < K → O (30 * x + y) = some (f, a) → MR'.1 296 (30 * x + y) = Int32.ofNat a ∧ MR'.1 295 (30 * x + y) = Int32.ofNat (σ f) ∧ MR'.1 297 (30 * x + y) = V (30 * x + y) ∧ MR'.1 296 (30 * x + y) ≠ -1 := fun x y f a h1 h2 h3 => by
    obtain ⟨v1, v2, v3⟩ := vxy x y h1 h2
    obtain ⟨u1, u2, u3⟩ := ((R _ (vs_bk hK v1).1).1 v3).2 f a h3
    exact ⟨u1, u2, u3, by rw [u1]; exact na a (by have := (Gi _ _ _ h3).2.2.2.2.2.2.1; omega)⟩
  have RN : ∀ x y, x < y → y < K → O (30 * x + y) = none → MR'.1 296 (30 * x + y) = -1 := fun x y h1 h2 h3 => by
    obtain ⟨v1, v2, v3⟩ := vxy x y h1 h2
    exact ((R _ (vs_bk hK v1).1).1 v3).1 h3
  have OB : ∀ p, vs K p → O (bk p) = O p := fun p hp => by
    cases e : O p with
    | none =>
      cases e2 : O (bk p) with
      | none => rfl
      | some z => obtain ⟨f', a'⟩ := z; have := (Gi (bk p) f' a' e2).2.1; rw [(vs_bk hK hp).2.2.1, e] at this; cases this
    | some z => obtain ⟨f', a'⟩ := z; exact (Gi p f' a' e).2.1
  -- what both hold now
  have now0 : ∀ p, vs K p → O p = none → M1.1 197 p = B0.1 197 p ∧ M1.1 198 p = B0.1 198 p ∧ MR1.1 293 p = BR0.1 293 p ∧ MR1.1 292 p = BR0.1 292 p := fun p hp e => by
    obtain ⟨z1, z2⟩ := C1 p (vs_bk hK hp).1 e
    rw [q2 197 (by decide), q2 198 (by decide), z1, z2, b0 197 (by decide), b0 198 (by decide)]
    refine ⟨rfl, rfl, ?_⟩
    obtain ⟨x, y, h1, h2, h3⟩ := nm p hp
    have hO : O (30 * x + y) = none := by
      rcases h3 with ⟨h3, _⟩ | ⟨_, h3⟩
      · rw [← h3]; exact e
      · rw [← h3, OB p hp]; exact e
    have u := r5 x y h1 h2 (RN x y h1 h2 hO)
    have w1 := u 293 (by omega)
    have w2 := u 292 (by omega)
    rw [f2.1 293 (by decide) (by decide) (by decide), br0 293 (by decide)] at w1
    rw [f2.1 292 (by decide) (by decide) (by decide), br0 292 (by decide)] at w2
    rcases h3 with ⟨h3, _⟩ | ⟨h3, _⟩
    · rw [h3]; exact ⟨w1.1, w2.1⟩
    · rw [h3]; exact ⟨w1.2, w2.2⟩
  have now1 : ∀ p f a, vs K p → O p = some (f, a) → M1.1 197 p = Int32.ofNat (d + 1) ∧ MR1.1 293 p = Int32.ofNat (d + 1) ∧ MR1.1 292 p = M1.1 198 p ∧ M1.1 198 p = V p ∧ M'.1 200 p = Int32.ofNat (ρ f * 80 + a) ∧ ∃ x y, x < y ∧ y < K ∧ (p = 30 * x + y ∨ p = 30 * y + x) ∧ O (30 * x + y) = some (f, a) ∧ MR1.1 294 p = Int32.ofNat (cnt (lessQ MR' (30 * x + y)) 900) := fun p f a hp e => by
    obtain ⟨z1, z2, z3⟩ := C2 p f a (vs_bk hK hp).1 e
    obtain ⟨g1, g2, g3, g4, g5, g6, g7, g8, g9, g10⟩ := Gi p f a e
    obtain ⟨x, y, h1, h2, h3⟩ := nm p hp
    have hO : O (30 * x + y) = some (f, a) := by
      rcases h3 with ⟨h3, _⟩ | ⟨_, h3⟩
      · rw [← h3]; exact e
      · rw [← h3]; exact g2
    obtain ⟨t1, t2, t3, t4⟩ := RO x y f a h1 h2 hO
    obtain ⟨y1, y2, y3, y4, y5, y6⟩ := r4 x y h1 h2 t4
    rw [q2 197 (by decide), q2 198 (by decide), z1, z2]
    refine ⟨rfl, ?_, ?_, rfl, z3, x, y, h1, h2, ?_, hO, ?_⟩
    · rcases h3 with ⟨h3, _⟩ | ⟨h3, _⟩
      · rw [h3]; exact y1
      · rw [h3]; exact y2
    · rcases h3 with ⟨h3, h3'⟩ | ⟨h3, h3'⟩
      · rw [h3, y5, t3]
      · rw [h3, y6, t3, ← h3, ← h3', g9, hlf_hlf g8]
    · rcases h3 with ⟨h3, _⟩ | ⟨h3, _⟩
      · exact Or.inl h3
      · exact Or.inr h3
    · rcases h3 with ⟨h3, _⟩ | ⟨h3, _⟩
      · rw [h3]; exact y3
      · rw [h3]; exact y4
  have isS : ∀ p, vs K p → M1.1 197 p = Int32.ofNat (d + 1) → ∃ f a, O p = some (f, a) := fun p hp e => by
    cases e2 : O p with
    | some z => obtain ⟨f, a⟩ := z; exact ⟨f, a, rfl⟩
    | none =>
      rw [(now0 p hp e2).1] at e
      rcases hB.1 p hp with ⟨y, _⟩ | ⟨e', he, y, _⟩
      · rw [y] at e; exact absurd e (m2d _ (by omega))
      · rw [y] at e; have := (of_inj (by omega) (by omega)).mp e; omega
  -- whether more was met
  have hO0 : (c = 0 → ∀ p, vs K p → O p = none) ∧ (c ≠ 0 → ∃ p f a, vs K p ∧ O p = some (f, a)) := by
    constructor
    · intro hc0 p hp
      cases e : O p with
      | none => rfl
      | some z =>
        obtain ⟨i, hi, _⟩ := C5 p (vs_bk hK hp).1 (by rw [e]; exact Option.some_ne_none _)
        omega
    · intro hc0
      obtain ⟨p, p1, p2, p3⟩ := C4 0 (by omega)
      cases e : O p with
      | none => exact absurd e p3
      | some z => obtain ⟨f, a⟩ := z; exact ⟨p, f, a, (Gi p f a e).1, e⟩
  have hs : (∃ x y, x < y ∧ y < K ∧ MR'.1 296 (30 * x + y) ≠ -1) ↔ c ≠ 0 := by
    constructor
    · rintro ⟨x, y, h1, h2, h3⟩ hc0
      exact h3 (RN x y h1 h2 (hO0.1 hc0 _ (vxy x y h1 h2).1))
    · intro hc0
      obtain ⟨p, f, a, hp, e⟩ := hO0.2 hc0
      obtain ⟨_, _, _, _, _, x, y, h1, h2, _, h4, _⟩ := now1 p f a hp e
      exact ⟨x, y, h1, h2, (RO x y f a h1 h2 h4).2.2.2⟩
  have bs : bi (∃ x y, x < y ∧ y < K ∧ MR'.1 296 (30 * x + y) ≠ -1) = bi (c ≠ 0) := bi_congr hs
  rw [bs] at r1
  -- the ranks are in one order
  have ky : ∀ p q f a f' a', vs K p → vs K q → O p = some (f, a) → O q = some (f', a') → ((ρ f * 80 + a < ρ f' * 80 + a') ↔ (σ f < σ f' ∨ (σ f = σ f' ∧ a < a'))) := fun p q f a f' a' hp hq e1 e2 => by
    obtain ⟨g1, g2, g3, g4, g5, g6, g7, _⟩ := Gi p f a e1
    obtain ⟨g1', g2', g3', g4', g5', g6', g7', _⟩ := Gi q f' a' e2
    have i1 := hB'.2.2.2 f f' g5 g5' g6 g6'
    have i2 := hB'.2.2.2 f' f g5' g5 g6' g6
    omega
  have rr : ∀ p f a, vs K p → O p = some (f, a) → ρ f ≤ 200 ∧ σ f ≤ 1000 ∧ a < 80 := fun p f a hp e => by
    obtain ⟨g1, g2, g3, g4, g5, g6, g7, _⟩ := Gi p f a e
    have := hB'.2.2.1 f g5 g6
    exact ⟨this.2.2.1, this.2.2.2, by omega⟩
  have hiso : ∀ p q f a f' a', vs K p → vs K q → O p = some (f, a) → O q = some (f', a') → (cnt (fun j => M'.1 200 (M'.1 201 j).toNatClampNeg < M'.1 200 p) (2 * c) < cnt (fun j => M'.1 200 (M'.1 201 j).toNatClampNeg < M'.1 200 q) (2 * c) ↔ ρ f * 80 + a < ρ f' * 80 + a') := fun p q f a f' a' hp hq e1 e2 => by
    have k1 := (now1 p f a hp e1).2.2.2.2.1
    have k2 := (now1 q f' a' hq e2).2.2.2.2.1
    have u1 := rr p f a hp e1
    have u2 := rr q f' a' hq e2
    have l : M'.1 200 p < M'.1 200 q ↔ ρ f * 80 + a < ρ f' * 80 + a' := by rw [k1, k2]; exact of_lt (by omega) (by omega)
    rw [← l]
    constructor
    · intro h
      refine Decidable.byContradiction (fun n => ?_)
      have := cnt_mono (P := fun j => M'.1 200 (M'.1 201 j).toNatClampNeg < M'.1 200 q) (Q := fun j => M'.1 200 (M'.1 201 j).toNatClampNeg < M'.1 200 p) (2 * c) (fun i _ hi => by rw [i_lt] at hi n ⊢; omega)
      omega
    · intro h
      obtain ⟨i, i1, i2⟩ := C5 p (vs_bk hK hp).1 (by rw [e1]; exact Option.some_ne_none _)
      have p9 := (vs_bk hK hp).1
      refine cnt_lt (2 * c) (fun i _ hi => by rw [i_lt] at hi h ⊢; omega) ⟨i, i1, ?_, ?_⟩
      · show M'.1 200 (M'.1 201 i).toNatClampNeg < M'.1 200 q
        rw [i2, tn_of (by omega)]; exact h
      · show ¬ M'.1 200 (M'.1 201 i).toNatClampNeg < M'.1 200 p
        rw [i2, tn_of (by omega)]; exact Int32.lt_irrefl
  have hisoR : ∀ x y f a x' y' f' a', x < y → y < K → x' < y' → y' < K → O (30 * x + y) = some (f, a) → O (30 * x' + y') = some (f', a') → (cnt (lessQ MR' (30 * x + y)) 900 < cnt (lessQ MR' (30 * x' + y')) 900 ↔ (σ f < σ f' ∨ (σ f = σ f' ∧ a < a'))) := fun x y f a x' y' f' a' h1 h2 h1' h2' e1 e2 => by
    obtain ⟨t1, t2, t3, t4⟩ := RO x y f a h1 h2 e1
    obtain ⟨t1', t2', t3', t4'⟩ := RO x' y' f' a' h1' h2' e2
    have u1 := rr _ f a (vxy x y h1 h2).1 e1
    have u2 := rr _ f' a' (vxy x' y' h1' h2').1 e2
    have l : (MR'.1 295 (30 * x + y) < MR'.1 295 (30 * x' + y') ∨ (MR'.1 295 (30 * x + y) = MR'.1 295 (30 * x' + y') ∧ MR'.1 296 (30 * x + y) < MR'.1 296 (30 * x' + y'))) ↔ (σ f < σ f' ∨ (σ f = σ f' ∧ a < a')) := by
      rw [t1, t2, t1', t2', of_lt (by omega) (by omega), of_inj (by omega) (by omega), of_lt (by omega) (by omega)]
    rw [← l]
    constructor
    · intro h
      refine Decidable.byContradiction (fun n => ?_)
      have := cnt_mono (P := lessQ MR' (30 * x' + y')) (Q := lessQ MR' (30 * x + y)) 900 (fun i _ hi => by
        obtain ⟨z1, z2⟩ := hi
        refine ⟨z1, ?_⟩
        rw [i_lt, i_eq, i_lt] at n z2 ⊢
        omega)
      omega
    · intro h
      refine cnt_lt 900 (fun i _ hi => by
        obtain ⟨z1, z2⟩ := hi
        refine ⟨z1, ?_⟩
        rw [i_lt, i_eq, i_lt] at h z2 ⊢
        omega) ⟨30 * x + y, by omega, ⟨t4, h⟩, fun z => ?_⟩
      have := z.2
      rw [i_lt, i_eq, i_lt] at this
      omega
  -- ghosts for the next step
  refine ⟨M1, MR1, bi (c ≠ 0), fun p => cnt (fun j => M'.1 200 (M'.1 201 j).toNatClampNeg < M'.1 200 p) (2 * c), fun p => if p / 30 < p % 30 then cnt (lessQ MR' p) 900 else cnt (lessQ MR' (bk p)) 900, bi01, ?_, ?_, ?_, ?_, ?_, ?_⟩
  · rw [k1, q1]
    simp only [rf_bv]
    unfold g_X10_carryNorth_192
    rw [q2 193 (by decide), C3, of_succ]
    by_cases hc0 : c = 0
    · rw [bi_f (fun z => z hc0), hc0, if_pos (by decide)]
    · have hnl : ¬ Int32.ofNat (2 * c) ≤ 0 := nle (i := 0) (by omega) (by omega)
      rw [bi_t hc0, if_neg hnl]
  · rw [fl1, k2, r1]
  · refine ⟨fun z z1 z2 z3 z4 z5 z6 => ?_, fun k hk => ?_, ?_⟩
    · rw [q2 z z4, f1.1 z z1 z2 z3 z5 z6, b0 z z1]
    · rw [q2 193 (by decide), f1.2.1 k hk, b1, pu_ne hk]
    · rw [q3, f1.2.2, b2]
  · refine ⟨fun z hz => ?_, ?_⟩
    · rw [r2 z (by omega) (by omega) (by omega), f2.1 z (by omega) (by omega) (by omega), br0 z (by omega)]
    · rw [r3, f2.2, br2]
  · refine ⟨fun p hp => ?_, fun p hp => ?_, fun p hp e => ?_, fun p q hp hq e1 e2 => ?_⟩
    · cases e : O p with
      | none =>
        obtain ⟨z1, z2, z3, z4⟩ := now0 p hp e
        rw [z1, z2, z3, z4]
        rcases hB.1 p hp with y | ⟨e', he, y⟩
        · exact Or.inl y
        · exact Or.inr ⟨e', by omega, y⟩
      | some z =>
        obtain ⟨f, a⟩ := z
        obtain ⟨z1, z2, z3, z4, _⟩ := now1 p f a hp e
        exact Or.inr ⟨d + 1, Nat.le_refl _, z1, z2, z3, by rw [z4]; exact (Gi p f a e).2.2.2.2.2.2.2.1⟩
    · have vb := (vs_bk hK hp).2.2.2.2
      cases e : O p with
      | none =>
        rw [(now0 p hp e).1, (now0 (bk p) vb (by rw [OB p hp]; exact e)).1]
        exact hB.2.1 p hp
      | some z =>
        obtain ⟨f, a⟩ := z
        rw [(now1 p f a hp e).1, (now1 (bk p) f a vb (by rw [OB p hp]; exact e)).1]
    · obtain ⟨f, a, eO⟩ := isS p hp e
      obtain ⟨z1, z2, z3, z4, z5, x, y, h1, h2, h3, h4, h5⟩ := now1 p f a hp eO
      obtain ⟨i, i1, i2⟩ := C5 p (vs_bk hK hp).1 (by rw [eO]; exact Option.some_ne_none _)
      refine ⟨q4 i p i1 i2 (vs_bk hK hp).1, ?_, ?_, ?_⟩
      · rw [h5]
        rcases h3 with h3 | h3
        · have : p / 30 < p % 30 := by omega
          simp only
          rw [if_pos this, h3]
        · have : ¬ p / 30 < p % 30 := by omega
          have hb : bk p = 30 * x + y := by unfold bk; omega
          simp only
          rw [if_neg this, hb]
      · have := cnt_le (P := fun j => M'.1 200 (M'.1 201 j).toNatClampNeg < M'.1 200 p) (2 * c)
        simp only
        omega
      · simp only
        split
        · have := cnt_le (P := lessQ MR' p) 900; omega
        · have := cnt_le (P := lessQ MR' (bk p)) 900; omega
    · obtain ⟨f, a, eO⟩ := isS p hp e1
      obtain ⟨f', a', eO'⟩ := isS q hq e2
      obtain ⟨_, _, _, _, _, x, y, h1, h2, h3, h4, _⟩ := now1 p f a hp eO
      obtain ⟨_, _, _, _, _, x', y', h1', h2', h3', h4', _⟩ := now1 q f' a' hq eO'
      have sp : ∀ p x y, x < y → y < K → (p = 30 * x + y ∨ p = 30 * y + x) → (if p / 30 < p % 30 then cnt (lessQ MR' p) 900 else cnt (lessQ MR' (bk p)) 900) = cnt (lessQ MR' (30 * x + y)) 900 := fun p x y h1 h2 h3 => by
        rcases h3 with h3 | h3
        · rw [if_pos (by omega), h3]
        · rw [if_neg (by omega), show bk p = 30 * x + y from by unfold bk; omega]
      simp only
      rw [sp p x y h1 h2 h3, sp q x' y' h1' h2' h3', hiso p q f a f' a' hp hq eO eO', hisoR x y f a x' y' f' a' h1 h2 h1' h2' h4 h4', ky p q f a f' a' hp hq eO eO']
  · refine ⟨fun p hp hn => ?_, fun z p hp => ?_, fun z => ?_⟩
    · cases e : O p with
      | none => exact now0 p hp e
      | some z =>
        obtain ⟨f, a⟩ := z
        have := (Gi p f a e).2.2.1
        rw [b0 197 (by decide)] at this
        exact absurd this hn
    · have hc0 : c = 0 := Decidable.byContradiction (fun n => by rw [bi_t n] at z; exact absurd z (by decide))
      obtain ⟨y1, y2, y3, y4⟩ := now0 p hp (hO0.1 hc0 p hp)
      exact ⟨y1, y3, y4⟩
    · have hc0 : c ≠ 0 := bi_eq1.mp z
      obtain ⟨p, f, a, hp, e⟩ := hO0.2 hc0
      obtain ⟨g1, g2, g3, g4, g5, g6, g7, g8, g9, g10⟩ := Gi p f a e
      have vS := hS.2.2
      have stay : ∀ p, vs K p → B0.1 197 p ≠ -2 → M1.1 197 p ≠ -2 := fun p hp hn => by
        cases e : O p with
        | none => rw [(now0 p hp e).1]; exact hn
        | some z => obtain ⟨f, a⟩ := z; rw [(now1 p f a hp e).1]; exact fun y => m2d _ (by omega) y.symm
      have vv : ∀ b, b < A → vs K (30 * at_ b + fr b) ∧ vs K (30 * at_ b + to b) := fun b hb => by
        obtain ⟨_, _, _, _, _, _, _, _, l1, l2, l3, n1, n2, _⟩ := vS b hb
        unfold vs; omega
      obtain ⟨va1, va2⟩ := vv a g7
      rw [b0 197 (by decide)] at g3 g4 g6
      have met : ∀ u, vs K u → (p = u ∨ p = bk u) → B0.1 197 u = -2 ∧ M1.1 197 u ≠ -2 := fun u hu hpu => by
        rcases hpu with hpu | hpu
        · subst hpu; exact ⟨g3, by rw [(now1 p f a hp e).1]; exact fun y => m2d _ (by omega) y.symm⟩
        · have hb : bk p = u := by rw [hpu]; exact (vs_bk hK hu).2.2.1
          rw [hb] at g4 g2
          exact ⟨g4, by rw [(now1 u f a hu g2).1]; exact fun y => m2d _ (by omega) y.symm⟩
      unfold Us
      refine cnt_lt A (fun b hb h => ⟨stay _ (vv b hb).1 h.1, stay _ (vv b hb).2 h.2⟩) ⟨a, g7, ?_, ?_⟩
      · rcases g10 with ⟨h1, h2⟩ | ⟨h1, h2⟩
        · refine ⟨stay _ va1 ?_, (met _ va2 h2).2⟩
          have h1' : f = 30 * at_ a + fr a := h1
          rw [← h1', g6]; exact fun y => m2d _ (by omega) y.symm
        · refine ⟨(met _ va1 h2).2, stay _ va2 ?_⟩
          have h1' : f = 30 * at_ a + to a := h1
          rw [← h1', g6]; exact fun y => m2d _ (by omega) y.symm
      · rintro ⟨y1, y2⟩
        rcases g10 with ⟨h1, h2⟩ | ⟨h1, h2⟩
        · exact y2 (met _ va2 h2).1
        · exact y1 (met _ va1 h2).1
end PBStep
