/-! suspects: the reference's best set -/
section PBBest
/-- best so far: be of the masks below mu, so many alike -/
def bsI (P : List Nat → Prop) (n mu : Nat) (b many : Int32) : Prop := (b = -1 ∧ ∀ x, x < mu → ¬ P (ixs x n 0)) ∨ ∃ be, be < mu ∧ b = Int32.ofNat be ∧ P (ixs be n 0) ∧ (∀ x, x < mu → P (ixs x n 0) → (ixs be n 0).length ≤ (ixs x n 0).length ∧ ((ixs x n 0).length = (ixs be n 0).length → x = be ∨ lx (mpI (ixs be n 0)) (mpI (ixs x n 0)))) ∧ many = Int32.ofNat (cnM (fun x => (ixs x n 0).length = (ixs be n 0).length ∧ P (ixs x n 0)) mu)
theorem bsI_no {P : List Nat → Prop} {n mu : Nat} {b many : Int32} (h : bsI P n mu b many) (hp : ¬ P (ixs mu n 0)) : bsI P n (mu + 1) b many := by
  rcases h with ⟨h1, h2⟩ | ⟨be, h1, h2, h3, h4, h5⟩
  · refine Or.inl ⟨h1, fun x hx => ?_⟩
    by_cases e : x = mu
    · rw [e]; exact hp
    · exact h2 x (by omega)
  · refine Or.inr ⟨be, by omega, h2, h3, fun x hx px => ?_, ?_⟩
    · by_cases e : x = mu
      · rw [e] at px; exact absurd px hp
      · exact h4 x (by omega) px
    · rw [h5, cnM_f (fun q => hp q.2)]
theorem bsI_first {P : List Nat → Prop} {n mu : Nat} (h2 : ∀ x, x < mu → ¬ P (ixs x n 0)) (hp : P (ixs mu n 0)) : bsI P n (mu + 1) (Int32.ofNat mu) 1 := by
  refine Or.inr ⟨mu, by omega, rfl, hp, fun x hx px => ?_, ?_⟩
  · by_cases e : x = mu
    · rw [e]; exact ⟨Nat.le_refl _, fun _ => Or.inl rfl⟩
    · exact absurd px (h2 x (by omega))
  · rw [cnM_t ⟨rfl, hp⟩, cnM_z mu (fun x hx q => h2 x hx q.2)]
    rfl
theorem bsI_less {P : List Nat → Prop} {n mu be : Nat} (h4 : ∀ x, x < mu → P (ixs x n 0) → (ixs be n 0).length ≤ (ixs x n 0).length) (hl : (ixs mu n 0).length < (ixs be n 0).length) (hp : P (ixs mu n 0)) : bsI P n (mu + 1) (Int32.ofNat mu) 1 := by
  refine Or.inr ⟨mu, by omega, rfl, hp, fun x hx px => ?_, ?_⟩
  · by_cases e : x = mu
    · rw [e]; exact ⟨Nat.le_refl _, fun _ => Or.inl rfl⟩
    · have := h4 x (by omega) px
      exact ⟨by omega, fun q => by omega⟩
  · rw [cnM_t ⟨rfl, hp⟩, cnM_z mu (fun x hx q => by have := h4 x hx q.2; have := q.1; omega)]
    rfl
theorem bsI_more {P : List Nat → Prop} {n mu be : Nat} (h3 : P (ixs be n 0)) (hbe : be < mu) (h4 : ∀ x, x < mu → P (ixs x n 0) → (ixs be n 0).length ≤ (ixs x n 0).length ∧ ((ixs x n 0).length = (ixs be n 0).length → x = be ∨ lx (mpI (ixs be n 0)) (mpI (ixs x n 0)))) (hl : (ixs be n 0).length < (ixs mu n 0).length) : bsI P n (mu + 1) (Int32.ofNat be) (Int32.ofNat (cnM (fun x => (ixs x n 0).length = (ixs be n 0).length ∧ P (ixs x n 0)) mu)) := by
  refine Or.inr ⟨be, by omega, rfl, h3, fun x hx px => ?_, ?_⟩
  · by_cases e : x = mu
    · rw [e]; exact ⟨by omega, fun q => by omega⟩
    · exact h4 x (by omega) px
  · rw [cnM_f (fun q => by have := q.1; omega)]
theorem bsI_same {P : List Nat → Prop} {n mu be : Nat} (h3 : P (ixs be n 0)) (hbe : be < mu) (h4 : ∀ x, x < mu → P (ixs x n 0) → (ixs be n 0).length ≤ (ixs x n 0).length ∧ ((ixs x n 0).length = (ixs be n 0).length → x = be ∨ lx (mpI (ixs be n 0)) (mpI (ixs x n 0)))) (hl : (ixs mu n 0).length = (ixs be n 0).length) (hp : P (ixs mu n 0)) (ho : lx (mpI (ixs be n 0)) (mpI (ixs mu n 0))) : bsI P n (mu + 1) (Int32.ofNat be) (Int32.ofNat (cnM (fun x => (ixs x n 0).length = (ixs be n 0).length ∧ P (ixs x n 0)) mu) + 1) := by
  refine Or.inr ⟨be, by omega, rfl, h3, fun x hx px => ?_, ?_⟩
  · by_cases e : x = mu
    · rw [e]; exact ⟨by omega, fun q => Or.inr ho⟩
    · exact h4 x (by omega) px
  · rw [cnM_t ⟨hl, hp⟩, of_succ]
theorem bsI_new {P : List Nat → Prop} {n mu be : Nat} (h4 : ∀ x, x < mu → P (ixs x n 0) → (ixs be n 0).length ≤ (ixs x n 0).length ∧ ((ixs x n 0).length = (ixs be n 0).length → x = be ∨ lx (mpI (ixs be n 0)) (mpI (ixs x n 0)))) (hl : (ixs mu n 0).length = (ixs be n 0).length) (hp : P (ixs mu n 0)) (ho : lx (mpI (ixs mu n 0)) (mpI (ixs be n 0))) : bsI P n (mu + 1) (Int32.ofNat mu) (Int32.ofNat (cnM (fun x => (ixs x n 0).length = (ixs be n 0).length ∧ P (ixs x n 0)) mu) + 1) := by
  refine Or.inr ⟨mu, by omega, rfl, hp, fun x hx px => ?_, ?_⟩
  · by_cases e : x = mu
    · rw [e]; exact ⟨Nat.le_refl _, fun q => Or.inl rfl⟩
    · obtain ⟨a, b⟩ := h4 x (by omega) px
      refine ⟨by omega, fun q => Or.inr ?_⟩
      rcases b (by omega) with e2 | e2
      · rw [e2]; exact ho
      · rcases lx_co _ (mpI (ixs x n 0)) _ ho with z | z
        · exact z
        · exact absurd z (fun z => lx_as _ _ z e2)
  · rw [cnM_t ⟨rfl, hp⟩, of_succ, hl]
/-- which of two sets of one size comes first -/
theorem low_ixs {n mu be : Nat} (hn : n ≤ 12) (hm : mu < 2 ^ n) (hb : be < 2 ^ n) (ne : be ≠ mu) (hl : (ixs mu n 0).length = (ixs be n 0).length) : (¬ (((Int32.ofNat mu ^^^ Int32.ofNat be) &&& (-(Int32.ofNat mu ^^^ Int32.ofNat be))) &&& Int32.ofNat mu) = 0 → lx (mpI (ixs mu n 0)) (mpI (ixs be n 0))) ∧ ((((Int32.ofNat mu ^^^ Int32.ofNat be) &&& (-(Int32.ofNat mu ^^^ Int32.ofNat be))) &&& Int32.ofNat mu) = 0 → lx (mpI (ixs be n 0)) (mpI (ixs mu n 0))) := by
  have p12 : 2 ^ n ≤ 2 ^ 12 := Nat.pow_le_pow_right (by omega) hn
  rw [← bt_ixs hn hm, ← bt_ixs hn hb] at *
  have go : ∀ f g : Nat → Bool, lwb f g 32 → (ixf f 32 0).length = (ixf g 32 0).length → lx (mpI (ixf f 32 0)) (mpI (ixf g 32 0)) := fun f g ⟨u, u1, u2, u3, u4⟩ h => lw_lx 32 0 u (by omega) (by omega) u2 u3 (fun j _ hj => u4 j hj) h
  constructor
  · intro h
    exact go _ _ (low_iff.mp h) hl
  · intro h
    rcases lwb_or (f := bt (Int32.ofNat mu)) (g := bt (Int32.ofNat be)) 32 with q | q | q
    · have := (of_inj (by omega) (by omega)).mp (bt_ext q)
      exact absurd this.symm ne
    · exact absurd h (low_iff.mpr q)
    · exact go _ _ q hl.symm
/-- the told row -/
theorem told253 {w : rf_w} {m : rf_m} {V : Nat → Nat} {n be : Nat} {many : Int32} (hn : n ≤ 12) : ∀ r f i (Y : rf_m), i + r = n → r < f → (∀ k, k < n → Y.1 283 k = Int32.ofNat (V k)) → Y.1 206 117 = Int32.ofNat (ixs be i 0).length → (∀ j (h : j < (ixs be i 0).length), Y.1 284 j = Int32.ofNat (V (ixs be i 0)[j])) → ∃ M', g_X14_blunder_253 w f (Int32.ofNat n) (Int32.ofNat be) many (Int32.ofNat i) Y = some (Int32.ofNat (ixs be n 0).length, M') ∧ (∀ z, z ≠ 206 → z ≠ 284 → M'.1 z = Y.1 z) ∧ (∀ k, k ≠ 117 → k ≠ 118 → M'.1 206 k = Y.1 206 k) ∧ M'.2 = Y.2 ∧ M'.1 206 117 = Int32.ofNat (ixs be n 0).length ∧ M'.1 206 118 = many ∧ ∀ j (h : j < (ixs be n 0).length), M'.1 284 j = Int32.ofNat (V (ixs be n 0)[j]) := by
  have o1 : ¬ (1 : Int32) = 0 := by decide
  intro r
  induction r with
  | zero =>
    intro f i Y hi hf h283 h117 h284
    obtain ⟨f, rfl⟩ : ∃ g, f = g + 1 := ⟨f - 1, by omega⟩
    have e : i = n := by omega
    subst e
    refine ⟨rf_i Y 206 118 many, ?_, fun z a _ => by rw [rf_i_c, if_neg a], fun k _ b => by rw [rf_i_c, if_pos rfl, pu_ne b], rfl, by rw [rf_i_c, if_pos rfl, pu_ne (by decide)]; exact h117, by rw [rf_i_c, if_pos rfl, pu_at], fun j h => by rw [rf_i_c, if_neg (by decide)]; exact h284 j h⟩
    show g_X14_blunder_253_b w _ _ _ _ _ Y = _
    unfold g_X14_blunder_253_b
    rw [if_pos (Int32.le_refl _), rf_i_c, if_pos rfl, pu_ne (by decide), h117]
  | succ r ih =>
    intro f i Y hi hf h283 h117 h284
    obtain ⟨f, rfl⟩ : ∃ g, f = g + 1 := ⟨f - 1, by omega⟩
    have g1 : ¬ Int32.ofNat n ≤ Int32.ofNat i := nle (by omega) (by omega)
    have hb := bt_sar (a := Int32.ofNat be) (u := i) (by omega)
    rw [bt_nat (by omega)] at hb
    have len := ixs_len (mu := be) i
    show ∃ M', g_X14_blunder_253_b w (g_X14_blunder_253 w f) _ _ _ _ Y = _ ∧ _
    unfold g_X14_blunder_253_b g_X14_blunder_297
    rw [if_neg g1, hb, of_succ]
    by_cases tb : be.testBit i = true
    · have es : ixs be (i + 1) 0 = ixs be i 0 ++ [i] := by rw [ixs_s, if_pos tb]
      have e117 : (rf_i Y 284 (ixs be i 0).length (Int32.ofNat (V i))).1 206 117 = Int32.ofNat (ixs be i 0).length := by rw [rf_i_c, if_neg (by decide)]; exact h117
      obtain ⟨M', k1, k2, k3, k4, k5⟩ := ih f (i + 1) (rf_i (rf_i Y 284 (ixs be i 0).length (Int32.ofNat (V i))) 206 117 (Int32.ofNat ((ixs be i 0).length + 1))) (by omega) (by omega) (fun k hk => by rw [rf_i_c, if_neg (by decide), rf_i_c, if_neg (by decide)]; exact h283 k hk) (by rw [rf_i_c, if_pos rfl, pu_at, es, List.length_append, List.length_singleton]) (fun j h => by
        rw [rf_i_c, if_neg (by decide), rf_i_c, if_pos rfl]
        simp only [es] at h ⊢
        rw [List.length_append, List.length_singleton] at h
        by_cases e : j = (ixs be i 0).length
        · subst e
          rw [pu_at, List.getElem_append_right (Nat.le_refl _)]
          simp
        · rw [pu_ne e, List.getElem_append_left (by omega)]
          exact h284 j (by omega))
      rw [if_pos tb, if_neg o1, gof (n := i) (by omega) (by decide), g_t, h117, gof (n := (ixs be i 0).length) (by omega) (by decide), g_t, tn_of (n := i) (by omega), tn_of (n := (ixs be i 0).length) (by omega), h283 i (by omega), e117, of_succ, k1]
      refine ⟨M', rfl, fun z a b => by rw [k2 z a b, rf_i_c, if_neg a, rf_i_c, if_neg b], fun k a b => by rw [k3 k a b, rf_i_c, if_pos rfl, pu_ne a, rf_i_c, if_neg (by decide)], by rw [k4]; rfl, k5⟩
    · have es : ixs be (i + 1) 0 = ixs be i 0 := by rw [ixs_s, if_neg tb, List.append_nil]
      rw [if_neg tb, if_pos rfl]
      exact ih f (i + 1) Y (by omega) (by omega) h283 (by rw [es]; exact h117) (fun j h => by simp only [es] at h ⊢; exact h284 j h)
/-- what the reference tells -/
def rfP (V : Nat → Nat) (n : Nat) (P : List Nat → Prop) (M' : rf_m) (v : Int32) (M : rf_m) : Prop := ((∀ x, x < 2 ^ n → ¬ P (ixs x n 0)) ∧ v = -2 ∧ M'.1 206 117 = M.1 206 117 ∧ M'.1 206 118 = M.1 206 118 ∧ M'.1 284 = M.1 284) ∨ ∃ be, be < 2 ^ n ∧ P (ixs be n 0) ∧ (∀ x, x < 2 ^ n → P (ixs x n 0) → (ixs be n 0).length ≤ (ixs x n 0).length ∧ ((ixs x n 0).length = (ixs be n 0).length → x = be ∨ lx (mpI (ixs be n 0)) (mpI (ixs x n 0)))) ∧ v = Int32.ofNat (ixs be n 0).length ∧ M'.1 206 117 = Int32.ofNat (ixs be n 0).length ∧ M'.1 206 118 = Int32.ofNat (cnM (fun x => (ixs x n 0).length = (ixs be n 0).length ∧ P (ixs x n 0)) (2 ^ n)) ∧ ∀ j (h : j < (ixs be n 0).length), M'.1 284 j = Int32.ofNat (V (ixs be n 0)[j])
theorem sets142 {c : Nat} {w : rf_w} {m M : rf_m} {V : Nat → Nat} {n : Nat} {A : Int32} (J : JCnt c w m) (jn : JNet m) (hV : vOK w m V n) (hA : 0 ≤ A) (hM : rgM w m V n M) : ∃ v M', g_X14_blunder_142 w rf_fuel (Int32.ofNat n) A (-1) 0 0 M = some (v, M') ∧ (∀ z, z ≠ 206 → z ≠ 248 → z ≠ 284 → z ≠ 286 → M'.1 z = M.1 z) ∧ (∀ k, k ≠ 117 → k ≠ 118 → M'.1 206 k = M.1 206 k) ∧ (∀ z, z ≠ 288 → M'.2 z = M.2 z) ∧ rfP V n (rgL w m V n A) M' v M := by
  have n12 := hV.1
  have o1 : ¬ (1 : Int32) = 0 := by decide
  have p12 : 2 ^ n ≤ 2 ^ 12 := Nat.pow_le_pow_right (by omega) n12
  obtain ⟨FU, hF, hFb⟩ := fuel_ex
  have key : ∀ r f mu b many (Y : rf_m), mu + r = 2 ^ n → r < f → irF M Y → bsI (rgL w m V n A) n mu b many → ∃ v M', g_X14_blunder_142 w f (Int32.ofNat n) A b many (Int32.ofNat mu) Y = some (v, M') ∧ (∀ z, z ≠ 206 → z ≠ 248 → z ≠ 284 → z ≠ 286 → M'.1 z = M.1 z) ∧ (∀ k, k ≠ 117 → k ≠ 118 → M'.1 206 k = M.1 206 k) ∧ (∀ z, z ≠ 288 → M'.2 z = M.2 z) ∧ rfP V n (rgL w m V n A) M' v M := by
    intro r
    induction r with
    | zero =>
      intro f mu b many Y hi hf fY hb
      obtain ⟨f, rfl⟩ : ∃ g, f = g + 1 := ⟨f - 1, by omega⟩
      have e : mu = 2 ^ n := by omega
      show ∃ v M', g_X14_blunder_142_b w _ _ _ _ _ _ Y = _ ∧ _
      unfold g_X14_blunder_142_b
      rw [pw12 n n12, e, if_pos (Int32.le_refl _)]
      rw [e] at hb
      rcases hb with ⟨h1, h2⟩ | ⟨be, h1, h2, h3, h4, h5⟩
      · rw [if_pos h1]
        exact ⟨-2, Y, rfl, fun z _ a _ c => fY.1 z a c, fun k _ _ => by rw [fY.1 206 (by decide) (by decide)], fY.2, Or.inl ⟨h2, rfl, by rw [fY.1 206 (by decide) (by decide)], by rw [fY.1 206 (by decide) (by decide)], fY.1 284 (by decide) (by decide)⟩⟩
      · have nb : ¬ b = -1 := fun z => by
          rw [h2, i_eq, ofI (by omega)] at z
          have z1 : (-1 : Int32).toInt = -1 := rfl
          omega
        rw [if_neg nb, hF, h2]
        obtain ⟨M', k1, k2, k3, k4, k5, k6, k7⟩ := told253 (w := w) (m := m) (V := V) (n := n) (be := be) (many := many) n12 n FU 0 (rf_i Y 206 117 0) (by omega) (by omega) (fun k hk => by rw [rf_i_c, if_neg (by decide)]; exact (irF_rg hM fY).2.2.2.1 k hk) (by rw [rf_i_c, if_pos rfl, pu_at]; rfl) (fun j h => absurd h (Nat.not_lt_zero _))
        refine ⟨_, M', k1, fun z a b c d => by rw [k2 z a c, rf_i_c, if_neg a, fY.1 z b d], fun k a b => by rw [k3 k a b, rf_i_c, if_pos rfl, pu_ne a, fY.1 206 (by decide) (by decide)], fun z a => by rw [k4, rf_i_l, fY.2 z a], Or.inr ⟨be, h1, h3, h4, rfl, k5, by rw [k6, h5], k7⟩⟩
    | succ r ih =>
      intro f mu b many Y hi hf fY hb
      obtain ⟨f, rfl⟩ : ∃ g, f = g + 1 := ⟨f - 1, by omega⟩
      have g1 : ¬ Int32.ofNat (2 ^ n) ≤ Int32.ofNat mu := nle (by omega) (by omega)
      have hmu : mu < 2 ^ n := by omega
      obtain ⟨M1, r1, r2⟩ := right_r (mu := mu) J jn hV hA (irF_rg hM fY)
      have f1 := irF_trans fY r2
      show ∃ v M', g_X14_blunder_142_b w (g_X14_blunder_142 w f) _ _ _ _ _ Y = _ ∧ _
      unfold g_X14_blunder_142_b g_X14_blunder_167 g_X14_blunder_198 g_X14_blunder_231
      rw [pw12 n n12, if_neg g1, of_succ, r1, b_sm]
      rcases hb with ⟨h1, h2⟩ | ⟨be, h1, h2, h3, h4, h5⟩
      · rw [if_pos h1]
        by_cases p : rgL w m V n A (ixs mu n 0)
        · rw [bi_t p, if_neg o1, if_pos h1]
          exact ih f (mu + 1) _ _ M1 (by omega) (by omega) f1 (bsI_first h2 p)
        · rw [bi_f p, if_pos rfl]
          exact ih f (mu + 1) _ _ M1 (by omega) (by omega) f1 (bsI_no (Or.inl ⟨h1, h2⟩) p)
      · have nb : ¬ b = -1 := fun z => by
          rw [h2, i_eq, ofI (by omega)] at z
          have z1 : (-1 : Int32).toInt = -1 := rfl
          omega
        have lm := ixs_len (mu := mu) n
        have lb := ixs_len (mu := be) n
        have hb' : bsI (rgL w m V n A) n mu b many := Or.inr ⟨be, h1, h2, h3, h4, h5⟩
        rw [if_neg nb, bits_r, b_sm, h2, bits_r, b_sm, bt_ixs n12 hmu, bt_ixs n12 (show be < 2 ^ n by omega)]
        by_cases q : Int32.ofNat (ixs be n 0).length < Int32.ofNat (ixs mu n 0).length
        · rw [if_pos q]
          have q' := (of_lt (by omega) (by omega)).mp q
          rw [h5]
          exact ih f (mu + 1) _ _ Y (by omega) (by omega) fY (bsI_more h3 h1 h4 q')
        · rw [if_neg q]
          have q' : (ixs mu n 0).length ≤ (ixs be n 0).length := by
            have : ¬ (ixs be n 0).length < (ixs mu n 0).length := fun z => q ((of_lt (by omega) (by omega)).mpr z)
            omega
          by_cases p : rgL w m V n A (ixs mu n 0)
          · rw [h2] at nb
            rw [r1, b_sm, bi_t p, if_neg o1, if_neg nb, bits_r, b_sm, bits_r, b_sm, bt_ixs n12 hmu, bt_ixs n12 (show be < 2 ^ n by omega)]
            by_cases q2 : Int32.ofNat (ixs be n 0).length ≤ Int32.ofNat (ixs mu n 0).length
            · have q2' := (of_le (by omega) (by omega)).mp q2
              have el : (ixs mu n 0).length = (ixs be n 0).length := by omega
              have lo := low_ixs n12 hmu (show be < 2 ^ n by omega) (show be ≠ mu by omega) el
              rw [if_pos q2, h5]
              by_cases q3 : (((Int32.ofNat mu ^^^ Int32.ofNat be) &&& (-(Int32.ofNat mu ^^^ Int32.ofNat be))) &&& Int32.ofNat mu) = 0
              · rw [if_pos q3]
                exact ih f (mu + 1) _ _ M1 (by omega) (by omega) f1 (bsI_same h3 h1 h4 el p (lo.2 q3))
              · rw [if_neg q3]
                exact ih f (mu + 1) _ _ M1 (by omega) (by omega) f1 (bsI_new h4 el p (lo.1 q3))
            · have q2' : (ixs mu n 0).length < (ixs be n 0).length := by
                have : ¬ (ixs be n 0).length ≤ (ixs mu n 0).length := fun z => q2 ((of_le (by omega) (by omega)).mpr z)
                omega
              rw [if_neg q2]
              exact ih f (mu + 1) _ _ M1 (by omega) (by omega) f1 (bsI_less (fun x hx px => (h4 x hx px).1) q2' p)
          · rw [r1, b_sm, bi_f p, if_pos rfl, ← h2]
            exact ih f (mu + 1) _ _ M1 (by omega) (by omega) f1 (bsI_no hb' p)
  exact key (2 ^ n) rf_fuel 0 (-1) 0 M (by omega) (Nat.lt_of_le_of_lt p12 (by unfold rf_fuel; decide)) irF_refl (Or.inl ⟨rfl, fun x hx => by omega⟩)
/-- both tell the same -/
theorem same41 {V : Nat → Nat} {n : Nat} {P : List Nat → Prop} {X' M' X M : rf_m} {v v' : Int32} (hc : fwP V n P X' v X) (hr : rfP V n P M' v' M) : v = v' ∧ ((v = -2 ∧ X'.1 184 2 = X.1 184 2 ∧ X'.1 184 3 = X.1 184 3 ∧ X'.1 185 = X.1 185 ∧ M'.1 206 117 = M.1 206 117 ∧ M'.1 206 118 = M.1 206 118 ∧ M'.1 284 = M.1 284) ∨ ∃ s, s ≤ n ∧ M'.1 206 117 = Int32.ofNat s ∧ X'.1 184 2 = Int32.ofNat s ∧ X'.1 184 3 = M'.1 206 118 ∧ ∀ j, j < s → X'.1 185 j = M'.1 284 j) := by
  have idm : ∀ L : List Nat, L.map (fun x => 0 + x) = L := fun L => by
    have : (fun x : Nat => 0 + x) = id := funext fun x => Nat.zero_add x
    rw [this, List.map_id]
  have cc : ∀ s (R : List Nat → Prop), cnM (fun mu => ((ixs mu n 0).length = s) ∧ R (ixs mu n 0)) (2 ^ n) = cntL R (cmb 0 n s) := fun s R => by
    rw [← cnM_cmb n 0 s R]
    exact cnM_c _ (fun x _ => by rw [idm])
  have mem : ∀ mu, ixs mu n 0 ∈ cmb 0 n (ixs mu n 0).length := fun mu => by
    have := cmb_mem n 0 mu
    rw [idm] at this
    exact this
  have cpos : ∀ {s : Nat} {R : List Nat → Prop} {L : List Nat}, L ∈ cmb 0 n s → R L → ∃ mu, mu < 2 ^ n ∧ (ixs mu n 0).length = s ∧ R (ixs mu n 0) := fun {s R L} h1 h2 => by
    refine Classical.byContradiction fun no => ?_
    have z := cc s R
    rw [cnM_z (2 ^ n) (fun x hx q => no ⟨x, hx, q.1, q.2⟩)] at z
    have : ∀ l : List (List Nat), L ∈ l → cntL R l ≠ 0 := by
      intro l
      induction l with
      | nil => intro h; cases h
      | cons y l ih =>
        intro h
        by_cases q : R y
        · rw [cnL_t q]; omega
        · rw [cnL_n q]
          rcases List.mem_cons.mp h with e | e
          · subst e; exact absurd h2 q
          · exact ih e
    exact this _ h1 z.symm
  have czero : ∀ {s : Nat}, (∀ x, x < 2 ^ n → (ixs x n 0).length = s → ¬ P (ixs x n 0)) → cntL P (cmb 0 n s) = 0 := fun {s} h => by
    rw [← cc s P]
    exact cnM_z _ (fun x hx q => h x hx q.1 q.2)
  rcases hc with ⟨c1, c2, c3, c4, c5⟩ | ⟨s, F, c1, c2, c3, c4, c5, c6, c7, c8⟩
  · rcases hr with ⟨r1, r2, r3, r4, r5⟩ | ⟨be, r1, r2, r3, r4, r5, r6, r7⟩
    · exact ⟨by rw [c2, r2], Or.inl ⟨c2, c3, c4, c5, r3, r4, r5⟩⟩
    · exfalso
      have z := c1 _ (ixs_len (mu := be) n)
      rw [← cc _ P] at z
      have : ∀ N, be < N → cnM (fun mu => ((ixs mu n 0).length = (ixs be n 0).length) ∧ P (ixs mu n 0)) N ≠ 0 := by
        intro N
        induction N with
        | zero => intro h; omega
        | succ N ih =>
          intro h
          by_cases q : (ixs N n 0).length = (ixs be n 0).length ∧ P (ixs N n 0)
          · rw [cnM_t q]; omega
          · rw [cnM_f q]
            refine ih ?_
            by_cases e : be = N
            · subst e; exact absurd ⟨rfl, r2⟩ q
            · omega
      exact this _ r1 z
  · obtain ⟨F1, F2⟩ := fsL_mem _ c4
    obtain ⟨mF, mF1, mF2, mF3⟩ := cpos (R := fun L => L = F) F1 rfl
    rcases hr with ⟨r1, r2, r3, r4, r5⟩ | ⟨be, r1, r2, r3, r4, r5, r6, r7⟩
    · exact absurd (by rw [mF3]; exact F2) (r1 mF mF1)
    · have le1 : (ixs be n 0).length ≤ s := by
        have := (r3 mF mF1 (by rw [mF3]; exact F2)).1
        omega
      have le2 : ¬ (ixs be n 0).length < s := fun q => by
        have z := c3 _ q
        obtain ⟨G, g⟩ : ∃ G, fsL P (cmb 0 n (ixs be n 0).length) = some G := by
          refine fsL_some _ (fun _ => ?_)
          rw [← cc _ P] at z
          have : ∀ N, be < N → cnM (fun mu => ((ixs mu n 0).length = (ixs be n 0).length) ∧ P (ixs mu n 0)) N ≠ 0 := by
            intro N
            induction N with
            | zero => intro h; omega
            | succ N ih =>
              intro h
              by_cases q : (ixs N n 0).length = (ixs be n 0).length ∧ P (ixs N n 0)
              · rw [cnM_t q]; omega
              · rw [cnM_f q]
                refine ih ?_
                by_cases e : be = N
                · subst e; exact absurd ⟨rfl, r2⟩ q
                · omega
          exact this _ r1 z
        have := fsL_mem _ g
        have pos : ∀ l : List (List Nat), G ∈ l → cntL P l ≠ 0 := by
          intro l
          induction l with
          | nil => intro h; cases h
          | cons y l ih =>
            intro h
            by_cases q : P y
            · rw [cnL_t q]; omega
            · rw [cnL_n q]
              rcases List.mem_cons.mp h with e | e
              · subst e; exact absurd this.2 q
              · exact ih e
        exact pos _ this.1 z
      have es : (ixs be n 0).length = s := by omega
      have hF : F = ixs be n 0 := by
        have mb := mem be
        rw [es] at mb
        rcases fsL_pw _ c4 (cmb_pw n 0 s) _ mb r2 with e | e
        · exact e.symm
        · rcases (r3 mF mF1 (by rw [mF3]; exact F2)).2 (by omega) with e2 | e2
          · rw [← e2, mF3]
          · rw [mF3] at e2
            exact absurd e (fun z => lx_as _ _ z e2)
      subst hF
      refine ⟨by rw [c5, r4, es], Or.inr ⟨s, c1, by rw [r5, es], c6, ?_, fun j hj => ?_⟩⟩
      · rw [c7, r6, es, ← cc s P]
      · rw [c8 j (by omega), r7 j (by omega)]
end PBBest
