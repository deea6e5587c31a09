/-! suspects: the reference tries a set -/
section PBRight
theorem ixs_s {mu i : Nat} : ixs mu (i + 1) 0 = ixs mu i 0 ++ (if mu.testBit i then [i] else []) := by
  rw [ixs_f, ixs_f, ixf_add i 1 0, Nat.zero_add]
  by_cases h : mu.testBit i = true
  · rw [if_pos h, ixf_t h]; rfl
  · rw [if_neg h, ixf_n h]; rfl
theorem ixs_lt {mu i x : Nat} (h : x ∈ ixs mu i 0) : x < i ∧ mu.testBit x = true := by
  rw [ixs_f] at h
  have := (ixf_ge i 0 x).mp h
  exact ⟨by have := this.2.1; omega, this.2.2⟩
theorem ixs_len {mu : Nat} : ∀ i, (ixs mu i 0).length ≤ i := by
  intro i
  induction i with
  | zero => exact Nat.le_refl _
  | succ i ih =>
    rw [ixs_s, List.length_append]
    split
    · rw [List.length_singleton]; omega
    · rw [List.length_nil]; omega
theorem l32_of {x : Int64} : Int64.toInt32 x = Int32.ofInt x.toInt := by rw [i_eq, Int64.toInt_toInt32, Int32.toInt_ofInt]
def okS (w : rf_w) (m : rf_m) (V : Nat → Nat) (L : List Nat) : Prop := ∀ k, k ∈ L → cA m V L (anV m V k) < klen w m (anV m V k)
theorem okS_sn {w : rf_w} {m : rf_m} {V : Nat → Nat} {L : List Nat} {k : Nat} : okS w m V (L ++ [k]) ↔ okS w m V L ∧ cA m V (L ++ [k]) (anV m V k) < klen w m (anV m V k) := by
  constructor
  · intro h
    refine ⟨fun x hx => ?_, h k (List.mem_append_right _ List.mem_cons_self)⟩
    have := h x (List.mem_append_left _ hx)
    rw [cA_snoc] at this
    omega
  · rintro ⟨h1, h2⟩ x hx
    by_cases e : anV m V k = anV m V x
    · rw [← e]; exact h2
    · rcases List.mem_append.mp hx with q | q
      · have := h1 x q
        rw [cA_snoc, if_neg e]
        exact this
      · rw [List.mem_singleton.mp q] at e; exact absurd rfl e
theorem okS_L {c : Nat} {w : rf_w} {m : rf_m} {V : Nat → Nat} {n : Nat} {L : List Nat} (J : JCnt c w m) (hV : vOK w m V n) (hL : ∀ k, k ∈ L → k < n) : okS w m V L ↔ okL w m V n L := by
  constructor
  · intro h k hk
    by_cases q : 0 < cA m V L (anV m V k)
    · obtain ⟨x, x1, x2⟩ := cA_pos L q
      rw [← x2]
      exact h x x1
    · have := List.length_pos_of_mem (v_f J hV hk).2.1
      unfold klen
      omega
  · exact fun h k hk => h k (hL k hk)
/-- what a try reads -/
def rgM (w : rf_w) (m : rf_m) (V : Nat → Nat) (n : Nat) (M : rf_m) : Prop := M.1 206 16 = m.1 206 16 ∧ M.1 220 = m.1 220 ∧ M.1 221 = m.1 221 ∧ (∀ k, k < n → M.1 283 k = Int32.ofNat (V k)) ∧ (∀ a, a < (m.1 206 16).toNatClampNeg → M.1 285 a = Int32.ofNat (klen w m a) ∧ (M.2 287 a).toInt = smI w m a) ∧ (∀ z, 243 ≤ z ∧ z ≤ 246 → M.1 z = m.1 z) ∧ M.1 206 64 = m.1 206 64 ∧ M.1 206 65 = m.1 206 65
def irF (M M' : rf_m) : Prop := (∀ z, z ≠ 248 → z ≠ 286 → M'.1 z = M.1 z) ∧ ∀ z, z ≠ 288 → M'.2 z = M.2 z
theorem irF_refl {M : rf_m} : irF M M := ⟨fun _ _ _ => rfl, fun _ _ => rfl⟩
theorem irF_trans {a b c : rf_m} (h : irF a b) (k : irF b c) : irF a c := ⟨fun z h1 h2 => (k.1 z h1 h2).trans (h.1 z h1 h2), fun z h1 => (k.2 z h1).trans (h.2 z h1)⟩
theorem irF_rg {w : rf_w} {m : rf_m} {V : Nat → Nat} {n : Nat} {M M' : rf_m} (h : rgM w m V n M) (f : irF M M') : rgM w m V n M' := ⟨by rw [f.1 206 (by decide) (by decide)]; exact h.1, by rw [f.1 220 (by decide) (by decide)]; exact h.2.1, by rw [f.1 221 (by decide) (by decide)]; exact h.2.2.1, fun k hk => by rw [f.1 283 (by decide) (by decide)]; exact h.2.2.2.1 k hk, fun a ha => by rw [f.1 285 (by decide) (by decide), f.2 287 (by decide)]; exact h.2.2.2.2.1 a ha, fun z hz => by rw [f.1 z (by omega) (by omega)]; exact h.2.2.2.2.2.1 z hz, by rw [f.1 206 (by decide) (by decide)]; exact h.2.2.2.2.2.2.1, by rw [f.1 206 (by decide) (by decide)]; exact h.2.2.2.2.2.2.2⟩
/-- what is left of each angle -/
def lfM (w : rf_w) (m : rf_m) (V : Nat → Nat) (L : List Nat) (M : rf_m) : Prop := ∀ a, a < (m.1 206 16).toNatClampNeg → (M.1 286 a).toInt = (klen w m a : Int) - cA m V L a ∧ (M.2 288 a).toInt = smI w m a - sA m V L a
theorem right_r {c : Nat} {w : rf_w} {m M : rf_m} {V : Nat → Nat} {n mu : Nat} {A : Int32} (J : JCnt c w m) (jn : JNet m) (hV : vOK w m V n) (hA : 0 ≤ A) (hM : rgM w m V n M) : ∃ M', g_X14_isRight w M (Int32.ofNat n) (Int32.ofNat mu) A = some (bi (rgL w m V n A (ixs mu n 0)), M') ∧ irF M M' := by
  have n12 := hV.1
  have h80 := ang80 J.2.2.2.2.1
  have hR := of_tn J.2.2.2.2.1.2.1.1
  have o1 : ¬ (1 : Int32) = 0 := by decide
  obtain ⟨FU, hF, hFb⟩ := fuel_ex
  -- the means
  have key3 : okL w m V n (ixs mu n 0) → ∀ r f i (Y : rf_m), i + r = (m.1 206 16).toNatClampNeg → r < f → irF M Y → lfM w m V (ixs mu n 0) Y → (∀ a, a < i → Y.1 248 a = mnL w m V (ixs mu n 0) a) → ∃ M', g_X14_isRight_156 w f A (Int32.ofNat i) Y = some (bi (rgL w m V n A (ixs mu n 0)), M') ∧ irF M M' := by
    intro ok r
    induction r with
    | zero =>
      intro f i Y hi hf fY lf hm
      obtain ⟨f, rfl⟩ : ∃ g, f = g + 1 := ⟨f - 1, by omega⟩
      have e16 : Y.1 206 16 = m.1 206 16 := (irF_rg hM fY).1
      have g := irF_rg hM fY
      obtain ⟨v, w1, w2⟩ := wide_g (w := w) (A := A) (mn := mnL w m V (ixs mu n 0)) hA J.2.2.2.2.1 jn (M := Y) ⟨g.2.2.2.2.2.1, g.2.2.2.2.2.2.1, g.2.2.2.2.2.2.2, fun a ha => hm a (by omega)⟩
      refine ⟨Y, ?_, fY⟩
      show g_X14_isRight_156_b w _ _ _ Y = _
      unfold g_X14_isRight_156_b
      rw [e16, show i = (m.1 206 16).toNatClampNeg by omega, hR, if_pos (Int32.le_refl _), w1, b_sm]
      by_cases q : v = 0
      · rw [if_pos q, bi_t ⟨ok, w2.mp q⟩]
      · rw [if_neg q, bi_f (fun h => q (w2.mpr h.2))]
    | succ r ih =>
      intro f i Y hi hf fY lf hm
      obtain ⟨f, rfl⟩ : ∃ g, f = g + 1 := ⟨f - 1, by omega⟩
      have hil : i < (m.1 206 16).toNatClampNeg := by omega
      have e16 : Y.1 206 16 = m.1 206 16 := (irF_rg hM fY).1
      have nl : ¬ m.1 206 16 ≤ Int32.ofNat i := by rw [← hR]; exact nle hil (by omega)
      obtain ⟨l1, l2⟩ := lf i hil
      obtain ⟨kr1, kr2, kr3⟩ := k_rng J hil
      have cl : cA m V (ixs mu n 0) i = 0 ∨ cA m V (ixs mu n 0) i < klen w m i := by
        by_cases q : 0 < cA m V (ixs mu n 0) i
        · obtain ⟨k, q1, q2⟩ := cA_pos _ q
          have := ok k (ixs_lt q1).1
          rw [q2] at this
          exact Or.inr this
        · exact Or.inl (by omega)
      have st : ∀ x, x = mnL w m V (ixs mu n 0) i → ∃ M', g_X14_isRight_156 w f A (Int32.ofNat (i + 1)) (rf_i Y 248 i x) = some (bi (rgL w m V n A (ixs mu n 0)), M') ∧ irF M M' := fun x hx => ih f (i + 1) _ (by omega) (by omega) (irF_trans fY ⟨fun z a _ => by rw [rf_i_c, if_neg a], fun z _ => rfl⟩) (fun a ha => by rw [rf_i_c, if_neg (by decide)]; exact lf a ha) (fun a ha => by
        rw [rf_i_c, if_pos rfl]
        by_cases e : a = i
        · rw [e, pu_at, hx]
        · rw [pu_ne e]; exact hm a (by omega))
      show ∃ M', g_X14_isRight_156_b w _ _ _ Y = _ ∧ _
      unfold g_X14_isRight_156_b g_X14_isRight_203
      rw [e16, if_neg nl, gof (n := i) (by omega) (by decide), g_t, g_t, g_t, tn_of (n := i) (by omega), g_t, of_succ]
      by_cases q : klen w m i = cA m V (ixs mu n 0) i
      · have z : Y.1 286 i = 0 := by rw [i_eq, l1, i_0]; omega
        rw [if_pos z]
        exact st _ (by unfold mnL; rw [if_pos q])
      · have z : ¬ Y.1 286 i = 0 := fun h => by rw [i_eq, l1, i_0] at h; omega
        have zl : rf_nzl (Int32.toInt64 (Y.1 286 i)) = true := by
          unfold rf_nzl
          rw [Bool.not_eq_true', beq_eq_false_iff_ne]
          intro h
          have := congrArg Int64.toInt h
          rw [i2l, l1] at this
          have z0 : (0 : Int64).toInt = 0 := rfl
          rw [z0] at this
          omega
        rw [if_neg z, zl, g_t, g_t]
        refine st _ ?_
        unfold mnL
        rw [if_neg q, l32_of, divL (by rw [i2l, l1]; omega), i2l, l1, l2]
  -- striking
  have key2 : ∀ r f i (Y : rf_m), i + r = n → r < f → irF M Y → lfM w m V (ixs mu i 0) Y → ∃ M', g_X14_isRight_52 w f (Int32.ofNat n) (Int32.ofNat mu) A (bi (okS w m V (ixs mu i 0))) (Int32.ofNat i) Y = some (bi (rgL w m V n A (ixs mu n 0)), M') ∧ irF M M' := by
    intro r
    induction r with
    | zero =>
      intro f i Y hi hf fY lf
      obtain ⟨f, rfl⟩ : ∃ g, f = g + 1 := ⟨f - 1, by omega⟩
      have e : i = n := by omega
      subst e
      show ∃ M', g_X14_isRight_52_b w _ _ _ _ _ _ Y = _ ∧ _
      unfold g_X14_isRight_52_b
      rw [if_pos (Int32.le_refl _)]
      have oo := okS_L (L := ixs mu i 0) J hV (fun k hk => (ixs_lt hk).1)
      by_cases q : okS w m V (ixs mu i 0)
      · rw [bi_t q, if_neg o1, hF]
        exact key3 (oo.mp q) (m.1 206 16).toNatClampNeg FU 0 Y (by omega) (by omega) fY lf (fun a ha => by omega)
      · rw [bi_f q, if_pos rfl, bi_f (fun h => q (oo.mpr h.1))]
        exact ⟨Y, rfl, fY⟩
    | succ r ih =>
      intro f i Y hi hf fY lf
      obtain ⟨f, rfl⟩ : ∃ g, f = g + 1 := ⟨f - 1, by omega⟩
      have g1 : ¬ Int32.ofNat n ≤ Int32.ofNat i := nle (by omega) (by omega)
      have hb := bt_sar (a := Int32.ofNat mu) (u := i) (by omega)
      rw [bt_nat (by omega)] at hb
      show ∃ M', g_X14_isRight_52_b w (g_X14_isRight_52 w f) _ _ _ _ _ Y = _ ∧ _
      unfold g_X14_isRight_52_b g_X14_isRight_140 g_X14_isRight_137 g_X14_isRight_138
      rw [if_neg g1, hb, of_succ]
      by_cases tb : mu.testBit i = true
      · rw [if_pos tb, if_neg o1]
        have es : ixs mu (i + 1) 0 = ixs mu i 0 ++ [i] := by rw [ixs_s, if_pos tb]
        obtain ⟨a1, a2, a3, a4, a5, a6⟩ := v_f J hV (show i < n by omega)
        have g := irF_rg hM fY
        obtain ⟨l1, l2⟩ := lf _ a1
        obtain ⟨kr1, kr2, kr3⟩ := k_rng J a1
        have sr := sA_rng (a := anV m V i) J hV (ixs mu i 0) (fun k hk => by have := (ixs_lt hk).1; omega)
        have c12 := cA_le (m := m) (V := V) (a := anV m V i) (ixs mu i 0)
        have len := ixs_len (mu := mu) i
        have g80 := gof (n := anV m V i) (N := 80) (by omega) (by decide)
        have e221 : (m.1 221 (V i)).toInt = whV m V i := rfl
        have sr2 : sA m V (ixs mu i 0) (anV m V i) ≤ 12959999 * 12 := by
          have : ((ixs mu i 0).length : Int) ≤ 12 := by omega
          omega
        generalize hX : rf_l (rf_i Y 286 (anV m V i) (Y.1 286 (anV m V i) - 1)) 288 (anV m V i) ((Y.2 288 (anV m V i)) - Int32.toInt64 (m.1 221 (V i))) = X
        have lfX : lfM w m V (ixs mu (i + 1) 0) X := fun a ha => by
          have o := lf a ha
          rw [es, cA_snoc, sA_snoc, ← hX, rf_l_i, rf_i_c, if_pos rfl, rf_l_c, if_pos rfl, rf_i_l]
          by_cases e : a = anV m V i
          · subst e
            have s1 := subI (a := Y.1 286 (anV m V i)) (b := 1) (by rw [l1]; show _ ≤ _ - (1 : Int); omega) (by rw [l1]; show _ - (1 : Int) < _; omega)
            have s2 := subL (a := Y.2 288 (anV m V i)) (b := Int32.toInt64 (m.1 221 (V i))) (by rw [l2, i2l, e221]; omega) (by rw [l2, i2l, e221]; omega)
            rw [pu_at, pu_at, s1, s2, l1, l2, i2l, e221, if_pos rfl, if_pos rfl]
            constructor
            · show _ - (1 : Int) = _
              omega
            · omega
          · rw [pu_ne e, pu_ne e, if_neg (fun z => e z.symm), if_neg (fun z => e z.symm), o.1, o.2]
            constructor
            · omega
            · omega
        have fX : irF M X := by
          rw [← hX]
          exact irF_trans fY ⟨fun z _ b => by rw [rf_l_i, rf_i_c, if_neg b], fun z b => by rw [rf_l_c, if_neg b, rf_i_l]⟩
        have pX : X.1 286 (anV m V i) ≤ 0 ↔ ¬ cA m V (ixs mu (i + 1) 0) (anV m V i) < klen w m (anV m V i) := by
          rw [i_le, (lfX _ a1).1, i_0]
          omega
        have okk : okS w m V (ixs mu (i + 1) 0) ↔ okS w m V (ixs mu i 0) ∧ cA m V (ixs mu (i + 1) 0) (anV m V i) < klen w m (anV m V i) := by rw [es]; exact okS_sn
        have nx := ih f (i + 1) X (by omega) (by omega) fX lfX
        have e283 : (rf_i Y 286 (anV m V i) (Y.1 286 (anV m V i) - 1)).1 283 i = Int32.ofNat (V i) := by rw [rf_i_c, if_neg (by decide)]; exact g.2.2.2.1 i (by omega)
        have e221' : (rf_i Y 286 (anV m V i) (Y.1 286 (anV m V i) - 1)).1 221 = m.1 221 := by rw [rf_i_c, if_neg (by decide)]; exact g.2.2.1
        have an' : (m.1 220 (V i)).toNatClampNeg = anV m V i := rfl
        unfold rf_vi
        rw [gof (n := i) (by omega) (by decide), g_t, tn_of (n := i) (by omega), g.2.2.2.1 i (by omega), gof (n := V i) (by omega) (by decide), g_t, tn_of (n := V i) (by omega), g.2.1, ← a6]
        dsimp only
        rw [tn_of (n := anV m V i) (by omega), g80, g_t, g_t, g_t, g_t, e283, gof (n := V i) (by omega) (by decide), g_t, tn_of (n := V i) (by omega), e221', g_t, rf_i_l, hX, g_t]
        by_cases q : okS w m V (ixs mu i 0)
        · rw [bi_t q, if_neg o1]
          by_cases q2 : cA m V (ixs mu (i + 1) 0) (anV m V i) < klen w m (anV m V i)
          · rw [bi_t (okk.mpr ⟨q, q2⟩)] at nx
            rw [if_neg (fun h => pX.mp h q2)]
            unfold g_X14_isRight_140
            rw [of_succ]
            exact nx
          · rw [bi_f (fun h => q2 (okk.mp h).2)] at nx
            rw [if_pos (pX.mpr q2)]
            unfold g_X14_isRight_140
            rw [of_succ]
            exact nx
        · rw [bi_f (fun h => q (okk.mp h).1)] at nx
          rw [bi_f q, if_pos rfl]
          unfold g_X14_isRight_140
          rw [of_succ]
          exact nx
      · have es : ixs mu (i + 1) 0 = ixs mu i 0 := by rw [ixs_s, if_neg tb, List.append_nil]
        rw [if_neg tb, if_pos rfl]
        have := ih f (i + 1) Y (by omega) (by omega) fY (by rw [es]; exact lf)
        rw [es] at this
        exact this
  -- the rows anew
  have key1 : ∀ r f i (Y : rf_m), i + r = (m.1 206 16).toNatClampNeg → r < f → irF M Y → (∀ a, a < i → Y.1 286 a = M.1 285 a ∧ Y.2 288 a = M.2 287 a) → ∃ M', g_X14_isRight_3 w f (Int32.ofNat n) (Int32.ofNat mu) A (Int32.ofNat i) Y = some (bi (rgL w m V n A (ixs mu n 0)), M') ∧ irF M M' := by
    intro r
    induction r with
    | zero =>
      intro f i Y hi hf fY hm
      obtain ⟨f, rfl⟩ : ∃ g, f = g + 1 := ⟨f - 1, by omega⟩
      have e16 : Y.1 206 16 = m.1 206 16 := (irF_rg hM fY).1
      show ∃ M', g_X14_isRight_3_b w _ _ _ _ _ Y = _ ∧ _
      unfold g_X14_isRight_3_b
      rw [e16, show i = (m.1 206 16).toNatClampNeg by omega, hR, if_pos (Int32.le_refl _), hF]
      have := key2 n FU 0 Y (by omega) (by omega) fY (fun a ha => by
        obtain ⟨h1, h2⟩ := hm a (by omega)
        obtain ⟨h3, h4⟩ := hM.2.2.2.2.1 a ha
        have kr := (k_rng J ha).1
        rw [h1, h2, h3, h4, ofI (by omega)]
        exact ⟨(Int.sub_zero _).symm, (Int.sub_zero _).symm⟩)
      rw [bi_t (P := okS w m V (ixs mu 0 0)) (fun k hk => by cases hk)] at this
      exact this
    | succ r ih =>
      intro f i Y hi hf fY hm
      obtain ⟨f, rfl⟩ : ∃ g, f = g + 1 := ⟨f - 1, by omega⟩
      have hil : i < (m.1 206 16).toNatClampNeg := by omega
      have e16 : Y.1 206 16 = m.1 206 16 := (irF_rg hM fY).1
      have nl : ¬ m.1 206 16 ≤ Int32.ofNat i := by rw [← hR]; exact nle hil (by omega)
      show ∃ M', g_X14_isRight_3_b w _ _ _ _ _ Y = _ ∧ _
      unfold g_X14_isRight_3_b
      rw [e16, if_neg nl, gof (n := i) (by omega) (by decide), g_t, g_t, g_t, g_t, tn_of (n := i) (by omega), of_succ]
      refine ih f (i + 1) _ (by omega) (by omega) (irF_trans fY ⟨fun z _ b => by rw [rf_l_i, rf_i_c, if_neg b], fun z b => by rw [rf_l_c, if_neg b, rf_i_l]⟩) (fun a ha => ?_)
      rw [rf_l_i, rf_i_c, if_pos rfl, rf_l_c, if_pos rfl, rf_i_l, fY.1 285 (by decide) (by decide), fY.2 287 (by decide)]
      by_cases e : a = i
      · rw [e, pu_at, pu_at]; exact ⟨rfl, rfl⟩
      · rw [pu_ne e, pu_ne e]; exact hm a (by omega)
  unfold g_X14_isRight
  rw [hF]
  exact key1 (m.1 206 16).toNatClampNeg FU 0 M (by omega) (by omega) irF_refl (fun a ha => by omega)
end PBRight
