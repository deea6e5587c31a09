/-! adjust: the reference's numerators and its count -/
section PBRtail
def memQ (m : rf_m) (L : List Nat) (a : Nat) : Prop := ∃ i, mbQ m L i a
noncomputable def mN (w : rf_w) (m : rf_m) (L : List Nat) (a n : Nat) : Int := sm n (fun i => vQ m L a i * fK w m L i)
theorem memQ_e {m : rf_m} {L : List Nat} {a : Nat} : memQ m L a ↔ ∃ i, i < L.length ∧ mbQ m L i a := ⟨fun ⟨i, h, k⟩ => ⟨i, h, h, k⟩, fun ⟨i, _, k⟩ => ⟨i, k⟩⟩
def aF (M Y : rf_m) : Prop := (∀ z, z ≠ 257 → z ≠ 263 → z ≠ 264 → Y.1 z = M.1 z) ∧ Y.2 = M.2
theorem aF_trans {a b c : rf_m} (h : aF a b) (k : aF b c) : aF a c := ⟨fun z h1 h2 h3 => (k.1 z h1 h2 h3).trans (h.1 z h1 h2 h3), k.2.trans h.2⟩
theorem aF_R {a b : rf_m} (h : aF a b) : adR a b := ⟨fun z hz => h.1 z (by omega) (by omega) (by omega), fun k _ => by rw [h.1 206 (by decide) (by decide) (by decide)], h.2⟩
theorem aF_c {a : rf_m} {z : Nat} {F : Nat → Int32} (hz : z = 257 ∨ z = 263 ∨ z = 264) : aF a (stc a z F) := ⟨fun y h1 h2 h3 => by rw [stc_c, if_neg (by omega)], rfl⟩
theorem aF_i {a : rf_m} {z k : Nat} {x : Int32} (hz : z = 257 ∨ z = 263 ∨ z = 264) : aF a (rf_i a z k x) := ⟨fun y h1 h2 h3 => by rw [rf_i_c, if_neg (by omega)], rfl⟩
theorem nar0 : vp_nar .boolean 0 = 0 := by decide
theorem nar1 : vp_nar .boolean 1 = 1 := by decide
theorem bi_ne {P : Prop} : ¬ bi P = 0 ↔ P := by
  by_cases h : P
  · rw [bi_t h]; exact ⟨fun _ => h, fun _ => by decide⟩
  · rw [bi_f h]; exact ⟨fun z => absurd rfl z, fun z => absurd z h⟩
/-- one angle -/
theorem ang_r {w : rf_w} {m Y : rf_m} {L : List Nat} {a : Nat} {ct : Int32} {r557 : Int32 → Int32 → Int32 → rf_m → Option (Int32 × rf_m)} (ja : JAng m) (jn : JNet m) (hn : nA w m Y) (hS : rfS w m L Y) (hL : L.length ≤ 6) (ok : ∀ i (h : i < L.length), okK m L[i]) (h258 : ∀ i, i < L.length → wd (Y.1 258) (6 * i) (fK w m L i)) (ha : a < 80) (h263 : Y.1 263 a = 0) (h264 : wd (Y.1 264) (6 * a) 0) : ∃ Y', g_X14_adjust_590 w r557 rf_fuel (Int32.ofNat L.length) ct (Int32.ofNat a) 0 Y = r557 (Int32.ofNat L.length) (ct + bi (memQ m L a)) (Int32.ofNat (a + 1)) Y' ∧ aF Y Y' ∧ Y'.1 263 = pu (Y.1 263) a (bi (memQ m L a)) ∧ wF (6 * a) (Y.1 264) (Y'.1 264) ∧ wd (Y'.1 264) (6 * a) (mN w m L a L.length * (Y.1 265 a).toInt) := by
  obtain ⟨FU, hF, hFb⟩ := fuel_ex
  have o1 : ¬ (1 : Int32) = 0 := by decide
  have zo : Int32.ofNat 0 = 0 := rfl
  have ga : rf_in (Int32.ofNat a) 80 = true := gof (n := a) (by omega) (by decide)
  have ta : (Int32.ofNat a).toNatClampNeg = a := tn_of (by omega)
  have key : ∀ r f i (Z : rf_m), i + r = L.length → r < f → aF Y Z → Z.1 263 = pu (Y.1 263) a (bi (∃ i', i' < i ∧ mbQ m L i' a)) → wF (6 * a) (Y.1 264) (Z.1 264) → wd (Z.1 264) (6 * a) (mN w m L a i) → ∃ Y', g_X14_adjust_590 w r557 f (Int32.ofNat L.length) ct (Int32.ofNat a) (Int32.ofNat i) Z = r557 (Int32.ofNat L.length) (ct + bi (memQ m L a)) (Int32.ofNat (a + 1)) Y' ∧ aF Y Y' ∧ Y'.1 263 = pu (Y.1 263) a (bi (memQ m L a)) ∧ wF (6 * a) (Y.1 264) (Y'.1 264) ∧ wd (Y'.1 264) (6 * a) (mN w m L a L.length * (Y.1 265 a).toInt) := by
    intro r
    induction r with
    | zero =>
      intro f i Z hi hf fZ e263 f264 e264
      obtain ⟨f, rfl⟩ : ∃ g, f = g + 1 := ⟨f - 1, by omega⟩
      have e : i = L.length := by omega
      subst e
      rw [bi_congr (memQ_e (m := m) (L := L) (a := a)).symm] at e263
      obtain ⟨F1, a1, a2, a3⟩ := tm_257_264 (w := w) (m := Z) (p := 0) (q := 6 * a) (by_ := Z.1 265 a) (by decide) (by omega) e264
      rw [fZ.1 265 (by decide) (by decide) (by decide)] at a3
      obtain ⟨F2, b1, b2, b3⟩ := cp_264_257 (w := w) (m := stc Z 257 F1) (p := 6 * a) (q := 0) (by omega) (by decide) (by rw [stc_at]; exact a3)
      rw [stc_ne (by decide)] at b2
      rw [zo] at a1 b1
      have z263 : (stc (stc Z 257 F1) 264 F2).1 263 = pu (Y.1 263) a (bi (memQ m L a)) := by rw [stc_ne (by decide), stc_ne (by decide)]; exact e263
      refine ⟨stc (stc Z 257 F1) 264 F2, ?_, aF_trans fZ (aF_trans (aF_c (by omega)) (aF_c (by omega))), z263, ?_, by rw [stc_at]; exact b3⟩
      · show g_X14_adjust_590_b w _ _ _ _ _ _ Z = _
        unfold g_X14_adjust_590_b g_X14_adjust_703
        rw [if_pos (Int32.le_refl _), ga, g_t, idx60 ha, ta, a1, bv_sm, b1, bv_sm, g_t, z263, pu_at, of_succ]
        by_cases q : memQ m L a
        · rw [bi_t q, if_neg o1]
        · rw [bi_f q, if_pos rfl]
      · rw [stc_at]
        exact fun k hk => (b2 k hk).trans (f264 k hk)
    | succ r ih =>
      intro f i Z hi hf fZ e263 f264 e264
      obtain ⟨f, rfl⟩ : ∃ g, f = g + 1 := ⟨f - 1, by omega⟩
      have il : i < L.length := by omega
      have nl : ¬ Int32.ofNat L.length ≤ Int32.ofNat i := nle (by omega) (by omega)
      have fR := aF_R fZ
      have pI := partOf_r (w := w) (M := Z) (a := a) ja jn (nA_R hn fR) (rfS_R hS fR) il hL (ok i il) ha
      have qI : mbQ m L i a ↔ mbK m L[i] a := ⟨fun ⟨_, h⟩ => h, fun h => ⟨il, h⟩⟩
      have es : mN w m L a (i + 1) = mN w m L a i + vQ m L a i * fK w m L i := rfl
      have s1' : (∃ j', j' < i + 1 ∧ mbQ m L j' a) ↔ ((∃ j', j' < i ∧ mbQ m L j' a) ∨ mbQ m L i a) := by
        constructor
        · rintro ⟨j', p1, p2⟩
          by_cases e : j' = i
          · rw [e] at p2; exact Or.inr p2
          · exact Or.inl ⟨j', by omega, p2⟩
        · rintro (⟨j', p1, p2⟩ | p)
          · exact ⟨j', by omega, p2⟩
          · exact ⟨i, by omega, p⟩
      show ∃ Y', g_X14_adjust_590_b w _ (g_X14_adjust_590 w r557 f) _ _ _ _ Z = _ ∧ _
      unfold g_X14_adjust_590_b g_X14_adjust_639
      rw [if_neg nl, pI, b_sm]
      by_cases q : mbK m L[i] a
      · have ev := vQ_t (qI.mpr q)
        rw [bi_t q, if_neg o1, ga, g_t, ta, nar1, idx60 ha, idx60 (show i < 80 by omega), of_succ]
        obtain ⟨F1, a1, a2, a3⟩ := ad_264_258 (w := w) (m := rf_i Z 263 a 1) (p := 6 * a) (q := 6 * i) (by omega) (by omega) (by rw [rf_i_c, if_neg (by decide)]; exact e264) (by rw [rf_i_c, if_neg (by decide), fZ.1 258 (by decide) (by decide) (by decide)]; exact h258 i il)
        rw [rf_i_c, if_neg (by decide)] at a2
        rw [a1, bv_sm]
        refine ih f (i + 1) (stc (rf_i Z 263 a 1) 264 F1) (by omega) (by omega) (aF_trans fZ (aF_trans (aF_i (by omega)) (aF_c (by omega)))) ?_ ?_ ?_
        · rw [stc_ne (by decide), rf_i_c, if_pos rfl, e263, bi_t (s1'.mpr (Or.inr (qI.mpr q)))]
          funext k
          by_cases e : k = a
          · rw [e, pu_at, pu_at]
          · rw [pu_ne e, pu_ne e, pu_ne e]
        · rw [stc_at]
          exact fun k hk => (a2 k hk).trans (f264 k hk)
        · rw [stc_at, es, ev, Int.one_mul]
          exact a3
      · have ev := vQ_f (m := m) (L := L) (t := a) (i := i) (fun z => q (qI.mp z))
        rw [bi_f q, if_pos rfl, of_succ]
        refine ih f (i + 1) Z (by omega) (by omega) fZ ?_ f264 ?_
        · rw [e263]
          have : (∃ j', j' < i ∧ mbQ m L j' a) ↔ (∃ j', j' < i + 1 ∧ mbQ m L j' a) := Iff.trans ⟨fun h => Or.inl h, fun h => by rcases h with h | h; exact h; exact absurd (qI.mp h) q⟩ s1'.symm
          rw [bi_congr this]
        · rw [es, ev, Int.zero_mul, Int.add_zero]
          exact e264
  have k := key L.length FU 0 Y (by omega) (by omega) ⟨fun _ _ _ _ => rfl, rfl⟩ (by
    rw [bi_f (fun ⟨_, p, _⟩ => absurd p (Nat.not_lt_zero _)), ← h263]
    funext k
    by_cases e : k = a
    · rw [e, pu_at]
    · rw [pu_ne e]) (fun _ _ => rfl) h264
  rw [← hF] at k
  exact k
def tlF (M M' : rf_m) : Prop := (∀ z, z ≠ 206 → z ≠ 257 → z ≠ 263 → z ≠ 264 → M'.1 z = M.1 z) ∧ (∀ k, k ≠ 1 → k ≠ 2 → k ≠ 88 → M'.1 206 k = M.1 206 k) ∧ M'.2 = M.2 ∧ M'.1 206 1 = 0 ∧ M'.1 206 2 = -1 ∧ M'.1 206 88 = 1
/-- those that are none -/
theorem clear_r {w : rf_w} {ct : Int32} : ∀ r f i (Y : rf_m), i + r = 80 → r < f → ∃ M', g_X14_adjust_718 w f ct (Int32.ofNat i) Y = some (ct, M') ∧ tlF Y M' ∧ M'.1 264 = Y.1 264 ∧ (∀ a, a < i → M'.1 263 a = Y.1 263 a) ∧ ∀ a, i ≤ a → a < 80 → M'.1 263 a = 0 := by
  intro r
  induction r with
  | zero =>
    intro f i Y hi hf
    obtain ⟨f, rfl⟩ : ∃ g, f = g + 1 := ⟨f - 1, by omega⟩
    have e : i = 80 := by omega
    subst e
    refine ⟨rf_i (rf_i (rf_i Y 206 88 1) 206 1 0) 206 2 (-1), ?_, ⟨fun z h _ _ _ => by rw [rf_i_c, if_neg h, rf_i_c, if_neg h, rf_i_c, if_neg h], fun k h1 h2 h3 => by rw [rf_i_c, if_pos rfl, pu_ne h2, rf_i_c, if_pos rfl, pu_ne h1, rf_i_c, if_pos rfl, pu_ne h3], rfl, rfl, rfl, rfl⟩, rfl, fun _ _ => rfl, fun a h1 h2 => by omega⟩
    show g_X14_adjust_718_b w _ _ _ Y = _
    unfold g_X14_adjust_718_b
    have z : (80 : Int32) ≤ Int32.ofNat 80 := by decide
    rw [if_pos z]
    rfl
  | succ r ih =>
    intro f i Y hi hf
    obtain ⟨f, rfl⟩ : ∃ g, f = g + 1 := ⟨f - 1, by omega⟩
    have nl : ¬ (80 : Int32) ≤ Int32.ofNat i := nle (R := 80) (by omega) (by decide)
    have gi : rf_in (Int32.ofNat i) 80 = true := gof (n := i) (by omega) (by decide)
    have ti : (Int32.ofNat i).toNatClampNeg = i := tn_of (by omega)
    obtain ⟨M', k1, k2, k3, k4, k5⟩ := ih f (i + 1) (rf_i Y 263 i 0) (by omega) (by omega)
    refine ⟨M', ?_, ⟨fun z h1 h2 h3 h4 => by rw [k2.1 z h1 h2 h3 h4, rf_i_c, if_neg h3], fun k h1 h2 h3 => by rw [k2.2.1 k h1 h2 h3, rf_i_c, if_neg (by decide)], k2.2.2.1, k2.2.2.2⟩, by rw [k3, rf_i_c, if_neg (by decide)], fun a ha => by rw [k4 a (by omega), rf_i_c, if_pos rfl, pu_ne (by omega)], fun a h1 h2 => ?_⟩
    · rw [← k1]
      show g_X14_adjust_718_b w _ _ _ Y = _
      unfold g_X14_adjust_718_b
      rw [if_neg nl, gi, g_t, ti, nar0, of_succ]
    · by_cases e : a = i
      · rw [e, k4 i (by omega), rf_i_c, if_pos rfl, pu_at]
      · exact k5 a (by omega) h2
/-- all angles -/
theorem tail_r {w : rf_w} {m M : rf_m} {L : List Nat} (ja : JAng m) (jn : JNet m) (e16 : M.1 206 16 = m.1 206 16) (hn : nA w m M) (hS : rfS w m L M) (hL : L.length ≤ 6) (ok : ∀ i (h : i < L.length), okK m L[i]) (h258 : ∀ i, i < L.length → wd (M.1 258) (6 * i) (fK w m L i)) (h265 : ∀ a, a < (m.1 206 16).toNatClampNeg → (M.1 265 a).toInt = sI w m a) : ∃ M', g_X14_adjust_557 w rf_fuel (Int32.ofNat L.length) 0 0 M = some (Int32.ofNat (cn (fun a => bi (memQ m L a)) (m.1 206 16).toNatClampNeg), M') ∧ tlF M M' ∧ (∀ a, a < (m.1 206 16).toNatClampNeg → M'.1 263 a = bi (memQ m L a) ∧ wd (M'.1 264) (6 * a) (mN w m L a L.length * sI w m a)) ∧ ∀ a, (m.1 206 16).toNatClampNeg ≤ a → a < 80 → M'.1 263 a = 0 := by
  obtain ⟨FU, hF, hFb⟩ := fuel_ex
  have h80 := ang80 ja
  have hR := of_tn ja.2.1.1
  have key : ∀ r f i (Y : rf_m), i + r = (m.1 206 16).toNatClampNeg → r < f → aF M Y → (∀ a, a < i → Y.1 263 a = bi (memQ m L a) ∧ wd (Y.1 264) (6 * a) (mN w m L a L.length * sI w m a)) → ∃ M', g_X14_adjust_557 w f (Int32.ofNat L.length) (Int32.ofNat (cn (fun a => bi (memQ m L a)) i)) (Int32.ofNat i) Y = some (Int32.ofNat (cn (fun a => bi (memQ m L a)) (m.1 206 16).toNatClampNeg), M') ∧ tlF M M' ∧ (∀ a, a < (m.1 206 16).toNatClampNeg → M'.1 263 a = bi (memQ m L a) ∧ wd (M'.1 264) (6 * a) (mN w m L a L.length * sI w m a)) ∧ ∀ a, (m.1 206 16).toNatClampNeg ≤ a → a < 80 → M'.1 263 a = 0 := by
    intro r
    induction r with
    | zero =>
      intro f i Y hi hf fY hd
      obtain ⟨f, rfl⟩ : ∃ g, f = g + 1 := ⟨f - 1, by omega⟩
      have e : i = (m.1 206 16).toNatClampNeg := by omega
      have y16 : Y.1 206 16 = m.1 206 16 := by rw [fY.1 206 (by decide) (by decide) (by decide)]; exact e16
      obtain ⟨M', k1, k2, k3, k4, k5⟩ := clear_r (w := w) (ct := Int32.ofNat (cn (fun a => bi (memQ m L a)) i)) (80 - i) FU i Y (by omega) (by omega)
      refine ⟨M', ?_, ⟨fun z h1 h2 h3 h4 => by rw [k2.1 z h1 h2 h3 h4]; exact fY.1 z h2 h3 h4, fun k h1 h2 h3 => by rw [k2.2.1 k h1 h2 h3, fY.1 206 (by decide) (by decide) (by decide)], by rw [k2.2.2.1]; exact fY.2, k2.2.2.2⟩, fun a ha => by rw [k3, k4 a (by omega)]; exact hd a (by omega), fun a h1 h2 => k5 a (by omega) h2⟩
      show g_X14_adjust_557_b w _ _ _ _ Y = _
      unfold g_X14_adjust_557_b
      rw [y16, e, hR, if_pos (Int32.le_refl _), hF, ← e, ← hR, ← e]
      exact k1
    | succ r ih =>
      intro f i Y hi hf fY hd
      obtain ⟨f, rfl⟩ : ∃ g, f = g + 1 := ⟨f - 1, by omega⟩
      have il : i < (m.1 206 16).toNatClampNeg := by omega
      have y16 : Y.1 206 16 = m.1 206 16 := by rw [fY.1 206 (by decide) (by decide) (by decide)]; exact e16
      have nl : ¬ m.1 206 16 ≤ Int32.ofNat i := by rw [← hR]; exact nle (by omega) (by omega)
      have gi : rf_in (Int32.ofNat i) 80 = true := gof (n := i) (by omega) (by decide)
      have ti : (Int32.ofNat i).toNatClampNeg = i := tn_of (by omega)
      obtain ⟨F1, a1, a2, a3⟩ := st_264 (w := w) (m := Y) (p := 6 * i) (v := 0) (by omega)
      have z0 : (0 : Int64).toInt = 0 := rfl
      rw [z0] at a3
      have fY1 : aF Y (rf_i (stc Y 264 F1) 263 i 0) := aF_trans (aF_c (by omega)) (aF_i (by omega))
      have fR := aF_R (aF_trans fY fY1)
      obtain ⟨Y2, k1, k2, k3, k4, k5⟩ := ang_r (w := w) (m := m) (Y := rf_i (stc Y 264 F1) 263 i 0) (L := L) (a := i) (ct := Int32.ofNat (cn (fun a => bi (memQ m L a)) i)) (r557 := g_X14_adjust_557 w f) ja jn (nA_R hn fR) (rfS_R hS fR) hL ok (fun i' hi' => by rw [(aF_trans fY fY1).1 258 (by decide) (by decide) (by decide)]; exact h258 i' hi') (by omega) (by rw [rf_i_c, if_pos rfl, pu_at]) (by rw [rf_i_c, if_neg (by decide), stc_at]; exact a3)
      rw [rf_i_c, if_neg (by decide), stc_at] at k4
      rw [(aF_trans fY fY1).1 265 (by decide) (by decide) (by decide), h265 i il] at k5
      rw [rf_i_c, if_pos rfl, stc_ne (by decide)] at k3
      obtain ⟨M', x1, x2⟩ := ih f (i + 1) Y2 (by omega) (by omega) (aF_trans fY (aF_trans fY1 k2)) (fun a ha => by
        by_cases e : a = i
        · subst e
          refine ⟨by rw [k3, pu_at], k5⟩
        · refine ⟨by rw [k3, pu_ne e, pu_ne e]; exact (hd a (by omega)).1, wd_c (hd a (by omega)).2 (fun k hk => ?_)⟩
          rw [k4 (6 * a + k) (by omega), a2 (6 * a + k) (by omega)])
      refine ⟨M', ?_, x2⟩
      have ec : Int32.ofNat (cn (fun a => bi (memQ m L a)) (i + 1)) = Int32.ofNat (cn (fun a => bi (memQ m L a)) i) + bi (memQ m L i) := by
        show Int32.ofNat (cn (fun a => bi (memQ m L a)) i + if bi (memQ m L i) = 0 then 0 else 1) = _
        by_cases q : memQ m L i
        · rw [bi_t q, if_neg (by decide), of_succ]
        · rw [bi_f q, if_pos rfl, Int32.add_zero]
          rfl
      rw [← x1, ec, ← k1]
      show g_X14_adjust_557_b w _ _ _ _ Y = _
      unfold g_X14_adjust_557_b
      rw [y16, if_neg nl, idx60 (by omega), a1, bv_sm, gi, g_t, ti, nar0]
  have k := key (m.1 206 16).toNatClampNeg FU 0 M (by omega) (by omega) ⟨fun _ _ _ _ => rfl, rfl⟩ (fun a ha => by omega)
  rw [← hF] at k
  exact k
end PBRtail
