/-! adjust: the reference's shares and normal equations -/
section PBRadj
def adR (M M' : rf_m) : Prop := (∀ z, ¬ (z = 206 ∨ (226 ≤ z ∧ z ≤ 228) ∨ z = 235 ∨ (249 ≤ z ∧ z ≤ 254) ∨ (256 ≤ z ∧ z ≤ 260) ∨ (263 ≤ z ∧ z ≤ 265)) → M'.1 z = M.1 z) ∧ (∀ k, k < 33 ∨ 38 < k → M'.1 206 k = M.1 206 k) ∧ M'.2 = M.2
theorem adR_refl {M : rf_m} : adR M M := ⟨fun _ _ => rfl, fun _ _ => rfl, rfl⟩
theorem adR_trans {a b c : rf_m} (h : adR a b) (k : adR b c) : adR a c := ⟨fun z hz => (k.1 z hz).trans (h.1 z hz), fun z hz => (k.2.1 z hz).trans (h.2.1 z hz), k.2.2.trans h.2.2⟩
theorem adR_go {a b : rf_m} (h : goF a b) : adR a b := ⟨fun z hz => h.1 z (by omega) (by omega) (by omega) (by omega) (by omega), h.2.1, h.2.2⟩
theorem adR_i {a : rf_m} {z k : Nat} {x : Int32} (hz : (249 ≤ z ∧ z ≤ 254) ∨ (256 ≤ z ∧ z ≤ 260) ∨ (263 ≤ z ∧ z ≤ 265)) : adR a (rf_i a z k x) := ⟨fun y hy => by rw [rf_i_c, if_neg (by omega)], fun y _ => by rw [rf_i_c, if_neg (by omega)], rfl⟩
theorem adR_c {a : rf_m} {z : Nat} {F : Nat → Int32} (hz : (249 ≤ z ∧ z ≤ 254) ∨ (256 ≤ z ∧ z ≤ 260) ∨ (263 ≤ z ∧ z ≤ 265)) : adR a (stc a z F) := ⟨fun y hy => by rw [stc_c, if_neg (by omega)], fun y _ => by rw [stc_c, if_neg (by omega)], rfl⟩
theorem mA_R {m M M' : rf_m} (h : mA m M) (f : adR M M') : mA m M' := mA_x h (fun z hz => f.1 z (by omega)) (fun k hk => f.2.1 k (by omega))
theorem nA_R {w : rf_w} {m M M' : rf_m} (h : nA w m M) (f : adR M M') : nA w m M' := ⟨fun z hz => by rw [f.1 z (by omega)]; exact h.1 z hz, by rw [f.2.1 64 (by omega)]; exact h.2.1, by rw [f.2.1 65 (by omega)]; exact h.2.2.1, fun a ha => by rw [f.1 248 (by omega)]; exact h.2.2.2 a ha⟩
theorem rfS_R {w : rf_w} {m M M' : rf_m} {L : List Nat} (h : rfS w m L M) (f : adR M M') : rfS w m L M' := fun i hi => by
  rw [f.1 261 (by omega), f.1 262 (by omega), f.1 255 (by omega)]; exact h i hi
def adS (M M' : rf_m) : Prop := (∀ z, ¬ (z = 206 ∨ (226 ≤ z ∧ z ≤ 228) ∨ z = 235 ∨ z = 254 ∨ z = 265) → M'.1 z = M.1 z) ∧ (∀ k, k < 33 ∨ 38 < k → M'.1 206 k = M.1 206 k) ∧ M'.2 = M.2
theorem adS_refl {M : rf_m} : adS M M := ⟨fun _ _ => rfl, fun _ _ => rfl, rfl⟩
theorem adS_trans {a b c : rf_m} (h : adS a b) (k : adS b c) : adS a c := ⟨fun z hz => (k.1 z hz).trans (h.1 z hz), fun z hz => (k.2.1 z hz).trans (h.2.1 z hz), k.2.2.trans h.2.2⟩
theorem adS_go {a b : rf_m} (h : goF a b) : adS a b := ⟨fun z hz => h.1 z (by omega) (by omega) (by omega) (by omega) (by omega), h.2.1, h.2.2⟩
theorem adS_i {a : rf_m} {z k : Nat} {x : Int32} (hz : z = 254 ∨ z = 265) : adS a (rf_i a z k x) := ⟨fun y hy => by rw [rf_i_c, if_neg (by omega)], fun y _ => by rw [rf_i_c, if_neg (by omega)], rfl⟩
theorem adS_R {a b : rf_m} (h : adS a b) : adR a b := ⟨fun z hz => h.1 z (by omega), h.2.1, h.2.2⟩
/-- the shares -/
theorem share_r {c : Nat} {w : rf_w} {m M : rf_m} {a3 : Int32} (J : JCnt c w m) (hA : mA m M) : ∃ M', g_X14_adjust_229 w rf_fuel a3 0 M = g_X14_adjust_264 w rf_fuel a3 0 M' ∧ adS M M' ∧ ∀ a, a < (m.1 206 16).toNatClampNeg → (M'.1 265 a).toInt = sI w m a := by
  obtain ⟨FU, hF, hFb⟩ := fuel_ex
  have ja := J.2.2.2.2.1
  have h80 := ang80 ja
  have hR := of_tn ja.2.1.1
  have key : ∀ r f i (Y : rf_m), i + r = (m.1 206 16).toNatClampNeg → r < f → adS M Y → (∀ a, a < i → (Y.1 265 a).toInt = sI w m a) → ∃ M', g_X14_adjust_229 w f a3 (Int32.ofNat i) Y = g_X14_adjust_264 w rf_fuel a3 0 M' ∧ adS M M' ∧ ∀ a, a < (m.1 206 16).toNatClampNeg → (M'.1 265 a).toInt = sI w m a := by
    intro r
    induction r with
    | zero =>
      intro f i Y hi hf fY hd
      obtain ⟨f, rfl⟩ : ∃ g, f = g + 1 := ⟨f - 1, by omega⟩
      have e16 : Y.1 206 16 = m.1 206 16 := (mA_R hA (adS_R fY)).2.2.1
      refine ⟨Y, ?_, fY, fun a ha => hd a (by omega)⟩
      show g_X14_adjust_229_b w _ _ _ Y = _
      unfold g_X14_adjust_229_b
      rw [e16, show i = (m.1 206 16).toNatClampNeg by omega, hR, if_pos (Int32.le_refl _)]
    | succ r ih =>
      intro f i Y hi hf fY hd
      obtain ⟨f, rfl⟩ : ∃ g, f = g + 1 := ⟨f - 1, by omega⟩
      have e16 : Y.1 206 16 = m.1 206 16 := (mA_R hA (adS_R fY)).2.2.1
      have nl : ¬ m.1 206 16 ≤ Int32.ofNat i := by rw [← hR]; exact nle (by omega) (by omega)
      have gi : rf_in (Int32.ofNat i) 80 = true := gof (n := i) (by omega) (by decide)
      have ti : (Int32.ofNat i).toNatClampNeg = i := tn_of (by omega)
      obtain ⟨Y2, y1, y2⟩ := weightOf_r (w := w) (M := Y) J (show i < _ by omega) (mA_R hA (adS_R fY))
      obtain ⟨d1, d2, d3⟩ := sI_div (w := w) (m := m) (t := i)
      have y1 : g_X14_weightOf w Y (Int32.ofNat i) = some (wI w m i, Y2) := y1
      obtain ⟨M', k1, k2⟩ := ih f (i + 1) (rf_i Y2 265 i (2520 / wI w m i)) (by omega) (by omega) (adS_trans fY (adS_trans (adS_go y2) (adS_i (by omega)))) (fun a ha => by
        rw [rf_i_c, if_pos rfl]
        by_cases e : a = i
        · subst e; rw [pu_at]; exact d1
        · rw [pu_ne e, y2.1 265 (by decide) (by decide) (by decide) (by decide) (by decide)]; exact hd a (by omega))
      refine ⟨M', ?_, k2⟩
      rw [← k1]
      show g_X14_adjust_229_b w _ _ _ Y = _
      unfold g_X14_adjust_229_b
      rw [e16, if_neg nl, y1, b_sm, d3, g_t, gi, g_t, ti, of_succ]
  have k := key (m.1 206 16).toNatClampNeg FU 0 M (by omega) (by omega) adS_refl (fun a ha => by omega)
  rw [← hF] at k
  exact k
theorem idx6 {i j : Nat} (hi : i < 80) (hj : j < 7) : 6 * Int32.ofNat i + Int32.ofNat j = Int32.ofNat (6 * i + j) := by
  have z6 : (6 : Int32).toInt = 6 := rfl
  have m1 := mulI (a := 6) (b := Int32.ofNat i) (by rw [ofI (by omega), z6]; omega) (by rw [ofI (by omega), z6]; omega)
  rw [ofI (by omega), z6] at m1
  rw [i_eq, addI (by rw [m1, ofI (by omega)]; omega) (by rw [m1, ofI (by omega)]; omega), m1, ofI (by omega), ofI (by omega)]
  omega
theorem idx60 {i : Nat} (hi : i < 80) : 6 * Int32.ofNat i = Int32.ofNat (6 * i) := by
  have z6 : (6 : Int32).toInt = 6 := rfl
  rw [i_eq, mulI (by rw [ofI (by omega), z6]; omega) (by rw [ofI (by omega), z6]; omega), ofI (by omega), ofI (by omega), z6]
  omega
/-- the normal equations -/
theorem norm_r {c : Nat} {w : rf_w} {m M : rf_m} {L : List Nat} (J : JCnt c w m) (jn : JNet m) (hA : mA m M) (hn : nA w m M) (hS : rfS w m L M) (hL : L.length ≤ 6) (ok : ∀ i (h : i < L.length), okK m L[i]) (h265 : ∀ a, a < (m.1 206 16).toNatClampNeg → (M.1 265 a).toInt = sI w m a) : ∃ M', g_X14_adjust_264 w rf_fuel (Int32.ofNat L.length) 0 M = g_X14_adjust_264 w 1 (Int32.ofNat L.length) (Int32.ofNat L.length) M' ∧ adS M M' ∧ M'.1 265 = M.1 265 ∧ ∀ i j, i < L.length → j < L.length → (M'.1 254 (6 * i + j)).toInt = aN w m L j i := by
  obtain ⟨FU, hF, hFb⟩ := fuel_ex
  have o1 : ¬ (1 : Int32) = 0 := by decide
  have ja := J.2.2.2.2.1
  have h80 := ang80 ja
  have hR := of_tn ja.2.1.1
  have smB : ∀ i j t, t ≤ 80 → 0 ≤ sm t (tQ w m L i j) ∧ sm t (tQ w m L i j) ≤ 201600 := fun i j t ht => by
    have := sm_rng (f := tQ w m L i j) t (fun t => tQ_rng)
    omega
  have key3 : ∀ (r264 : Int32 → Int32 → rf_m → Option (Int32 × rf_m)) (r273 : Int32 → Int32 → Int32 → rf_m → Option (Int32 × rf_m)) (Y : rf_m) i j, i < L.length → j < L.length → adS M Y → Y.1 265 = M.1 265 → ∀ r f t (s : Int32), t + r = (m.1 206 16).toNatClampNeg → r < f → s.toInt = sm t (tQ w m L i j) → ∃ s' : Int32, s'.toInt = aN w m L j i ∧ g_X14_adjust_285 w r264 r273 f (Int32.ofNat L.length) (Int32.ofNat i) (Int32.ofNat j) s (Int32.ofNat t) Y = r273 (Int32.ofNat L.length) (Int32.ofNat i) (Int32.ofNat (j + 1)) (rf_i Y 254 (6 * i + j) s') := by
    intro r264 r273 Y i j hi hj fY e265 r
    have e16 : Y.1 206 16 = m.1 206 16 := (mA_R hA (adS_R fY)).2.2.1
    induction r with
    | zero =>
      intro f t s ht hf hs
      obtain ⟨f, rfl⟩ : ∃ g, f = g + 1 := ⟨f - 1, by omega⟩
      refine ⟨s, by rw [hs, show t = (m.1 206 16).toNatClampNeg by omega]; rfl, ?_⟩
      show g_X14_adjust_285_b w _ _ _ _ _ _ _ _ Y = _
      unfold g_X14_adjust_285_b
      rw [e16, show t = (m.1 206 16).toNatClampNeg by omega, hR, if_pos (Int32.le_refl _), idx6 (by omega) (by omega), gof (n := 6 * i + j) (by omega) (by decide), g_t, tn_of (n := 6 * i + j) (by omega), of_succ]
    | succ r ih =>
      intro f t s ht hf hs
      obtain ⟨f, rfl⟩ : ∃ g, f = g + 1 := ⟨f - 1, by omega⟩
      have nl : ¬ m.1 206 16 ≤ Int32.ofNat t := by rw [← hR]; exact nle (by omega) (by omega)
      have gi : rf_in (Int32.ofNat t) 80 = true := gof (n := t) (by omega) (by decide)
      have ti : (Int32.ofNat t).toNatClampNeg = t := tn_of (by omega)
      have pI := partOf_r (w := w) (M := Y) (a := t) ja jn (nA_R hn (adS_R fY)) (rfS_R hS (adS_R fY)) hi hL (ok i hi) (by omega)
      have pJ := partOf_r (w := w) (M := Y) (a := t) ja jn (nA_R hn (adS_R fY)) (rfS_R hS (adS_R fY)) hj hL (ok j hj) (by omega)
      have b := smB i j t (by omega)
      have b' := smB i j (t + 1) (by omega)
      have es : sm (t + 1) (tQ w m L i j) = sm t (tQ w m L i j) + tQ w m L i j t := rfl
      have qI : mbQ m L i t ↔ mbK m L[i] t := ⟨fun ⟨_, h⟩ => h, fun h => ⟨hi, h⟩⟩
      have qJ : mbQ m L j t ↔ mbK m L[j] t := ⟨fun ⟨_, h⟩ => h, fun h => ⟨hj, h⟩⟩
      have z0 : (s + 0).toInt = s.toInt := by rw [Int32.add_zero]
      show ∃ s', _ ∧ g_X14_adjust_285_b w _ _ (g_X14_adjust_285 w r264 r273 f) _ _ _ _ _ Y = _
      unfold g_X14_adjust_285_b g_X14_adjust_328 g_X14_adjust_329
      rw [e16, if_neg nl, pI, b_sm]
      by_cases q1 : mbK m L[i] t
      · rw [bi_t q1, if_neg o1, pJ, b_sm]
        by_cases q2 : mbK m L[j] t
        · have e := (tQ_v (w := w)).1 (qI.mpr q1) (qJ.mpr q2)
          have e2 := h265 t (by omega)
          rw [bi_t q2, if_neg o1, gi, g_t, ti, e265, of_succ]
          refine ih f (t + 1) _ (by omega) (by omega) ?_
          rw [addI (by omega) (by omega)]
          omega
        · have e := (tQ_v (w := w) (i := i) (j := j) (t := t) (L := L) (m := m)).2 (fun z => q2 (qJ.mp z.2))
          rw [bi_f q2, if_pos rfl, of_succ]
          exact ih f (t + 1) _ (by omega) (by omega) (by omega)
      · have e := (tQ_v (w := w) (i := i) (j := j) (t := t) (L := L) (m := m)).2 (fun z => q1 (qI.mp z.1))
        rw [bi_f q1, if_pos rfl, of_succ]
        exact ih f (t + 1) _ (by omega) (by omega) (by omega)
  have key2 : ∀ (r264 : Int32 → Int32 → rf_m → Option (Int32 × rf_m)) i, i < L.length → ∀ r f j (Y : rf_m), j + r = L.length → r < f → adS M Y → Y.1 265 = M.1 265 → (∀ i' j', i' < L.length → j' < L.length → (i' < i ∨ (i' = i ∧ j' < j)) → (Y.1 254 (6 * i' + j')).toInt = aN w m L j' i') → ∃ M', g_X14_adjust_273 w r264 f (Int32.ofNat L.length) (Int32.ofNat i) (Int32.ofNat j) Y = r264 (Int32.ofNat L.length) (Int32.ofNat (i + 1)) M' ∧ adS M M' ∧ M'.1 265 = M.1 265 ∧ ∀ i' j', i' < L.length → j' < L.length → i' < i + 1 → (M'.1 254 (6 * i' + j')).toInt = aN w m L j' i' := by
    intro r264 i hi r
    induction r with
    | zero =>
      intro f j Y hj hf fY e265 hd
      obtain ⟨f, rfl⟩ : ∃ g, f = g + 1 := ⟨f - 1, by omega⟩
      refine ⟨Y, ?_, fY, e265, fun i' j' h1 h2 h3 => hd i' j' h1 h2 (by omega)⟩
      show g_X14_adjust_273_b w _ _ _ _ _ Y = _
      unfold g_X14_adjust_273_b
      rw [show j = L.length by omega, if_pos (Int32.le_refl _), of_succ]
    | succ r ih =>
      intro f j Y hj hf fY e265 hd
      obtain ⟨f, rfl⟩ : ∃ g, f = g + 1 := ⟨f - 1, by omega⟩
      have nl : ¬ Int32.ofNat L.length ≤ Int32.ofNat j := nle (by omega) (by omega)
      obtain ⟨s', s1, s2⟩ := key3 r264 (g_X14_adjust_273 w r264 f) Y i j hi (by omega) fY e265 (m.1 206 16).toNatClampNeg FU 0 0 (by omega) (by omega) rfl
      obtain ⟨M', k1, k2⟩ := ih f (j + 1) (rf_i Y 254 (6 * i + j) s') (by omega) (by omega) (adS_trans fY (adS_i (by omega))) (by rw [rf_i_c, if_neg (by decide)]; exact e265) (fun i' j' h1 h2 h3 => by
        rw [rf_i_c, if_pos rfl]
        by_cases e : i' = i ∧ j' = j
        · rw [e.1, e.2, pu_at]; exact s1
        · rw [pu_ne (by omega)]; exact hd i' j' h1 h2 (by omega))
      refine ⟨M', ?_, k2⟩
      rw [← k1, ← s2, ← hF]
      show g_X14_adjust_273_b w _ _ _ _ _ Y = _
      unfold g_X14_adjust_273_b
      rw [if_neg nl]
      rfl
  have key : ∀ r f i (Y : rf_m), i + r = L.length → r < f → adS M Y → Y.1 265 = M.1 265 → (∀ i' j', i' < L.length → j' < L.length → i' < i → (Y.1 254 (6 * i' + j')).toInt = aN w m L j' i') → ∃ M', g_X14_adjust_264 w f (Int32.ofNat L.length) (Int32.ofNat i) Y = g_X14_adjust_264 w 1 (Int32.ofNat L.length) (Int32.ofNat L.length) M' ∧ adS M M' ∧ M'.1 265 = M.1 265 ∧ ∀ i j, i < L.length → j < L.length → (M'.1 254 (6 * i + j)).toInt = aN w m L j i := by
    intro r
    induction r with
    | zero =>
      intro f i Y hi hf fY e265 hd
      obtain ⟨f, rfl⟩ : ∃ g, f = g + 1 := ⟨f - 1, by omega⟩
      refine ⟨Y, ?_, fY, e265, fun i' j' h1 h2 => hd i' j' h1 h2 (by omega)⟩
      show g_X14_adjust_264_b w _ _ _ Y = g_X14_adjust_264_b w _ _ _ Y
      unfold g_X14_adjust_264_b
      rw [show i = L.length by omega, if_pos (Int32.le_refl _), if_pos (Int32.le_refl _)]
    | succ r ih =>
      intro f i Y hi hf fY e265 hd
      obtain ⟨f, rfl⟩ : ∃ g, f = g + 1 := ⟨f - 1, by omega⟩
      have nl : ¬ Int32.ofNat L.length ≤ Int32.ofNat i := nle (by omega) (by omega)
      obtain ⟨Y1, k1, k2, k3, k4⟩ := key2 (g_X14_adjust_264 w f) i (by omega) L.length FU 0 Y (by omega) (by omega) fY e265 (fun i' j' h1 h2 h3 => hd i' j' h1 h2 (by omega))
      obtain ⟨M', x1, x2⟩ := ih f (i + 1) Y1 (by omega) (by omega) k2 k3 (fun i' j' h1 h2 h3 => k4 i' j' h1 h2 h3)
      refine ⟨M', ?_, x2⟩
      rw [← x1, ← k1, ← hF]
      show g_X14_adjust_264_b w _ _ _ Y = _
      unfold g_X14_adjust_264_b
      rw [if_neg nl]
      rfl
  rw [hF]
  exact key L.length FU 0 M (by omega) (by omega) adS_refl rfl (fun i' j' _ _ h => by omega)
end PBRadj
