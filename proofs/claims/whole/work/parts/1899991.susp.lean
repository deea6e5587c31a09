/-! suspects -/
section PBSusp
/-- what the counting leaves stands in M, whatever else has changed -/
theorem fin_x {c : Nat} {w : rf_w} {m m2 M : rf_m} (J : JCnt c w m) (h : allF w m m2) (e : ∀ z, z ≠ 0 → z ≠ 18 → z ≠ 25 → (z < 41 ∨ z = 209 ∨ z = 214 ∨ (216 ≤ z ∧ z ≤ 225) ∨ (230 ≤ z ∧ z ≤ 232) ∨ 306 ≤ z) → M.1 z = m2.1 z) (e6 : ∀ k, k = 4 ∨ k = 5 ∨ k = 16 ∨ k = 17 ∨ k = 18 ∨ k = 39 → M.1 206 k = m2.1 206 k) : JCnt c w M ∧ JCache w M := by
  have hk2 := all_keep h
  have hk : keep m M := by
    refine ⟨fun c hc => ?_, fun k hk => ?_, fun k hk => ?_, fun r hr k hk => ?_, fun a ha => ?_⟩
    · rw [e c (by omega) (by omega) (by omega) (by omega)]; exact hk2.1 c hc
    · rw [e 26 (by decide) (by decide) (by decide) (by decide)]; exact hk2.2.1 k hk
    · rw [e6 k hk]; exact hk2.2.2.1 k hk
    · rw [e 32 (by decide) (by decide) (by decide) (by decide)]; exact hk2.2.2.2.1 r hr k hk
    · rw [e 34 (by decide) (by decide) (by decide) (by decide)]; exact hk2.2.2.2.2 a ha
  refine ⟨keep_cnt hk J, keep_cache hk J (fun a ha _ => ?_) (fun _ a ha => ?_)⟩
  · exact fre_of (h.2.2.2.2.2 a ha).2 (e 31 (by decide) (by decide) (by decide) (by decide)) (e 32 (by decide) (by decide) (by decide) (by decide)) (e 34 (by decide) (by decide) (by decide) (by decide))
  · rw [e 40 (by decide) (by decide) (by decide) (by decide)]
    exact (h.2.2.2.2.2 a ha).1
theorem mA_x {m M M' : rf_m} (h : mA m M) (e : ∀ z, (216 ≤ z ∧ z ≤ 225) ∨ (230 ≤ z ∧ z ≤ 232) ∨ 306 ≤ z → M'.1 z = M.1 z) (e6 : ∀ k, k = 5 ∨ k = 16 ∨ k = 17 ∨ k = 18 ∨ k = 39 → M'.1 206 k = M.1 206 k) : mA m M' := by
  obtain ⟨a, b, c, d, f, g⟩ := h
  exact ⟨fun z hz => by rw [e z hz]; exact a z hz, by rw [e6 5 (by omega)]; exact b, by rw [e6 16 (by omega)]; exact c, by rw [e6 17 (by omega)]; exact d, by rw [e6 18 (by omega)]; exact f, by rw [e6 39 (by omega)]; exact g⟩
/-- sorted, the top first -/
def isrt (u : List Int32) : List Int32 := u.foldr insI []
theorem isrt_len : ∀ u : List Int32, (isrt u).length = u.length := by
  intro u
  induction u with
  | nil => rfl
  | cons x u ih =>
    show (insI x (isrt u)).length = u.length + 1
    rw [insI_len, ih]
theorem insI_mem2 {x z : Int32} : ∀ {s : List Int32}, z = x ∨ z ∈ s → z ∈ insI x s := by
  intro s
  induction s with
  | nil => intro h; rcases h with h | h; exact h ▸ List.mem_cons_self; cases h
  | cons y t ih =>
    intro h
    unfold insI
    by_cases q : y ≤ x
    · rw [if_pos q]
      rcases h with h | h
      · exact h ▸ List.mem_cons_self
      · exact List.mem_cons_of_mem _ h
    · rw [if_neg q]
      rcases h with h | h
      · exact List.mem_cons_of_mem _ (ih (Or.inl h))
      · rcases List.mem_cons.mp h with h | h
        · exact h ▸ List.mem_cons_self
        · exact List.mem_cons_of_mem _ (ih (Or.inr h))
theorem isrt_mem {z : Int32} : ∀ {u : List Int32}, z ∈ isrt u ↔ z ∈ u := by
  intro u
  induction u with
  | nil => exact Iff.rfl
  | cons x u ih =>
    show z ∈ insI x (isrt u) ↔ _
    rw [List.mem_cons]
    constructor
    · intro h
      rcases insI_mem h with h | h
      · exact Or.inl h
      · exact Or.inr (ih.mp h)
    · intro h
      rcases h with h | h
      · exact insI_mem2 (Or.inl h)
      · exact insI_mem2 (Or.inr (ih.mpr h))
theorem plI_ex {f : Nat → Int32} {x : Int32} : ∀ {s : List Int32}, plI f s → ((∃ i, i < s.length ∧ f i = x) ↔ x ∈ s) := by
  intro s
  induction s with
  | nil => intro _; exact ⟨fun ⟨i, h, _⟩ => absurd h (Nat.not_lt_zero i), fun h => by cases h⟩
  | cons y t ih =>
    intro h
    rw [List.mem_cons, ← ih h.2]
    constructor
    · rintro ⟨i, hi, e⟩
      have hi' : i < t.length + 1 := hi
      by_cases q : i = t.length
      · left; rw [← e, q, h.1]
      · exact Or.inr ⟨i, by omega, e⟩
    · rintro (e | ⟨i, hi, e⟩)
      · exact ⟨t.length, Nat.lt_succ_self _, by rw [h.1, e]⟩
      · exact ⟨i, Nat.lt_succ_of_lt hi, e⟩
def JSus (m : rf_m) : Prop := ∃ u : List Int32, u.length ≤ 12 ∧ m.1 184 1 = Int32.ofNat u.length ∧ m.1 206 116 = Int32.ofNat u.length ∧ plI (m.1 186) u ∧ plI (m.1 282) (isrt u) ∧ (∀ x, x ∈ u → ib x (m.1 206 17)) ∧ u.Nodup
theorem JSus_e {m M : rf_m} (j : JSus m) (h1 : M.1 184 1 = m.1 184 1) (h2 : M.1 186 = m.1 186) (h3 : M.1 206 116 = m.1 206 116) (h4 : M.1 282 = m.1 282) (h5 : m.1 206 17 ≤ M.1 206 17) : JSus M := by
  obtain ⟨u, a, b, c, d, e, f, g⟩ := j
  refine ⟨u, a, by rw [h1]; exact b, by rw [h3]; exact c, by rw [h2]; exact d, by rw [h4]; exact e, fun x hx => ⟨(f x hx).1, ?_⟩, g⟩
  exact Int32.lt_of_lt_of_le (f x hx).2 h5
theorem clear_fin {m M : rf_m} (h1 : M.1 184 1 = 0) (h3 : M.1 206 116 = 0) : JSus M := ⟨[], by decide, h1, h3, trivial, trivial, fun x hx => (by cases hx), List.nodup_nil⟩
theorem k40 {w : rf_w} {m : rf_m} {y : Nat → Int32} (js : JSus m) : wp (g_lc_40 w m y) (fun r => r.1 = w ∧ JSus r.2) := by
  obtain ⟨u, a, b, c, _⟩ := js
  unfold g_lc_40 g_X11_clear g_X14_clear
  rw [wp_b, wp_some, wp_b, wp_vi, wp_some, wp_g, wp_some]
  refine ⟨decide_eq_true ?_, rfl, ?_⟩
  · show m.1 184 1 = (rf_i (rf_i m 184 1 0) 206 0 0).1 206 116
    rw [rf_i_c, if_pos rfl, pu_ne (by decide), rf_i_c, if_neg (by decide), b, c]
  · refine clear_fin (m := m) ?_ ?_
    · show (rf_i (rf_i (rf_i m 184 1 0) 206 0 0) 206 116 0).1 184 1 = 0
      rw [rf_i_c, if_neg (by decide), rf_i_c, if_neg (by decide), rf_i_c, if_pos rfl, pu_at]
    · show (rf_i (rf_i (rf_i m 184 1 0) 206 0 0) 206 116 0).1 206 116 = 0
      rw [rf_i_c, if_pos rfl, pu_at]
theorem isSus_c {w : rf_w} {m : rf_m} {x : Int32} {N : Nat} (h : m.1 184 1 = Int32.ofNat N) (hN : N ≤ 12) : g_X2_isSuspect w m x = some (bi (∃ i, i < N ∧ m.1 186 i = x), m) := by
  have key : ∀ n F i, i + n = N → n < F → g_X2_isSuspect_2 w F x (Int32.ofNat i) m = some (bi (∃ q, i ≤ q ∧ q < N ∧ m.1 186 q = x), m) := by
    intro n
    induction n with
    | zero =>
      intro F i hi hF
      obtain ⟨F, rfl⟩ : ∃ g, F = g + 1 := ⟨F - 1, by omega⟩
      show g_X2_isSuspect_2_b w _ _ _ m = _
      unfold g_X2_isSuspect_2_b
      rw [h, show i = N by omega, if_pos (Int32.le_refl _), bi_f (fun ⟨q, a, b, _⟩ => by omega)]
    | succ n ih =>
      intro F i hi hF
      obtain ⟨F, rfl⟩ : ∃ g, F = g + 1 := ⟨F - 1, by omega⟩
      show g_X2_isSuspect_2_b w (g_X2_isSuspect_2 w F) _ _ m = _
      unfold g_X2_isSuspect_2_b
      rw [h, if_neg (nle (by omega) (by omega)), gof (by omega) (by decide), g_t, tn_of (by omega)]
      by_cases q : m.1 186 i = x
      · rw [if_pos q, bi_t ⟨i, Nat.le_refl _, by omega, q⟩]
      · rw [if_neg q, of_succ, ih F (i + 1) (by omega) (by omega)]
        have : (∃ q, i + 1 ≤ q ∧ q < N ∧ m.1 186 q = x) ↔ (∃ q, i ≤ q ∧ q < N ∧ m.1 186 q = x) := by
          constructor
          · rintro ⟨p, a, b, c⟩; exact ⟨p, by omega, b, c⟩
          · rintro ⟨p, a, b, c⟩
            by_cases e : p = i
            · rw [e] at c; exact absurd c q
            · exact ⟨p, by omega, b, c⟩
        rw [propext this]
  have := key N rf_fuel 0 (by omega) (by unfold rf_fuel; omega)
  unfold g_X2_isSuspect
  rw [show (0 : Int32) = Int32.ofNat 0 from rfl, this]
  have e : (∃ q, 0 ≤ q ∧ q < N ∧ m.1 186 q = x) ↔ (∃ i, i < N ∧ m.1 186 i = x) := ⟨fun ⟨p, _, b⟩ => ⟨p, b⟩, fun ⟨p, b⟩ => ⟨p, Nat.zero_le _, b⟩⟩
  rw [propext e]
theorem sus_r {w : rf_w} {M : rf_m} {x : Int32} {N : Nat} (h : M.1 206 116 = Int32.ofNat N) (hN : N ≤ 12) : g_X14_suspect_23 w rf_fuel x 0 0 M = g_X14_suspect_23 w 1 x (bi (∃ i, i < N ∧ M.1 282 i = x)) (Int32.ofNat N) M := by
  have o1 : ¬ (1 : Int32) = 0 := by decide
  have key : ∀ n F i s, i + n = N → n < F → (s = 0 ∨ s = 1) → g_X14_suspect_23 w F x s (Int32.ofNat i) M = g_X14_suspect_23 w 1 x (bi (s = 1 ∨ ∃ q, i ≤ q ∧ q < N ∧ M.1 282 q = x)) (Int32.ofNat N) M := by
    intro n
    induction n with
    | zero =>
      intro F i s hi hF hs
      obtain ⟨F, rfl⟩ : ∃ g, F = g + 1 := ⟨F - 1, by omega⟩
      have e : bi (s = 1 ∨ ∃ q, i ≤ q ∧ q < N ∧ M.1 282 q = x) = s := by
        rcases hs with hs | hs
        · rw [hs]; exact bi_f (fun q => by rcases q with q | ⟨q, a, b, _⟩; exact absurd q (by decide); omega)
        · rw [hs]; exact bi_t (Or.inl rfl)
      rw [e, show i = N by omega]
      show g_X14_suspect_23_b w _ _ _ _ M = g_X14_suspect_23_b w _ _ _ _ M
      unfold g_X14_suspect_23_b
      rw [h, if_pos (Int32.le_refl _), if_pos (Int32.le_refl _)]
    | succ n ih =>
      intro F i s hi hF hs
      obtain ⟨F, rfl⟩ : ∃ g, F = g + 1 := ⟨F - 1, by omega⟩
      show g_X14_suspect_23_b w (g_X14_suspect_23 w F) _ _ _ M = _
      unfold g_X14_suspect_23_b g_X14_suspect_45 g_X14_suspect_50
      rw [h, if_neg (nle (by omega) (by omega)), gof (by omega) (by decide), g_t, tn_of (by omega), of_succ]
      have stp : ∀ s', (s' = 0 ∨ s' = 1) → ((s' = 1) ↔ (s = 1 ∨ M.1 282 i = x)) → g_X14_suspect_23 w F x s' (Int32.ofNat (i + 1)) M = g_X14_suspect_23 w 1 x (bi (s = 1 ∨ ∃ q, i ≤ q ∧ q < N ∧ M.1 282 q = x)) (Int32.ofNat N) M := by
        intro s' h1 h2
        rw [ih F (i + 1) s' (by omega) (by omega) h1]
        have : (s' = 1 ∨ ∃ q, i + 1 ≤ q ∧ q < N ∧ M.1 282 q = x) ↔ (s = 1 ∨ ∃ q, i ≤ q ∧ q < N ∧ M.1 282 q = x) := by
          rw [h2]
          constructor
          · rintro ((a | a) | ⟨p, a, b, c⟩)
            · exact Or.inl a
            · exact Or.inr ⟨i, Nat.le_refl _, by omega, a⟩
            · exact Or.inr ⟨p, by omega, b, c⟩
          · rintro (a | ⟨p, a, b, c⟩)
            · exact Or.inl (Or.inl a)
            · by_cases e : p = i
              · rw [e] at c; exact Or.inl (Or.inr c)
              · exact Or.inr ⟨p, by omega, b, c⟩
        rw [bi_congr this]
      rcases hs with hs | hs
      · rw [if_pos hs]
        by_cases q : M.1 282 i = x
        · rw [if_pos q]; exact stp 1 (Or.inr rfl) ⟨fun _ => Or.inr q, fun _ => rfl⟩
        · rw [if_neg q]; exact stp 0 (Or.inl rfl) ⟨fun z => absurd z (by decide), fun z => by rcases z with z | z; exact absurd (hs.symm.trans z) (by decide); exact absurd z q⟩
      · have hn : ¬ s = 0 := by rw [hs]; decide
        rw [if_neg hn]
        exact stp 1 (Or.inr rfl) ⟨fun _ => Or.inl hs, fun _ => rfl⟩
  have := key N rf_fuel 0 0 (by omega) (by unfold rf_fuel; omega) (Or.inl rfl)
  rw [show Int32.ofNat 0 = 0 from rfl] at this
  rw [this]
  have e : ((0 : Int32) = 1 ∨ ∃ q, 0 ≤ q ∧ q < N ∧ M.1 282 q = x) ↔ (∃ i, i < N ∧ M.1 282 i = x) := ⟨fun z => by rcases z with z | ⟨p, _, b⟩; exact absurd z (by decide); exact ⟨p, b⟩, fun ⟨p, b⟩ => Or.inr ⟨p, Nat.zero_le _, b⟩⟩
  rw [bi_congr e]
theorem flt_mem {P : Nat → Prop} {r : Nat} : ∀ {l : List Nat}, r ∈ flt P l ↔ r ∈ l ∧ P r := by
  intro l
  induction l with
  | nil => exact ⟨fun h => (by cases h), fun h => absurd h.1 (by simp)⟩
  | cons x l ih =>
    by_cases p : P x
    · rw [flt_t p, List.mem_cons, List.mem_cons, ih]
      constructor
      · rintro (h | h)
        · exact ⟨Or.inl h, h ▸ p⟩
        · exact ⟨Or.inr h.1, h.2⟩
      · rintro ⟨h | h, q⟩
        · exact Or.inl h
        · exact Or.inr ⟨h, q⟩
    · rw [flt_f p, List.mem_cons, ih]
      constructor
      · rintro h; exact ⟨Or.inr h.1, h.2⟩
      · rintro ⟨h | h, q⟩
        · exact absurd (h ▸ q) p
        · exact ⟨h, q⟩
/-- whether a reading is kept now -/
def knP (w : rf_w) (m : rf_m) (r : Nat) : Prop := keptP w m 9999 (m.1 220 r).toNatClampNeg r
theorem keptNow_r {c r : Nat} {w : rf_w} {m M : rf_m} (J : JCnt c w m) (hr : r < (m.1 206 17).toNatClampNeg) (hA : mA m M) : ∃ M', g_X14_isKeptNow w M (Int32.ofNat r) = some (bi (knP w m r), M') ∧ goF M M' := by
  have o1 : ¬ (1 : Int32) = 0 := by decide
  have j := J.2.1
  have hn : (m.1 206 17).toNatClampNeg ≤ 1200 := tn_le j.2.1.1 j.2.1.2 (by decide)
  obtain ⟨f0, f1, f2, f3, f4, f5, f6, f7, f8, f9⟩ := j.2.2.1 r hr
  have h80 := ang80 J.2.2.2.2.1
  have hA' : (m.1 220 r).toNatClampNeg < (m.1 206 16).toNatClampNeg := tn_lt2 f5.1 f5.2
  have haa : Int32.ofNat (m.1 220 r).toNatClampNeg = m.1 220 r := of_tn f5.1
  unfold knP
  generalize hb : (m.1 220 r).toNatClampNeg = b at *
  have hrb : r ∈ rdl m b := rds_of _ _ hr haa.symm
  obtain ⟨M', g1, g2, g3⟩ := now_r J hA' hA
  rw [haa] at g1
  have hk20 := (kpt_in (a := b) (d := 9999) J).2 (by omega)
  have e220 : M.1 220 = m.1 220 := hA.1 220 (by omega)
  have hkp : keptP w m 9999 b r ↔ r ∈ kpt w m 9999 b := by
    rw [kpt_flt, flt_mem]
    exact ⟨fun h => ⟨hrb, h⟩, fun h => h.2⟩
  generalize hK : (kpt w m 9999 b).length = K at *
  have h34 : M'.1 206 34 = Int32.ofNat K := by rw [g3.2.1, hK]
  have key : ∀ n F i s, i + n = K → n < F → (s = 0 ∨ s = 1) → g_X14_isKeptNow_14 w F (Int32.ofNat r) s (Int32.ofNat i) M' = some (bi (s = 1 ∨ ∃ q, i ≤ q ∧ q < K ∧ M'.1 227 q = Int32.ofNat r), M') := by
    intro n
    induction n with
    | zero =>
      intro F i s hi hF hs
      obtain ⟨F, rfl⟩ : ∃ g, F = g + 1 := ⟨F - 1, by omega⟩
      have e : bi (s = 1 ∨ ∃ q, i ≤ q ∧ q < K ∧ M'.1 227 q = Int32.ofNat r) = s := by
        rcases hs with hs | hs
        · rw [hs]; exact bi_f (fun q => by rcases q with q | ⟨q, a, b, _⟩; exact absurd q (by decide); omega)
        · rw [hs]; exact bi_t (Or.inl rfl)
      rw [e, show i = K by omega]
      show g_X14_isKeptNow_14_b w _ _ _ _ M' = _
      unfold g_X14_isKeptNow_14_b
      rw [h34, if_pos (Int32.le_refl _), show rf_01 s = true from by rcases hs with hs | hs <;> rw [hs] <;> rfl, g_t]
    | succ n ih =>
      intro F i s hi hF hs
      obtain ⟨F, rfl⟩ : ∃ g, F = g + 1 := ⟨F - 1, by omega⟩
      show g_X14_isKeptNow_14_b w (g_X14_isKeptNow_14 w F) _ _ _ M' = _
      unfold g_X14_isKeptNow_14_b g_X14_isKeptNow_36 g_X14_isKeptNow_41
      rw [h34, if_neg (nle (by omega) (by omega)), gof (by omega) (by decide), g_t, tn_of (by omega), of_succ]
      have stp : ∀ s', (s' = 0 ∨ s' = 1) → ((s' = 1) ↔ (s = 1 ∨ M'.1 227 i = Int32.ofNat r)) → g_X14_isKeptNow_14 w F (Int32.ofNat r) s' (Int32.ofNat (i + 1)) M' = some (bi (s = 1 ∨ ∃ q, i ≤ q ∧ q < K ∧ M'.1 227 q = Int32.ofNat r), M') := by
        intro s' h1 h2
        rw [ih F (i + 1) s' (by omega) (by omega) h1]
        have : (s' = 1 ∨ ∃ q, i + 1 ≤ q ∧ q < K ∧ M'.1 227 q = Int32.ofNat r) ↔ (s = 1 ∨ ∃ q, i ≤ q ∧ q < K ∧ M'.1 227 q = Int32.ofNat r) := by
          rw [h2]
          constructor
          · rintro ((a | a) | ⟨p, a, b, c⟩)
            · exact Or.inl a
            · exact Or.inr ⟨i, Nat.le_refl _, by omega, a⟩
            · exact Or.inr ⟨p, by omega, b, c⟩
          · rintro (a | ⟨p, a, b, c⟩)
            · exact Or.inl (Or.inl a)
            · by_cases e : p = i
              · rw [e] at c; exact Or.inl (Or.inr c)
              · exact Or.inr ⟨p, by omega, b, c⟩
        rw [bi_congr this]
      rcases hs with hs | hs
      · rw [if_pos hs]
        by_cases q : M'.1 227 i = Int32.ofNat r
        · rw [if_pos q]; exact stp 1 (Or.inr rfl) ⟨fun _ => Or.inr q, fun _ => rfl⟩
        · rw [if_neg q]; exact stp 0 (Or.inl rfl) ⟨fun z => absurd z (by decide), fun z => by rcases z with z | z; exact absurd (hs.symm.trans z) (by decide); exact absurd z q⟩
      · have hn : ¬ s = 0 := by rw [hs]; decide
        rw [if_neg hn]
        exact stp 1 (Or.inr rfl) ⟨fun _ => Or.inl hs, fun _ => rfl⟩
  have := key K rf_fuel 0 0 (by omega) (by unfold rf_fuel; omega) (Or.inl rfl)
  rw [show Int32.ofNat 0 = 0 from rfl] at this
  refine ⟨M', ?_, g2⟩
  unfold g_X14_isKeptNow
  rw [gof (by omega) (by decide), g_t, tn_of (by omega), e220, g1]
  simp only [rf_bv]
  rw [this]
  have e : ((0 : Int32) = 1 ∨ ∃ q, 0 ≤ q ∧ q < K ∧ M'.1 227 q = Int32.ofNat r) ↔ keptP w m 9999 b r := by
    rw [hkp]
    constructor
    · rintro (z | ⟨q, _, hq, e⟩)
      · exact absurd z (by decide)
      · rw [g3.2.2.2.2.2.2 q (by omega)] at e
        have hq' : (kpt w m 9999 b)[q]'(by omega) < 1200 := by
          have := (rds_lt _ _ ((kpt_in J).1 _ (List.getElem_mem (l := kpt w m 9999 b) (n := q) (by omega))).1).1
          omega
        have := (of_inj (by omega) (by omega)).mp e
        rw [← this]
        exact List.getElem_mem _
    · intro h
      obtain ⟨q, hq, e⟩ := List.getElem_of_mem h
      refine Or.inr ⟨q, Nat.zero_le _, by omega, ?_⟩
      rw [g3.2.2.2.2.2.2 q hq, e]
  rw [bi_congr e]
/-- and the class -/
theorem isKept_c {c r : Nat} {w : rf_w} {m m2 : rf_m} (J : JCnt c w m) (hr : r < (m.1 206 17).toNatClampNeg) (h : allF w m m2) : g_X3_isKept w m2 (Int32.ofNat r) = some (bi (knP w m r), m2) := by
  have o1 : ¬ (0 : Int32) = 1 := by decide
  have j := J.2.1
  have hn : (m.1 206 17).toNatClampNeg ≤ 1200 := tn_le j.2.1.1 j.2.1.2 (by decide)
  obtain ⟨f0, f1, f2, f3, f4, f5, f6, f7, f8, f9⟩ := j.2.2.1 r hr
  have hA' : (m.1 220 r).toNatClampNeg < (m.1 206 16).toNatClampNeg := tn_lt2 f5.1 f5.2
  have haa : Int32.ofNat (m.1 220 r).toNatClampNeg = m.1 220 r := of_tn f5.1
  have := ((h.2.2.2.2.2 _ hA').2.2 r (rds_of _ _ hr haa.symm)).2.2.1
  unfold g_X3_isKept
  rw [show (7 : Int32) = Int32.ofNat 7 from rfl, X3_factOf (by omega) (by omega), this]
  simp only [rf_b]
  unfold knP
  rcases bi01 (P := keptP w m 9999 (m.1 220 r).toNatClampNeg r) with z | z
  · rw [z, if_neg o1]
  · rw [z, if_pos rfl]
theorem sus95 {w : rf_w} {x : Int32} {N : Nat} : ∀ (s : List Int32) (f : Nat) (M : rf_m), s.length < 12 → s.length < f → plI (M.1 282) s → M.1 206 116 = Int32.ofNat N → ∃ F, g_X14_suspect_95 w f x (Int32.ofNat s.length) M = some (Int32.ofNat (N + 1), rf_i (rf_i (rf_i (stc M 282 F) 206 116 (Int32.ofNat (N + 1))) 206 1 0) 206 2 (-1)) ∧ plI F (insI x s) ∧ ∀ k, s.length < k → F k = M.1 282 k := by
  intro s
  induction s with
  | nil =>
    intro f M hl hf hp hN
    obtain ⟨f, rfl⟩ : ∃ g, f = g + 1 := ⟨f - 1, by omega⟩
    refine ⟨pu (M.1 282) 0 x, ?_, ⟨pu_at .., trivial⟩, fun k hk => pu_ne (by simp at hk; omega)⟩
    show g_X14_suspect_95_b w _ x _ M = _
    unfold g_X14_suspect_95_b g_X14_suspect_131
    rw [if_pos (show Int32.ofNat ([] : List Int32).length ≤ 0 by decide), gof (by simp) (by decide), g_t, tn_of (by simp), show rf_i M 282 ([] : List Int32).length x = stc M 282 (pu (M.1 282) 0 x) from stc_i, show (stc M 282 (pu (M.1 282) 0 x)).1 206 116 = Int32.ofNat N from hN, of_succ, show (rf_i (stc M 282 (pu (M.1 282) 0 x)) 206 116 (Int32.ofNat (N + 1))).1 206 116 = Int32.ofNat (N + 1) from by rw [rf_i_c, if_pos rfl, pu_at]]
    rfl
  | cons y t ih =>
    intro f M hl hf hp hN
    obtain ⟨f, rfl⟩ : ∃ g, f = g + 1 := ⟨f - 1, by omega⟩
    have hl' : t.length + 1 < 12 := hl
    have n0 : ¬ Int32.ofNat (t.length + 1) ≤ 0 := nle (i := 0) (by omega) (by omega)
    have em : Int32.ofNat (t.length + 1) + (-1) = Int32.ofNat t.length := ofm1
    have hy : M.1 282 t.length = y := hp.1
    show ∃ F, g_X14_suspect_95_b w (g_X14_suspect_95 w f) x (Int32.ofNat (t.length + 1)) M = _ ∧ _
    unfold g_X14_suspect_95_b
    rw [if_neg n0, ofm1', gof (by omega) (by decide), g_t, tn_of (by omega), hy, em]
    by_cases q : y ≤ x
    · refine ⟨pu (M.1 282) (t.length + 1) x, ?_, ?_, fun k hk => pu_ne (by simp at hk; omega)⟩
      · unfold g_X14_suspect_131
        rw [if_pos q, gof (by omega) (by decide), g_t, tn_of (by omega), show rf_i M 282 (t.length + 1) x = stc M 282 (pu (M.1 282) (t.length + 1) x) from stc_i, show (stc M 282 (pu (M.1 282) (t.length + 1) x)).1 206 116 = Int32.ofNat N from hN, of_succ, show (rf_i (stc M 282 (pu (M.1 282) (t.length + 1) x)) 206 116 (Int32.ofNat (N + 1))).1 206 116 = Int32.ofNat (N + 1) from by rw [rf_i_c, if_pos rfl, pu_at]]
        rfl
      · unfold insI
        rw [if_pos q]
        exact ⟨pu_at .., plI_pu hp (by simp)⟩
    · rw [if_neg q, g_t, gof (by omega) (by decide), g_t, tn_of (by omega)]
      obtain ⟨F, h1, h2, h3⟩ := ih f (rf_i M 282 (t.length + 1) y) (by omega) (by simp at hf; omega) (by rw [rf_i_c, if_pos rfl]; exact plI_pu hp.2 (by omega)) (by rw [rf_i_c, if_neg (by decide)]; exact hN)
      refine ⟨F, ?_, ?_, fun k hk => ?_⟩
      · rw [h1, show rf_i M 282 (t.length + 1) y = stc M 282 (pu (M.1 282) (t.length + 1) y) from stc_i, stc_stc]
      · unfold insI
        rw [if_neg q]
        refine ⟨?_, h2⟩
        rw [insI_len, h3 _ (by omega), rf_i_c, if_pos rfl, pu_at]
      · rw [h3 k (by simp at hk; omega), rf_i_c, if_pos rfl, pu_ne (by simp at hk; omega)]
/-- what goes to both troubles: v -/
theorem fin_JT {m m2 M : rf_m} {v : Int32} (jt : JT m) (hv : v ≠ 4) (h0 : M.1 0 = pu (m.1 0) 11 v) (h1 : M.1 206 1 = v) (h2 : M.1 206 2 = -1) (h3 : M.1 206 3 = m.1 206 3) : JT M := by
  unfold JT
  rw [h0, h1, h2, h3, pu_at, pu_ne (by decide), if_neg hv]
  exact ⟨rfl, jt.2.1, rfl⟩
theorem fin_ref {c : Nat} {w : rf_w} {m m2 M1 : rf_m} {v : Int32} (J : JCnt c w m) (jt : JT m) (hv : v ≠ 4) (h : allF w m m2) (g : goF (rf_i (rf_i m2 0 11 v) 206 0 0) M1) : JCnt c w (rf_i (rf_i M1 206 1 v) 206 2 (-1)) ∧ JCache w (rf_i (rf_i M1 206 1 v) 206 2 (-1)) ∧ JT (rf_i (rf_i M1 206 1 v) 206 2 (-1)) := by
  have e : ∀ z, z ≠ 0 → z ≠ 206 → z ≠ 226 → z ≠ 227 → z ≠ 228 → z ≠ 235 → (rf_i (rf_i M1 206 1 v) 206 2 (-1)).1 z = m2.1 z := fun z h0 h1 h2 h3 h4 h5 => by
    rw [rf_i_c, if_neg h1, rf_i_c, if_neg h1, g.1 z h1 h2 h3 h4 h5, rf_i_c, if_neg h1, rf_i_c, if_neg h0]
  have e6 : ∀ k, k ≠ 0 → k ≠ 1 → k ≠ 2 → (k < 33 ∨ 38 < k) → (rf_i (rf_i M1 206 1 v) 206 2 (-1)).1 206 k = m2.1 206 k := fun k h0 h1 h2 h3 => by
    rw [rf_i_c, if_pos rfl, pu_ne h2, rf_i_c, if_pos rfl, pu_ne h1, g.2.1 k h3, rf_i_c, if_pos rfl, pu_ne h0, rf_i_c, if_neg (by decide)]
  have q0 : m2.1 0 = m.1 0 := all_c h 0 (by omega)
  have q206 : m2.1 206 = m.1 206 := all_c h 206 (by omega)
  have f := fin_x (M := rf_i (rf_i M1 206 1 v) 206 2 (-1)) J h (fun z h0 _ _ hz => e z h0 (by omega) (by omega) (by omega) (by omega) (by omega)) (fun k hk => e6 k (by omega) (by omega) (by omega) (by omega))
  refine ⟨f.1, f.2, fin_JT (m2 := m2) jt hv ?_ ?_ ?_ ?_⟩
  · rw [rf_i_c, if_neg (by decide), rf_i_c, if_neg (by decide), g.1 0 (by decide) (by decide) (by decide) (by decide) (by decide), rf_i_c, if_neg (by decide), rf_i_c, if_pos rfl, q0]
  · rw [rf_i_c, if_pos rfl, pu_ne (by decide), rf_i_c, if_pos rfl, pu_at]
  · rw [rf_i_c, if_pos rfl, pu_at]
  · rw [e6 3 (by decide) (by decide) (by decide) (by omega), q206]
theorem sus_ref {w : rf_w} {m m2 M1 : rf_m} {v : Int32} (js : JSus m) (h : allF w m m2) (g : goF (rf_i (rf_i m2 0 11 v) 206 0 0) M1) : JSus (rf_i (rf_i M1 206 1 v) 206 2 (-1)) := by
  have e : ∀ z, z ≠ 0 → z ≠ 206 → z ≠ 226 → z ≠ 227 → z ≠ 228 → z ≠ 235 → (rf_i (rf_i M1 206 1 v) 206 2 (-1)).1 z = m2.1 z := fun z h0 h1 h2 h3 h4 h5 => by
    rw [rf_i_c, if_neg h1, rf_i_c, if_neg h1, g.1 z h1 h2 h3 h4 h5, rf_i_c, if_neg h1, rf_i_c, if_neg h0]
  have e6 : ∀ k, k ≠ 0 → k ≠ 1 → k ≠ 2 → (k < 33 ∨ 38 < k) → (rf_i (rf_i M1 206 1 v) 206 2 (-1)).1 206 k = m2.1 206 k := fun k h0 h1 h2 h3 => by
    rw [rf_i_c, if_pos rfl, pu_ne h2, rf_i_c, if_pos rfl, pu_ne h1, g.2.1 k h3, rf_i_c, if_pos rfl, pu_ne h0, rf_i_c, if_neg (by decide)]
  refine JSus_e js ?_ ?_ ?_ ?_ ?_
  · rw [e 184 (by decide) (by decide) (by decide) (by decide) (by decide) (by decide), all_c h 184 (by omega)]
  · rw [e 186 (by decide) (by decide) (by decide) (by decide) (by decide) (by decide), all_c h 186 (by omega)]
  · rw [e6 116 (by decide) (by decide) (by decide) (by omega), all_c h 206 (by omega)]
  · rw [e 282 (by decide) (by decide) (by decide) (by decide) (by decide) (by decide), all_c h 282 (by omega)]
  · rw [e6 17 (by decide) (by decide) (by decide) (by omega), all_c h 206 (by omega)]; exact Int32.le_refl _
/-- suspect -/
theorem k39 {c : Nat} {w : rf_w} {m : rf_m} {y : Nat → Int32} (J : JCnt c w m) (jc : JCache w m) (jt : JT m) (js : JSus m) : wp (g_lc_39 w m y) (fun r => r.1 = w ∧ JCnt c w r.2 ∧ JCache w r.2 ∧ JT r.2 ∧ JSus r.2) := by
  have o1 : ¬ (1 : Int32) = 0 := by decide
  have j := J.2.1
  have hn : (m.1 206 17).toNatClampNeg ≤ 1200 := tn_le j.2.1.1 j.2.1.2 (by decide)
  have c1 := j.1
  unfold g_lc_39 g_X11_suspect g_X14_suspect
  by_cases h1 : ib (y 1) (m.1 206 17)
  · have hR : (y 1).toNatClampNeg < (m.1 206 17).toNatClampNeg := tn_lt2 h1.1 h1.2
    have ey : Int32.ofNat (y 1).toNatClampNeg = y 1 := of_tn h1.1
    obtain ⟨m2, e1, e2⟩ := freshenAll_c J jc
    have hK := isKept_c J hR e2
    rw [ey] at hK
    obtain ⟨u, u1, u2, u3, u4, u5, u6, u7⟩ := js
    have q184 : m2.1 184 = m.1 184 := all_c e2 184 (by omega)
    have q186 : m2.1 186 = m.1 186 := all_c e2 186 (by omega)
    have q206 : m2.1 206 = m.1 206 := all_c e2 206 (by omega)
    have q282 : m2.1 282 = m.1 282 := all_c e2 282 (by omega)
    have hS := isSus_c (w := w) (m := m2) (x := y 1) (N := u.length) (by rw [q184]; exact u2) u1
    have hS' : bi (∃ i, i < u.length ∧ m2.1 186 i = y 1) = bi (y 1 ∈ u) := by rw [q186]; exact bi_congr (plI_ex u4)
    rw [hS'] at hS
    generalize hr : (y 1).toNatClampNeg = r at *
    -- the reference from a memory M that has m's counting and suspects
    have refv : ∀ M : rf_m, mA m M → M.1 206 17 = m.1 206 17 → M.1 206 116 = Int32.ofNat u.length → M.1 282 = m.1 282 → wp (g_X14_suspect_23 w rf_fuel (y 1) 0 0 M) (fun z => ((y 1 ∈ u ∨ ¬ knP w m r) ∧ z.1 = -1 ∧ ∃ M1, goF M M1 ∧ z.2 = rf_i (rf_i M1 206 1 5) 206 2 (-1)) ∨ (¬ (y 1 ∈ u ∨ ¬ knP w m r) ∧ u.length = 12 ∧ z.1 = -1 ∧ ∃ M1, goF M M1 ∧ z.2 = rf_i (rf_i M1 206 1 3) 206 2 (-1)) ∨ (¬ (y 1 ∈ u ∨ ¬ knP w m r) ∧ u.length < 12 ∧ z.1 = Int32.ofNat (u.length + 1) ∧ ∃ M1 F, goF M M1 ∧ z.2 = rf_i (rf_i (rf_i (stc M1 282 F) 206 116 (Int32.ofNat (u.length + 1))) 206 1 0) 206 2 (-1) ∧ plI F (insI (y 1) (isrt u)))) := by
      intro M hA r17 r116 r282
      rw [sus_r r116 u1, r282]
      have ee : bi (∃ i, i < u.length ∧ m.1 282 i = y 1) = bi (y 1 ∈ u) := by
        refine bi_congr ?_
        have := plI_ex (x := y 1) u5
        rw [isrt_len] at this
        rw [this, isrt_mem]
      rw [ee]
      show wp (g_X14_suspect_23_b w _ _ _ _ M) _
      unfold g_X14_suspect_23_b
      rw [r116, if_pos (Int32.le_refl _)]
      by_cases p : y 1 ∈ u
      · rw [bi_t p, if_neg o1, wp_b]
        unfold g_X14_refused
        rw [wp_some, wp_some]
        exact Or.inl ⟨Or.inl p, rfl, M, goF_refl M, rfl⟩
      · rw [bi_f p, if_pos rfl, wp_b]
        obtain ⟨M', g1, g2⟩ := keptNow_r (r := r) J hR hA
        rw [ey] at g1
        rw [g1, wp_some]
        have r116' : M'.1 206 116 = Int32.ofNat u.length := by rw [g2.2.1 116 (by omega)]; exact r116
        simp only
        by_cases k : knP w m r
        · rw [bi_t k, if_neg o1, r116']
          have np : ¬ (y 1 ∈ u ∨ ¬ knP w m r) := fun z => by rcases z with z | z; exact p z; exact z k
          by_cases l : u.length = 12
          · rw [if_pos (by rw [l]; rfl), wp_b]
            unfold g_X14_refused
            rw [wp_some, wp_some]
            exact Or.inr (Or.inl ⟨np, l, rfl, M', g2, rfl⟩)
          · have l' : ¬ Int32.ofNat u.length = 12 := fun z => l ((of_inj (b := 12) (by omega) (by omega)).mp z)
            rw [if_neg l']
            have hp : plI (M'.1 282) (isrt u) := by rw [g2.1 282 (by decide) (by decide) (by decide) (by decide) (by decide), r282]; exact u5
            obtain ⟨F, s1, s2, s3⟩ := sus95 (w := w) (x := y 1) (isrt u) rf_fuel M' (by rw [isrt_len]; omega) (by rw [isrt_len]; unfold rf_fuel; omega) hp r116'
            rw [isrt_len] at s1
            rw [s1, wp_some]
            exact Or.inr (Or.inr ⟨np, by omega, rfl, M', F, g2, rfl, s2⟩)
        · rw [bi_f k, if_pos rfl, wp_b]
          unfold g_X14_refused
          rw [wp_some, wp_some]
          exact Or.inl ⟨Or.inr k, rfl, M', g2, rfl⟩
    have js : JSus m := ⟨u, u1, u2, u3, u4, u5, u6, u7⟩
    have r17 : ∀ v, (rf_i (rf_i m2 0 11 v) 206 0 0).1 206 17 = m.1 206 17 := fun v => by rw [rf_i_c, if_pos rfl, pu_ne (by decide), rf_i_c, if_neg (by decide), q206]
    have mAv : ∀ v, mA m (rf_i (rf_i m2 0 11 v) 206 0 0) := fun v => mA_x (mA_all e2) (fun z hz => by rw [rf_i_c, if_neg (by omega), rf_i_c, if_neg (by omega), rf_i_c, if_neg (by omega)]) (fun k hk => by rw [rf_i_c, if_pos rfl, rf_i_c, if_neg (by decide), rf_i_c, if_pos rfl])
    have r116 : ∀ v, (rf_i (rf_i m2 0 11 v) 206 0 0).1 206 116 = Int32.ofNat u.length := fun v => by rw [rf_i_c, if_pos rfl, pu_ne (by decide), rf_i_c, if_neg (by decide), q206]; exact u3
    have r282 : ∀ v, (rf_i (rf_i m2 0 11 v) 206 0 0).1 282 = m.1 282 := fun v => by rw [rf_i_c, if_neg (by decide), rf_i_c, if_neg (by decide), q282]
    have q1841 : m2.1 184 1 = Int32.ofNat u.length := by rw [q184]; exact u2
    by_cases k : knP w m r
    · rw [bi_t k] at hK
      by_cases p : y 1 ∈ u
      · rw [bi_t p] at hS
        simp only [wp_b, wp_bv, wp_g, wp_ite, wp_some, X3_isReading, X14_isReading, g_X11_refused, bi_eq0, c1, r17, h1, e1, hK, hS, o1, not_true, false_implies, not_false_eq_true, true_implies, true_and, and_true]
        refine wp_mono (refv _ (mAv 5) (r17 5) (r116 5) (r282 5)) (fun z hz => ?_)
        rcases hz with ⟨_, z1, M1, g, z2⟩ | ⟨n, _⟩ | ⟨n, _⟩
        · rw [z1, z2]
          have f := fin_ref J jt (by decide) e2 g
          exact ⟨decide_eq_true rfl, f.1, f.2.1, f.2.2, sus_ref js e2 g⟩
        · exact absurd (Or.inl p) n
        · exact absurd (Or.inl p) n
      · rw [bi_f p] at hS
        have np : ¬ (y 1 ∈ u ∨ ¬ knP w m r) := fun z => by rcases z with z | z; exact p z; exact z k
        by_cases l : u.length < 12
        · have l' : Int32.ofNat u.length < 12 := (of_lt (b := 12) (by omega) (by omega)).mpr l
          have gin12 : rf_in (Int32.ofNat u.length) 12 = true := gof l (by decide)
          have ha : g_X2_addSuspect w m2 (y 1) = some (Int32.ofNat (u.length + 1), rf_i (rf_i m2 186 u.length (y 1)) 184 1 (Int32.ofNat (u.length + 1))) := by
            unfold g_X2_addSuspect
            rw [q1841, gin12, g_t, tn_of (by omega), show (rf_i m2 186 u.length (y 1)).1 184 1 = Int32.ofNat u.length from q1841, of_succ, show (rf_i (rf_i m2 186 u.length (y 1)) 184 1 (Int32.ofNat (u.length + 1))).1 184 1 = Int32.ofNat (u.length + 1) from by rw [rf_i_c, if_pos rfl, pu_at]]
          generalize hm3 : rf_i (rf_i (rf_i m2 186 u.length (y 1)) 184 1 (Int32.ofNat (u.length + 1))) 0 11 0 = m3
          have b0 : ∀ z, z ≠ 0 → z ≠ 184 → z ≠ 186 → m3.1 z = m2.1 z := fun z h0 h1 h2 => by rw [← hm3, rf_i_c, if_neg h0, rf_i_c, if_neg h1, rf_i_c, if_neg h2]
          have b1 : m3.1 0 = pu (m2.1 0) 11 0 := by rw [← hm3, rf_i_c, if_pos rfl, rf_i_c, if_neg (by decide), rf_i_c, if_neg (by decide)]
          have b2 : m3.1 184 1 = Int32.ofNat (u.length + 1) := by rw [← hm3, rf_i_c, if_neg (by decide), rf_i_c, if_pos rfl, pu_at]
          have b3 : m3.1 186 = pu (m.1 186) u.length (y 1) := by rw [← hm3, rf_i_c, if_neg (by decide), rf_i_c, if_neg (by decide), rf_i_c, if_pos rfl, q186]
          have r17' : (rf_i m3 206 0 0).1 206 17 = m.1 206 17 := by rw [rf_i_c, if_pos rfl, pu_ne (by decide), b0 206 (by decide) (by decide) (by decide), q206]
          simp only [wp_b, wp_bv, wp_g, wp_ite, wp_some, X3_isReading, X14_isReading, g_X11_refused, g_X11_answered, bi_eq0, c1, r17', h1, e1, hK, hS, o1, q1841, l', ha, hm3, not_true, false_implies, not_false_eq_true, true_implies, true_and, and_true]
          refine wp_mono (refv _ (mA_x (mA_all e2) (fun z hz => by rw [rf_i_c, if_neg (by omega), rf_i_c, if_neg (by omega)]; exact b0 z (by omega) (by omega) (by omega)) (fun k hk => by rw [rf_i_c, if_pos rfl, rf_i_c, if_pos rfl, b0 206 (by decide) (by decide) (by decide)])) r17' (by rw [rf_i_c, if_pos rfl, pu_ne (by decide), b0 206 (by decide) (by decide) (by decide), q206]; exact u3) (by rw [rf_i_c, if_neg (by decide), b0 282 (by decide) (by decide) (by decide), q282])) (fun z hz => ?_)
          rcases hz with ⟨n, _⟩ | ⟨_, n, _⟩ | ⟨_, _, z1, M1, F, g, z2, z3⟩
          · exact absurd n np
          · omega
          · rw [z1]
            have zz : ∀ x, x ≠ 206 → x ≠ 226 → x ≠ 227 → x ≠ 228 → x ≠ 235 → x ≠ 282 → z.2.1 x = m3.1 x := fun x h1 h2 h3 h4 h5 h6 => by
              rw [z2, rf_i_c, if_neg h1, rf_i_c, if_neg h1, rf_i_c, if_neg h1, stc_c, if_neg h6, g.1 x h1 h2 h3 h4 h5, rf_i_c, if_neg h1]
            have z6 : ∀ k, k ≠ 0 → k ≠ 1 → k ≠ 2 → k ≠ 116 → (k < 33 ∨ 38 < k) → z.2.1 206 k = m.1 206 k := fun k h0 h1 h2 h3 h4 => by
              rw [z2, rf_i_c, if_pos rfl, pu_ne h2, rf_i_c, if_pos rfl, pu_ne h1, rf_i_c, if_pos rfl, pu_ne h3, stc_c, if_neg (by decide), g.2.1 k h4, rf_i_c, if_pos rfl, pu_ne h0, b0 206 (by decide) (by decide) (by decide), q206]
            have f := fin_x (M := z.2) J e2 (fun x h0 _ _ hx => by rw [zz x (by omega) (by omega) (by omega) (by omega) (by omega) (by omega), b0 x h0 (by omega) (by omega)]) (fun k hk => by rw [z6 k (by omega) (by omega) (by omega) (by omega) (by omega), q206])
            refine ⟨decide_eq_true rfl, f.1, f.2, fin_JT (m2 := m2) (v := 0) jt (by decide) ?_ ?_ ?_ ?_, ?_⟩
            · rw [zz 0 (by decide) (by decide) (by decide) (by decide) (by decide) (by decide), b1, all_c e2 0 (by omega)]
            · rw [z2, rf_i_c, if_pos rfl, pu_ne (by decide), rf_i_c, if_pos rfl, pu_at]
            · rw [z2, rf_i_c, if_pos rfl, pu_at]
            · rw [z6 3 (by decide) (by decide) (by decide) (by decide) (by omega)]
            · refine ⟨y 1 :: u, by simp; omega, ?_, ?_, ?_, ?_, ?_, List.nodup_cons.mpr ⟨p, u7⟩⟩
              · rw [zz 184 (by decide) (by decide) (by decide) (by decide) (by decide) (by decide), b2]; rfl
              · rw [z2, rf_i_c, if_pos rfl, pu_ne (by decide), rf_i_c, if_pos rfl, pu_ne (by decide), rf_i_c, if_pos rfl, pu_at]; rfl
              · rw [zz 186 (by decide) (by decide) (by decide) (by decide) (by decide) (by decide), b3]
                exact ⟨pu_at .., plI_pu u4 (Nat.le_refl _)⟩
              · rw [z2, rf_i_c, if_neg (by decide), rf_i_c, if_neg (by decide), rf_i_c, if_neg (by decide), stc_c, if_pos rfl]
                exact z3
              · intro x hx
                rw [z6 17 (by decide) (by decide) (by decide) (by decide) (by omega)]
                rcases List.mem_cons.mp hx with hx | hx
                · rw [hx]; exact h1
                · exact u6 x hx
        · have l' : ¬ Int32.ofNat u.length < 12 := fun z => l ((of_lt (b := 12) (by omega) (by omega)).mp z)
          simp only [wp_b, wp_bv, wp_g, wp_ite, wp_some, X3_isReading, X14_isReading, g_X11_refused, bi_eq0, c1, r17, h1, e1, hK, hS, o1, q1841, l', not_true, false_implies, not_false_eq_true, true_implies, true_and, and_true]
          refine wp_mono (refv _ (mAv 3) (r17 3) (r116 3) (r282 3)) (fun z hz => ?_)
          rcases hz with ⟨n, _⟩ | ⟨_, _, z1, M1, g, z2⟩ | ⟨_, n, _⟩
          · exact absurd n np
          · rw [z1, z2]
            have f := fin_ref J jt (by decide) e2 g
            exact ⟨decide_eq_true rfl, f.1, f.2.1, f.2.2, sus_ref js e2 g⟩
          · exact absurd n l
    · rw [bi_f k] at hK
      simp only [wp_b, wp_bv, wp_g, wp_ite, wp_some, X3_isReading, X14_isReading, g_X11_refused, bi_eq0, c1, r17, h1, e1, hK, o1, not_true, false_implies, not_false_eq_true, true_implies, true_and, and_true]
      refine wp_mono (refv _ (mAv 5) (r17 5) (r116 5) (r282 5)) (fun z hz => ?_)
      rcases hz with ⟨_, z1, M1, g, z2⟩ | ⟨n, _⟩ | ⟨n, _⟩
      · rw [z1, z2]
        have f := fin_ref J jt (by decide) e2 g
        exact ⟨decide_eq_true rfl, f.1, f.2.1, f.2.2, sus_ref js e2 g⟩
      · exact absurd (Or.inr k) n
      · exact absurd (Or.inr k) n
  · have := dn_fin (v := 1) J jc jt (by decide)
    have r17 : (rf_i (rf_i m 0 11 1) 206 0 0).1 206 17 = m.1 206 17 := rfl
    simp only [wp_b, wp_bv, wp_g, wp_ite, wp_some, X3_isReading, X14_isReading, g_X11_refused, g_X14_refused, bi_eq0, c1, r17, h1, not_true, false_implies, not_false_eq_true, true_implies, true_and, and_true, decide_true]
    refine ⟨this.1, this.2.1, this.2.2, JSus_e js ?_ ?_ ?_ ?_ ?_⟩
    · rfl
    · rfl
    · rfl
    · rfl
    · exact Int32.le_refl _
end PBSusp
