/-! what is seen of an angle on a day -/
section PBSeen
/-- the readings of an angle -/
def rdl (m : rf_m) (a : Nat) : List Nat := rds (m.1 220) (Int32.ofNat a) (m.1 206 17).toNatClampNeg
def JRead (m : rf_m) : Prop := m.1 26 7 = m.1 206 17 ∧ iv 0 1200 (m.1 206 17) ∧ (∀ r, r < (m.1 206 17).toNatClampNeg → m.1 32 (9 * r) = m.1 220 r ∧ m.1 32 (9 * r + 1) = m.1 221 r ∧ m.1 32 (9 * r + 2) = m.1 222 r ∧ m.1 32 (9 * r + 3) = m.1 223 r ∧ m.1 32 (9 * r + 4) = m.1 224 r ∧ ib (m.1 220 r) (m.1 206 16) ∧ (m.1 221 r = -2 ∨ iv 0 12959999 (m.1 221 r)) ∧ iv 0 23 (m.1 222 r) ∧ iv 0 7 (m.1 223 r) ∧ iv 0 9999 (m.1 224 r)) ∧ (∀ a, a < 80 → m.1 34 (9 * a + 6) = Int32.ofNat (rdl m a).length ∧ (rdl m a).length ≤ 20 ∧ ∀ i (h : i < (rdl m a).length), m.1 33 (20 * a + i) = Int32.ofNat ((rdl m a)[i]))
/-- it counts on a day -/
def okP (m : rf_m) (d : Int32) (r : Nat) : Prop := m.1 221 r ≠ -2 ∧ m.1 224 r ≤ d
noncomputable def srS (m : rf_m) (d : Int32) (s : List Int32) (r : Nat) : List Int32 := @ite _ (okP m d r) (Classical.propDecidable _) (insI (m.1 221 r) s) s
noncomputable def srt (m : rf_m) (d : Int32) (l : List Nat) : List Int32 := l.foldl (srS m d) []
theorem srt_snoc {m : rf_m} {d : Int32} {l : List Nat} {r : Nat} : srt m d (l ++ [r]) = srS m d (srt m d l) r := by
  unfold srt; rw [List.foldl_append]; rfl
theorem srS_t {m : rf_m} {d : Int32} {s : List Int32} {r : Nat} (h : okP m d r) : srS m d s r = insI (m.1 221 r) s := if_pos h
theorem srS_f {m : rf_m} {d : Int32} {s : List Int32} {r : Nat} (h : ¬ okP m d r) : srS m d s r = s := if_neg h
theorem srS_len {m : rf_m} {d : Int32} {s : List Int32} {r : Nat} : (srS m d s r).length ≤ s.length + 1 := by
  by_cases h : okP m d r
  · rw [srS_t h, insI_len]; omega
  · rw [srS_f h]; omega
theorem take_snoc {l : List Nat} {i : Nat} (h : i < l.length) : l.take (i + 1) = l.take i ++ [l[i]] := by
  rw [List.take_succ, List.getElem?_eq_getElem h]; rfl
theorem srt_len {m : rf_m} {d : Int32} {l : List Nat} : ∀ i, i ≤ l.length → (srt m d (l.take i)).length ≤ i := by
  intro i
  induction i with
  | zero => intro _; simp [srt]
  | succ i ih =>
    intro h
    rw [take_snoc (by omega), srt_snoc]
    have := srS_len (m := m) (d := d) (s := srt m d (l.take i)) (r := l[i]'(by omega))
    have := ih (by omega)
    omega
theorem X3_factOf {w : rf_w} {m : rf_m} {r k : Nat} (hr : r < 1200) (hk : k < 9) : g_X3_factOf w m (Int32.ofNat r) (Int32.ofNat k) = some (m.1 32 (9 * r + k), m) := by
  have e : Int32.ofNat r * 9 + Int32.ofNat k = Int32.ofNat (9 * r + k) := by rw [Int32.ofNat_add, Int32.ofNat_mul, Int32.mul_comm]; rfl
  unfold g_X3_factOf
  rw [e, gof (by omega) (by decide), g_t, tn_of (by omega)]
theorem X3_isSeen {w : rf_w} {m : rf_m} {r : Nat} (hr : r < 1200) : g_X3_isSeen w m (Int32.ofNat r) = some (bi (m.1 32 (9 * r + 1) ≠ -2), m) := by
  unfold g_X3_isSeen
  rw [show (1 : Int32) = Int32.ofNat 1 from rfl, X3_factOf hr (by omega)]
  simp only [rf_b]
  by_cases h : m.1 32 (9 * r + 1) = -2
  · rw [if_pos h, bi_f (fun q => q h)]
  · rw [if_neg h, bi_t h]; rfl
theorem a9_6 {a : Nat} (ha : a < 80) (k : Nat) (hk : k < 9) : Int32.ofNat a * 9 + Int32.ofNat k = Int32.ofNat (9 * a + k) := by rw [Int32.ofNat_add, Int32.ofNat_mul, Int32.mul_comm]; rfl
/-- the class's memory m1 has m's readings -/
def rdA (m m1 : rf_m) (a : Nat) : Prop := m1.1 34 (9 * a + 6) = m.1 34 (9 * a + 6) ∧ m1.1 33 = m.1 33 ∧ ∀ r, r < 1200 → ∀ k, k < 5 → m1.1 32 (9 * r + k) = m.1 32 (9 * r + k)
theorem sort_c {w : rf_w} {m m1 : rf_m} {a : Nat} {d : Int32} (ha : a < 80) (j : JRead m) (hA : rdA m m1 a) : ∃ F, g_X3_sortSeen w m1 (Int32.ofNat a) d = some (Int32.ofNat (srt m d (rdl m a)).length, stc m1 35 F) ∧ plI F (srt m d (rdl m a)) := by
  obtain ⟨c1, c2, c3, c4⟩ := j
  obtain ⟨b1, b2, b3⟩ := c4 a ha
  obtain ⟨A1, A2, A3⟩ := hA
  have hn : (m.1 206 17).toNatClampNeg ≤ 1200 := tn_le c2.1 c2.2 (by decide)
  have e6 : Int32.ofNat a * 9 + 6 = Int32.ofNat (9 * a + 6) := a9_6 ha 6 (by omega)
  have key : ∀ n f i F, i + n = (rdl m a).length → n < f → plI F (srt m d ((rdl m a).take i)) → ∃ F', g_X3_sortSeen_5 w f (Int32.ofNat a) d (Int32.ofNat (srt m d ((rdl m a).take i)).length) (Int32.ofNat i) (stc m1 35 F) = some (Int32.ofNat (srt m d (rdl m a)).length, stc m1 35 F') ∧ plI F' (srt m d (rdl m a)) := by
    intro n
    induction n with
    | zero =>
      intro f i F hi hf hF
      obtain ⟨f, rfl⟩ : ∃ g, f = g + 1 := ⟨f - 1, by omega⟩
      rw [show (rdl m a).take i = rdl m a from List.take_of_length_le (by omega)] at hF ⊢
      refine ⟨F, ?_, hF⟩
      show g_X3_sortSeen_5_b w _ _ d _ _ (stc m1 35 F) = _
      unfold g_X3_sortSeen_5_b
      rw [e6, gof (by omega) (by decide), g_t, tn_of (by omega), show (stc m1 35 F).1 34 = m1.1 34 from rfl, A1, b1, show i = (rdl m a).length by omega, if_pos (Int32.le_refl _)]
    | succ n ih =>
      intro f i F hi hf hF
      obtain ⟨f, rfl⟩ : ∃ g, f = g + 1 := ⟨f - 1, by omega⟩
      have hil : i < (rdl m a).length := by omega
      have hr := rds_lt _ _ (List.getElem_mem hil)
      have hsl := srt_len (m := m) (d := d) i (Nat.le_of_lt hil)
      have nl : ¬ Int32.ofNat (rdl m a).length ≤ Int32.ofNat i := nle hil (by omega)
      have e20 : Int32.ofNat a * 20 + Int32.ofNat i = Int32.ofNat (20 * a + i) := by rw [Int32.ofNat_add, Int32.ofNat_mul, Int32.mul_comm]; rfl
      obtain ⟨_, d1, _, _, d4, _⟩ := c3 _ hr.1
      have e1 : (stc m1 35 F).1 32 (9 * (rdl m a)[i] + 1) = m.1 221 (rdl m a)[i] := by rw [stc_c, if_neg (by decide), A3 _ (by omega) 1 (by omega), d1]
      have e4 : (stc m1 35 F).1 32 (9 * (rdl m a)[i] + 4) = m.1 224 (rdl m a)[i] := by rw [stc_c, if_neg (by decide), A3 _ (by omega) 4 (by omega), d4]
      show ∃ F', g_X3_sortSeen_5_b w (g_X3_sortSeen_5 w f) _ d _ _ (stc m1 35 F) = _ ∧ _
      unfold g_X3_sortSeen_5_b
      rw [e6, gof (by omega) (by decide), g_t, tn_of (by omega), show (stc m1 35 F).1 34 = m1.1 34 from rfl, A1, b1, if_neg nl, e20, gof (by omega) (by decide), g_t, tn_of (by omega), show (stc m1 35 F).1 33 = m1.1 33 from rfl, A2, b3 i hil]
      simp only [rf_vi]
      rw [X3_isSeen (by omega), e1]
      simp only [rf_b]
      have snoc : srt m d ((rdl m a).take (i + 1)) = srS m d (srt m d ((rdl m a).take i)) (rdl m a)[i] := by rw [take_snoc hil, srt_snoc]
      by_cases p1 : m.1 221 (rdl m a)[i] ≠ -2
      · rw [bi_t p1, if_neg (show ¬ (1 : Int32) = 0 by decide), show (4 : Int32) = Int32.ofNat 4 from rfl, X3_factOf (by omega) (by omega), e4]
        simp only
        by_cases p2 : m.1 224 (rdl m a)[i] ≤ d
        · rw [if_pos p2, show (1 : Int32) = Int32.ofNat 1 from rfl, X3_factOf (by omega) (by omega), e1]
          simp only
          have hok : okP m d (rdl m a)[i] := ⟨p1, p2⟩
          have e35 : (stc m1 35 F).1 35 = F := by rw [stc_c, if_pos rfl]
          obtain ⟨F1, h1, h2, h3⟩ := sort71 (w := w) (rec5 := g_X3_sortSeen_5 w f) (a := Int32.ofNat a) (d := d) (se := Int32.ofNat (srt m d ((rdl m a).take i)).length) (i := Int32.ofNat i) (x := m.1 221 (rdl m a)[i]) (srt m d ((rdl m a).take i)) rf_fuel (stc m1 35 F) (by omega) (by unfold rf_fuel; omega) (by rw [e35]; exact hF)
          rw [h1, stc_stc, of_succ, of_succ]
          have := ih f (i + 1) F1 (by omega) (by omega) (by rw [snoc, srS_t hok]; exact h2)
          rw [snoc, srS_t hok, insI_len] at this
          exact this
        · rw [if_neg p2]
          unfold g_X3_sortSeen_124
          rw [of_succ]
          have hok : ¬ okP m d (rdl m a)[i] := fun q => p2 q.2
          have := ih f (i + 1) F (by omega) (by omega) (by rw [snoc, srS_f hok]; exact hF)
          rw [snoc, srS_f hok] at this
          exact this
      · rw [bi_f p1, if_pos rfl]
        unfold g_X3_sortSeen_124
        rw [of_succ]
        have hok : ¬ okP m d (rdl m a)[i] := fun q => p1 q.1
        have := ih f (i + 1) F (by omega) (by omega) (by rw [snoc, srS_f hok]; exact hF)
        rw [snoc, srS_f hok] at this
        exact this
  have := key (rdl m a).length rf_fuel 0 (m1.1 35) (by omega) (by unfold rf_fuel; omega) trivial
  rw [stc_self] at this
  exact this
/-- the middle of what is seen -/
noncomputable def midV (m : rf_m) (d : Int32) (a : Nat) : Int32 := match (srt m d (rdl m a)) with
  | [] => -2
  | s => s.getD (s.length - 1 - (s.length - 1) / 2) 0
theorem mid_of {m : rf_m} {d : Int32} {a : Nat} {F : Nat → Int32} (h : plI F (srt m d (rdl m a))) (hne : (srt m d (rdl m a)).length ≠ 0) : F (((srt m d (rdl m a)).length - 1) / 2) = midV m d a := by
  unfold midV
  generalize srt m d (rdl m a) = s at *
  cases s with
  | nil => exact absurd rfl hne
  | cons y t =>
    have := plI_get h (((y :: t).length - 1) / 2) (by simp; omega)
    rw [this]
    simp only
    rw [List.getD_eq_getElem?_getD, List.getElem?_eq_getElem (by simp; omega)]
    rfl
/-- the reference's memory M has m's readings -/
def rdM (m M : rf_m) : Prop := M.1 206 17 = m.1 206 17 ∧ M.1 220 = m.1 220 ∧ M.1 221 = m.1 221 ∧ M.1 222 = m.1 222 ∧ M.1 223 = m.1 223 ∧ M.1 224 = m.1 224
/-- as the first loop leaves it -/
def lpA (M : rf_m) (F : Nat → Int32) (n : Nat) : rf_m := rf_i (stc M 226 F) 206 33 (Int32.ofNat n)
theorem sort_r {w : rf_w} {m M : rf_m} {a : Nat} {d : Int32} (ha : a < 80) (j : JRead m) (hA : rdM m M) : ∃ F, g_X14_goes w M (Int32.ofNat a) d = g_X14_goes_155 w (Int32.ofNat a) d (midV m d a) (lpA M F (srt m d (rdl m a)).length) ∧ plI F (srt m d (rdl m a)) := by
  obtain ⟨c1, c2, c3, c4⟩ := j
  obtain ⟨b1, b2, b3⟩ := c4 a ha
  obtain ⟨A1, A2, A3, A4, A5, A6⟩ := hA
  have hn : (m.1 206 17).toNatClampNeg ≤ 1200 := tn_le c2.1 c2.2 (by decide)
  have hR := of_tn c2.1
  have i33 : ∀ F n, (lpA M F n).1 206 33 = Int32.ofNat n := fun F n => by
    unfold lpA; rw [rf_i_c, if_pos rfl, pu_at]
  have i226 : ∀ F n, (lpA M F n).1 226 = F := fun F n => by
    unfold lpA; rw [rf_i_c, if_neg (by decide), stc_c, if_pos rfl]
  have iot : ∀ F n c, c ≠ 226 → c ≠ 206 → (lpA M F n).1 c = M.1 c := fun F n c h1 h2 => by
    unfold lpA; rw [rf_i_c, if_neg h2, stc_c, if_neg h1]
  have i17 : ∀ F n, (lpA M F n).1 206 17 = m.1 206 17 := fun F n => by
    unfold lpA; rw [rf_i_c, if_pos rfl, pu_ne (by decide), stc_c, if_neg (by decide)]; exact A1
  have lenL : ∀ r, r ≤ (m.1 206 17).toNatClampNeg → (srt m d (rds (m.1 220) (Int32.ofNat a) r)).length ≤ (rds (m.1 220) (Int32.ofNat a) r).length := by
    intro r _
    have := srt_len (m := m) (d := d) (l := rds (m.1 220) (Int32.ofNat a) r) (rds (m.1 220) (Int32.ofNat a) r).length (Nat.le_refl _)
    rw [List.take_of_length_le (Nat.le_refl _)] at this
    exact this
  have mono : ∀ n r, r + n = (m.1 206 17).toNatClampNeg → (rds (m.1 220) (Int32.ofNat a) r).length ≤ (rdl m a).length := by
    intro n
    induction n with
    | zero => intro r h; unfold rdl; rw [show r = (m.1 206 17).toNatClampNeg by omega]; exact Nat.le_refl _
    | succ n ih =>
      intro r h
      have := ih (r + 1) (by omega)
      have h2 : (rds (m.1 220) (Int32.ofNat a) r).length ≤ (rds (m.1 220) (Int32.ofNat a) (r + 1)).length := by
        show _ ≤ (if m.1 220 r = Int32.ofNat a then rds (m.1 220) (Int32.ofNat a) r ++ [r] else rds (m.1 220) (Int32.ofNat a) r).length
        split
        · rw [List.length_append]; omega
        · exact Nat.le_refl _
      omega
  have mono1 : ∀ r, r < (m.1 206 17).toNatClampNeg → m.1 220 r = Int32.ofNat a → (rds (m.1 220) (Int32.ofNat a) r).length < 20 := by
    intro r hr he
    have h1 := mono ((m.1 206 17).toNatClampNeg - (r + 1)) (r + 1) (by omega)
    have h2 : (rds (m.1 220) (Int32.ofNat a) (r + 1)).length = (rds (m.1 220) (Int32.ofNat a) r).length + 1 := by
      show (if m.1 220 r = Int32.ofNat a then rds (m.1 220) (Int32.ofNat a) r ++ [r] else rds (m.1 220) (Int32.ofNat a) r).length = _
      rw [if_pos he, List.length_append]; rfl
    omega
  have key : ∀ n f r F, r + n = (m.1 206 17).toNatClampNeg → n < f → plI F (srt m d (rds (m.1 220) (Int32.ofNat a) r)) → ∃ F', g_X14_goes_7 w f (Int32.ofNat a) d (Int32.ofNat r) (lpA M F (srt m d (rds (m.1 220) (Int32.ofNat a) r)).length) = g_X14_goes_155 w (Int32.ofNat a) d (midV m d a) (lpA M F' (srt m d (rdl m a)).length) ∧ plI F' (srt m d (rdl m a)) := by
    intro n
    induction n with
    | zero =>
      intro f r F hr hf hF
      obtain ⟨f, rfl⟩ : ∃ g, f = g + 1 := ⟨f - 1, by omega⟩
      rw [show rds (m.1 220) (Int32.ofNat a) r = rdl m a by unfold rdl; rw [show r = (m.1 206 17).toNatClampNeg by omega]] at hF ⊢
      have hl : (srt m d (rdl m a)).length ≤ 20 := by
        have := srt_len (m := m) (d := d) (l := rdl m a) (rdl m a).length (Nat.le_refl _)
        rw [List.take_of_length_le (Nat.le_refl _)] at this
        omega
      refine ⟨F, ?_, hF⟩
      show g_X14_goes_7_b w _ _ d _ _ = _
      unfold g_X14_goes_7_b
      rw [i17, show r = (m.1 206 17).toNatClampNeg by omega, hR, if_pos (Int32.le_refl _), i33]
      by_cases z : (srt m d (rdl m a)).length = 0
      · rw [if_pos (by rw [z]; rfl)]
        have : midV m d a = -2 := by unfold midV; rw [List.length_eq_zero_iff.mp z]
        rw [this]
      · have z1 : ¬ Int32.ofNat (srt m d (rdl m a)).length = 0 := fun q => z ((of_inj (b := 0) (by omega) (by omega)).mp q)
        rw [if_neg z1]
        obtain ⟨k, hk⟩ : ∃ k, (srt m d (rdl m a)).length = k + 1 := ⟨(srt m d (rdl m a)).length - 1, by omega⟩
        have ediv : (Int32.ofNat (srt m d (rdl m a)).length - 1) / 2 = Int32.ofNat (((srt m d (rdl m a)).length - 1) / 2) := by
          rw [hk, ofm1', i_eq, divI (by decide), ofI (by omega), ofI (by omega)]
          show (k : Int).tdiv (2 : Int) = _
          rw [Int.tdiv_eq_ediv_of_nonneg (by omega)]
          omega
        rw [ediv, gof (by omega) (by decide), g_t, tn_of (by omega), i226, mid_of hF z]
    | succ n ih =>
      intro f r F hr hf hF
      obtain ⟨f, rfl⟩ : ∃ g, f = g + 1 := ⟨f - 1, by omega⟩
      have hrn : r < (m.1 206 17).toNatClampNeg := by omega
      have nl : ¬ m.1 206 17 ≤ Int32.ofNat r := by rw [← hR]; exact nle hrn (by omega)
      show ∃ F', g_X14_goes_7_b w (g_X14_goes_7 w f) _ d _ _ = _ ∧ _
      unfold g_X14_goes_7_b g_X14_goes_123
      rw [i17, if_neg nl, gof (by omega) (by decide), g_t, g_t, g_t, tn_of (by omega), iot F _ 220 (by decide) (by decide), iot F _ 221 (by decide) (by decide), iot F _ 224 (by decide) (by decide), A2, A3, A6, of_succ]
      have er : rds (m.1 220) (Int32.ofNat a) (r + 1) = if m.1 220 r = Int32.ofNat a then rds (m.1 220) (Int32.ofNat a) r ++ [r] else rds (m.1 220) (Int32.ofNat a) r := rfl
      by_cases p0 : m.1 220 r = Int32.ofNat a
      · rw [if_pos p0] at er ⊢
        by_cases p1 : m.1 221 r = -2
        · rw [if_pos p1]
          have hok : ¬ okP m d r := fun q => q.1 p1
          have es : srt m d (rds (m.1 220) (Int32.ofNat a) (r + 1)) = srt m d (rds (m.1 220) (Int32.ofNat a) r) := by rw [er, srt_snoc, srS_f hok]
          have := ih f (r + 1) F (by omega) (by omega) (by rw [es]; exact hF)
          rw [es] at this
          exact this
        · rw [if_neg p1]
          by_cases p2 : m.1 224 r ≤ d
          · rw [if_pos p2, i33]
            have hok : okP m d r := ⟨p1, p2⟩
            have es : srt m d (rds (m.1 220) (Int32.ofNat a) (r + 1)) = insI (m.1 221 r) (srt m d (rds (m.1 220) (Int32.ofNat a) r)) := by rw [er, srt_snoc, srS_t hok]
            have hl1 := mono1 r hrn p0
            have hl2 := lenL r (by omega)
            obtain ⟨F1, h1, h2, h3⟩ := goes55 (w := w) (rec7 := g_X14_goes_7 w f) (a := Int32.ofNat a) (d := d) (r := r) (x := m.1 221 r) (by omega) (srt m d (rds (m.1 220) (Int32.ofNat a) r)) rf_fuel (lpA M F (srt m d (rds (m.1 220) (Int32.ofNat a) r)).length) (by omega) (by unfold rf_fuel; omega) (by rw [i226]; exact hF) (by rw [iot F _ 221 (by decide) (by decide), A3])
            rw [h1, i33, of_succ]
            have := ih f (r + 1) F1 (by omega) (by omega) (by rw [es]; exact h2)
            rw [es, insI_len] at this
            have em : rf_i (stc (lpA M F (srt m d (rds (m.1 220) (Int32.ofNat a) r)).length) 226 F1) 206 33 (Int32.ofNat ((srt m d (rds (m.1 220) (Int32.ofNat a) r)).length + 1)) = lpA M F1 ((srt m d (rds (m.1 220) (Int32.ofNat a) r)).length + 1) := by
              unfold lpA
              refine Prod.ext ?_ rfl
              funext c k
              simp only [rf_i_c, stc_c]
              by_cases e1 : c = 206
              · subst e1
                simp only [if_true, if_false, Nat.reduceEqDiff]
                unfold pu
                by_cases e2 : k = 33
                · rw [if_pos e2, if_pos e2]
                · rw [if_neg e2, if_neg e2]; simp [e2]
              · by_cases e2 : c = 226
                · simp [e1, e2]
                · simp [e1, e2]
            rw [em]
            exact this
          · rw [if_neg p2]
            have hok : ¬ okP m d r := fun q => p2 q.2
            have es : srt m d (rds (m.1 220) (Int32.ofNat a) (r + 1)) = srt m d (rds (m.1 220) (Int32.ofNat a) r) := by rw [er, srt_snoc, srS_f hok]
            have := ih f (r + 1) F (by omega) (by omega) (by rw [es]; exact hF)
            rw [es] at this
            exact this
      · rw [if_neg p0] at er ⊢
        have es : srt m d (rds (m.1 220) (Int32.ofNat a) (r + 1)) = srt m d (rds (m.1 220) (Int32.ofNat a) r) := by rw [er]
        have := ih f (r + 1) F (by omega) (by omega) (by rw [es]; exact hF)
        rw [es] at this
        exact this
  have := key (m.1 206 17).toNatClampNeg rf_fuel 0 (M.1 226) (by omega) (by unfold rf_fuel; omega) trivial
  have e0 : lpA M (M.1 226) (srt m d (rds (m.1 220) (Int32.ofNat a) 0)).length = rf_i M 206 33 0 := by
    unfold lpA
    rw [stc_self]
    rfl
  rw [e0] at this
  exact this
end PBSeen
