/-! an angle's names, its weight, whether it is sent again -/
section PBNames
theorem lohi {m : rf_m} (l : List Nat) (hl : ∀ r, r ∈ l → iv 0 12959999 (m.1 221 r)) : ∀ i, i ≤ l.length → (i = 0 → loL m (l.take i) = 12960000 ∧ hiL m (l.take i) = -1) ∧ (i ≠ 0 → 0 ≤ (loL m (l.take i)).toInt ∧ (loL m (l.take i)).toInt ≤ (hiL m (l.take i)).toInt ∧ (hiL m (l.take i)).toInt ≤ 12959999) := by
  intro i
  induction i with
  | zero => intro _; exact ⟨fun _ => ⟨rfl, rfl⟩, fun q => absurd rfl q⟩
  | succ i ih =>
    intro h
    obtain ⟨h0, h1⟩ := ih (by omega)
    obtain ⟨w1, w2⟩ := ivI (hl _ (List.getElem_mem (l := l) (n := i) (by omega)))
    have w1' : 0 ≤ (m.1 221 (l[i]'(by omega))).toInt := w1
    have w2' : (m.1 221 (l[i]'(by omega))).toInt ≤ 12959999 := w2
    refine ⟨fun q => by omega, fun _ => ?_⟩
    rw [take_snoc (by omega), loL_snoc, hiL_snoc, mxI, mnI]
    by_cases z : i = 0
    · obtain ⟨e1, e2⟩ := h0 z
      rw [e1, e2]
      have c1 : (12960000 : Int32).toInt = 12960000 := rfl
      have c2 : (-1 : Int32).toInt = -1 := rfl
      rw [c1, c2]
      omega
    · have := h1 z
      omega
theorem kpt_in {c : Nat} {w : rf_w} {m : rf_m} {a : Nat} {d : Int32} (J : JCnt c w m) : (∀ r, r ∈ kpt w m d a → r ∈ rdl m a ∧ keptP w m d a r) ∧ (a < 80 → (kpt w m d a).length ≤ 20) := by
  refine ⟨fun r hr => ?_, fun ha => ?_⟩
  · have := kpl_ok (w := w) (m := m) (d := d) (a := a) (rdl m a) (rdl m a).length (Nat.le_refl _)
    rw [List.take_of_length_le (Nat.le_refl _)] at this
    exact this r hr
  · have b2 := (J.2.1.2.2.2 a ha).2.1
    have := kpl_len (w := w) (m := m) (d := d) (a := a) (l := rdl m a) (rdl m a).length (Nat.le_refl _)
    rw [List.take_of_length_le (Nat.le_refl _)] at this
    unfold kpt; omega
theorem spr_rng {c : Nat} {w : rf_w} {m : rf_m} {a : Nat} {d : Int32} (J : JCnt c w m) (hz : (kpt w m d a).length ≠ 0) : 0 ≤ (loL m (kpt w m d a)).toInt ∧ (loL m (kpt w m d a)).toInt ≤ (hiL m (kpt w m d a)).toInt ∧ (hiL m (kpt w m d a)).toInt ≤ 12959999 := by
  have ki := (kpt_in (a := a) (d := d) J).1
  have := (lohi (m := m) (kpt w m d a) (fun r hr => (mid_rng J.2.1 (ki r hr).1 (ki r hr).2.1).2) (kpt w m d a).length (Nat.le_refl _)).2 hz
  rwa [List.take_of_length_le (Nat.le_refl _)] at this
noncomputable def spdV (w : rf_w) (m : rf_m) (a : Nat) : Int32 := if (kpt w m 9999 a).length = 0 then 0 else hiL m (kpt w m 9999 a) - loL m (kpt w m 9999 a)
noncomputable def nwV (w : rf_w) (m : rf_m) (a i : Nat) : Int32 := if i = 3 then Int32.ofNat (srt m 9999 (rdl m a)).length else if i = 4 then spdV w m a else if i = 5 then Int32.ofNat (kpt w m 9999 a).length else if i = 6 then m.1 217 a else 0
theorem spd_rng {c : Nat} {w : rf_w} {m : rf_m} {a : Nat} (J : JCnt c w m) : iv 0 12959999 (spdV w m a) ∧ (if 0 < sprV w m 9999 a then sprV w m 9999 a else 0) = spdV w m a := by
  unfold spdV sprV
  by_cases z : (kpt w m 9999 a).length = 0
  · rw [if_pos z, if_pos z]
    exact ⟨⟨by decide, by decide⟩, by decide⟩
  · rw [if_neg z, if_neg z]
    obtain ⟨h1, h2, h3⟩ := spr_rng J z
    have e : (hiL m (kpt w m 9999 a) - loL m (kpt w m 9999 a)).toInt = (hiL m (kpt w m 9999 a)).toInt - (loL m (kpt w m 9999 a)).toInt := subI (by omega) (by omega)
    refine ⟨⟨by rw [i_le, i_0, e]; omega, by rw [i_le, e]; show _ ≤ (12959999 : Int); omega⟩, ?_⟩
    by_cases q : 0 < hiL m (kpt w m 9999 a) - loL m (kpt w m 9999 a)
    · rw [if_pos q]
    · rw [if_neg q]
      rw [i_lt, i_0, e] at q
      rw [i_eq, i_0, e]; omega
theorem nw_ok {c : Nat} {w : rf_w} {m : rf_m} {a : Nat} (J : JCnt c w m) (ha : a < (m.1 206 16).toNatClampNeg) : nok (nwV w m a) := by
  have h80 := ang80 J.2.2.2.2.1
  have hs20 : (srt m 9999 (rdl m a)).length ≤ 20 := by
    have b2 := (J.2.1.2.2.2 a (by omega)).2.1
    have := srt_len (m := m) (d := 9999) (l := rdl m a) (rdl m a).length (Nat.le_refl _)
    rw [List.take_of_length_le (Nat.le_refl _)] at this
    omega
  have hk20 := (kpt_in (a := a) (d := 9999) J).2 (by omega)
  have h6 := (J.2.2.2.2.1.2.2.2.2.2 a ha).1
  have m2 := J.2.2.2.2.2.1.2.1
  have sp := (spd_rng (a := a) J).1
  intro i hi
  unfold nwV
  by_cases e3 : i = 3
  · rw [if_pos e3]
    exact ⟨of_nn (by omega), (of_le (b := 1000000000) (by omega) (by omega)).mpr (by omega)⟩
  · rw [if_neg e3]
    by_cases e4 : i = 4
    · rw [if_pos e4]
      refine ⟨sp.1, ?_⟩
      have := sp.2
      clear J
      grind
    · rw [if_neg e4]
      by_cases e5 : i = 5
      · rw [if_pos e5]
        exact ⟨of_nn (by omega), (of_le (b := 1000000000) (by omega) (by omega)).mpr (by omega)⟩
      · rw [if_neg e5]
        by_cases e6 : i = 6
        · rw [if_pos e6]
          refine ⟨h6.1, ?_⟩
          have := h6.2
          have := m2.2
          clear J
          grind
        · rw [if_neg e6]; exact ⟨by decide, by decide⟩
theorem layOut_c {c : Nat} {w : rf_w} {m m2 : rf_m} {a : Nat} (J : JCnt c w m) (ha : a < (m.1 206 16).toNatClampNeg) (ht : tal w m m2 9999 a) (h28 : m2.1 28 = m.1 28) : ∃ f, g_X3_layOut w m2 (Int32.ofNat a) = some (stc m2 18 f) ∧ ∀ k, k < 7 → f k = nwV w m a k := by
  have h80 := ang80 J.2.2.2.2.1
  have e1 : Int32.ofNat a * 9 + 1 = Int32.ofNat (9 * a + 1) := a9_6 (by omega) 1 (by omega)
  have e4 : Int32.ofNat a * 9 + 4 = Int32.ofNat (9 * a + 4) := a9_6 (by omega) 4 (by omega)
  have e5 : Int32.ofNat a * 9 + 5 = Int32.ofNat (9 * a + 5) := a9_6 (by omega) 5 (by omega)
  have z3 : (3 : Int32).toNatClampNeg = 3 := rfl
  have z4 : (4 : Int32).toNatClampNeg = 4 := rfl
  have z5 : (5 : Int32).toNatClampNeg = 5 := rfl
  have z6 : (6 : Int32).toNatClampNeg = 6 := rfl
  have hX : ∀ (X : rf_m) k x c, c ≠ 18 → (rf_i X 18 k x).1 c = X.1 c := fun X k x c hc => by rw [rf_i_c, if_neg hc]
  have s34 : (stc m2 18 (z7 (m2.1 18))).1 34 = m2.1 34 := rfl
  have s28 : (stc m2 18 (z7 (m2.1 18))).1 28 = m.1 217 := by rw [stc_c, if_neg (by decide), h28]; exact J.2.2.2.2.1.2.2.1
  unfold g_X3_layOut
  rw [clear_c]
  simp only [rf_bv]
  rw [e1, e4, e5, gof (by omega) (by decide), gof (by omega) (by decide), gof (by omega) (by decide), gof (by omega) (by decide), z3, z4, z5, z6, max_eq]
  simp only [g_t, rf_b, hX _ _ _ 34 (by decide), hX _ _ _ 28 (by decide), s34, s28]
  rw [tn_of (by omega), tn_of (by omega), tn_of (by omega), tn_of (by omega), ht.2.1, ht.2.2.2.2.1, ht.2.2.2.2.2.1, (spd_rng (a := a) J).2]
  refine ⟨pu (pu (pu (pu (z7 (m2.1 18)) 3 (Int32.ofNat (srt m 9999 (rdl m a)).length)) 4 (spdV w m a)) 5 (Int32.ofNat (kpt w m 9999 a).length)) 6 (m.1 217 a), ?_, fun k hk => ?_⟩
  · have : ∀ (f : Nat → Int32) k x, rf_i (stc m2 18 f) 18 k x = stc m2 18 (pu f k x) := fun f k x => by rw [stc_i, stc_stc, stc_c, if_pos rfl]
    rw [this, this, this, this]
  · unfold pu nwV
    have : k = 0 ∨ k = 1 ∨ k = 2 ∨ k = 3 ∨ k = 4 ∨ k = 5 ∨ k = 6 := by omega
    rcases this with rfl | rfl | rfl | rfl | rfl | rfl | rfl <;> simp [z7]
theorem nm_loop {w : rf_w} {a : Int32} : ∀ n f i (M : rf_m), i + n = 7 → n < f → ∃ g, g_X14_namesOf_2 w f a (Int32.ofNat i) M = g_X14_namesOf_2 w 1 a 7 (stc M 228 g) ∧ ∀ k, k < 7 → g k = if i ≤ k then 0 else M.1 228 k := by
  intro n
  induction n with
  | zero =>
    intro f i M hi hf
    obtain ⟨f, rfl⟩ : ∃ g, f = g + 1 := ⟨f - 1, by omega⟩
    refine ⟨M.1 228, ?_, fun k hk => by rw [if_neg (by omega)]⟩
    rw [stc_self, show i = 7 by omega]
    show g_X14_namesOf_2_b w _ a _ M = g_X14_namesOf_2_b w _ a _ M
    unfold g_X14_namesOf_2_b
    have h7 : (7 : Int32) ≤ Int32.ofNat 7 := by decide
    have h7' : (7 : Int32) ≤ 7 := by decide
    rw [if_pos h7, if_pos h7']
  | succ n ih =>
    intro f i M hi hf
    obtain ⟨f, rfl⟩ : ∃ g, f = g + 1 := ⟨f - 1, by omega⟩
    obtain ⟨g, h1, h2⟩ := ih f (i + 1) (rf_i M 228 i 0) (by omega) (by omega)
    refine ⟨g, ?_, fun k hk => ?_⟩
    · show g_X14_namesOf_2_b w (g_X14_namesOf_2 w f) a _ M = _
      unfold g_X14_namesOf_2_b
      have n7 : ¬ (7 : Int32) ≤ Int32.ofNat i := nle (R := 7) (by omega) (by decide)
      rw [if_neg n7, gof (by omega) (by decide), g_t, tn_of (by omega), of_succ, h1, show rf_i M 228 i 0 = stc M 228 (pu (M.1 228) i 0) from stc_i, stc_stc]
    · rw [h2 k hk, rf_i_c, if_pos rfl]
      unfold pu
      by_cases q : k = i
      · rw [if_neg (by omega), if_pos q, if_pos (by omega)]
      · by_cases q2 : i + 1 ≤ k
        · rw [if_pos q2, if_pos (by omega)]
        · rw [if_neg q2, if_neg q, if_neg (by omega)]
theorem namesOf_r {w : rf_w} {m M : rf_m} {a : Nat} (ha : a < 80) (hk20 : (kpt w m 9999 a).length ≤ 20) (hg : goP w m M 9999 a) (h17 : M.1 217 = m.1 217) : ∃ g, g_X14_namesOf w M (Int32.ofNat a) = some (stc M 228 g) ∧ ∀ k, k < 7 → g k = nwV w m a k := by
  obtain ⟨g, hg1, hg2⟩ := nm_loop (w := w) (a := Int32.ofNat a) 7 rf_fuel 0 M (by omega) (by unfold rf_fuel; omega)
  have hg1' : g_X14_namesOf w M (Int32.ofNat a) = g_X14_namesOf_2 w 1 (Int32.ofNat a) 7 (stc M 228 g) := hg1
  obtain ⟨p1, p2, p3, p4, p5, p6, p7⟩ := hg
  rw [hg1']
  show ∃ g', g_X14_namesOf_2_b w _ (Int32.ofNat a) 7 (stc M 228 g) = _ ∧ _
  unfold g_X14_namesOf_2_b g_X14_namesOf_56
  have z3 : (3 : Int32).toNatClampNeg = 3 := rfl
  have z4 : (4 : Int32).toNatClampNeg = 4 := rfl
  have z5 : (5 : Int32).toNatClampNeg = 5 := rfl
  have z6 : (6 : Int32).toNatClampNeg = 6 := rfl
  have g4 : rf_in (4 : Int32) 7 = true := rfl
  have hX : ∀ (X : rf_m) k x c, c ≠ 228 → (rf_i X 228 k x).1 c = X.1 c := fun X k x c hc => by rw [rf_i_c, if_neg hc]
  have s206 : (stc M 228 g).1 206 = M.1 206 := by rw [stc_c, if_neg (by decide)]
  have s217 : (stc M 228 g).1 217 = m.1 217 := by rw [stc_c, if_neg (by decide)]; exact h17
  rw [if_pos (by decide), z3, z4, z5, z6, g4, gof ha (by decide)]
  simp only [g_t, hX _ _ _ 206 (by decide), hX _ _ _ 217 (by decide), s206, s217, p1, p2, p5, p6]
  rw [tn_of (show a < 2147483648 by omega)]
  have st : ∀ (f : Nat → Int32) k x, rf_i (stc M 228 f) 228 k x = stc M 228 (pu f k x) := fun f k x => by rw [stc_i, stc_stc, stc_c, if_pos rfl]
  have hs : (if Int32.ofNat (kpt w m 9999 a).length = 0 then some (rf_i (rf_i (rf_i (rf_i (stc M 228 g) 228 3 (Int32.ofNat (srt m 9999 (rdl m a)).length)) 228 4 0) 228 5 (Int32.ofNat (kpt w m 9999 a).length)) 228 6 (m.1 217 a)) else some (rf_i (rf_i (rf_i (rf_i (stc M 228 g) 228 3 (Int32.ofNat (srt m 9999 (rdl m a)).length)) 228 4 (hiV w m 9999 a - loV w m 9999 a)) 228 5 (Int32.ofNat (kpt w m 9999 a).length)) 228 6 (m.1 217 a))) = some (stc M 228 (pu (pu (pu (pu g 3 (Int32.ofNat (srt m 9999 (rdl m a)).length)) 4 (spdV w m a)) 5 (Int32.ofNat (kpt w m 9999 a).length)) 6 (m.1 217 a))) := by
    unfold spdV hiV loV
    by_cases z : (kpt w m 9999 a).length = 0
    · have z0 : Int32.ofNat (kpt w m 9999 a).length = 0 := by rw [z]; rfl
      rw [if_pos z0, if_pos z, st, st, st, st]
    · have z0 : ¬ Int32.ofNat (kpt w m 9999 a).length = 0 := fun q => z ((of_inj (b := 0) (by omega) (by omega)).mp q)
      rw [if_neg z0, if_neg z, if_neg z, if_neg z, st, st, st, st]
  rw [hs]
  refine ⟨_, rfl, fun k hk => ?_⟩
  unfold pu nwV
  have : k = 0 ∨ k = 1 ∨ k = 2 ∨ k = 3 ∨ k = 4 ∨ k = 5 ∨ k = 6 := by omega
  rcases this with rfl | rfl | rfl | rfl | rfl | rfl | rfl <;> simp [hg2]
end PBNames
