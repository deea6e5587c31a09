/-! the class's recount, whole -/
section PBRecC
/-- what a recount leaves: m the base, m1 before, m2 after -/
def rcP (w : rf_w) (m m1 m2 : rf_m) (d : Int32) (a : Nat) : Prop := (∀ c, c ≠ 18 → c ≠ 25 → c ≠ 31 → c ≠ 32 → c ≠ 34 → c ≠ 35 → c ≠ 40 → m2.1 c = m1.1 c) ∧ (∀ r, r < 1200 → ∀ k, k < 5 → m2.1 32 (9 * r + k) = m1.1 32 (9 * r + k)) ∧ (∀ b, b ≠ a → m2.1 31 b = m1.1 31 b ∧ m2.1 40 b = m1.1 40 b ∧ ∀ k, k < 9 → m2.1 34 (9 * b + k) = m1.1 34 (9 * b + k)) ∧ m2.1 34 (9 * a + 6) = m1.1 34 (9 * a + 6) ∧ m2.1 40 a = 0 ∧ tal w m m2 d a ∧ (∀ r, r ∈ rdl m a → fact4 w m m2 d a r) ∧ (∀ r, r < 1200 → r ∉ rdl m a → ∀ k, k < 9 → m2.1 32 (9 * r + k) = m1.1 32 (9 * r + k))
theorem pu4_at {f : Nat → Int32} {r : Nat} {h s k o : Int32} : (pu (pu (pu (pu f (9 * r + 5) h) (9 * r + 6) s) (9 * r + 7) k) (9 * r + 8) o) (9 * r + 5) = h ∧ (pu (pu (pu (pu f (9 * r + 5) h) (9 * r + 6) s) (9 * r + 7) k) (9 * r + 8) o) (9 * r + 6) = s ∧ (pu (pu (pu (pu f (9 * r + 5) h) (9 * r + 6) s) (9 * r + 7) k) (9 * r + 8) o) (9 * r + 7) = k ∧ (pu (pu (pu (pu f (9 * r + 5) h) (9 * r + 6) s) (9 * r + 7) k) (9 * r + 8) o) (9 * r + 8) = o := by
  unfold pu
  refine ⟨?_, ?_, ?_, ?_⟩
  · rw [if_neg (by omega), if_neg (by omega), if_neg (by omega), if_pos rfl]
  · rw [if_neg (by omega), if_neg (by omega), if_pos rfl]
  · rw [if_neg (by omega), if_pos rfl]
  · rw [if_pos rfl]
theorem pu4_ne {f : Nat → Int32} {r i : Nat} {h s k o : Int32} (hi : i < 9 * r + 5 ∨ 9 * r + 9 ≤ i) : (pu (pu (pu (pu f (9 * r + 5) h) (9 * r + 6) s) (9 * r + 7) k) (9 * r + 8) o) i = f i := by
  unfold pu
  rw [if_neg (by omega), if_neg (by omega), if_neg (by omega), if_neg (by omega)]
theorem recount_c {w : rf_w} {m m1 : rf_m} {c a : Nat} {d : Int32} (hc : c ≤ 512) (j : JRead m) (js : JStr c w m) (ju : JRule w m) (ja : JAng m) (jm : JMark m) (ha : a < (m.1 206 16).toNatClampNeg) (hB : bas m m1) : ∃ m2, g_X3_recount w m1 (Int32.ofNat a) d = some m2 ∧ rcP w m m1 m2 d a := by
  have j' := j
  obtain ⟨c1, c2, c3, c4⟩ := j
  have ha80 : a < 80 := by have h := ja.2.1; have := tn_le h.1 h.2 (N := 80) (by decide); omega
  obtain ⟨b1, b2, b3⟩ := c4 a ha80
  obtain ⟨B0, B1, B2⟩ := hB
  have hn : (m.1 206 17).toNatClampNeg ≤ 1200 := tn_le c2.1 c2.2 (by decide)
  have e33 : m1.1 33 = m.1 33 := B0 33 (by decide) (by decide) (by decide) (by decide) (by decide) (by decide) (by decide)
  have e28 : m1.1 28 = m.1 28 := B0 28 (by decide) (by decide) (by decide) (by decide) (by decide) (by decide) (by decide)
  obtain ⟨F, hF1, hF2⟩ := sort_c (w := w) (m1 := m1) (d := d) ha80 j' ⟨B2 a ha80, e33, B1⟩
  have hs20 : (srt m d (rdl m a)).length ≤ 20 := by
    have := srt_len (m := m) (d := d) (l := rdl m a) (rdl m a).length (Nat.le_refl _)
    rw [List.take_of_length_le (Nat.le_refl _)] at this
    omega
  have E6 : Int32.ofNat a * 9 + 6 = Int32.ofNat (9 * a + 6) := a9_6 ha80 6 (by omega)
  -- the loop
  have key : ∀ n f i (mi : rf_m), i + n = (rdl m a).length → n < f → jdA m mi d a → (∀ x, x ≠ 18 → x ≠ 32 → x ≠ 35 → mi.1 x = m1.1 x) → (∀ r, r ∈ (rdl m a).take i → fact4 w m mi d a r) → (∀ r, r < 1200 → r ∉ (rdl m a).take i → ∀ k, k < 9 → mi.1 32 (9 * r + k) = m1.1 32 (9 * r + k)) → ∃ m2, g_X3_recount_77 w f (Int32.ofNat a) d (Int32.ofNat (srt m d (rdl m a)).length) (midV m d a) (Int32.ofNat (kpl w m d a ((rdl m a).take i)).length) (smL m (kpl w m d a ((rdl m a).take i))) (loL m (kpl w m d a ((rdl m a).take i))) (hiL m (kpl w m d a ((rdl m a).take i))) (Int32.ofNat i) mi = some m2 ∧ rcP w m m1 m2 d a := by
    intro n
    induction n with
    | zero =>
      intro f i mi hi hf hA hX hf4 hf5
      obtain ⟨f, rfl⟩ : ∃ g, f = g + 1 := ⟨f - 1, by omega⟩
      rw [show (rdl m a).take i = rdl m a from List.take_of_length_le (by omega)] at hf4 hf5 ⊢
      have hk20 : (kpt w m d a).length ≤ 20 := by
        have := kpl_len (w := w) (m := m) (d := d) (a := a) (l := rdl m a) (rdl m a).length (Nat.le_refl _)
        rw [List.take_of_length_le (Nat.le_refl _)] at this
        unfold kpt; omega
      show ∃ m2, g_X3_recount_77_b w _ _ d _ _ _ _ _ _ _ mi = _ ∧ _
      unfold g_X3_recount_77_b
      have e34 : mi.1 34 = m1.1 34 := hX 34 (by decide) (by decide) (by decide)
      rw [E6, gof (by omega) (by decide), g_t, tn_of (by omega), e34, B2 a ha80, b1, show i = (rdl m a).length by omega, if_pos (Int32.le_refl _)]
      obtain ⟨m2, r1, r2, r3, r4, r5⟩ := rec_fin (w := w) (m1 := mi) (a := a) (seen := Int32.ofNat (srt m d (rdl m a)).length) (mid := midV m d a) (kept := Int32.ofNat (kpt w m d a).length) (sum := smL m (kpt w m d a)) (lo := loL m (kpt w m d a)) (hi := hiL m (kpt w m d a)) (n := (kpt w m d a).length) ha80 rfl (by omega)
      refine ⟨m2, r1, ?_⟩
      have q32 : m2.1 32 = mi.1 32 := r2 32 (by decide) (by decide) (by decide)
      refine ⟨fun x h1 h2 h3 h4 h5 h6 h7 => ?_, fun r hr k hk => ?_, fun b hb => ⟨?_, ?_, fun k hk => ?_⟩, ?_, ?_, ?_, fun r hr => ?_, fun r hr hr2 k hk => ?_⟩
      · rw [r2 x h3 h5 h7]; exact hX x h1 h4 h6
      · rw [q32, hA.2.1 r hr k hk, B1 r hr k hk]
      · rw [r3, pu_ne hb, hX 31 (by decide) (by decide) (by decide)]
      · rw [r4, pu_ne hb, hX 40 (by decide) (by decide) (by decide)]
      · rw [r5, e34]
        unfold pu
        rw [if_neg (by omega), if_neg (by omega), if_neg (by omega), if_neg (by omega), if_neg (by omega), if_neg (by omega), if_neg (by omega)]
      · rw [r5, e34]
        unfold pu
        rw [if_neg (by omega), if_neg (by omega), if_neg (by omega), if_neg (by omega), if_neg (by omega), if_neg (by omega), if_neg (by omega)]
      · rw [r4, pu_at]
      · refine ⟨by rw [r3, pu_at]; rfl, ?_, ?_, ?_, ?_, ?_, ?_, ?_⟩
        all_goals rw [r5]; unfold pu
        · rw [if_neg (by omega), if_neg (by omega), if_neg (by omega), if_neg (by omega), if_neg (by omega), if_neg (by omega), if_pos rfl]; rfl
        · rw [if_neg (by omega), if_neg (by omega), if_neg (by omega), if_neg (by omega), if_neg (by omega), if_pos rfl]; rfl
        · rw [if_neg (by omega), if_neg (by omega), if_neg (by omega), if_neg (by omega), if_pos rfl]; rfl
        · rw [if_neg (by omega), if_neg (by omega), if_neg (by omega), if_pos rfl]
        · rw [if_neg (by omega), if_neg (by omega), if_pos rfl]
        · rw [if_neg (by omega), if_pos rfl]
        · rw [if_pos rfl]
      · have := hf4 r hr
        unfold fact4 at this ⊢
        rw [q32]; exact this
      · rw [q32]; exact hf5 r hr hr2 k hk
    | succ n ih =>
      intro f i mi hi hf hA hX hf4 hf5
      obtain ⟨f, rfl⟩ : ∃ g, f = g + 1 := ⟨f - 1, by omega⟩
      have hil : i < (rdl m a).length := by omega
      have hr := rds_lt _ _ (List.getElem_mem hil)
      have hr1 : (rdl m a)[i] < 1200 := by omega
      have nl : ¬ Int32.ofNat (rdl m a).length ≤ Int32.ofNat i := nle hil (by omega)
      have e20 : Int32.ofNat a * 20 + Int32.ofNat i = Int32.ofNat (20 * a + i) := by rw [Int32.ofNat_add, Int32.ofNat_mul, Int32.mul_comm]; rfl
      have e34 : mi.1 34 = m1.1 34 := hX 34 (by decide) (by decide) (by decide)
      have e33' : mi.1 33 = m1.1 33 := hX 33 (by decide) (by decide) (by decide)
      show ∃ m2, g_X3_recount_77_b w (g_X3_recount_77 w f) _ d _ _ _ _ _ _ _ mi = _ ∧ _
      unfold g_X3_recount_77_b
      rw [E6, gof (by omega) (by decide), g_t, tn_of (by omega), e34, B2 a ha80, b1, if_neg nl, e20, gof (by omega) (by decide), g_t, tn_of (by omega), e33', e33, b3 i hil]
      simp only [rf_vi]
      obtain ⟨m2, h1, h2⟩ := judge_c (w := w) (d := d) hc j' js ju ja jm ha (List.getElem_mem hil) hA
      obtain ⟨J0, J1, J2⟩ := h2
      have hA2 : jdA m m2 d a := by
        obtain ⟨A0, A1, A2, A3, A4, A5⟩ := hA
        refine ⟨fun x q1 q2 q3 q4 q5 q6 q7 => by rw [J0 x q1 q4]; exact A0 x q1 q2 q3 q4 q5 q6 q7, fun r hr k hk => ?_, by rw [J1 3 (by omega)]; exact A2, by rw [J1 4 (by omega)]; exact A3, by rw [J1 5 (by omega)]; exact A4, by rw [J1 6 (by omega)]; exact A5⟩
        rw [J2, pu4_ne (by omega)]
        exact A1 r hr k hk
      have hX2 : ∀ x, x ≠ 18 → x ≠ 32 → x ≠ 35 → m2.1 x = m1.1 x := fun x q1 q2 q3 => by rw [J0 x q1 q2]; exact hX x q1 q2 q3
      have hf42 : ∀ r, r ∈ (rdl m a).take (i + 1) → fact4 w m m2 d a r := by
        intro r hr
        rw [take_snoc hil] at hr
        by_cases e : r = (rdl m a)[i]
        · rw [e]
          unfold fact4
          rw [J2]
          exact pu4_at
        · have hr' : r ∈ (rdl m a).take i := by
            rcases List.mem_append.mp hr with q | q
            · exact q
            · exact absurd (List.mem_singleton.mp q) e
          have := hf4 r hr'
          unfold fact4 at this ⊢
          rw [J2, pu4_ne (by omega), pu4_ne (by omega), pu4_ne (by omega), pu4_ne (by omega)]
          exact this
      have hf52 : ∀ r, r < 1200 → r ∉ (rdl m a).take (i + 1) → ∀ k, k < 9 → m2.1 32 (9 * r + k) = m1.1 32 (9 * r + k) := by
        intro r hr hnr k hk
        rw [take_snoc hil] at hnr
        have e : r ≠ (rdl m a)[i] := fun q => hnr (List.mem_append.mpr (Or.inr (List.mem_singleton.mpr q)))
        rw [J2, pu4_ne (by omega)]
        exact hf5 r hr (fun q => hnr (List.mem_append.mpr (Or.inl q))) k hk
      have snoc : kpl w m d a ((rdl m a).take (i + 1)) = kpS w m d a (kpl w m d a ((rdl m a).take i)) (rdl m a)[i] := by rw [take_snoc hil, kpl_snoc]
      rw [h1]
      simp only [rf_b]
      by_cases p : keptP w m d a (rdl m a)[i]
      · rw [bi_t p, if_neg (show ¬ (1 : Int32) = 0 by decide), show (1 : Int32) = Int32.ofNat 1 from rfl, X3_factOf hr1 (by omega), hA2.2.1 _ hr1 1 (by omega), (c3 _ hr.1).2.1]
        simp only [min_eq, max_eq]
        unfold g_X3_recount_157
        rw [show Int32.ofNat i + 1 = Int32.ofNat (i + 1) from of_succ, show Int32.ofNat (kpl w m d a ((rdl m a).take i)).length + Int32.ofNat 1 = Int32.ofNat ((kpl w m d a ((rdl m a).take i)).length + 1) from of_succ]
        have := ih f (i + 1) m2 (by omega) (by omega) hA2 hX2 hf42 hf52
        rw [snoc, kpS_t p, smL_snoc, loL_snoc, hiL_snoc, List.length_append] at this
        exact this
      · rw [bi_f p, if_pos rfl]
        unfold g_X3_recount_157
        rw [of_succ]
        have := ih f (i + 1) m2 (by omega) (by omega) hA2 hX2 hf42 hf52
        rw [snoc, kpS_f p] at this
        exact this
  have start : ∀ mm : rf_m, mm = stc m1 35 F → ∃ m2, g_X3_recount_26 w (Int32.ofNat a) d (Int32.ofNat (srt m d (rdl m a)).length) (midV m d a) mm = some m2 ∧ rcP w m m1 m2 d a := by
    rintro mm rfl
    unfold g_X3_recount_26
    rw [clear_c]
    simp only [rf_bv]
    rw [gof ha80 (by decide), g_t, tn_of (by omega)]
    have z3 : (3 : Int32).toNatClampNeg = 3 := rfl
    have z6 : (6 : Int32).toNatClampNeg = 6 := rfl
    rw [z3, z6]
    have := key (rdl m a).length rf_fuel 0 (rf_i (rf_i (stc (stc m1 35 F) 18 (z7 ((stc m1 35 F).1 18))) 18 3 (Int32.ofNat (srt m d (rdl m a)).length)) 18 6 ((rf_i (stc (stc m1 35 F) 18 (z7 ((stc m1 35 F).1 18))) 18 3 (Int32.ofNat (srt m d (rdl m a)).length)).1 28 a)) (by omega) (by unfold rf_fuel; omega) ?_ ?_ ?_ ?_
    · exact this
    · refine ⟨fun x q1 q2 q3 q4 q5 q6 q7 => ?_, fun r hr k hk => ?_, ?_, ?_, ?_, ?_⟩
      · rw [rf_i_c, if_neg q1, rf_i_c, if_neg q1, stc_c, if_neg q1, stc_c, if_neg q6]; exact B0 x q1 q2 q3 q4 q5 q6 q7
      · rw [rf_i_c, if_neg (by decide), rf_i_c, if_neg (by decide), stc_c, if_neg (by decide), stc_c, if_neg (by decide)]; exact B1 r hr k hk
      · simp [rf_i_c, stc_c, pu]
      · simp [rf_i_c, stc_c, pu, z7]
      · simp [rf_i_c, stc_c, pu, z7]
      · simp only [rf_i_c, stc_c, if_true, Nat.reduceEqDiff, if_false, pu]
        rw [e28, ja.2.2.1]
    · intro x q1 q2 q3
      rw [rf_i_c, if_neg q1, rf_i_c, if_neg q1, stc_c, if_neg q1, stc_c, if_neg q3]
    · intro r hr; simp at hr
    · intro r _ _ k _
      rw [rf_i_c, if_neg (by decide), rf_i_c, if_neg (by decide), stc_c, if_neg (by decide), stc_c, if_neg (by decide)]
  unfold g_X3_recount
  rw [hF1]
  simp only [rf_b]
  by_cases z : (srt m d (rdl m a)).length = 0
  · rw [if_pos (by rw [z]; rfl)]
    have : midV m d a = -2 := by unfold midV; rw [List.length_eq_zero_iff.mp z]
    have h := start _ rfl
    rw [this] at h
    exact h
  · have z1 : ¬ Int32.ofNat (srt m d (rdl m a)).length = 0 := fun q => z ((of_inj (b := 0) (by omega) (by omega)).mp q)
    rw [if_neg z1]
    obtain ⟨k, hk⟩ : ∃ k, (srt m d (rdl m a)).length = k + 1 := ⟨(srt m d (rdl m a)).length - 1, by omega⟩
    have ediv : (Int32.ofNat (srt m d (rdl m a)).length - 1) / 2 = Int32.ofNat (((srt m d (rdl m a)).length - 1) / 2) := by
      rw [hk, ofm1', i_eq, divI (by decide), ofI (by omega), ofI (by omega)]
      show (k : Int).tdiv (2 : Int) = _
      rw [Int.tdiv_eq_ediv_of_nonneg (by omega)]
      omega
    rw [ediv, gof (by omega) (by decide), g_t, tn_of (by omega), show (stc m1 35 F).1 35 = F from by rw [stc_c, if_pos rfl], mid_of hF2 z]
    exact start _ rfl
end PBRecC
