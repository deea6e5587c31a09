/-! the class's judging -/
section PBJudgeC
/-- the four facts that judging writes -/
def wr4 (m : rf_m) (r : Nat) (h s k o : Int32) : rf_m := rf_i (rf_i (rf_i (rf_i m 32 (9 * r + 5) h) 32 (9 * r + 6) s) 32 (9 * r + 7) k) 32 (9 * r + 8) o
theorem judge142 {w : rf_w} {m : rf_m} {r : Nat} {a5 a6 off sk : Int32} (hr : r < 1200) (h6 : a6 = 0 ∨ a6 = 1) : g_X3_judge_142 w (Int32.ofNat (9 * r)) a5 a6 off sk m = some (bi (a5 ≠ 0 ∧ a6 = 0 ∧ sk = -2), wr4 m r a6 sk (bi (a5 ≠ 0 ∧ a6 = 0 ∧ sk = -2)) off) := by
  have e : ∀ k, k < 9 → Int32.ofNat (9 * r) + Int32.ofNat k = Int32.ofNat (9 * r + k) := fun k _ => (Int32.ofNat_add _ _).symm
  have e5 : Int32.ofNat (9 * r) + 5 = Int32.ofNat (9 * r + 5) := e 5 (by omega)
  have e6 : Int32.ofNat (9 * r) + 6 = Int32.ofNat (9 * r + 6) := e 6 (by omega)
  have e7 : Int32.ofNat (9 * r) + 7 = Int32.ofNat (9 * r + 7) := e 7 (by omega)
  have e8 : Int32.ofNat (9 * r) + 8 = Int32.ofNat (9 * r + 8) := e 8 (by omega)
  have o1 : ¬ (1 : Int32) = 0 := by decide
  have fin : ∀ s0 : Int32, (s0 = 0 ∨ s0 = 1) → g_X3_judge_164 w (Int32.ofNat (9 * r)) a6 off sk s0 m = some (s0, wr4 m r a6 sk s0 off) := by
    intro s0 hs0
    have g01 : rf_01 s0 = true := by rcases hs0 with q | q <;> rw [q] <;> rfl
    unfold g_X3_judge_164 g_X3_judge_184 wr4
    rw [e5, e6, e7, e8, gof (by omega) (by decide), gof (by omega) (by decide), gof (by omega) (by decide), gof (by omega) (by decide), g01, tn_of (by omega), tn_of (by omega), tn_of (by omega), tn_of (by omega)]
    simp only [g_t]
    rcases h6 with rfl | rfl
    · rw [if_pos rfl]
      rcases hs0 with rfl | rfl
      · rw [if_pos rfl]
      · rw [if_neg o1]
    · rw [if_neg o1]
      rcases hs0 with rfl | rfl
      · rw [if_pos rfl]
      · rw [if_neg o1]
  unfold g_X3_judge_142 g_X3_judge_163
  by_cases p : a5 ≠ 0 ∧ a6 = 0 ∧ sk = -2
  · rw [bi_t p, if_neg p.1, if_pos p.2.1, if_pos p.2.2]
    exact fin 1 (Or.inr rfl)
  · rw [bi_f p]
    by_cases q1 : a5 = 0
    · rw [if_pos q1]; exact fin 0 (Or.inl rfl)
    · rw [if_neg q1]
      by_cases q2 : a6 = 0
      · rw [if_pos q2, if_neg (fun q3 => p ⟨q1, q2, q3⟩)]; exact fin 0 (Or.inl rfl)
      · rw [if_neg q2]; exact fin 0 (Or.inl rfl)
/-- what judging leaves: all but the rows of names, of longs and of facts; the facts of r -/
def jd2 (m1 m2 : rf_m) (r : Nat) (h s k o : Int32) : Prop := (∀ c, c ≠ 18 → c ≠ 32 → m2.1 c = m1.1 c) ∧ (∀ i, 3 ≤ i → m2.1 18 i = m1.1 18 i) ∧ m2.1 32 = pu (pu (pu (pu (m1.1 32) (9 * r + 5) h) (9 * r + 6) s) (9 * r + 7) k) (9 * r + 8) o
theorem jd2_of {m1 M : rf_m} {r : Nat} {h s k o : Int32} (f1 : ∀ c, c ≠ 18 → M.1 c = m1.1 c) (f2 : ∀ i, 3 ≤ i → M.1 18 i = m1.1 18 i) : jd2 m1 (wr4 M r h s k o) r h s k o := by
  refine ⟨fun c h1 h2 => ?_, fun i hi => ?_, ?_⟩
  · unfold wr4
    rw [rf_i_c, if_neg h2, rf_i_c, if_neg h2, rf_i_c, if_neg h2, rf_i_c, if_neg h2]
    exact f1 c h1
  · unfold wr4
    rw [rf_i_c, if_neg (by decide), rf_i_c, if_neg (by decide), rf_i_c, if_neg (by decide), rf_i_c, if_neg (by decide)]
    exact f2 i hi
  · unfold wr4
    rw [rf_i_c, if_pos rfl, rf_i_c, if_pos rfl, rf_i_c, if_pos rfl, rf_i_c, if_pos rfl, f1 32 (by decide)]
noncomputable def offV (m : rf_m) (d : Int32) (a r : Nat) : Int32 := @ite _ (okP m d r) (Classical.propDecidable _) (ab (m.1 221 r - midV m d a)) (-2)
noncomputable def strV (m : rf_m) (d : Int32) (a r : Nat) : Int32 := @ite _ (okP m d r) (Classical.propDecidable _) (skV m d a r) (-2)
theorem judge_c {w : rf_w} {m m1 : rf_m} {c a r : Nat} {d : Int32} (hc : c ≤ 512) (j : JRead m) (js : JStr c w m) (ju : JRule w m) (ja : JAng m) (jm : JMark m) (ha : a < (m.1 206 16).toNatClampNeg) (hr : r ∈ rdl m a) (hA : jdA m m1 d a) : ∃ m2, g_X3_judge w m1 (Int32.ofNat r) (midV m d a) d = some (bi (keptP w m d a r), m2) ∧ jd2 m1 m2 r (svV w m r d) (strV m d a r) (bi (keptP w m d a r)) (offV m d a r) := by
  have j' := j
  have ju' := jdA_rule ju hA
  obtain ⟨c1, c2, c3, c4⟩ := j
  have hrn := rds_lt _ _ hr
  have hn : (m.1 206 17).toNatClampNeg ≤ 1200 := tn_le c2.1 c2.2 (by decide)
  have hr1 : r < 1200 := by omega
  obtain ⟨f0, f1, f2, f3, f4, _⟩ := c3 r hrn.1
  have hAA := hA
  obtain ⟨A0, A1, A2, A3, A4, A5⟩ := hA
  have g1 : m1.1 32 (9 * r + 1) = m.1 221 r := by rw [A1 r hr1 1 (by omega), f1]
  have g2 : m1.1 32 (9 * r + 2) = m.1 222 r := by rw [A1 r hr1 2 (by omega), f2]
  have g3 : m1.1 32 (9 * r + 3) = m.1 223 r := by rw [A1 r hr1 3 (by omega), f3]
  have g4 : m1.1 32 (9 * r + 4) = m.1 224 r := by rw [A1 r hr1 4 (by omega), f4]
  have ec : ∀ x, (x = 36 ∨ x = 37 ∨ x = 38 ∨ x = 39 ∨ x = 206 ∨ x = 225 ∨ 306 ≤ x) → m1.1 x = m.1 x := fun x hx => A0 x (by omega) (by omega) (by omega) (by omega) (by omega) (by omega) (by omega)
  have hst := struck_m (w := w) (m1 := m1) (d := d) hc js hrn.1 hr1 (ec 36 (by omega)) (ec 37 (by omega)) (ec 38 (by omega)) (ec 39 (by omega)) (by rw [ec 206 (by omega)]) (ec 225 (by omega)) (fun x hx => ec x (by omega))
  have h01 := (struck_r (w := w) (M := m) (d := d) hc js hrn.1 hr1 rfl rfl rfl rfl (fun _ _ => rfl)).2.2
  have eA : Int32.ofNat r * 9 = Int32.ofNat (9 * r) := by rw [Int32.ofNat_mul, Int32.mul_comm]; rfl
  have eN : ∀ k, k < 9 → Int32.ofNat (9 * r) + Int32.ofNat k = Int32.ofNat (9 * r + k) := fun k _ => (Int32.ofNat_add _ _).symm
  have e1 : Int32.ofNat (9 * r) + 1 = Int32.ofNat (9 * r + 1) := eN 1 (by omega)
  have e2 : Int32.ofNat (9 * r) + 2 = Int32.ofNat (9 * r + 2) := eN 2 (by omega)
  have e3 : Int32.ofNat (9 * r) + 3 = Int32.ofNat (9 * r + 3) := eN 3 (by omega)
  have e4 : Int32.ofNat (9 * r) + 4 = Int32.ofNat (9 * r + 4) := eN 4 (by omega)
  have o1 : ¬ (1 : Int32) = 0 := by decide
  -- it doesn't count
  have no : ¬ okP m d r → ∃ m2, g_X3_judge_31 w (Int32.ofNat r) (midV m d a) d (Int32.ofNat (9 * r)) m1 = some (bi (keptP w m d a r), m2) ∧ jd2 m1 m2 r (svV w m r d) (strV m d a r) (bi (keptP w m d a r)) (offV m d a r) := by
    intro hk
    unfold g_X3_judge_31 g_X3_judge_32
    rw [hst]
    simp only [rf_b, if_true]
    unfold g_X3_judge_66
    rw [if_pos rfl, judge142 hr1 h01]
    have n1 : ¬ ((0 : Int32) ≠ 0 ∧ svV w m r d = 0 ∧ (-2 : Int32) = -2) := fun q => q.1 rfl
    have n2 : ¬ keptP w m d a r := fun q => hk q.1
    rw [bi_f n1, bi_f n2]
    have eo : offV m d a r = -2 := if_neg hk
    have es : strV m d a r = -2 := if_neg hk
    rw [eo, es]
    exact ⟨_, rfl, jd2_of (fun _ _ => rfl) (fun _ _ => rfl)⟩
  unfold g_X3_judge
  rw [X3_isSeen hr1, g1, eA]
  simp only [rf_b]
  by_cases p1 : m.1 221 r ≠ -2
  · rw [bi_t p1, if_neg o1, e4, gof (by omega) (by decide), g_t, tn_of (by omega), g4]
    by_cases p2 : d < m.1 224 r
    · rw [if_pos p2]
      exact no (fun q => by have := q.2; clear c3 c4; grind)
    · rw [if_neg p2]
      have hk : okP m d r := ⟨p1, by clear c3 c4; grind⟩
      have hs20 : (srt m d (rdl m a)).length ≤ 20 := by
        have b2 := (c4 a (by have := ja.2.1; have := tn_le this.1 this.2 (N := 80) (by decide); omega)).2.1
        have := srt_len (m := m) (d := d) (l := rdl m a) (rdl m a).length (Nat.le_refl _)
        rw [List.take_of_length_le (Nat.le_refl _)] at this
        omega
      have hN := nm_ok j' ja jm ha hr hk hs20
      unfold g_X3_judge_32
      rw [hst]
      simp only [rf_b]
      rw [if_neg o1, e1, gof (by omega) (by decide), g_t, tn_of (by omega), g1, abs_eq]
      simp only
      unfold g_X3_judge_66
      rw [if_neg o1, e2, e3, e4, gof (by omega) (by decide), gof (by omega) (by decide), gof (by omega) (by decide), g_t, g_t, g_t, tn_of (by omega), tn_of (by omega), tn_of (by omega)]
      have z0 : (0 : Int32).toNatClampNeg = 0 := rfl
      have z1 : (1 : Int32).toNatClampNeg = 1 := rfl
      have z2 : (2 : Int32).toNatClampNeg = 2 := rfl
      rw [z0, z1, z2]
      -- the names
      have h32 : ∀ (M : rf_m) k x, (rf_i M 18 k x).1 32 = M.1 32 := fun M k x => by rw [rf_i_c, if_neg (by decide)]
      simp only [h32, g2, g3, g4]
      generalize hM : rf_i (rf_i (rf_i m1 18 0 (ab (m.1 221 r - midV m d a))) 18 1 (m.1 222 r)) 18 2 (m.1 223 r) = M
      have M18 : M.1 18 = pu (pu (pu (m1.1 18) 0 (ab (m.1 221 r - midV m d a))) 1 (m.1 222 r)) 2 (m.1 223 r) := by
        rw [← hM, rf_i_c, if_pos rfl, rf_i_c, if_pos rfl, rf_i_c, if_pos rfl]
      have Mc : ∀ x, x ≠ 18 → M.1 x = m1.1 x := fun x hx => by
        rw [← hM, rf_i_c, if_neg hx, rf_i_c, if_neg hx, rf_i_c, if_neg hx]
      have Nn : ∀ i, i < 7 → M.1 18 i = nmV m d a r i := by
        intro i hi
        rw [M18]
        unfold pu nmV
        have : i = 0 ∨ i = 1 ∨ i = 2 ∨ i = 3 ∨ i = 4 ∨ i = 5 ∨ i = 6 := by omega
        rcases this with rfl | rfl | rfl | rfl | rfl | rfl | rfl
        · simp
        · simp
        · simp
        · simp [A2]
        · simp [A3]
        · simp [A4]
        · simp [A5]
      have juM : JRule w M := by
        have : M = stc m1 18 (M.1 18) := stc_eq rfl Mc (by rw [← hM]; rfl)
        rw [this]
        exact JRule_18 ju'
      have nokM : nok (M.1 18) := fun i hi => by rw [Nn i hi]; exact hN i hi
      obtain ⟨F, hF⟩ := striker_c (w := w) (d := m.1 224 r) juM nokM
      have esk : stkV M (M.1 18) (m.1 224 r) = skV m d a r := by
        rw [stkV_N (N' := nmV m d a r) Nn]
        have hA' : jdA m M d a := ⟨fun x b1 b2 b3 b4 b5 b6 b7 => by rw [Mc x b1]; exact A0 x b1 b2 b3 b4 b5 b6 b7, fun q hq k hk => by rw [Mc 32 (by decide)]; exact A1 q hq k hk, by rw [Nn 3 (by omega)]; rfl, by rw [Nn 4 (by omega)]; rfl, by rw [Nn 5 (by omega)]; rfl, by rw [Nn 6 (by omega)]; rfl⟩
        exact jdA_stk hA' _ _
      rw [hF, esk]
      simp only [rf_b]
      rw [judge142 hr1 h01]
      have hkk : ((1 : Int32) ≠ 0 ∧ svV w m r d = 0 ∧ skV m d a r = -2) ↔ keptP w m d a r := ⟨fun q => ⟨hk, q.2⟩, fun q => ⟨o1, q.2⟩⟩
      rw [bi_congr hkk]
      have eo : offV m d a r = ab (m.1 221 r - midV m d a) := if_pos hk
      have es : strV m d a r = skV m d a r := if_pos hk
      rw [eo, es]
      refine ⟨_, rfl, jd2_of (fun x hx => by rw [stl_i]; exact Mc x hx) (fun i hi => ?_)⟩
      rw [stl_i, M18]
      unfold pu
      rw [if_neg (by omega), if_neg (by omega), if_neg (by omega)]
  · rw [bi_f p1, if_pos rfl]
    exact no (fun q => p1 q.1)
end PBJudgeC
