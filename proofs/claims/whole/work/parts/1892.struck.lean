/-! strikes by hand: the class's chains against the reference's log -/
section PBStr
/-- the last one below s that is of r, else -1 -/
def lastLog (R : Nat → Int32) (r : Int32) : Nat → Int32
  | 0 => -1
  | s + 1 => if R s = r then Int32.ofNat s else lastLog R r s
/-- what was told last of r by day d -/
def strk (R D I : Nat → Int32) (r d : Int32) : Nat → Int32
  | 0 => 0
  | s + 1 => if R s = r ∧ D s ≤ d then I s else strk R D I r d s
/-- the log's rows -/
def lgR (m : rf_m) (l : Nat) : Nat → Int32 := fun s => m.1 l (3 * s)
def lgD (m : rf_m) (l : Nat) : Nat → Int32 := fun s => m.1 l (3 * s + 1)
def lgI (m : rf_m) (l : Nat) : Nat → Int32 := fun s => m.1 l (3 * s + 2)
def JStr (c : Nat) (w : rf_w) (m : rf_m) : Prop := ∃ l len, w.2.2 1 = some l ∧ rf_al w l = some len ∧ (l = 225 ∨ 306 ≤ l) ∧ len ≤ 3072 ∧ m.1 26 17 = m.1 206 18 ∧ 0 ≤ m.1 206 18 ∧ (m.1 206 18).toNatClampNeg ≤ c ∧ 3 * (m.1 206 18).toNatClampNeg ≤ len ∧ (∀ s, s < (m.1 206 18).toNatClampNeg → m.1 37 s = lgD m l s ∧ m.1 39 s = lgI m l s ∧ (lgI m l s = 0 ∨ lgI m l s = 1) ∧ lgD m l s ≤ m.1 206 5 ∧ m.1 38 s = lastLog (lgR m l) (lgR m l s) s) ∧ (∀ r, r < (m.1 206 17).toNatClampNeg → m.1 36 r = lastLog (lgR m l) (Int32.ofNat r) (m.1 206 18).toNatClampNeg ∧ m.1 216 r = strk (lgR m l) (lgD m l) (lgI m l) (Int32.ofNat r) (m.1 206 5) (m.1 206 18).toNatClampNeg)
theorem strk_01 {R D I : Nat → Int32} {r d : Int32} : ∀ s, (∀ i, i < s → I i = 0 ∨ I i = 1) → strk R D I r d s = 0 ∨ strk R D I r d s = 1 := by
  intro s
  induction s with
  | zero => intro _; exact Or.inl rfl
  | succ s ih =>
    intro h
    unfold strk
    split
    · exact h s (by omega)
    · exact ih (fun i hi => h i (by omega))
/-- on the way back through those of r none is passed over -/
theorem lastLog_cases (R : Nat → Int32) (r : Int32) : ∀ s, (lastLog R r s = -1 ∧ ∀ i, i < s → R i ≠ r) ∨ ∃ k, k < s ∧ lastLog R r s = Int32.ofNat k ∧ R k = r ∧ ∀ i, k < i → i < s → R i ≠ r := by
  intro s
  induction s with
  | zero => exact Or.inl ⟨rfl, fun i hi => absurd hi (by omega)⟩
  | succ s ih =>
    unfold lastLog
    by_cases e : R s = r
    · rw [if_pos e]
      exact Or.inr ⟨s, by omega, rfl, e, fun i h1 h2 => absurd h1 (by omega)⟩
    · rw [if_neg e]
      rcases ih with ⟨h1, h2⟩ | ⟨k, h1, h2, h3, h4⟩
      · refine Or.inl ⟨h1, fun i hi => ?_⟩
        by_cases q : i = s
        · rw [q]; exact e
        · exact h2 i (by omega)
      · refine Or.inr ⟨k, by omega, h2, h3, fun i a b => ?_⟩
        by_cases q : i = s
        · rw [q]; exact e
        · exact h4 i a (by omega)
theorem strk_skip {R D I : Nat → Int32} {r d : Int32} {k : Nat} : ∀ s, k ≤ s → (∀ i, k ≤ i → i < s → R i ≠ r) → strk R D I r d s = strk R D I r d k := by
  intro s
  induction s with
  | zero => intro h _; rw [show k = 0 by omega]
  | succ s ih =>
    intro h h2
    by_cases e : k = s + 1
    · rw [e]
    · rw [show strk R D I r d (s + 1) = strk R D I r d s by
        show (if R s = r ∧ D s ≤ d then I s else _) = _
        rw [if_neg (fun q => h2 s (by omega) (by omega) q.1)]]
      exact ih (by omega) (fun i a b => h2 i a (by omega))
theorem struck_c {w : rf_w} {m : rf_m} {c : Nat} {r : Nat} {d : Int32} {l : Nat} (hc : c ≤ 512) (hn : (m.1 206 18).toNatClampNeg ≤ c) (H : ∀ s, s < (m.1 206 18).toNatClampNeg → m.1 37 s = lgD m l s ∧ m.1 39 s = lgI m l s ∧ (lgI m l s = 0 ∨ lgI m l s = 1) ∧ m.1 38 s = lastLog (lgR m l) (lgR m l s) s) (hr : r < 1200) (h36 : m.1 36 r = lastLog (lgR m l) (Int32.ofNat r) (m.1 206 18).toNatClampNeg) : g_X3_isStruck w m (Int32.ofNat r) d = some (strk (lgR m l) (lgD m l) (lgI m l) (Int32.ofNat r) d (m.1 206 18).toNatClampNeg, m) := by
  have key : ∀ s f j, s ≤ (m.1 206 18).toNatClampNeg → j + s ≤ (m.1 206 18).toNatClampNeg → s < f → g_X3_isStruck_10 w f d (lastLog (lgR m l) (Int32.ofNat r) s) (Int32.ofNat j) m = some (strk (lgR m l) (lgD m l) (lgI m l) (Int32.ofNat r) d s, m) := by
    intro s
    induction s using Nat.strongRecOn with
    | ind s ih =>
      intro f j hs hj hf
      obtain ⟨f, rfl⟩ : ∃ g, f = g + 1 := ⟨f - 1, by omega⟩
      show g_X3_isStruck_10_b w (g_X3_isStruck_10 w f) d _ _ m = _
      unfold g_X3_isStruck_10_b
      rcases lastLog_cases (lgR m l) (Int32.ofNat r) s with ⟨h1, h2⟩ | ⟨k, h1, h2, h3, h4⟩
      · rw [h1, if_pos rfl]
        have e : strk (lgR m l) (lgD m l) (lgI m l) (Int32.ofNat r) d s = 0 := by
          rw [strk_skip (k := 0) s (by omega) (fun i _ hi => h2 i hi)]; rfl
        rw [e]
        split <;> rfl
      · have j512 : ¬ (512 : Int32) ≤ Int32.ofNat j := nle (R := 512) (by omega) (by decide)
        have kn : ¬ Int32.ofNat k = -1 := of_ne_m1 (by omega)
        obtain ⟨a1, a2, a3, a4⟩ := H k (by omega)
        have g : rf_in (Int32.ofNat k) 512 = true := gof (by omega) (by decide)
        have es : strk (lgR m l) (lgD m l) (lgI m l) (Int32.ofNat r) d s = strk (lgR m l) (lgD m l) (lgI m l) (Int32.ofNat r) d (k + 1) := strk_skip s (by omega) (fun i a b => h4 i (by omega) b)
        rw [if_neg j512, h2, if_neg kn, g, g_t, tn_of (by omega), a1, es]
        show _ = some (if lgR m l k = Int32.ofNat r ∧ lgD m l k ≤ d then lgI m l k else strk (lgR m l) (lgD m l) (lgI m l) (Int32.ofNat r) d k, m)
        by_cases q : d < lgD m l k
        · rw [if_pos q, g_t, a4, h3, if_neg (fun z => by have := z.2; clear H; grind)]
          simp only [rf_vi]
          rw [of_succ]
          exact ih k h1 f (j + 1) (by omega) (by omega) (by omega)
        · rw [if_neg q, g_t, a2, if_pos ⟨h3, by clear H; grind⟩]
          have g01 : rf_01 (lgI m l k) = true := by rcases a3 with z | z <;> rw [z] <;> rfl
          rw [g01, g_t]
  unfold g_X3_isStruck
  rw [gof hr (by decide), g_t, tn_of (by omega), h36]
  exact key _ rf_fuel 0 (Nat.le_refl _) (by omega) (by unfold rf_fuel; omega)
/-- whether r is struck by hand, as told by day d -/
def svV (w : rf_w) (m : rf_m) (r : Nat) (d : Int32) : Int32 := strk (lgR m ((w.2.2 1).getD 0)) (lgD m ((w.2.2 1).getD 0)) (lgI m ((w.2.2 1).getD 0)) (Int32.ofNat r) d (m.1 206 18).toNatClampNeg
theorem struck_r {w : rf_w} {m M : rf_m} {c : Nat} {r : Nat} {d : Int32} (hc : c ≤ 512) (j : JStr c w m) (hr : r < (m.1 206 17).toNatClampNeg) (hr2 : r < 1200) (q1 : M.1 206 18 = m.1 206 18) (q2 : M.1 206 5 = m.1 206 5) (q3 : M.1 216 = m.1 216) (q4 : M.1 225 = m.1 225) (q5 : ∀ a, 306 ≤ a → M.1 a = m.1 a) : g_X3_isStruck w m (Int32.ofNat r) d = some (svV w m r d, m) ∧ g_X14_isStruckBy w M (Int32.ofNat r) d = some (svV w m r d, M) ∧ (svV w m r d = 0 ∨ svV w m r d = 1) := by
  obtain ⟨l, len, j1, j2, j3, j4, j5, j6, j7, j8, j9, ja⟩ := j
  have hM : M.1 l = m.1 l := by rcases j3 with rfl | h; exact q4; exact q5 l h
  have hcl := struck_c (w := w) (d := d) hc j7 (fun s hs => ⟨(j9 s hs).1, (j9 s hs).2.1, (j9 s hs).2.2.1, (j9 s hs).2.2.2.2⟩) hr2 (ja r hr).1
  have h01 := strk_01 (R := lgR m l) (D := lgD m l) (I := lgI m l) (r := Int32.ofNat r) (d := d) (m.1 206 18).toNatClampNeg (fun i hi => (j9 i hi).2.2.1)
  have es0 : svV w m r d = strk (lgR m l) (lgD m l) (lgI m l) (Int32.ofNat r) d (m.1 206 18).toNatClampNeg := by unfold svV; rw [j1]; rfl
  rw [es0]
  refine ⟨hcl, ?_, h01⟩
  unfold g_X14_isStruckBy
  have hn := of_tn j6
  by_cases hd : d < M.1 206 5
  · rw [if_pos hd]
    have key : ∀ n f i (b : Int32), i + n = (m.1 206 18).toNatClampNeg → n < f → b = strk (lgR m l) (lgD m l) (lgI m l) (Int32.ofNat r) d i → g_X14_isStruckBy_20 w f (Int32.ofNat r) d b (Int32.ofNat i) M = some (strk (lgR m l) (lgD m l) (lgI m l) (Int32.ofNat r) d (m.1 206 18).toNatClampNeg, M) := by
      intro n
      induction n with
      | zero =>
        intro f i b hi hf hb
        obtain ⟨f, rfl⟩ : ∃ g, f = g + 1 := ⟨f - 1, by omega⟩
        show g_X14_isStruckBy_20_b w _ _ d b _ M = _
        unfold g_X14_isStruckBy_20_b
        rw [show i = (m.1 206 18).toNatClampNeg by omega] at hb ⊢
        rw [hn, q1, if_pos (Int32.le_refl _), hb]
        have : rf_01 (strk (lgR m l) (lgD m l) (lgI m l) (Int32.ofNat r) d (m.1 206 18).toNatClampNeg) = true := by rcases h01 with z | z <;> rw [z] <;> rfl
        rw [this, g_t]
      | succ n ih =>
        intro f i b hi hf hb
        obtain ⟨f, rfl⟩ : ∃ g, f = g + 1 := ⟨f - 1, by omega⟩
        show g_X14_isStruckBy_20_b w (g_X14_isStruckBy_20 w f) _ d b _ M = _
        unfold g_X14_isStruckBy_20_b g_X14_isStruckBy_77 g_X14_isStruckBy_78
        have h1 : ¬ m.1 206 18 ≤ Int32.ofNat i := by rw [← hn]; exact nle (by omega) (by omega)
        have e0 : (3 : Int32) * Int32.ofNat i = Int32.ofNat (3 * i) := by rw [Int32.ofNat_mul]; rfl
        have e1 : Int32.ofNat (3 * i) + 1 = Int32.ofNat (3 * i + 1) := of_succ
        have e2 : Int32.ofNat (3 * i) + 2 = Int32.ofNat (3 * i + 2) := (Int32.ofNat_add _ 2).symm
        obtain ⟨_, _, a3, _, _⟩ := j9 i (by omega)
        rw [q1, if_neg h1, j1]
        simp only [rf_o, j2]
        rw [e0, e1, e2, gof (by omega) (by omega), gof (by omega) (by omega), gof (by omega) (by omega), g_t, tn_of (by omega), tn_of (by omega), tn_of (by omega), hM, of_succ]
        simp only [g_t]
        have es : strk (lgR m l) (lgD m l) (lgI m l) (Int32.ofNat r) d (i + 1) = if lgR m l i = Int32.ofNat r ∧ lgD m l i ≤ d then lgI m l i else strk (lgR m l) (lgD m l) (lgI m l) (Int32.ofNat r) d i := rfl
        by_cases p : m.1 l (3 * i) = Int32.ofNat r
        · rw [if_pos p]
          by_cases p2 : d < m.1 l (3 * i + 1)
          · rw [if_pos p2]
            refine ih f (i + 1) b (by omega) (by omega) ?_
            rw [es, if_neg (fun z => by have z2 : m.1 l (3 * i + 1) ≤ d := z.2; clear j9 ja; grind)]; exact hb
          · rw [if_neg p2]
            have p3 : lgR m l i = Int32.ofNat r ∧ lgD m l i ≤ d := ⟨p, by show m.1 l (3 * i + 1) ≤ d; clear j9 ja; grind⟩
            by_cases p4 : m.1 l (3 * i + 2) = 1
            · rw [if_pos p4]
              refine ih f (i + 1) 1 (by omega) (by omega) ?_
              rw [es, if_pos p3]; exact p4.symm
            · rw [if_neg p4]
              refine ih f (i + 1) 0 (by omega) (by omega) ?_
              rw [es, if_pos p3]
              rcases a3 with z | z
              · exact z.symm
              · exact absurd z p4
        · rw [if_neg p]
          refine ih f (i + 1) b (by omega) (by omega) ?_
          rw [es, if_neg (fun z => p z.1)]; exact hb
    exact key (m.1 206 18).toNatClampNeg rf_fuel 0 0 (by omega) (by unfold rf_fuel; omega) rfl
  · rw [if_neg hd]
    have e : strk (lgR m l) (lgD m l) (lgI m l) (Int32.ofNat r) d (m.1 206 18).toNatClampNeg = m.1 216 r := by
      rw [(ja r hr).2]
      have key : ∀ s, s ≤ (m.1 206 18).toNatClampNeg → strk (lgR m l) (lgD m l) (lgI m l) (Int32.ofNat r) d s = strk (lgR m l) (lgD m l) (lgI m l) (Int32.ofNat r) (m.1 206 5) s := by
        intro s
        induction s with
        | zero => intro _; rfl
        | succ s ih =>
          intro hs
          have b := (j9 s (by omega)).2.2.2.1
          unfold strk
          have b2 : lgD m l s ≤ d := by rw [q2] at hd; clear j9 ja; grind
          rw [ih (by omega)]
          by_cases p : lgR m l s = Int32.ofNat r
          · rw [if_pos ⟨p, b2⟩, if_pos ⟨p, b⟩]
          · rw [if_neg (fun z => p z.1), if_neg (fun z => p z.1)]
      exact key _ (Nat.le_refl _)
    rw [gof hr2 (by decide), g_t, tn_of (by omega), q3, ← e]
    have : rf_01 (strk (lgR m l) (lgD m l) (lgI m l) (Int32.ofNat r) d (m.1 206 18).toNatClampNeg) = true := by rcases h01 with z | z <;> rw [z] <;> rfl
    rw [this, g_t]
/-- the class's memory m1 has m's strikes -/
theorem struck_m {w : rf_w} {m m1 : rf_m} {c r : Nat} {d : Int32} (hc : c ≤ 512) (j : JStr c w m) (hr : r < (m.1 206 17).toNatClampNeg) (hr2 : r < 1200) (e1 : m1.1 36 = m.1 36) (e2 : m1.1 37 = m.1 37) (e3 : m1.1 38 = m.1 38) (e4 : m1.1 39 = m.1 39) (e5 : m1.1 206 18 = m.1 206 18) (e6 : m1.1 225 = m.1 225) (e7 : ∀ a, 306 ≤ a → m1.1 a = m.1 a) : g_X3_isStruck w m1 (Int32.ofNat r) d = some (svV w m r d, m1) := by
  obtain ⟨l, len, j1, j2, j3, j4, j5, j6, j7, j8, j9, ja⟩ := j
  have hM : m1.1 l = m.1 l := by rcases j3 with rfl | h; exact e6; exact e7 l h
  have r1 : lgR m1 l = lgR m l := by unfold lgR; rw [hM]
  have r2 : lgD m1 l = lgD m l := by unfold lgD; rw [hM]
  have r3 : lgI m1 l = lgI m l := by unfold lgI; rw [hM]
  have := struck_c (w := w) (m := m1) (l := l) (d := d) hc (by rw [e5]; exact j7) (fun s hs => by
    rw [e5] at hs
    rw [r1, r2, r3, e2, e3, e4]
    exact ⟨(j9 s hs).1, (j9 s hs).2.1, (j9 s hs).2.2.1, (j9 s hs).2.2.2.2⟩) hr2 (by rw [e1, e5, r1]; exact (ja r hr).1)
  rw [this, r1, r2, r3, e5]
  unfold svV
  rw [j1]
  rfl
end PBStr
