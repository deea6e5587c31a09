/-! rules: the class's machine, its rows and what waits -/
section PBMach
theorem rf_iat {m : rf_m} {c k a b : Nat} {x : Int32} : (rf_i m c k x).1 a b = if a = c ∧ b = k then x else m.1 a b := rfl
/-- how loosely a sign binds -/
def losN (a : Int32) : Nat := if a = -18 then 5 else if a = -17 then 4 else if a = -16 then 3 else if a = -15 then 3 else if a = -14 then 3 else if a = -13 then 2 else if a = -12 then 2 else if a = -11 then 1 else 6
theorem loose_c {w : rf_w} {m : rf_m} {a : Int32} : g_X8_looseness w m a = some (Int32.ofNat (losN a), m) := by
  unfold g_X8_looseness losN
  repeat' split
  all_goals rfl
theorem losN_le {a : Int32} : losN a ≤ 6 := by
  unfold losN
  repeat' split
  all_goals decide
/-- waiting signs, the last first -/
def plW (f : Nat → Int32) : List Int32 → Prop
  | [] => True
  | x :: t => f t.length = x ∧ plW f t
theorem plW_pu {f : Nat → Int32} {s : List Int32} {k : Nat} {x : Int32} (h : plW f s) (hk : s.length ≤ k) : plW (pu f k x) s := by
  induction s with
  | nil => trivial
  | cons y t ih =>
    obtain ⟨h1, h2⟩ := h
    refine ⟨?_, ih h2 (by simp at hk; omega)⟩
    rw [pu_ne (by simp at hk; omega)]
    exact h1
theorem plW_app {f : Nat → Int32} : ∀ (a b : List Int32), plW f (a ++ b) → plW f b := by
  intro a
  induction a with
  | nil => intro b h; exact h
  | cons x t ih => intro b h; exact ih b h.2
/-- a row holds a list -/
def rw8 (f : Nat → Int32) (l : List Int32) : Prop := ∀ i x, l[i]? = some x → f i = x
theorem rw8_add {f : Nat → Int32} {l : List Int32} {x : Int32} (h : rw8 f l) : rw8 (pu f l.length x) (l ++ [x]) := by
  intro i y hy
  rw [List.getElem?_append] at hy
  by_cases q : i < l.length
  · rw [if_pos q] at hy
    rw [pu_ne (by omega)]
    exact h i y hy
  · rw [if_neg q] at hy
    have : i - l.length = 0 := by
      by_cases z : i - l.length = 0
      · exact z
      · obtain ⟨j, hj⟩ : ∃ j, i - l.length = j + 1 := ⟨i - l.length - 1, by omega⟩
        rw [hj] at hy
        cases hy
    rw [this] at hy
    rw [show i = l.length by omega, pu_at]
    exact Option.some.inj hy
def LSm (m : rf_m) (st wt : List Int32) : Prop := m.1 14 2 = Int32.ofNat st.length ∧ rw8 (m.1 16) st ∧ m.1 14 18 = Int32.ofNat wt.length ∧ plW (m.1 17) wt
/-- what writing, holding and releasing leave as it was -/
def fw (m M : rf_m) : Prop := (∀ z, z ≠ 14 → z ≠ 16 → z ≠ 17 → M.1 z = m.1 z) ∧ (∀ k, k ≠ 2 → k ≠ 18 → M.1 14 k = m.1 14 k) ∧ M.2 = m.2
theorem fw_r {m : rf_m} : fw m m := ⟨fun _ _ _ _ => rfl, fun _ _ _ => rfl, rfl⟩
theorem fw_t {a b c : rf_m} (h : fw a b) (h' : fw b c) : fw a c := ⟨fun z x y u => (h'.1 z x y u).trans (h.1 z x y u), fun k x y => (h'.2.1 k x y).trans (h.2.1 k x y), h'.2.2.trans h.2.2⟩
theorem write_c {w : rf_w} {m : rf_m} {st wt : List Int32} {x : Int32} (h : LSm m st wt) (hs : st.length < 160) : ∃ M, g_X8_write w m x = some M ∧ LSm M (st ++ [x]) wt ∧ fw m M := by
  obtain ⟨h1, h2, h3, h4⟩ := h
  unfold g_X8_write
  have n1 : ¬ (160 : Int32) ≤ Int32.ofNat st.length := nle (R := 160) hs (by decide)
  have e2 : (rf_i m 16 st.length x).1 14 2 = Int32.ofNat st.length := by rw [rf_i_c, if_neg (by decide)]; exact h1
  rw [h1, if_neg n1, gof hs (by decide), g_t, tn_of (by omega), e2, of_succ]
  refine ⟨_, rfl, ⟨?_, ?_, ?_, ?_⟩, fun z z1 z2 z3 => ?_, fun k k1 k2 => ?_, rfl⟩
  · rw [rf_i_c, if_pos rfl, pu_at, List.length_append]; rfl
  · rw [rf_i_c, if_neg (by decide), rf_i_c, if_pos rfl]; exact rw8_add h2
  · rw [rf_i_c, if_pos rfl, pu_ne (by decide), rf_i_c, if_neg (by decide)]; exact h3
  · rw [rf_i_c, if_neg (by decide), rf_i_c, if_neg (by decide)]; exact h4
  · rw [rf_i_c, if_neg z1, rf_i_c, if_neg z2]
  · rw [rf_i_c, if_pos rfl, pu_ne k1, rf_i_c, if_neg (by decide)]
theorem hold_c {w : rf_w} {m : rf_m} {st wt : List Int32} {x : Int32} (h : LSm m st wt) (hs : wt.length < 160) : ∃ M, g_X8_hold w m x = some M ∧ LSm M st (x :: wt) ∧ fw m M := by
  obtain ⟨h1, h2, h3, h4⟩ := h
  unfold g_X8_hold
  have n1 : ¬ (160 : Int32) ≤ Int32.ofNat wt.length := nle (R := 160) hs (by decide)
  have e2 : (rf_i m 17 wt.length x).1 14 18 = Int32.ofNat wt.length := by rw [rf_i_c, if_neg (by decide)]; exact h3
  rw [h3, if_neg n1, gof hs (by decide), g_t, tn_of (by omega), e2, of_succ]
  refine ⟨_, rfl, ⟨?_, ?_, ?_, ?_⟩, fun z z1 z2 z3 => ?_, fun k k1 k2 => ?_, rfl⟩
  · rw [rf_i_c, if_pos rfl, pu_ne (by decide), rf_i_c, if_neg (by decide)]; exact h1
  · rw [rf_i_c, if_neg (by decide), rf_i_c, if_neg (by decide)]; exact h2
  · rw [rf_i_c, if_pos rfl, pu_at]; rfl
  · rw [rf_i_c, if_neg (by decide), rf_i_c, if_pos rfl]
    exact ⟨pu_at _ _ _, plW_pu h4 (Nat.le_refl _)⟩
  · rw [rf_i_c, if_neg z1, rf_i_c, if_neg z3]
  · rw [rf_i_c, if_pos rfl, pu_ne k2, rf_i_c, if_neg (by decide)]
/-- signs that a sign of looseness l releases, and where it stops -/
def lvl (l : Nat) (wx : List Int32) : Prop := ∀ x, x ∈ wx → losN x ≤ l ∧ x ≠ -20
def stops (l : Nat) : List Int32 → Prop
  | [] => True
  | x :: _ => l < losN x ∨ x = -20
theorem release_c {w : rf_w} {sg : Int32} {wt : List Int32} (hs : stops (losN sg) wt) : ∀ (wx st : List Int32) (m : rf_m) F, wx.length < F → LSm m st (wx ++ wt) → lvl (losN sg) wx → st.length + wx.length < 160 → wx.length + wt.length ≤ 160 → ∃ M, g_X8_release_0 w F sg m = some M ∧ LSm M (st ++ wx) wt ∧ fw m M := by
  intro wx
  induction wx with
  | nil =>
    intro st m F hF h _ _ hw
    obtain ⟨F, rfl⟩ : ∃ g, F = g + 1 := ⟨F - 1, by omega⟩
    refine ⟨m, ?_, by rw [List.append_nil]; exact h, fw_r⟩
    show g_X8_release_0_b w _ sg m = _
    unfold g_X8_release_0_b
    obtain ⟨h1, h2, h3, h4⟩ := h
    cases wt with
    | nil => rw [if_pos (show m.1 14 18 ≤ 0 by rw [h3]; exact Int32.le_refl _)]
    | cons x t =>
      rw [show ([] ++ x :: t : List Int32) = x :: t from rfl] at h3 h4
      have hl : t.length < 160 := by simp only [List.length_cons, List.length_nil] at hw; omega
      have n1 : ¬ Int32.ofNat (t.length + 1) ≤ 0 := nle (R := t.length + 1) (i := 0) (by omega) (by omega)
      rw [show m.1 14 18 = Int32.ofNat (t.length + 1) from h3, if_neg n1, ofm1', gof hl (by decide), g_t, tn_of (by omega), h4.1, loose_c, b_sm, loose_c, b_sm]
      by_cases q : losN sg < losN x
      · rw [if_pos ((of_lt (by have := losN_le (a := sg); omega) (by have := losN_le (a := x); omega)).mpr q)]
      · have hx : x = -20 := by
          rcases hs with z | z
          · exact absurd z q
          · exact z
        rw [if_neg (fun z => q ((of_lt (by have := losN_le (a := sg); omega) (by have := losN_le (a := x); omega)).mp z))]
        rw [show m.1 14 18 = Int32.ofNat (t.length + 1) from h3, ofm1', gof hl (by decide), g_t, tn_of (by omega), h4.1, if_pos hx]
  | cons x t ih =>
    intro st m F hF h hl hst hw
    obtain ⟨F, rfl⟩ : ∃ g, F = g + 1 := ⟨F - 1, by omega⟩
    simp only [List.length_cons] at hF hst hw
    have hx := hl x (List.mem_cons_self ..)
    obtain ⟨h1, h2, h3, h4⟩ := h
    rw [show (x :: t ++ wt : List Int32) = x :: (t ++ wt) from rfl] at h3 h4
    have hl' : (t ++ wt).length < 160 := by rw [List.length_append]; omega
    have n1 : ¬ Int32.ofNat ((t ++ wt).length + 1) ≤ 0 := nle (R := (t ++ wt).length + 1) (i := 0) (by omega) (by omega)
    have q : ¬ losN sg < losN x := by omega
    have h3' : m.1 14 18 = Int32.ofNat ((t ++ wt).length + 1) := h3
    have st0 : g_X8_release_0 w (F + 1) sg m = g_X8_release_0_b w (g_X8_release_0 w F) sg m := rfl
    rw [st0]
    unfold g_X8_release_0_b
    rw [h3', if_neg n1, ofm1', gof hl' (by decide), g_t, tn_of (by omega), h4.1, loose_c, b_sm, loose_c, b_sm, if_neg (fun z => q ((of_lt (by have := losN_le (a := sg); omega) (by have := losN_le (a := x); omega)).mp z)), h3', ofm1', gof hl' (by decide), g_t, tn_of (by omega), h4.1, if_neg hx.2]
    have e18 : (rf_i m 14 18 (Int32.ofNat (t ++ wt).length)).1 14 18 = Int32.ofNat (t ++ wt).length := by rw [rf_iat, if_pos ⟨rfl, rfl⟩]
    have e17 : (rf_i m 14 18 (Int32.ofNat (t ++ wt).length)).1 17 = m.1 17 := by rw [rf_i_c, if_neg (by decide)]
    rw [e18, gof hl' (by decide), g_t, tn_of (by omega), e17, h4.1]
    have L1 : LSm (rf_i m 14 18 (Int32.ofNat (t ++ wt).length)) st (t ++ wt) := by
      refine ⟨?_, ?_, e18, ?_⟩
      · rw [rf_iat, if_neg (by decide)]; exact h1
      · rw [rf_i_c, if_neg (by decide)]; exact h2
      · rw [e17]; exact h4.2
    obtain ⟨M, k1, k2, k3⟩ := write_c (w := w) (x := x) L1 (by omega)
    rw [k1, bv_sm]
    obtain ⟨M', j1, j2, j3⟩ := ih (st ++ [x]) M F (by omega) k2 (fun y hy => hl y (List.mem_cons_of_mem _ hy)) (by rw [List.length_append]; simp only [List.length_cons, List.length_nil]; omega) (by omega)
    have f0 : fw m (rf_i m 14 18 (Int32.ofNat (t ++ wt).length)) := ⟨fun z z1 _ _ => by rw [rf_i_c, if_neg z1], fun k _ k2 => by rw [rf_i_c, if_pos rfl, pu_ne k2], rfl⟩
    refine ⟨M', j1, ?_, fw_t f0 (fw_t k3 j3)⟩
    rw [List.append_assoc] at j2
    exact j2
theorem join_c {w : rf_w} {m : rf_m} {sg th : Int32} {st wx wt : List Int32} (h : LSm m st (wx ++ wt)) (hs : stops (losN sg) wt) (hl : lvl (losN sg) wx) (hb : st.length + wx.length + wt.length < 159) : ∃ M, g_X8_join w m sg th = some M ∧ LSm M (st ++ wx) (sg :: wt) ∧ M.1 14 12 = th ∧ (∀ z, z ≠ 14 → z ≠ 16 → z ≠ 17 → M.1 z = m.1 z) ∧ (∀ k, k ≠ 2 → k ≠ 18 → k ≠ 12 → M.1 14 k = m.1 14 k) ∧ M.2 = m.2 := by
  unfold g_X8_join g_X8_release
  obtain ⟨F, hF, hF8⟩ : ∃ F, rf_fuel = F ∧ 1000 < F := ⟨rf_fuel, rfl, by unfold rf_fuel; decide⟩
  rw [hF]
  obtain ⟨M, k1, k2, k3⟩ := release_c (w := w) hs wx st m F (by omega) h hl (by omega) (by omega)
  rw [k1, bv_sm]
  obtain ⟨M', j1, j2, j3⟩ := hold_c (w := w) (x := sg) k2 (by omega)
  rw [j1, bv_sm]
  have f := fw_t k3 j3
  obtain ⟨i1, i2, i3, i4⟩ := j2
  refine ⟨_, rfl, ⟨?_, ?_, ?_, ?_⟩, ?_, fun z z1 z2 z3 => ?_, fun k q1 q2 q3 => ?_, f.2.2⟩
  · rw [rf_iat, if_neg (by decide)]; exact i1
  · rw [rf_i_c, if_neg (by decide)]; exact i2
  · rw [rf_iat, if_neg (by decide)]; exact i3
  · rw [rf_i_c, if_neg (by decide)]; exact i4
  · rw [rf_iat, if_pos ⟨rfl, rfl⟩]
  · rw [rf_i_c, if_neg z1]; exact f.1 z z1 z2 z3
  · rw [rf_i_c, if_pos rfl, pu_ne q3]; exact f.2.1 k q1 q2
end PBMach
