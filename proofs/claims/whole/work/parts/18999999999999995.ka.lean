/-! rule, both sides -/
section PBK15
theorem bw_sm {α : Type} {a : Int32} {v : rf_w} {m : rf_m} {k : Int32 → rf_w → rf_m → Option α} : rf_bw (some (a, v, m)) k = k a v m := rfl
theorem fr_out {S : fr_S} {z k : Nat} (h : ∀ e, e ∈ S → e.2.1 ≠ 0 ∧ (z < e.1 ∨ e.2.1 < z)) : fr_in S z k = false := by
  cases e : fr_in S z k with
  | false => rfl
  | true =>
    obtain ⟨x, hx, hx2⟩ := List.any_eq_true.mp e
    have hh := h x hx
    unfold fr_e at hx2
    simp only [Bool.and_eq_true, Bool.or_eq_true, Nat.ble_eq, Nat.beq_eq] at hx2
    omega
theorem parse_fr {w : rf_w} {m m3 : rf_m} {a v : Int32} (h : g_X8_parse w m a = some (v, m3)) (z : Nat) (h1 : z ≠ 14) (h2 : z ≠ 16) (h3 : z ≠ 17) : m3.1 z = m.1 z ∧ m3.2 z = m.2 z := by
  have hs : ∀ e, e ∈ S_X8_parse → e.2.1 ≠ 0 ∧ (z < e.1 ∨ e.2.1 < z) := by
    intro e he
    have all : ∀ e, e ∈ S_X8_parse → e.1 = e.2.1 ∧ (e.1 = 14 ∨ e.1 = 16 ∨ e.1 = 17) := by decide
    have := all e he
    omega
  have f := fg_X8_parse h
  exact ⟨funext fun k => (f z k (fr_out hs)).1, funext fun k => (f z k (fr_out hs)).2⟩
theorem cnt_m {a b : Nat} {w : rf_w} {m : rf_m} (h : JCnt a w m) (hab : a ≤ b) (hb : b ≤ 512) : JCnt b w m := ⟨hb, h.2.1, str_m h.2.2.1 hab, h.2.2.2⟩
theorem jw_m {a b : Nat} {w : rf_w} {m : rf_m} (h : JW a w m) (hab : a ≤ b) : JW b w m := ⟨h.1, by have := h.2.1; omega, h.2.2⟩
/-- the class's memory behind a text that was read -/
def claX (m X : rf_m) (v fl pl : Int32) : Prop := X.1 0 = pu (pu (pu (m.1 0) 12 fl) 13 pl) 11 v ∧ (∀ z, z ≠ 0 → z ≠ 13 → z ≠ 14 → z ≠ 16 → z ≠ 17 → (z < 19 ∨ 24 < z) → z ≠ 26 → z ≠ 40 → X.1 z = m.1 z) ∧ (∀ k, k ≠ 2 → k ≠ 3 → X.1 13 k = m.1 13 k) ∧ X.1 13 2 = 0 ∧ (∀ k, k ≠ 19 → X.1 26 k = m.1 26 k) ∧ ∀ z, z ≠ 14 → z ≠ 16 → z ≠ 17 → X.2 z = m.2 z
/-- the class, up to the text -/
theorem rule_c {w : rf_w} {m : rf_m} {y1 y2 y3 : Int32} (h1 : iv 0 (m.1 13 2) y1) (h2 : ib y2 10000 ∧ ib y3 10000 ∧ ¬ y3 < y2) {v : Int32} {m3 : rf_m} (hp : g_X8_parse w (rf_i m 13 2 0) y1 = some (v, m3)) : ∃ X0, claX m X0 (m.1 0 11) (m3.1 14 5) (m3.1 14 6) ∧ X0.1 13 3 = m.1 13 3 ∧ (∀ z, 19 ≤ z → z ≤ 24 → X0.1 z = m.1 z) ∧ X0.1 14 = m3.1 14 ∧ X0.1 16 = m3.1 16 ∧ X0.1 26 = m.1 26 ∧ X0.1 40 = m.1 40 ∧ g_X11_rule w m y1 y2 y3 = (if v = 0 then some (-1, rf_i X0 0 11 4) else (if m.1 13 3 < 24 then rf_b (g_X9_add w X0 y2 y3) fun y4 m4 => rf_b (g_X9_isStriking w m4 y4) fun y5 m5 => (if y5 = 0 then some (y4, rf_i m5 0 11 0) else rf_bv (g_X3_forgetAll w m5) fun m7 => some (y4, rf_i m7 0 11 0)) else some (-1, rf_i X0 0 11 3))) := by
  have o1 : ¬ (1 : Int32) = 0 := by decide
  have pf := parse_fr hp
  have e0 : ∀ z, z ≠ 13 → (rf_i m 13 2 0).1 z = m.1 z := fun z hz => by rw [rf_i_c, if_neg hz]
  have e13 : (rf_i m 13 2 0).1 13 = pu (m.1 13) 2 0 := by rw [rf_i_c, if_pos rfl]
  have m0 : ∀ z, z ≠ 13 → z ≠ 14 → z ≠ 16 → z ≠ 17 → m3.1 z = m.1 z := fun z a1 a2 a3 a4 => ((pf z a2 a3 a4).1).trans (e0 z a1)
  have m13 : m3.1 13 = pu (m.1 13) 2 0 := ((pf 13 (by decide) (by decide) (by decide)).1).trans e13
  have x6 : (rf_i m3 0 12 (m3.1 14 5)).1 14 6 = m3.1 14 6 := by rw [rf_i_c, if_neg (by decide)]
  have xz : ∀ z, z ≠ 0 → (rf_i (rf_i m3 0 12 (m3.1 14 5)) 0 13 (m3.1 14 6)).1 z = m3.1 z := fun z hz => by rw [rf_i_c, if_neg hz, rf_i_c, if_neg hz]
  refine ⟨rf_i (rf_i m3 0 12 (m3.1 14 5)) 0 13 (m3.1 14 6), ⟨?_, fun z a1 a2 a3 a4 a5 a6 a7 a8 => ?_, fun k k2 k3 => ?_, ?_, fun k _ => ?_, fun z a1 a2 a3 => ?_⟩, ?_, fun z a1 a2 => ?_, xz 14 (by decide), xz 16 (by decide), ?_, ?_, ?_⟩
  · rw [rf_i_c, if_pos rfl, rf_i_c, if_pos rfl, m0 0 (by decide) (by decide) (by decide) (by decide)]
    funext k
    by_cases q : k = 11
    · rw [q, pu_at, pu_ne (by decide), pu_ne (by decide)]
    · rw [pu_ne q]
  · rw [xz z a1]; exact m0 z a2 a3 a4 a5
  · rw [xz 13 (by decide), m13, pu_ne k2]
  · rw [xz 13 (by decide), m13, pu_at]
  · rw [xz 26 (by decide), m0 26 (by decide) (by decide) (by decide) (by decide)]
  · exact (pf z a1 a2 a3).2
  · rw [xz 13 (by decide), m13, pu_ne (by decide)]
  · rw [xz z (by omega)]; exact m0 z (by omega) (by omega) (by omega) (by omega)
  · rw [xz 26 (by decide), m0 26 (by decide) (by decide) (by decide) (by decide)]
  · rw [xz 40 (by decide), m0 40 (by decide) (by decide) (by decide) (by decide)]
  · unfold g_X11_rule g_X11_refused g_X11_answered
    rw [X11_isWithin, b_sm, bi_t h1, if_neg o1, X11_isTime, b_sm, bi_t h2, if_neg o1, hp, b_sm, x6]
    have e33 : (rf_i (rf_i m3 0 12 (m3.1 14 5)) 0 13 (m3.1 14 6)).1 13 3 = m.1 13 3 := by rw [xz 13 (by decide), m13, pu_ne (by decide)]
    rw [e33]
    generalize rf_i (rf_i m3 0 12 (m3.1 14 5)) 0 13 (m3.1 14 6) = X0
    simp only [b_sm]
/-- the reference, up to the text -/
theorem rule_r {w : rf_w} {X : rf_m} {y1 y2 y3 : Int32} (h0 : ¬ y1 < 0) (h1 : ¬ X.1 206 44 < y1) (h2 : ib y2 10000 ∧ ib y3 10000 ∧ ¬ y3 < y2) : g_X14_rule_0 w y1 y2 y3 X = h_X14_rule_56 w y2 y3 (rf_i (rf_i (rf_i (rf_i X 206 0 0) 206 45 y1) 206 44 0) 206 3 0) := by
  have o1 : ¬ (1 : Int32) = 0 := by decide
  have hy : iv y2 9999 y3 := ⟨by have := h2.2.2; grind, by have := h2.2.1.2; have := h2.2.1.1; grind⟩
  have e44 : (rf_i X 206 0 0).1 206 44 = X.1 206 44 := by rw [rf_i_c, if_pos rfl, pu_ne (by decide)]
  unfold g_X14_rule_0
  rw [if_neg h0, e44, if_neg h1, X14_isDay, b_sm, bi_t h2.1, if_neg o1, X14_in, b_sm, bi_t hy, if_neg o1]
theorem r56_no {w : rf_w} {B M : rf_m} {x y : Int32} (h : g_X14_reads w B = some (.inr M)) : h_X14_rule_56 w x y B = g_X14_rule_63 w M := by
  unfold h_X14_rule_56
  rw [h]
theorem r56_yes {w : rf_w} {B M : rf_m} {x y : Int32} (h : g_X14_reads w B = some (.inl M)) : h_X14_rule_56 w x y B = g_X14_rule_90 w x y M := by
  unfold h_X14_rule_56
  rw [h]
theorem r90_new {w : rf_w} {M : rf_m} {x y : Int32} {c R : Nat} (hc : w.2.2 0 = some c) (hr : rob w c) (h39 : M.1 206 39 = Int32.ofNat R) (hR : R < 24) (hw : w.1 + 4 ≤ 1000000) : g_X14_rule_90 w x y M = some (Int32.ofNat R, rf_wrule w R, rf_i (rf_i (rf_i (rf_z (rf_i (rf_i M c 1 x) c 2 y) w.1) 206 39 (Int32.ofNat (R + 1))) 206 1 0) 206 2 (-1)) ∨ ¬ 306 ≤ w.1 := by
  by_cases hw6 : 306 ≤ w.1
  · left
    obtain ⟨n1, n2, n3, n4, n5, n6, n7, n8, n9⟩ := rob_ne hr
    have hO := hr.1
    unfold g_X14_rule_90
    rw [h39, if_neg (show ¬ Int32.ofNat R = 24 from fun z => by have := (of_inj (b := 24) (by omega) (by decide)).mp z; omega), hc, o_t, g5 hr, o_t, g5 hr]
    have e39 : (rf_i (rf_i M c 1 x) c 2 y).1 206 39 = Int32.ofNat R := by rw [rf_i_c, if_neg (Ne.symm n1), rf_i_c, if_neg (Ne.symm n1)]; exact h39
    generalize rf_i (rf_i M c 1 x) c 2 y = Y at *
    have eb : Nat.ble (w.1 + 4) 1000000 = true := Nat.ble_eq_true_of_le hw
    have z39 : (rf_z Y w.1).1 206 39 = Int32.ofNat R := by
      show (if w.1 ≤ 206 then 0 else Y.1 206 39) = _
      rw [if_neg (by omega)]; exact e39
    unfold h_X14_rule_121 g_X14_rule_145 g_X14_done
    rw [hc, o_t, hO, g_t, e39, gof hR (by decide), g_t, eb, g_t, tn_of (by omega), z39, of_succ]
    have e40 : (rf_i (rf_z Y w.1) 206 39 (Int32.ofNat (R + 1))).1 206 39 = Int32.ofNat (R + 1) := by rw [rf_i_c, if_pos rfl, pu_at]
    rw [e40, ofm1', b_sm]
  · exact Or.inr hw6
theorem r90_full {w : rf_w} {M : rf_m} {x y : Int32} (h39 : M.1 206 39 = 24) : g_X14_rule_90 w x y M = some (-1, w, rf_i (rf_i M 206 1 3) 206 2 (-1)) := by
  unfold g_X14_rule_90 g_X14_refused
  rw [if_pos h39]
  rfl
end PBK15
