/-! the readings of an angle, and their order -/
section PBSort
/-- the readings of angle a among the first n, in their order -/
def rds (f : Nat → Int32) (a : Int32) : Nat → List Nat
  | 0 => []
  | n + 1 => if f n = a then rds f a n ++ [n] else rds f a n
theorem rds_lt {f : Nat → Int32} {a : Int32} : ∀ n r, r ∈ rds f a n → r < n ∧ f r = a := by
  intro n
  induction n with
  | zero => intro r h; cases h
  | succ n ih =>
    intro r h
    unfold rds at h
    split at h
    · rename_i e
      rcases List.mem_append.mp h with h | h
      · have := ih r h; exact ⟨by omega, this.2⟩
      · rw [List.mem_singleton.mp h]; exact ⟨by omega, e⟩
    · have := ih r h; exact ⟨by omega, this.2⟩
def insI (x : Int32) : List Int32 → List Int32
  | [] => [x]
  | y :: t => if y ≤ x then x :: y :: t else y :: insI x t
theorem insI_len (x : Int32) (s : List Int32) : (insI x s).length = s.length + 1 := by
  induction s with
  | nil => rfl
  | cons y t ih =>
    unfold insI
    split
    · rfl
    · simp [ih]
/-- the row holds s, its top last -/
def plI (f : Nat → Int32) : List Int32 → Prop
  | [] => True
  | x :: t => f t.length = x ∧ plI f t
theorem plI_pu {f : Nat → Int32} {s : List Int32} {k : Nat} {x : Int32} (h : plI f s) (hk : s.length ≤ k) : plI (pu f k x) s := by
  induction s with
  | nil => trivial
  | cons y t ih =>
    obtain ⟨h1, h2⟩ := h
    refine ⟨?_, ih h2 (by simp at hk; omega)⟩
    rw [pu_ne (by simp at hk; omega)]
    exact h1
theorem plI_congr {f g : Nat → Int32} {s : List Int32} (h : plI f s) (e : ∀ i, i < s.length → g i = f i) : plI g s := by
  induction s with
  | nil => trivial
  | cons y t ih =>
    exact ⟨by rw [e t.length (by simp)]; exact h.1, ih h.2 (fun i hi => e i (by simp; omega))⟩
theorem plI_get {f : Nat → Int32} {s : List Int32} (h : plI f s) : ∀ i (hi : i < s.length), f i = s[s.length - 1 - i]'(by omega) := by
  induction s with
  | nil => intro i hi; cases hi
  | cons y t ih =>
    intro i hi
    by_cases e : i = t.length
    · subst e
      rw [h.1]
      simp
    · have hi' : i < t.length := by simp at hi; omega
      rw [ih h.2 i hi']
      have : (y :: t).length - 1 - i = (t.length - 1 - i) + 1 := by simp; omega
      simp only [this, List.getElem_cons_succ]
theorem sort71 {w : rf_w} {rec5 : Int32 → Int32 → Int32 → Int32 → rf_m → Option (Int32 × rf_m)} {a d se i x : Int32} : ∀ (s : List Int32) (f : Nat) (m : rf_m), s.length < 20 → s.length < f → plI (m.1 35) s → ∃ F, g_X3_sortSeen_71 w rec5 f a d se i x (Int32.ofNat s.length) m = rec5 a d (se + 1) (i + 1) (stc m 35 F) ∧ plI F (insI x s) ∧ ∀ k, s.length < k → F k = m.1 35 k := by
  intro s
  induction s with
  | nil =>
    intro f m hl hf hp
    obtain ⟨f, rfl⟩ : ∃ g, f = g + 1 := ⟨f - 1, by omega⟩
    refine ⟨pu (m.1 35) 0 x, ?_, ⟨pu_at .., trivial⟩, fun k hk => pu_ne (by simp at hk; omega)⟩
    show g_X3_sortSeen_71_b w rec5 _ a d se i x _ m = _
    unfold g_X3_sortSeen_71_b g_X3_sortSeen_112 g_X3_sortSeen_124
    rw [if_pos (show Int32.ofNat ([] : List Int32).length ≤ 0 by decide), gof (by simp) (by decide), g_t, tn_of (by simp), stc_i]
    rfl
  | cons y t ih =>
    intro f m hl hf hp
    obtain ⟨f, rfl⟩ : ∃ g, f = g + 1 := ⟨f - 1, by omega⟩
    have hl' : t.length + 1 < 20 := hl
    have n0 : ¬ Int32.ofNat (t.length + 1) ≤ 0 := nle (i := 0) (by omega) (by omega)
    have em : Int32.ofNat (t.length + 1) + (-1) = Int32.ofNat t.length := ofm1
    have hy : m.1 35 t.length = y := hp.1
    show ∃ F, g_X3_sortSeen_71_b w rec5 (g_X3_sortSeen_71 w rec5 f) a d se i x (Int32.ofNat (t.length + 1)) m = _ ∧ _
    unfold g_X3_sortSeen_71_b
    rw [if_neg n0, ofm1', gof (by omega) (by decide), g_t, tn_of (by omega), hy, em]
    by_cases q : y ≤ x
    · refine ⟨pu (m.1 35) (t.length + 1) x, ?_, ?_, fun k hk => pu_ne (by simp at hk; omega)⟩
      · unfold g_X3_sortSeen_112 g_X3_sortSeen_124
        rw [if_pos q, gof (by omega) (by decide), g_t, tn_of (by omega), stc_i]
      · unfold insI
        rw [if_pos q]
        exact ⟨pu_at .., plI_pu hp (by simp)⟩
    · rw [if_neg q, g_t, gof (by omega) (by decide), g_t, tn_of (by omega)]
      obtain ⟨F, h1, h2, h3⟩ := ih f (rf_i m 35 (t.length + 1) y) (by omega) (by simp at hf; omega) (by rw [rf_i_c, if_pos rfl]; exact plI_pu hp.2 (by omega))
      refine ⟨F, ?_, ?_, fun k hk => ?_⟩
      · rw [h1, stc_i, stc_stc]
      · unfold insI
        rw [if_neg q]
        refine ⟨?_, h2⟩
        rw [insI_len, h3 _ (by omega), rf_i_c, if_pos rfl, pu_at]
      · rw [h3 k (by simp at hk; omega), rf_i_c, if_pos rfl, pu_ne (by simp at hk; omega)]
theorem goes55 {w : rf_w} {rec7 : Int32 → Int32 → Int32 → rf_m → Option rf_m} {a d : Int32} {r : Nat} {x : Int32} (hr : r < 1200) : ∀ (s : List Int32) (f : Nat) (m : rf_m), s.length < 20 → s.length < f → plI (m.1 226) s → m.1 221 r = x → ∃ F, g_X14_goes_55 w rec7 f a d (Int32.ofNat r) (Int32.ofNat s.length) m = rec7 a d (Int32.ofNat (r + 1)) (rf_i (stc m 226 F) 206 33 (m.1 206 33 + 1)) ∧ plI F (insI x s) ∧ ∀ k, s.length < k → F k = m.1 226 k := by
  intro s
  induction s with
  | nil =>
    intro f m hl hf hp hx
    obtain ⟨f, rfl⟩ : ∃ g, f = g + 1 := ⟨f - 1, by omega⟩
    refine ⟨pu (m.1 226) 0 x, ?_, ⟨pu_at .., trivial⟩, fun k hk => pu_ne (by simp at hk; omega)⟩
    show g_X14_goes_55_b w rec7 _ a d _ _ m = _
    unfold g_X14_goes_55_b g_X14_goes_100 g_X14_goes_123
    rw [if_pos (show Int32.ofNat ([] : List Int32).length ≤ 0 by decide), gof hr (by decide), g_t, gof (by simp) (by decide), g_t, tn_of (by simp), tn_of (by omega), hx, of_succ, show rf_i m 226 ([] : List Int32).length x = stc m 226 (pu (m.1 226) 0 x) from stc_i]
    rfl
  | cons y t ih =>
    intro f m hl hf hp hx
    obtain ⟨f, rfl⟩ : ∃ g, f = g + 1 := ⟨f - 1, by omega⟩
    have hl' : t.length + 1 < 20 := hl
    have n0 : ¬ Int32.ofNat (t.length + 1) ≤ 0 := nle (i := 0) (by omega) (by omega)
    have em : Int32.ofNat (t.length + 1) + (-1) = Int32.ofNat t.length := ofm1
    have hy : m.1 226 t.length = y := hp.1
    show ∃ F, g_X14_goes_55_b w rec7 (g_X14_goes_55 w rec7 f) a d _ (Int32.ofNat (t.length + 1)) m = _ ∧ _
    unfold g_X14_goes_55_b
    rw [if_neg n0, ofm1', gof (by omega) (by decide), g_t, gof hr (by decide), g_t, tn_of (by omega), tn_of (by omega), hy, hx, em]
    by_cases q : y ≤ x
    · refine ⟨pu (m.1 226) (t.length + 1) x, ?_, ?_, fun k hk => pu_ne (by simp at hk; omega)⟩
      · unfold g_X14_goes_100 g_X14_goes_123
        rw [if_pos q, gof hr (by decide), g_t, gof (by omega) (by decide), g_t, tn_of (by omega), tn_of (by omega), hx, of_succ, show rf_i m 226 (t.length + 1) x = stc m 226 (pu (m.1 226) (t.length + 1) x) from stc_i]
        rfl
      · unfold insI
        rw [if_pos q]
        exact ⟨pu_at .., plI_pu hp (by simp)⟩
    · rw [if_neg q, g_t, gof (by omega) (by decide), g_t, tn_of (by omega)]
      obtain ⟨F, h1, h2, h3⟩ := ih f (rf_i m 226 (t.length + 1) y) (by omega) (by simp at hf; omega) (by rw [rf_i_c, if_pos rfl]; exact plI_pu hp.2 (by omega)) hx
      refine ⟨F, ?_, ?_, fun k hk => ?_⟩
      · rw [h1, show rf_i m 226 (t.length + 1) y = stc m 226 (pu (m.1 226) (t.length + 1) y) from stc_i, stc_stc]
        rfl
      · unfold insI
        rw [if_neg q]
        refine ⟨?_, h2⟩
        rw [insI_len, h3 _ (by omega), rf_i_c, if_pos rfl, pu_at]
      · rw [h3 k (by simp at hk; omega), rf_i_c, if_pos rfl, pu_ne (by simp at hk; omega)]
end PBSort
