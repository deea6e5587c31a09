/-! suspects that are kept: both sides -/
section PBLive
noncomputable def fIl (P : Int32 → Prop) : List Int32 → List Int32
  | [] => []
  | x :: l => @ite _ (P x) (Classical.propDecidable _) (x :: fIl P l) (fIl P l)
theorem fIl_t {P : Int32 → Prop} {x : Int32} {l : List Int32} (h : P x) : fIl P (x :: l) = x :: fIl P l := if_pos h
theorem fIl_f {P : Int32 → Prop} {x : Int32} {l : List Int32} (h : ¬ P x) : fIl P (x :: l) = fIl P l := if_neg h
theorem fIl_mem {P : Int32 → Prop} {x : Int32} : ∀ l, x ∈ fIl P l ↔ x ∈ l ∧ P x := by
  intro l
  induction l with
  | nil => exact ⟨fun h => (by cases h), fun h => (by cases h.1)⟩
  | cons y l ih =>
    by_cases h : P y
    · rw [fIl_t h, List.mem_cons, List.mem_cons, ih]
      constructor
      · rintro (q | q)
        · exact ⟨Or.inl q, q ▸ h⟩
        · exact ⟨Or.inr q.1, q.2⟩
      · rintro ⟨q | q, r⟩
        · exact Or.inl q
        · exact Or.inr ⟨q, r⟩
    · rw [fIl_f h, List.mem_cons, ih]
      constructor
      · exact fun q => ⟨Or.inr q.1, q.2⟩
      · rintro ⟨q | q, r⟩
        · exact absurd (q ▸ r) h
        · exact ⟨q, r⟩
theorem fIl_len {P : Int32 → Prop} : ∀ l, (fIl P l).length ≤ l.length := by
  intro l
  induction l with
  | nil => exact Nat.le_refl _
  | cons y l ih =>
    by_cases h : P y
    · rw [fIl_t h, List.length_cons, List.length_cons]; omega
    · rw [fIl_f h, List.length_cons]; omega
/-- sorted, the top first -/
def sDn : List Int32 → Prop
  | [] => True
  | x :: l => (∀ y, y ∈ l → y ≤ x) ∧ sDn l
theorem insI_sDn {x : Int32} : ∀ l, sDn l → sDn (insI x l) := by
  intro l
  induction l with
  | nil => intro _; exact ⟨fun y hy => (by cases hy), trivial⟩
  | cons y l ih =>
    intro h
    unfold insI
    split
    · rename_i q
      refine ⟨fun z hz => ?_, h⟩
      rcases List.mem_cons.mp hz with e | e
      · rw [e]; exact q
      · exact Int32.le_trans (h.1 z e) q
    · rename_i q
      refine ⟨fun z hz => ?_, ih h.2⟩
      rcases insI_mem hz with e | e
      · rw [e]; exact Int32.le_of_lt (Int32.not_le.mp q)
      · exact h.1 z e
theorem isrt_sDn : ∀ u, sDn (isrt u) := by
  intro u
  induction u with
  | nil => trivial
  | cons x u ih => exact insI_sDn _ ih
theorem insI_top {x : Int32} : ∀ l : List Int32, (∀ y, y ∈ l → y ≤ x) → insI x l = x :: l := by
  intro l h
  cases l with
  | nil => rfl
  | cons y l =>
    unfold insI
    rw [if_pos (h y List.mem_cons_self)]
theorem fIl_ins {P : Int32 → Prop} {x : Int32} : ∀ l, sDn l → (P x → fIl P (insI x l) = insI x (fIl P l)) ∧ (¬ P x → fIl P (insI x l) = fIl P l) := by
  intro l
  induction l with
  | nil => intro _; exact ⟨fun h => fIl_t h, fun h => fIl_f h⟩
  | cons y l ih =>
    intro hs
    obtain ⟨i1, i2⟩ := ih hs.2
    have e : insI x (y :: l) = if y ≤ x then x :: y :: l else y :: insI x l := rfl
    refine ⟨fun h => ?_, fun h => ?_⟩
    · rw [e]
      by_cases q : y ≤ x
      · rw [if_pos q, fIl_t h, insI_top (fIl P (y :: l)) (fun z hz => ?_)]
        have := (fIl_mem _).mp hz
        rcases List.mem_cons.mp this.1 with r | r
        · rw [r]; exact q
        · exact Int32.le_trans (hs.1 z r) q
      · rw [if_neg q]
        by_cases hy : P y
        · rw [fIl_t hy, fIl_t hy, i1 h]
          show _ = if y ≤ x then _ else y :: insI x (fIl P l)
          rw [if_neg q]
        · rw [fIl_f hy, fIl_f hy, i1 h]
    · rw [e]
      by_cases q : y ≤ x
      · rw [if_pos q, fIl_f h]
      · rw [if_neg q]
        by_cases hy : P y
        · rw [fIl_t hy, fIl_t hy, i2 h]
        · rw [fIl_f hy, fIl_f hy, i2 h]
theorem fIl_isrt {P : Int32 → Prop} : ∀ u, fIl P (isrt u) = isrt (fIl P u) := by
  intro u
  induction u with
  | nil => rfl
  | cons x u ih =>
    show fIl P (insI x (isrt u)) = _
    by_cases h : P x
    · rw [(fIl_ins _ (isrt_sDn u)).1 h, fIl_t h, ih]; rfl
    · rw [(fIl_ins _ (isrt_sDn u)).2 h, fIl_f h, ih]
def kpP (w : rf_w) (m : rf_m) (x : Int32) : Prop := knP w m x.toNatClampNeg
/-- what the class's blunder reads and never changes -/
def blA (w : rf_w) (m X : rf_m) : Prop := (∀ r, r < (m.1 206 17).toNatClampNeg → X.1 32 (9 * r) = m.1 220 r ∧ X.1 32 (9 * r + 1) = m.1 221 r ∧ X.1 32 (9 * r + 7) = bi (knP w m r)) ∧ (∀ a, a < (m.1 206 16).toNatClampNeg → tal w m X 9999 a) ∧ X.1 51 = m.1 243 ∧ X.1 52 = m.1 244 ∧ X.1 53 = m.1 245 ∧ X.1 54 = m.1 246 ∧ X.1 50 0 = m.1 206 64 ∧ X.1 50 1 = m.1 206 65
theorem blA_e {w : rf_w} {m X Y : rf_m} (h : blA w m X) (e : ∀ z, z = 31 ∨ z = 32 ∨ z = 34 ∨ (51 ≤ z ∧ z ≤ 54) → Y.1 z = X.1 z) (e5 : ∀ k, k = 0 ∨ k = 1 → Y.1 50 k = X.1 50 k) : blA w m Y := by
  obtain ⟨h1, h2, h3, h4, h5, h6, h7, h8⟩ := h
  refine ⟨fun r hr => by rw [e 32 (by omega)]; exact h1 r hr, fun a ha => ?_, by rw [e 51 (by omega)]; exact h3, by rw [e 52 (by omega)]; exact h4, by rw [e 53 (by omega)]; exact h5, by rw [e 54 (by omega)]; exact h6, by rw [e5 0 (by omega)]; exact h7, by rw [e5 1 (by omega)]; exact h8⟩
  have := h2 a ha
  unfold tal at this ⊢
  rw [e 31 (by omega), e 34 (by omega)]
  exact this
theorem blA_of {c : Nat} {w : rf_w} {m m2 : rf_m} (J : JCnt c w m) (jn : JNet m) (h : allF w m m2) : blA w m m2 := by
  obtain ⟨_, j, _, _, ja, _, _⟩ := J
  refine ⟨fun r hr => ?_, fun a ha => (h.2.2.2.2.2 a ha).2.1, by rw [all_c h 51 (by omega)]; exact jn.2.2.2.2.1, by rw [all_c h 52 (by omega)]; exact jn.2.2.2.2.2.1, by rw [all_c h 53 (by omega)]; exact jn.2.2.2.2.2.2.1, by rw [all_c h 54 (by omega)]; exact jn.2.2.2.2.2.2.2.1, by rw [all_c h 50 (by omega)]; exact jn.1, by rw [all_c h 50 (by omega)]; exact jn.2.2.1⟩
  have hr12 : (m.1 206 17).toNatClampNeg ≤ 1200 := tn_le j.2.1.1 j.2.1.2 (by decide)
  obtain ⟨f0, f1, _, _, _, f5, _⟩ := j.2.2.1 r hr
  have ha : (m.1 220 r).toNatClampNeg < (m.1 206 16).toNatClampNeg := tn_lt2 f5.1 f5.2
  refine ⟨?_, ?_, ?_⟩
  · have := h.2.2.2.1 r (by omega) 0 (by omega)
    rw [Nat.add_zero] at this
    rw [this]; exact f0
  · rw [h.2.2.2.1 r (by omega) 1 (by omega)]; exact f1
  · have := (h.2.2.2.2.2 _ ha).2.2 r (rds_of _ r hr (by rw [of_tn f5.1]))
    exact this.2.2.1
theorem isKept_b {w : rf_w} {m X : rf_m} {x : Int32} (h : blA w m X) (hx : ib x (m.1 206 17)) (h12 : (m.1 206 17).toNatClampNeg ≤ 1200) : g_X3_isKept w X x = some (bi (kpP w m x), X) := by
  have o1 : ¬ (0 : Int32) = 1 := by decide
  have hr := tn_lt2 hx.1 hx.2
  have e := X3_factOf (w := w) (m := X) (r := x.toNatClampNeg) (k := 7) (by omega) (by omega)
  rw [of_tn hx.1, (h.1 _ hr).2.2] at e
  have e : g_X3_factOf w X x 7 = _ := e
  unfold g_X3_isKept kpP
  rw [e, b_sm]
  by_cases q : knP w m x.toNatClampNeg
  · rw [bi_t q, if_pos rfl]
  · rw [bi_f q, if_neg o1]
/-- gathering the live ones -/
def lvF (X X' : rf_m) : Prop := (∀ z, z ≠ 184 → z ≠ 187 → X'.1 z = X.1 z) ∧ (∀ k, k ≠ 8 → X'.1 184 k = X.1 184 k) ∧ X'.2 = X.2
theorem ins_c {w : rf_w} {x : Int32} {i : Nat} {r7 : Int32 → rf_m → Option rf_m} (hi : i < 12) : ∀ (s : List Int32) (f : Nat) (X : rf_m) (N : Nat), s.length < 12 → s.length < f → plI (X.1 187) s → X.1 184 8 = Int32.ofNat N → X.1 186 i = x → ∃ F, g_X2_gatherLive_36 w r7 f (Int32.ofNat i) (Int32.ofNat s.length) X = r7 (Int32.ofNat (i + 1)) (rf_i (stc X 187 F) 184 8 (Int32.ofNat (N + 1))) ∧ plI F (insI x s) ∧ ∀ k, s.length < k → F k = X.1 187 k := by
  intro s
  induction s with
  | nil =>
    intro f X N hl hf hp hN hx
    obtain ⟨f, rfl⟩ : ∃ g, f = g + 1 := ⟨f - 1, by omega⟩
    refine ⟨pu (X.1 187) 0 x, ?_, ⟨pu_at .., trivial⟩, fun k hk => pu_ne (by simp at hk; omega)⟩
    show g_X2_gatherLive_36_b w _ _ _ _ X = _
    unfold g_X2_gatherLive_36_b g_X2_gatherLive_77 g_X2_gatherLive_99
    have l0 : Int32.ofNat ([] : List Int32).length ≤ 0 := by decide
    have e8 : (rf_i X 187 0 x).1 184 8 = Int32.ofNat N := by rw [rf_i_c, if_neg (by decide)]; exact hN
    rw [if_pos l0, gof hi (by decide), g_t, gof (n := ([] : List Int32).length) (by decide) (by decide), g_t, tn_of (n := i) (by omega), tn_of (n := ([] : List Int32).length) (by decide), hx]
    show r7 (Int32.ofNat i + 1) (rf_i (rf_i X 187 0 x) 184 8 ((rf_i X 187 0 x).1 184 8 + 1)) = _
    rw [e8, of_succ, of_succ, stc_i (c := 187)]
  | cons y t ih =>
    intro f X N hl hf hp hN hx
    obtain ⟨f, rfl⟩ : ∃ g, f = g + 1 := ⟨f - 1, by omega⟩
    have hl' : t.length + 1 < 12 := hl
    have n0 : ¬ Int32.ofNat (t.length + 1) ≤ 0 := nle (i := 0) (by omega) (by omega)
    have em : Int32.ofNat (t.length + 1) + (-1) = Int32.ofNat t.length := ofm1
    have hy : X.1 187 t.length = y := hp.1
    show ∃ F, g_X2_gatherLive_36_b w _ (g_X2_gatherLive_36 w r7 f) (Int32.ofNat i) (Int32.ofNat (t.length + 1)) X = _ ∧ _
    unfold g_X2_gatherLive_36_b
    rw [if_neg n0, ofm1', gof (n := t.length) (by omega) (by decide), g_t, gof hi (by decide), g_t, tn_of (by omega), tn_of (by omega), hy, hx, em]
    by_cases q : y ≤ x
    · refine ⟨pu (X.1 187) (t.length + 1) x, ?_, ?_, fun k hk => pu_ne (by simp at hk; omega)⟩
      · unfold g_X2_gatherLive_77 g_X2_gatherLive_99
        have e8 : (rf_i X 187 (t.length + 1) x).1 184 8 = Int32.ofNat N := by rw [rf_i_c, if_neg (by decide)]; exact hN
        rw [if_pos q, gof hi (by decide), g_t, gof (n := t.length + 1) (by omega) (by decide), g_t, tn_of (n := i) (by omega), tn_of (n := t.length + 1) (by omega), hx, e8, of_succ, of_succ, stc_i (c := 187)]
      · show plI _ (if y ≤ x then x :: y :: t else y :: insI x t)
        rw [if_pos q]
        exact ⟨pu_at .., plI_pu hp (by simp)⟩
    · rw [if_neg q, g_t, gof (n := t.length + 1) (by omega) (by decide), g_t, tn_of (by omega)]
      obtain ⟨F, h1, h2, h3⟩ := ih f (rf_i X 187 (t.length + 1) y) N (by omega) (by simp at hf; omega) (by rw [rf_i_c, if_pos rfl]; exact plI_pu hp.2 (by omega)) (by rw [rf_i_c, if_neg (by decide)]; exact hN) (by rw [rf_i_c, if_neg (by decide)]; exact hx)
      refine ⟨F, ?_, ?_, fun k hk => ?_⟩
      · rw [h1, stc_i (c := 187), stc_stc]
      · show plI _ (if y ≤ x then x :: y :: t else y :: insI x t)
        rw [if_neg q]
        refine ⟨?_, h2⟩
        rw [insI_len, h3 _ (by omega), rf_i_c, if_pos rfl, pu_at]
      · rw [h3 k (by simp at hk; omega), rf_i_c, if_pos rfl, pu_ne (by simp at hk; omega)]
theorem live_c {w : rf_w} {m X : rf_m} {u : List Int32} (hu : u.length ≤ 12) (h1 : X.1 184 1 = Int32.ofNat u.length) (hp : plI (X.1 186) u) (hx : ∀ x, x ∈ u → ib x (m.1 206 17)) (h12 : (m.1 206 17).toNatClampNeg ≤ 1200) (hB : blA w m X) : ∃ X', g_X2_gatherLive w X = some X' ∧ lvF X X' ∧ X'.1 184 8 = Int32.ofNat (fIl (kpP w m) u).length ∧ plI (X'.1 187) (isrt (fIl (kpP w m) u)) := by
  have o1 : ¬ (1 : Int32) = 0 := by decide
  obtain ⟨F, hF, hFb⟩ := fuel_ex
  -- over the first of u, the last added first
  have key : ∀ (v t : List Int32) (f : Nat) (Y : rf_m), u = v ++ t → v.length < f → lvF X Y → Y.1 184 8 = Int32.ofNat (fIl (kpP w m) t).length → plI (Y.1 187) (isrt (fIl (kpP w m) t)) → ∃ X', g_X2_gatherLive_7 w f (Int32.ofNat t.length) Y = some X' ∧ lvF X X' ∧ X'.1 184 8 = Int32.ofNat (fIl (kpP w m) u).length ∧ plI (X'.1 187) (isrt (fIl (kpP w m) u)) := by
    intro v
    induction hv : v.length generalizing v with
    | zero =>
      intro t f Y e hf fY y1 y2
      obtain ⟨f, rfl⟩ : ∃ g, f = g + 1 := ⟨f - 1, by omega⟩
      have v0 : v = [] := List.eq_nil_of_length_eq_zero hv
      rw [v0, List.nil_append] at e
      subst e
      refine ⟨Y, ?_, fY, y1, y2⟩
      show g_X2_gatherLive_7_b w _ _ Y = _
      unfold g_X2_gatherLive_7_b
      rw [fY.2.1 1 (by decide), h1, if_pos (Int32.le_refl _)]
    | succ k ih =>
      intro t f Y e hf fY y1 y2
      obtain ⟨f, rfl⟩ : ∃ g, f = g + 1 := ⟨f - 1, by omega⟩
      -- the last of v
      obtain ⟨v', x, rfl⟩ : ∃ v' x, v = v' ++ [x] := by
        cases hr : v.reverse with
        | nil => rw [List.reverse_eq_nil_iff.mp hr] at hv; cases hv
        | cons x r => exact ⟨r.reverse, x, by rw [← List.reverse_reverse v, hr, List.reverse_cons]⟩
      have hv' : v'.length = k := by rw [List.length_append] at hv; simpa using hv
      have eu : u = v' ++ (x :: t) := by rw [e, List.append_assoc]; rfl
      have ul : u.length = k + (t.length + 1) := by rw [eu, List.length_append, List.length_cons, hv']
      have xm : x ∈ u := by rw [eu]; simp
      have gx : X.1 186 t.length = x := by
        have := plI_get hp t.length (by omega)
        rw [this]
        have hidx : u.length - 1 - t.length = v'.length := by omega
        simp only [eu] at *
        rw [List.getElem_append_right (by omega)]
        simp [hv', List.length_append]
      have nl : ¬ Int32.ofNat u.length ≤ Int32.ofNat t.length := nle (by omega) (by omega)
      have hBY : blA w m Y := blA_e hB (fun z hz => fY.1 z (by omega) (by omega)) (fun k _ => by rw [fY.1 50 (by decide) (by decide)])
      have yx : Y.1 186 t.length = x := by rw [fY.1 186 (by decide) (by decide)]; exact gx
      show ∃ X', g_X2_gatherLive_7_b w (g_X2_gatherLive_7 w f) _ Y = _ ∧ _
      unfold g_X2_gatherLive_7_b
      rw [fY.2.1 1 (by decide), h1, if_neg nl, gof (by omega) (by decide), g_t, tn_of (by omega), yx, isKept_b hBY (hx x xm) h12, b_sm]
      by_cases c : kpP w m x
      · have lt : (isrt (fIl (kpP w m) t)).length = (fIl (kpP w m) t).length := isrt_len _
        have l2 := fIl_len (P := kpP w m) t
        rw [bi_t c, if_neg o1, y1, hF, ← lt]
        obtain ⟨G, k1, k2, k3⟩ := ins_c (w := w) (x := x) (i := t.length) (r7 := g_X2_gatherLive_7 w f) (by omega) (isrt (fIl (kpP w m) t)) F Y (fIl (kpP w m) t).length (by omega) (by omega) y2 y1 yx
        rw [k1]
        refine ih v' hv' (x :: t) f _ eu (by omega) ⟨fun z a b => ?_, fun k hk => ?_, ?_⟩ ?_ ?_
        · rw [rf_i_c, if_neg a, stc_ne b, fY.1 z a b]
        · rw [rf_i_c, if_pos rfl, pu_ne hk, stc_ne (by decide), fY.2.1 k hk]
        · rw [rf_i_l]; exact fY.2.2
        · rw [rf_i_c, if_pos rfl, pu_at, fIl_t c, List.length_cons]
        · rw [rf_i_c, if_neg (by decide), stc_at, fIl_t c]
          exact k2
      · rw [bi_f c, if_pos rfl]
        unfold g_X2_gatherLive_99
        rw [of_succ]
        exact ih v' hv' (x :: t) f Y eu (by omega) fY (by rw [fIl_f c]; exact y1) (by rw [fIl_f c]; exact y2)
  unfold g_X2_gatherLive
  rw [hF]
  exact key u [] F (rf_i X 184 8 0) (by rw [List.append_nil]) (by omega) ⟨fun z a b => by rw [rf_i_c, if_neg a], fun k hk => by rw [rf_i_c, if_pos rfl, pu_ne hk], rfl⟩ (by rw [rf_i_c, if_pos rfl, pu_at]; rfl) trivial
/-- the reference's live ones -/
def trF (M M' : rf_m) : Prop := (∀ z, z ≠ 206 → z ≠ 226 → z ≠ 227 → z ≠ 228 → z ≠ 235 → z ≠ 283 → M'.1 z = M.1 z) ∧ (∀ k, k < 33 ∨ 38 < k → M'.1 206 k = M.1 206 k) ∧ M'.2 = M.2
theorem trF_mA {m M M' : rf_m} (h : mA m M) (g : trF M M') : mA m M' := mA_x h (fun z hz => g.1 z (by omega) (by omega) (by omega) (by omega) (by omega) (by omega)) (fun k hk => g.2.1 k (by omega))
theorem live_r {c : Nat} {w : rf_w} {m M : rf_m} {s : List Int32} (J : JCnt c w m) (hA : mA m M) (hs : s.length ≤ 12) (h1 : M.1 206 116 = Int32.ofNat s.length) (hp : plI (M.1 282) s) (hx : ∀ x, x ∈ s → ib x (m.1 206 17)) : ∃ M', g_X14_blunder_9 w rf_fuel 0 0 M = g_X14_blunder_56 w rf_fuel (Int32.ofNat (fIl (kpP w m) s).length) 0 M' ∧ trF M M' ∧ plI (M'.1 283) (fIl (kpP w m) s) := by
  have o1 : ¬ (1 : Int32) = 0 := by decide
  have key : ∀ (v t : List Int32) (f : Nat) (Y : rf_m), s = v ++ t → v.length < f → trF M Y → plI (Y.1 283) (fIl (kpP w m) t) → ∃ M', g_X14_blunder_9 w f (Int32.ofNat (fIl (kpP w m) t).length) (Int32.ofNat t.length) Y = g_X14_blunder_56 w rf_fuel (Int32.ofNat (fIl (kpP w m) s).length) 0 M' ∧ trF M M' ∧ plI (M'.1 283) (fIl (kpP w m) s) := by
    intro v
    induction hv : v.length generalizing v with
    | zero =>
      intro t f Y e hf fY y2
      obtain ⟨f, rfl⟩ : ∃ g, f = g + 1 := ⟨f - 1, by omega⟩
      have v0 : v = [] := List.eq_nil_of_length_eq_zero hv
      rw [v0, List.nil_append] at e
      subst e
      refine ⟨Y, ?_, fY, y2⟩
      show g_X14_blunder_9_b w _ _ _ Y = _
      unfold g_X14_blunder_9_b
      rw [fY.2.1 116 (by omega), h1, if_pos (Int32.le_refl _)]
    | succ k ih =>
      intro t f Y e hf fY y2
      obtain ⟨f, rfl⟩ : ∃ g, f = g + 1 := ⟨f - 1, by omega⟩
      obtain ⟨v', x, rfl⟩ : ∃ v' x, v = v' ++ [x] := by
        cases hr : v.reverse with
        | nil => rw [List.reverse_eq_nil_iff.mp hr] at hv; cases hv
        | cons x r => exact ⟨r.reverse, x, by rw [← List.reverse_reverse v, hr, List.reverse_cons]⟩
      have hv' : v'.length = k := by rw [List.length_append] at hv; simpa using hv
      have eu : s = v' ++ (x :: t) := by rw [e, List.append_assoc]; rfl
      have ul : s.length = k + (t.length + 1) := by rw [eu, List.length_append, List.length_cons, hv']
      have xm : x ∈ s := by rw [eu]; simp
      have gx : M.1 282 t.length = x := by
        have := plI_get hp t.length (by omega)
        rw [this]
        have hidx : s.length - 1 - t.length = v'.length := by omega
        simp only [eu] at *
        rw [List.getElem_append_right (by omega)]
        simp [hv', List.length_append]
      have nl : ¬ Int32.ofNat s.length ≤ Int32.ofNat t.length := nle (by omega) (by omega)
      have yx : Y.1 282 t.length = x := by rw [fY.1 282 (by decide) (by decide) (by decide) (by decide) (by decide) (by decide)]; exact gx
      have hxx := hx x xm
      obtain ⟨Y1, q1, q2⟩ := keptNow_r (r := x.toNatClampNeg) J (tn_lt2 hxx.1 hxx.2) (trF_mA hA fY)
      rw [of_tn hxx.1] at q1
      have q1 : g_X14_isKeptNow w Y x = some (bi (kpP w m x), Y1) := q1
      have f1 : trF M Y1 := ⟨fun z a b d e' g h => by rw [q2.1 z a b d e' g, fY.1 z a b d e' g h], fun k hk => by rw [q2.2.1 k hk, fY.2.1 k hk], by rw [q2.2.2, fY.2.2]⟩
      have y283 : Y1.1 283 = Y.1 283 := q2.1 283 (by decide) (by decide) (by decide) (by decide) (by decide)
      have yx1 : Y1.1 282 t.length = x := by rw [f1.1 282 (by decide) (by decide) (by decide) (by decide) (by decide) (by decide)]; exact gx
      have l2 := fIl_len (P := kpP w m) t
      show ∃ M', g_X14_blunder_9_b w (g_X14_blunder_9 w f) _ _ Y = _ ∧ _
      unfold g_X14_blunder_9_b g_X14_blunder_48
      rw [fY.2.1 116 (by omega), h1, if_neg nl, gof (n := t.length) (by omega) (by decide), g_t, tn_of (n := t.length) (by omega), yx, q1, b_sm, of_succ]
      by_cases c' : kpP w m x
      · rw [bi_t c', if_neg o1, g_t, gof (by omega) (by decide), g_t, tn_of (by omega), of_succ, yx1, stc_i]
        have r := ih v' hv' (x :: t) f (stc Y1 283 (pu (Y1.1 283) (fIl (kpP w m) t).length x)) eu (by omega) ⟨fun z a b d e' g h => by rw [stc_ne h]; exact f1.1 z a b d e' g h, fun k hk => by rw [stc_ne (by decide)]; exact f1.2.1 k hk, f1.2.2⟩ (by
          rw [stc_at, fIl_t c', y283]
          exact ⟨pu_at .., plI_pu y2 (Nat.le_refl _)⟩)
        rw [fIl_t c', List.length_cons] at r
        exact r
      · rw [bi_f c', if_pos rfl]
        have r := ih v' hv' (x :: t) f Y1 eu (by omega) f1 (by rw [fIl_f c', y283]; exact y2)
        rw [fIl_f c'] at r
        exact r
  obtain ⟨F, hF, hFb⟩ := fuel_ex
  have k := key s [] F M (by rw [List.append_nil]) (by omega) ⟨fun _ _ _ _ _ _ _ => rfl, fun _ _ => rfl, rfl⟩ trivial
  rw [hF] at k ⊢
  exact k
end PBLive
