/-! suspects: the class counts the right rows of a size -/
section PBCount
theorem cmb_nd : ∀ n lo s L, L ∈ cmb lo n s → L.Nodup := by
  intro n
  induction n with
  | zero =>
    intro lo s L h
    cases s with
    | zero =>
      rw [cmb_0] at h
      rw [List.mem_singleton.mp h]
      exact List.nodup_nil
    | succ s => cases h
  | succ n ih =>
    intro lo s L h
    cases s with
    | zero =>
      rw [cmb_0] at h
      rw [List.mem_singleton.mp h]
      exact List.nodup_nil
    | succ s =>
      have h : L ∈ (cmb (lo + 1) n s).map (fun L => lo :: L) ++ cmb (lo + 1) n (s + 1) := h
      rcases List.mem_append.mp h with q | q
      · obtain ⟨L', q1, rfl⟩ := List.mem_map.mp q
        exact List.nodup_cons.mpr ⟨fun z => by have := ((cmb_len _ _ _ _ q1).2 lo z).1; omega, ih _ _ _ q1⟩
      · exact ih _ _ _ q
/-- the first of a kind -/
noncomputable def fsL (P : List Nat → Prop) : List (List Nat) → Option (List Nat)
  | [] => none
  | x :: l => @ite _ (P x) (Classical.propDecidable _) (some x) (fsL P l)
theorem fsL_t {P : List Nat → Prop} {x : List Nat} {l : List (List Nat)} (h : P x) : fsL P (x :: l) = some x := if_pos h
theorem fsL_n {P : List Nat → Prop} {x : List Nat} {l : List (List Nat)} (h : ¬ P x) : fsL P (x :: l) = fsL P l := if_neg h
theorem cnL_t {P : List Nat → Prop} {x : List Nat} {l : List (List Nat)} (h : P x) : cntL P (x :: l) = cntL P l + 1 := by
  show cntL P l + @ite _ (P x) (Classical.propDecidable _) 1 0 = _
  rw [if_pos h]
theorem cnL_n {P : List Nat → Prop} {x : List Nat} {l : List (List Nat)} (h : ¬ P x) : cntL P (x :: l) = cntL P l := by
  show cntL P l + @ite _ (P x) (Classical.propDecidable _) 1 0 = _
  rw [if_neg h]
  rfl
theorem cnL_le {P : List Nat → Prop} : ∀ l, cntL P l ≤ l.length := by
  intro l
  induction l with
  | nil => exact Nat.le_refl _
  | cons x l ih =>
    by_cases h : P x
    · rw [cnL_t h, List.length_cons]; omega
    · rw [cnL_n h, List.length_cons]; omega
def orE (a b : Option (List Nat)) : Option (List Nat) := match a with
  | some x => some x
  | none => b
/-- what the counting reads -/
def csI (w : rf_w) (m : rf_m) (V : Nat → Nat) (n : Nat) (X : rf_m) : Prop := blA w m X ∧ X.1 184 8 = Int32.ofNat n ∧ (∀ k, k < n → X.1 187 k = Int32.ofNat (V k)) ∧ 0 ≤ X.1 50 7 ∧ ∀ a, a < (m.1 206 16).toNatClampNeg → (¬ ∃ k, k < n ∧ anV m V k = a) → X.1 192 a = meanV w m 9999 a
def csF (X X' : rf_m) : Prop := (∀ z, z ≠ 50 → (z < 188 ∨ 192 < z) → X'.1 z = X.1 z) ∧ (∀ k, k ≠ 7 → X'.1 50 k = X.1 50 k) ∧ X'.2 = X.2
theorem csF_refl {X : rf_m} : csF X X := ⟨fun _ _ _ => rfl, fun _ _ => rfl, rfl⟩
theorem csF_trans {X Y Z : rf_m} (h : csF X Y) (g : csF Y Z) : csF X Z := ⟨fun z a b => (g.1 z a b).trans (h.1 z a b), fun k a => (g.2.1 k a).trans (h.2.1 k a), g.2.2.trans h.2.2⟩
theorem csI_F {w : rf_w} {m X Y : rf_m} {V : Nat → Nat} {n : Nat} (h : csI w m V n X) (g : csF X Y) (h7 : 0 ≤ Y.1 50 7) (h192 : ∀ a, a < (m.1 206 16).toNatClampNeg → (¬ ∃ k, k < n ∧ anV m V k = a) → Y.1 192 a = X.1 192 a) : csI w m V n Y := ⟨blA_e h.1 (fun z hz => g.1 z (by omega) (by omega)) (fun k hk => g.2.1 k (by omega)), by rw [g.1 184 (by decide) (by decide)]; exact h.2.1, fun k hk => by rw [g.1 187 (by decide) (by decide)]; exact h.2.2.1 k hk, h7, fun a ha hn => by rw [h192 a ha hn]; exact h.2.2.2.2 a ha hn⟩
theorem csF_st {X : rf_m} {c : Nat} {G : Nat → Int32} (hc : 188 ≤ c ∧ c ≤ 192) : csF X (stc X c G) := ⟨fun z _ b => stc_ne (by omega), fun k _ => by rw [stc_ne (by omega)], rfl⟩
theorem csF_7 {X : rf_m} {v : Int32} : csF X (rf_i X 50 7 v) := ⟨fun z a _ => by rw [rf_i_c, if_neg a], fun k hk => by rw [rf_i_c, if_pos rfl, pu_ne hk], rfl⟩
/-- the first right row is kept -/
theorem keepF {w : rf_w} {m : rf_m} {V : Nat → Nat} {n : Nat} {L : List Nat} (hn : n ≤ 12) (hl : L.length ≤ 12) (hb : ∀ x, x ∈ L → x < n) : ∀ r f j (X : rf_m), j + r = L.length → r < f → pkL X L → (∀ k, k < n → X.1 187 k = Int32.ofNat (V k)) → (∀ i (h : i < L.length), i < j → X.1 189 i = Int32.ofNat (V L[i])) → ∃ G, g_X2_keepFirst_2 w f (Int32.ofNat L.length) (Int32.ofNat j) X = some (stc X 189 G) ∧ ∀ i (h : i < L.length), G i = Int32.ofNat (V L[i]) := by
  intro r
  induction r with
  | zero =>
    intro f j X hj hf hp h187 hd
    obtain ⟨f, rfl⟩ : ∃ g, f = g + 1 := ⟨f - 1, by omega⟩
    have e : j = L.length := by omega
    subst e
    refine ⟨X.1 189, ?_, fun i h => hd i h h⟩
    show g_X2_keepFirst_2_b w _ _ _ X = _
    unfold g_X2_keepFirst_2_b
    rw [if_pos (Int32.le_refl _), stc_self]
  | succ r ih =>
    intro f j X hj hf hp h187 hd
    obtain ⟨f, rfl⟩ : ∃ g, f = g + 1 := ⟨f - 1, by omega⟩
    have jl : j < L.length := by omega
    have g1 : ¬ Int32.ofNat L.length ≤ Int32.ofNat j := nle (by omega) (by omega)
    have xn := hb L[j] (List.getElem_mem jl)
    obtain ⟨G, k1, k2⟩ := ih f (j + 1) (stc X 189 (pu (X.1 189) j (Int32.ofNat (V L[j])))) (by omega) (by omega) (fun i h => by rw [stc_ne (by decide)]; exact hp i h) (fun k hk => by rw [stc_ne (by decide)]; exact h187 k hk) (fun i h hi => by
      rw [stc_at]
      by_cases e : i = j
      · subst e; rw [pu_at]
      · rw [pu_ne e]; exact hd i h (by omega))
    refine ⟨G, ?_, k2⟩
    show g_X2_keepFirst_2_b w _ _ _ X = _
    unfold g_X2_keepFirst_2_b
    rw [if_neg g1, gof (n := j) (by omega) (by decide), g_t, tn_of (n := j) (by omega), hp j jl, gof (n := L[j]) (by omega) (by decide), g_t, g_t, tn_of (n := L[j]) (by omega), h187 _ xn, of_succ, stc_i, k1, stc_stc]
theorem orE_n {a : Option (List Nat)} : orE a none = a := by cases a <;> rfl
/-- one row is tried -/
theorem cs_try {c : Nat} {w : rf_w} {m : rf_m} {V : Nat → Nat} {n s f i g : Nat} {A : Int32} {L : List Nat} {X : rf_m} {Fo : Option (List Nat)} (J : JCnt c w m) (jn : JNet m) (hV : vOK w m V n) (hs : s ≤ 12) (hls : L.length = s) (hb : ∀ x, x ∈ L → x < n) (hnd : L.Nodup) (hi : i < 4096) (hg : g ≤ i) (hI : csI w m V n X) (hp : pkL X L) (hF0 : Fo = none ↔ g = 0) (hF : ∀ F, Fo = some F → ∀ j (h : j < F.length), X.1 189 j = Int32.ofNat (V F[j])) : ∃ X1 g' Fo', g_X2_countSets_28 w (f + 1) (Int32.ofNat s) A (Int32.ofNat g) 1 (Int32.ofNat i) X = g_X2_countSets_76 w (g_X2_countSets_28 w f) (Int32.ofNat s) A (Int32.ofNat g') (Int32.ofNat i) X1 ∧ csF X X1 ∧ csI w m V n X1 ∧ pkL X1 L ∧ (∀ l, g + cntL (rgL w m V n A) (L :: l) = g' + cntL (rgL w m V n A) l) ∧ (∀ l, orE Fo (fsL (rgL w m V n A) (L :: l)) = orE Fo' (fsL (rgL w m V n A) l)) ∧ g' ≤ i + 1 ∧ (Fo' = none ↔ g' = 0) ∧ (∀ F, Fo' = some F → ∀ j (h : j < F.length), X1.1 189 j = Int32.ofNat (V F[j])) := by
  have n12 := hV.1
  obtain ⟨X1, s1, s2, s3, s4⟩ := strikes_c (L := L) J hV hI.1 hI.2.1 hI.2.2.1 hb (by omega) hp hI.2.2.2.2
  rw [hls] at s1
  have q1 : ¬ (4096 : Int32) ≤ Int32.ofNat i := nle (R := 4096) hi (by decide)
  have F1 : csF X X1 := ⟨fun z _ b => s2.1 z (by omega) (by omega) (by omega), fun k _ => by rw [s2.1 50 (by decide) (by decide) (by decide)], s2.2⟩
  have p1 : pkL X1 L := fun j h => by rw [s2.1 188 (by decide) (by decide) (by decide)]; exact hp j h
  have e89 : X1.1 189 = X.1 189 := s2.1 189 (by decide) (by decide) (by decide)
  have I1 : csI w m V n X1 := csI_F hI F1 (by rw [s2.1 50 (by decide) (by decide) (by decide)]; exact hI.2.2.2.1) (fun a ha hn => by rw [s3 a ha hn, hI.2.2.2.2 a ha hn])
  have st : g_X2_countSets_28 w (f + 1) (Int32.ofNat s) A (Int32.ofNat g) 1 (Int32.ofNat i) X = g_X2_countSets_28_b w (g_X2_countSets_28 w f) (Int32.ofNat s) A (Int32.ofNat g) 1 (Int32.ofNat i) X := rfl
  have no : ¬ rgL w m V n A L → ∀ X2, csF X X2 → csI w m V n X2 → pkL X2 L → X2.1 189 = X.1 189 → g_X2_countSets_28 w (f + 1) (Int32.ofNat s) A (Int32.ofNat g) 1 (Int32.ofNat i) X = g_X2_countSets_76 w (g_X2_countSets_28 w f) (Int32.ofNat s) A (Int32.ofNat g) (Int32.ofNat i) X2 → ∃ X1 g' Fo', g_X2_countSets_28 w (f + 1) (Int32.ofNat s) A (Int32.ofNat g) 1 (Int32.ofNat i) X = g_X2_countSets_76 w (g_X2_countSets_28 w f) (Int32.ofNat s) A (Int32.ofNat g') (Int32.ofNat i) X1 ∧ csF X X1 ∧ csI w m V n X1 ∧ pkL X1 L ∧ (∀ l, g + cntL (rgL w m V n A) (L :: l) = g' + cntL (rgL w m V n A) l) ∧ (∀ l, orE Fo (fsL (rgL w m V n A) (L :: l)) = orE Fo' (fsL (rgL w m V n A) l)) ∧ g' ≤ i + 1 ∧ (Fo' = none ↔ g' = 0) ∧ (∀ F, Fo' = some F → ∀ j (h : j < F.length), X1.1 189 j = Int32.ofNat (V F[j])) := fun nr X2 a1 a2 a3 a4 a5 => ⟨X2, g, Fo, a5, a1, a2, a3, fun l => by rw [cnL_n nr], fun l => by rw [fsL_n nr], by omega, hF0, fun F hf j h => by rw [a4]; exact hF F hf j h⟩
  by_cases ok : okL w m V n L
  · rw [bi_t ok] at s1
    obtain ⟨X2, w1, w2⟩ := within_c (w := w) (A := A) J.2.2.2.2.1 jn (mn := mnL w m V L) (X := X1) ⟨I1.1.2.2.1, I1.1.2.2.2.1, I1.1.2.2.2.2.1, I1.1.2.2.2.2.2.1, I1.1.2.2.2.2.2.2.1, I1.1.2.2.2.2.2.2.2, s4 ok⟩ (mnL_R J hV hb hnd ok) I1.2.2.2.1
    have F2 : csF X1 X2 ∧ 0 ≤ X2.1 50 7 ∧ X2.1 192 = X1.1 192 ∧ X2.1 188 = X1.1 188 ∧ X2.1 189 = X1.1 189 := by
      rcases w2 with e | ⟨v, hv, e⟩
      · subst e; exact ⟨csF_refl, I1.2.2.2.1, rfl, rfl, rfl⟩
      · subst e; exact ⟨csF_7, by rw [rf_i_c, if_pos rfl, pu_at]; exact of_nn (by omega), by rw [rf_i_c, if_neg (by decide)], by rw [rf_i_c, if_neg (by decide)], by rw [rf_i_c, if_neg (by decide)]⟩
    have I2 : csI w m V n X2 := csI_F I1 F2.1 F2.2.1 (fun a _ _ => by rw [F2.2.2.1])
    have p2 : pkL X2 L := fun j h => by rw [F2.2.2.2.1]; exact p1 j h
    have e892 : X2.1 189 = X.1 189 := F2.2.2.2.2.trans e89
    have n1 : ¬ (1 : Int32) = 0 := by decide
    by_cases al : allG m (mnL w m V L) A
    · have rg : rgL w m V n A L := ⟨ok, al⟩
      rw [bi_t al] at w1
      by_cases g0 : g = 0
      · subst g0
        have Fn := hF0.mpr rfl
        subst Fn
        obtain ⟨F, hF', hFb⟩ := fuel_ex
        obtain ⟨G, k1, k2⟩ := keepF (w := w) (m := m) (V := V) (n := n) (L := L) n12 (by omega) hb L.length F 0 X2 (by omega) (by omega) p2 I2.2.2.1 (fun j _ h => by omega)
        rw [hls] at k1
        refine ⟨stc X2 189 G, 1, some L, ?_, csF_trans (csF_trans F1 F2.1) (csF_st (by decide)), csI_F I2 (csF_st (by decide)) (by rw [stc_ne (by decide)]; exact I2.2.2.2.1) (fun a _ _ => by rw [stc_ne (by decide)]), fun j h => by rw [stc_ne (by decide)]; exact p2 j h, fun l => by rw [cnL_t rg]; omega, fun l => by rw [fsL_t rg]; rfl, by omega, ⟨fun z => (by cases z), fun z => (by omega)⟩, fun F hf j h => ?_⟩
        · rw [st]
          unfold g_X2_countSets_28_b
          have z0 : Int32.ofNat 0 = 0 := rfl
          have k1 : g_X2_keepFirst w X2 (Int32.ofNat s) = some (stc X2 189 G) := by
            unfold g_X2_keepFirst
            rw [hF']
            exact k1
          rw [if_neg q1, if_neg n1, s1, b_sm, if_neg n1, w1, b_sm, if_neg n1, if_pos z0, k1, bv_sm]
          rfl
        · injection hf with hf
          subst hf
          rw [stc_at]
          exact k2 j h
      · refine ⟨X2, g + 1, Fo, ?_, csF_trans F1 F2.1, I2, p2, fun l => by rw [cnL_t rg]; omega, fun l => ?_, by omega, ⟨fun z => absurd (hF0.mp z) g0, fun z => (by omega)⟩, fun F hf j h => by rw [e892]; exact hF F hf j h⟩
        · rw [st]
          unfold g_X2_countSets_28_b
          have z0 : ¬ Int32.ofNat g = 0 := fun z => g0 ((of_inj (b := 0) (by omega) (by omega)).mp z)
          rw [if_neg q1, if_neg n1, s1, b_sm, if_neg n1, w1, b_sm, if_neg n1, if_neg z0]
          unfold g_X2_countSets_73
          rw [of_succ]
        · obtain ⟨F', hF'⟩ : ∃ F', Fo = some F' := by
            cases Fo with
            | none => exact absurd (hF0.mp rfl) g0
            | some x => exact ⟨x, rfl⟩
          rw [hF']
          rfl
    · rw [bi_f al] at w1
      refine no (fun h => al h.2) X2 (csF_trans F1 F2.1) I2 p2 e892 ?_
      rw [st]
      unfold g_X2_countSets_28_b
      rw [if_neg q1, if_neg n1, s1, b_sm, if_neg n1, w1, b_sm, if_pos rfl]
  · rw [bi_f ok] at s1
    have n1 : ¬ (1 : Int32) = 0 := by decide
    refine no (fun h => ok h.1) X1 F1 I1 p1 e89 ?_
    rw [st]
    unfold g_X2_countSets_28_b
    rw [if_neg q1, if_neg n1, s1, b_sm, if_pos rfl]
/-- all rows from one on -/
theorem cs_loop {c : Nat} {w : rf_w} {m : rf_m} {V : Nat → Nat} {n s : Nat} {A : Int32} (J : JCnt c w m) (jn : JNet m) (hV : vOK w m V n) (hs : s ≤ 12) : ∀ (R : List (List Nat)) (L : List Nat) f i g X Fo, chn n (L :: R) → (∀ L', L' ∈ L :: R → L'.length = s ∧ (∀ x, x ∈ L' → x < n) ∧ L'.Nodup) → i + (R.length + 1) ≤ 4096 → R.length + 1 < f → g ≤ i → csI w m V n X → pkL X L → (Fo = none ↔ g = 0) → (∀ F, Fo = some F → ∀ j (h : j < F.length), X.1 189 j = Int32.ofNat (V F[j])) → ∃ X', g_X2_countSets_28 w f (Int32.ofNat s) A (Int32.ofNat g) 1 (Int32.ofNat i) X = some (Int32.ofNat (g + cntL (rgL w m V n A) (L :: R)), X') ∧ csF X X' ∧ csI w m V n X' ∧ (∀ F, orE Fo (fsL (rgL w m V n A) (L :: R)) = some F → ∀ j (h : j < F.length), X'.1 189 j = Int32.ofNat (V F[j])) := by
  have n12 := hV.1
  intro R
  induction R with
  | nil =>
    intro L f i g X Fo hc hL hi hf hg hI hp hF0 hF
    obtain ⟨f, rfl⟩ : ∃ g, f = g + 1 := ⟨f - 1, by omega⟩
    obtain ⟨l1, l2, l3⟩ := hL L List.mem_cons_self
    obtain ⟨X1, g', Fo', t1, t2, t3, t4, t5, t6, t7, t8, t9⟩ := cs_try (f := f) (A := A) J jn hV hs l1 l2 l3 (by omega) hg hI hp hF0 hF
    have hc : nxc n L = none := hc
    have pk := (pick_c (w := w) n12 t3.2.1 (by omega) t4 l2).1 hc
    rw [l1] at pk
    refine ⟨X1, ?_, t2, t3, fun F hf => by rw [t6] at hf; rw [show orE Fo' (fsL (rgL w m V n A) []) = Fo' from orE_n] at hf; exact t9 F hf⟩
    rw [t1, t5]
    unfold g_X2_countSets_76
    rw [pk, b_sm, of_succ]
    obtain ⟨f, rfl⟩ : ∃ g, f = g + 1 := ⟨f - 1, by simp at hf; omega⟩
    show g_X2_countSets_28_b w _ _ _ _ _ _ X1 = _
    unfold g_X2_countSets_28_b
    by_cases q : (4096 : Int32) ≤ Int32.ofNat (i + 1)
    · rw [if_pos q]; rfl
    · rw [if_neg q, if_pos rfl]; rfl
  | cons L2 R ih =>
    intro L f i g X Fo hc hL hi hf hg hI hp hF0 hF
    obtain ⟨f, rfl⟩ : ∃ g, f = g + 1 := ⟨f - 1, by omega⟩
    rw [List.length_cons] at hi hf
    obtain ⟨l1, l2, l3⟩ := hL L List.mem_cons_self
    obtain ⟨X1, g', Fo', t1, t2, t3, t4, t5, t6, t7, t8, t9⟩ := cs_try (f := f) (A := A) J jn hV hs l1 l2 l3 (by omega) hg hI hp hF0 hF
    have hc : nxc n L = some L2 ∧ chn n (L2 :: R) := hc
    obtain ⟨G, pk, pl, pg⟩ := (pick_c (w := w) n12 t3.2.1 (by omega) t4 l2).2 L2 hc.1
    rw [l1] at pk
    obtain ⟨X', r1, r2, r3, r4⟩ := ih L2 f (i + 1) g' (stc X1 188 G) Fo' hc.2 (fun L' h => hL L' (List.mem_cons_of_mem _ h)) (by omega) (by omega) t7 (csI_F t3 (csF_st (by decide)) (by rw [stc_ne (by decide)]; exact t3.2.2.2.1) (fun a _ _ => by rw [stc_ne (by decide)])) (fun j h => by rw [stc_at]; exact pg j h) t8 (fun F hf j h => by rw [stc_ne (by decide)]; exact t9 F hf j h)
    refine ⟨X', ?_, csF_trans t2 (csF_trans (csF_st (by decide)) r2), r3, fun F hf => by rw [t6] at hf; exact r4 F hf⟩
    rw [t1, t5]
    unfold g_X2_countSets_76
    rw [pk, b_sm, of_succ, r1]
/-- the first picks -/
theorem cs_first {w : rf_w} {s : Nat} {A : Int32} (hs : s ≤ 12) : ∀ r f j (X : rf_m), j + r = s → r < f → (∀ i, i < j → X.1 188 i = Int32.ofNat i) → ∃ G, g_X2_countSets_2 w f (Int32.ofNat s) A (Int32.ofNat j) X = g_X2_countSets_28 w rf_fuel (Int32.ofNat s) A 0 1 0 (stc X 188 G) ∧ ∀ i, i < s → G i = Int32.ofNat i := by
  intro r
  induction r with
  | zero =>
    intro f j X hj hf hd
    obtain ⟨f, rfl⟩ : ∃ g, f = g + 1 := ⟨f - 1, by omega⟩
    have e : j = s := by omega
    subst e
    refine ⟨X.1 188, ?_, hd⟩
    show g_X2_countSets_2_b w _ _ _ _ X = _
    unfold g_X2_countSets_2_b
    rw [if_pos (Int32.le_refl _), stc_self]
  | succ r ih =>
    intro f j X hj hf hd
    obtain ⟨f, rfl⟩ : ∃ g, f = g + 1 := ⟨f - 1, by omega⟩
    have g1 : ¬ Int32.ofNat s ≤ Int32.ofNat j := nle (by omega) (by omega)
    obtain ⟨G, k1, k2⟩ := ih f (j + 1) (stc X 188 (pu (X.1 188) j (Int32.ofNat j))) (by omega) (by omega) (fun i hi => by
      rw [stc_at]
      by_cases e : i = j
      · subst e; rw [pu_at]
      · rw [pu_ne e]; exact hd i (by omega))
    refine ⟨G, ?_, k2⟩
    show g_X2_countSets_2_b w _ _ _ _ X = _
    unfold g_X2_countSets_2_b
    rw [if_neg g1, gof (n := j) (by omega) (by decide), g_t, tn_of (n := j) (by omega), of_succ, stc_i, k1, stc_stc]
theorem count_c {c : Nat} {w : rf_w} {m X : rf_m} {V : Nat → Nat} {n s : Nat} {A : Int32} (J : JCnt c w m) (jn : JNet m) (hV : vOK w m V n) (hs : s ≤ n) (hI : csI w m V n X) : ∃ X', g_X2_countSets w X (Int32.ofNat s) A = some (Int32.ofNat (cntL (rgL w m V n A) (cmb 0 n s)), X') ∧ csF X X' ∧ csI w m V n X' ∧ (∀ F, fsL (rgL w m V n A) (cmb 0 n s) = some F → ∀ j (h : j < F.length), X'.1 189 j = Int32.ofNat (V F[j])) := by
  have n12 := hV.1
  obtain ⟨R, hR⟩ := (cmb_hd n 0 s).1 hs
  obtain ⟨F, hF, hFb⟩ := fuel_ex
  have ch := cmb_chn n 0 s
  rw [Nat.zero_add, hR] at ch
  have mm : ∀ L', L' ∈ List.range' 0 s :: R → L'.length = s ∧ (∀ x, x ∈ L' → x < n) ∧ L'.Nodup := fun L' h => by
    rw [← hR] at h
    have := cmb_len _ _ _ _ h
    exact ⟨this.1, fun x hx => by have := (this.2 x hx).2; omega, cmb_nd _ _ _ _ h⟩
  have len : R.length + 1 ≤ 4096 := by
    have h1 := cmb_many n 0 s
    rw [hR, List.length_cons] at h1
    have h2 : 2 ^ n ≤ 2 ^ 12 := Nat.pow_le_pow_right (by omega) n12
    omega
  obtain ⟨G, k1, k2⟩ := cs_first (w := w) (A := A) (s := s) (by omega) s F 0 X (by omega) (by omega) (fun i hi => by omega)
  have big : R.length + 1 < rf_fuel := Nat.lt_of_le_of_lt len (by unfold rf_fuel; decide)
  obtain ⟨X', r1, r2, r3, r4⟩ := cs_loop (A := A) J jn hV (show s ≤ 12 by omega) R (List.range' 0 s) rf_fuel 0 0 (stc X 188 G) none ch mm (by omega) big (by omega) (csI_F hI (csF_st (by decide)) (by rw [stc_ne (by decide)]; exact hI.2.2.2.1) (fun a _ _ => by rw [stc_ne (by decide)])) (fun j h => by
    rw [List.length_range'] at h
    rw [stc_at, k2 j h, List.getElem_range']
    congr 1
    omega) ⟨fun _ => rfl, fun _ => rfl⟩ (fun F hf => by cases hf)
  rw [← hR, Nat.zero_add] at r1
  rw [← hR] at r4
  refine ⟨X', ?_, csF_trans (csF_st (by decide)) r2, r3, r4⟩
  unfold g_X2_countSets
  rw [hF]
  exact k1.trans r1
end PBCount
