/-! suspects: the next row of picks -/
section PBPickN
theorem nxc_cons {hi a : Nat} {L R : List Nat} (h : nxc hi L = some R) : nxc hi (a :: L) = some (a :: R) := by
  show (match nxc hi L with | some L' => some (a :: L') | none => if a + (L.length + 1) < hi then some (List.range' (a + 1) (L.length + 1)) else none) = _
  rw [h]
theorem nxc_end {hi a : Nat} {L : List Nat} (h : nxc hi L = none) : nxc hi (a :: L) = if a + (L.length + 1) < hi then some (List.range' (a + 1) (L.length + 1)) else none := by
  show (match nxc hi L with | some L' => some (a :: L') | none => if a + (L.length + 1) < hi then some (List.range' (a + 1) (L.length + 1)) else none) = _
  rw [h]
theorem nxc_pre {hi : Nat} {R : List Nat} : ∀ (A B : List Nat), nxc hi B = some R → nxc hi (A ++ B) = some (A ++ R) := by
  intro A
  induction A with
  | nil => intro B h; exact h
  | cons a A ih => intro B h; exact nxc_cons (ih B h)
theorem pick_c {w : rf_w} {X : rf_m} {n : Nat} {L : List Nat} (hn : n ≤ 12) (h8 : X.1 184 8 = Int32.ofNat n) (hl : L.length ≤ 12) (hp : pkL X L) (hb : ∀ x, x ∈ L → x < n) : (nxc n L = none → g_X2_pickNext w X (Int32.ofNat L.length) = some (0, X)) ∧ (∀ L', nxc n L = some L' → ∃ G, g_X2_pickNext w X (Int32.ofNat L.length) = some (1, stc X 188 G) ∧ L'.length = L.length ∧ ∀ i (h : i < L'.length), G i = Int32.ofNat L'[i]) := by
  obtain ⟨F, hF, hFb⟩ := fuel_ex
  have key : ∀ i f, i ≤ L.length → i < f → nxc n (L.drop i) = none → (nxc n L = none → g_X2_pickNext_4 w f (Int32.ofNat L.length) (Int32.ofNat i - 1) X = some (0, X)) ∧ (∀ L', nxc n L = some L' → ∃ G, g_X2_pickNext_4 w f (Int32.ofNat L.length) (Int32.ofNat i - 1) X = some (1, stc X 188 G) ∧ L'.length = L.length ∧ ∀ i (h : i < L'.length), G i = Int32.ofNat L'[i]) := by
    intro i
    induction i with
    | zero =>
      intro f _ hf hd
      obtain ⟨f, rfl⟩ : ∃ g, f = g + 1 := ⟨f - 1, by omega⟩
      rw [List.drop_zero] at hd
      refine ⟨fun _ => ?_, fun L' h => by rw [hd] at h; cases h⟩
      show g_X2_pickNext_4_b w _ _ _ X = _
      unfold g_X2_pickNext_4_b
      have l0 : Int32.ofNat 0 - 1 < 0 := by decide
      rw [if_pos l0]
    | succ i ih =>
      intro f hi hf hd
      obtain ⟨f, rfl⟩ : ∃ g, f = g + 1 := ⟨f - 1, by omega⟩
      have il : i < L.length := by omega
      have l0 : ¬ Int32.ofNat i < 0 := fun z => by rw [i_lt, i_0, ofI (by omega)] at z; omega
      have dr : L.drop i = L[i] :: L.drop (i + 1) := List.drop_eq_getElem_cons il
      have xn := hb L[i] (List.getElem_mem il)
      have pi := hp i il
      have lde : (L.drop (i + 1)).length = L.length - (i + 1) := List.length_drop
      have ex : ((Int32.ofNat n - Int32.ofNat L.length) + Int32.ofNat i).toInt = (n : Int) - L.length + i := by
        have a1 := subI (a := Int32.ofNat n) (b := Int32.ofNat L.length) (by rw [ofI (by omega), ofI (by omega)]; omega) (by rw [ofI (by omega), ofI (by omega)]; omega)
        rw [ofI (by omega), ofI (by omega)] at a1
        rw [addI (by rw [a1, ofI (by omega)]; omega) (by rw [a1, ofI (by omega)]; omega), a1, ofI (by omega)]
      have st : g_X2_pickNext_4 w (f + 1) (Int32.ofNat L.length) (Int32.ofNat (i + 1) - 1) X = g_X2_pickNext_4_b w (g_X2_pickNext_4 w f) (Int32.ofNat L.length) (Int32.ofNat i) X := by rw [ofm1']; rfl
      rw [st]
      unfold g_X2_pickNext_4_b
      have em : Int32.ofNat i + (-1) = Int32.ofNat i - 1 := by grind
      rw [if_neg l0, gof (n := i) (by omega) (by decide), g_t, g_t, g_t, tn_of (n := i) (by omega), pi, h8, em, of_succ, of_succ]
      by_cases q : L[i] + ((L.drop (i + 1)).length + 1) < n
      · have q' : ¬ (Int32.ofNat n - Int32.ofNat L.length) + Int32.ofNat i ≤ Int32.ofNat L[i] := fun z => by
          rw [i_le, ex, ofI (by omega)] at z
          omega
        have nd : nxc n (L.drop i) = some (List.range' (L[i] + 1) ((L.drop (i + 1)).length + 1)) := by rw [dr, nxc_end hd, if_pos q]
        have nL : nxc n L = some (L.take i ++ List.range' (L[i] + 1) ((L.drop (i + 1)).length + 1)) := by
          have := nxc_pre (L.take i) (L.drop i) nd
          rw [List.take_append_drop] at this
          exact this
        rw [if_neg q', hF]
        refine ⟨fun h => (by rw [nL] at h; cases h), fun L' h => ?_⟩
        rw [nL] at h
        injection h with h
        have tl : (L.take i).length = i := by rw [List.length_take]; omega
        have l' : L'.length = L.length := by rw [← h, List.length_append, tl, List.length_range', lde]; omega
        obtain ⟨G, k1, k2, k3⟩ := fill39 (w := w) (s := L.length) hl (L.length - (i + 1)) F (i + 1) (rf_i X 188 i (Int32.ofNat (L[i] + 1))) (L[i] + 1) (by omega) (by omega) (by omega) (by omega) (by rw [rf_i_c, if_pos rfl, Nat.add_sub_cancel, pu_at])
        rw [stc_i, stc_stc] at k1
        rw [stc_i]
        refine ⟨G, k1, l', fun j hj => ?_⟩
        have gj : L'[j] = (L.take i ++ List.range' (L[i] + 1) ((L.drop (i + 1)).length + 1))[j]'(by rw [h]; exact hj) := by simp only [h]
        rw [gj]
        by_cases c1 : j < i
        · rw [k2 j (by omega), rf_i_c, if_pos rfl, pu_ne (by omega), List.getElem_append_left (by omega), List.getElem_take]
          exact hp j (by omega)
        · rw [List.getElem_append_right (by omega), List.getElem_range', tl]
          by_cases c2 : j = i
          · subst c2
            rw [k2 j (by omega), rf_i_c, if_pos rfl, pu_at]
            congr 1
            omega
          · rw [k3 j (by omega) (by omega)]
            congr 1
            omega
      · have q' : (Int32.ofNat n - Int32.ofNat L.length) + Int32.ofNat i ≤ Int32.ofNat L[i] := by
          rw [i_le, ex, ofI (by omega)]
          omega
        rw [if_pos q']
        exact ih f (by omega) (by omega) (by rw [dr, nxc_end hd, if_neg q])
  unfold g_X2_pickNext
  rw [hF]
  exact key L.length F (Nat.le_refl _) (by omega) (by rw [List.drop_length]; rfl)
end PBPickN
