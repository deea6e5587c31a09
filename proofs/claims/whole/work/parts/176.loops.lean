/-! loops that look for the first place -/
section PBL
theorem g_t {α : Type} {k : Option α} : rf_g true k = k := cond_true k none
theorem nle {i R : Nat} (h : i < R) (hR : R < 2147483648) : ¬ Int32.ofNat R ≤ Int32.ofNat i := by rw [of_le hR (by omega)]; omega
theorem first_or (P : Nat → Prop) (R : Nat) : (∀ j, j < R → ¬ P j) ∨ ∃ j, j < R ∧ P j ∧ ∀ k, k < j → ¬ P k := by
  induction R with
  | zero => exact Or.inl fun j h => absurd h (by omega)
  | succ R ih =>
    rcases ih with h | ⟨j, h1, h2⟩
    · by_cases p : P R
      · exact Or.inr ⟨R, by omega, p, h⟩
      · refine Or.inl fun j hj => ?_
        by_cases e : j = R
        · rw [e]; exact p
        · exact h j (by omega)
    · exact Or.inr ⟨j, by omega, h2⟩
theorem find_none {β : Type} {F : Nat → Int32 → Option β} {P : Nat → Prop} {R : Nat} {e : Option β} (stop : ∀ n, F (n + 1) (Int32.ofNat R) = e) (go : ∀ n i, i < R → ¬ P i → F (n + 1) (Int32.ofNat i) = F n (Int32.ofNat (i + 1))) : ∀ n i, i ≤ R → R - i < n → (∀ j, i ≤ j → j < R → ¬ P j) → F n (Int32.ofNat i) = e := by
  intro n
  induction n with
  | zero => intro i _ h; omega
  | succ n ih =>
    intro i h1 h2 h3
    by_cases h : i = R
    · rw [h]; exact stop n
    · rw [go n i (by omega) (h3 i (by omega) (by omega))]
      exact ih (i + 1) (by omega) (by omega) (fun j a b => h3 j (by omega) b)
theorem find_some {β : Type} {F : Nat → Int32 → Option β} {P : Nat → Prop} {R : Nat} {f : Nat → Option β} (hit : ∀ n i, i < R → P i → F (n + 1) (Int32.ofNat i) = f i) (go : ∀ n i, i < R → ¬ P i → F (n + 1) (Int32.ofNat i) = F n (Int32.ofNat (i + 1))) : ∀ n i j, i ≤ j → j < R → j - i < n → P j → (∀ k, i ≤ k → k < j → ¬ P k) → F n (Int32.ofNat i) = f j := by
  intro n
  induction n with
  | zero => intro i j _ _ h; omega
  | succ n ih =>
    intro i j h0 h1 h2 h3 h4
    by_cases h : i = j
    · rw [h]; exact hit n j h1 h3
    · rw [go n i (by omega) (h4 i (by omega) (by omega))]
      exact ih (i + 1) j (by omega) h1 (by omega) h3 (fun k a b => h4 k (by omega) b)
/-- a row of numbers, added or gathered: s goes on by st -/
def fold {σ : Type} (st : Nat → σ → σ) : Nat → Nat → σ → σ
  | 0, _, s => s
  | k + 1, i, s => fold st k (i + 1) (st i s)
theorem fold_loop {σ β : Type} {F : Nat → Int32 → σ → Option β} {st : Nat → σ → σ} {R : Nat} {e : σ → Option β} {I : Nat → σ → Prop} (stop : ∀ n s, I R s → F (n + 1) (Int32.ofNat R) s = e s) (go : ∀ n i s, i < R → I i s → F (n + 1) (Int32.ofNat i) s = F n (Int32.ofNat (i + 1)) (st i s) ∧ I (i + 1) (st i s)) : ∀ n i s, i ≤ R → R - i < n → I i s → F n (Int32.ofNat i) s = e (fold st (R - i) i s) ∧ I R (fold st (R - i) i s) := by
  intro n
  induction n with
  | zero => intro i s _ h; omega
  | succ n ih =>
    intro i s h1 h2 h3
    by_cases h : i = R
    · subst h
      rw [Nat.sub_self]
      exact ⟨stop n s h3, h3⟩
    · obtain ⟨g1, g2⟩ := go n i s (by omega) h3
      rw [g1]
      obtain ⟨k, hk⟩ : ∃ k, R - i = k + 1 := ⟨R - i - 1, by omega⟩
      have := ih (i + 1) (st i s) (by omega) (by omega) g2
      rw [show R - (i + 1) = k from by omega] at this
      rw [hk]
      exact this
theorem X5_isTaken_no {w : rf_w} {m : rf_m} {c : Int32} (h : iv 0 30 (m.1 1 4)) (hn : ∀ j, j < (m.1 1 4).toNatClampNeg → ¬ m.1 4 j = c) : g_X5_isTaken w m c = some (0, m) := by
  have hR := of_tn h.1
  have hb : (m.1 1 4).toNatClampNeg ≤ 30 := tn_le h.1 h.2 (by decide)
  refine find_none (F := fun n i => g_X5_isTaken_2 w n c i m) (P := fun j => m.1 4 j = c) (R := (m.1 1 4).toNatClampNeg) (fun n => ?_) (fun n i hi hP => ?_) _ 0 (by omega) (by unfold rf_fuel; omega) (fun j _ => hn j)
  · show g_X5_isTaken_2_b w _ c _ m = _
    unfold g_X5_isTaken_2_b
    rw [hR, if_pos (Int32.le_refl _)]
  · show g_X5_isTaken_2_b w _ c _ m = g_X5_isTaken_2 w n c _ m
    unfold g_X5_isTaken_2_b
    rw [← hR, if_neg (nle hi (by omega)), gof (by omega) (by decide), g_t, tn_of (by omega), if_neg hP, of_succ]
theorem X5_isTaken_yes {w : rf_w} {m : rf_m} {c : Int32} {j : Nat} (h : iv 0 30 (m.1 1 4)) (hj : j < (m.1 1 4).toNatClampNeg) (hc : m.1 4 j = c) (hn : ∀ k, k < j → ¬ m.1 4 k = c) : g_X5_isTaken w m c = some (1, m) := by
  have hR := of_tn h.1
  have hb : (m.1 1 4).toNatClampNeg ≤ 30 := tn_le h.1 h.2 (by decide)
  refine find_some (F := fun n i => g_X5_isTaken_2 w n c i m) (P := fun j => m.1 4 j = c) (R := (m.1 1 4).toNatClampNeg) (f := fun _ => some (1, m)) (fun n i hi hP => ?_) (fun n i hi hP => ?_) _ 0 j (by omega) hj (by unfold rf_fuel; omega) hc (fun k _ => hn k)
  · show g_X5_isTaken_2_b w _ c _ m = _
    unfold g_X5_isTaken_2_b
    rw [← hR, if_neg (nle hi (by omega)), gof (by omega) (by decide), g_t, tn_of (by omega), if_pos hP]
  · show g_X5_isTaken_2_b w _ c _ m = g_X5_isTaken_2 w n c _ m
    unfold g_X5_isTaken_2_b
    rw [← hR, if_neg (nle hi (by omega)), gof (by omega) (by decide), g_t, tn_of (by omega), if_neg hP, of_succ]
end PBL
