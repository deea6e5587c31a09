/-! rules: code and items come to the same -/
section PBEqv
noncomputable def runL (N : Nat → Int32) : List (Nat × Int) → List Int → Option (List Int)
  | [], s => some s
  | d :: t, s => match stepA N d s with
    | none => none
    | some s' => runL N t s'
theorem runL_c {N : Nat → Int32} {d : Nat × Int} {t : List (Nat × Int)} {s s' : List Int} (h : stepA N d s = some s') : runL N (d :: t) s = runL N t s' := by
  show (match stepA N d s with | none => none | some s' => runL N t s') = _
  rw [h]
theorem runL_app {N : Nat → Int32} : ∀ (a b : List (Nat × Int)) (s s' : List Int), runL N a s = some s' → runL N (a ++ b) s = runL N b s' := by
  intro a
  induction a with
  | nil => intro b s s' h; rw [← Option.some.inj h]; rfl
  | cons d t ih =>
    intro b s s' h
    cases q : stepA N d s with
    | none =>
      have : runL N (d :: t) s = none := by
        show (match stepA N d s with | none => none | some s' => runL N t s') = _
        rw [q]
      rw [this] at h; cases h
    | some s1 =>
      rw [runL_c q] at h
      show runL N (d :: (t ++ b)) s = _
      rw [runL_c q]
      exact ih b s1 s' h
theorem runA_L {N : Nat → Int32} : ∀ (l : List (Nat × Int)) (d : Nat → Nat × Int) k s, (∀ i x, l[i]? = some x → d (k + i) = x) → runA d N l.length k s = runL N l s := by
  intro l
  induction l with
  | nil => intro d k s _; rfl
  | cons x t ih =>
    intro d k s h
    have h0 : d k = x := h 0 x rfl
    show (match stepA N (d k) s with | none => none | some s' => runA d N t.length (k + 1) s') = (match stepA N x s with | none => none | some s' => runL N t s')
    rw [h0]
    cases stepA N x s with
    | none => rfl
    | some s' =>
      refine ih d (k + 1) s' (fun i y hy => ?_)
      rw [show k + 1 + i = k + (i + 1) by omega]
      exact h (i + 1) y hy
/-- both lists leave the same on every stack that has room for k -/
def eqv (k : Nat) (C D : List (Nat × Int)) (b : Prop) : Prop := 1 ≤ k ∧ ∀ N, nok N → ∀ s : List Int, s.length + k ≤ 31 → ∃ v, (b → bol v) ∧ runL N C s = some (v :: s) ∧ runL N D s = some (v :: s)
theorem eqv_whole {x : Int} (h0 : 0 ≤ x) (h1 : x ≤ 1000000000) : eqv 1 [(0, x)] [(0, x)] False := by
  refine ⟨Nat.le_refl _, fun N hN s hs => ⟨x, fun z => z.elim, ?_, ?_⟩⟩ <;>
  · rw [runL_c (s' := x :: s)]
    · rfl
    · unfold stepA
      rw [if_pos rfl, if_pos ⟨by omega, h0, h1⟩]
theorem eqv_name {i : Int} (h0 : 0 ≤ i) (h1 : i < 7) : eqv 1 [(1, i)] [(1, i)] False := by
  refine ⟨Nat.le_refl _, fun N hN s hs => ⟨(N i.toNat).toInt, fun z => z.elim, ?_, ?_⟩⟩ <;>
  · rw [runL_c (s' := (N i.toNat).toInt :: s)]
    · rfl
    · unfold stepA
      rw [if_neg (show ¬ (1 : Nat) = 0 by decide), if_pos rfl, if_pos ⟨by omega, h0, h1⟩]
theorem step_bin {N : Nat → Int32} {K : Nat} {z a b : Int} {s : List Int} (hK : 3 ≤ K) (h : K < 9 ∨ (bol a ∧ bol b)) : stepA N (K, z) (b :: a :: s) = some (opv (K - 3) a b :: s) := by
  unfold stepA
  simp only
  rw [if_neg (by omega), if_neg (by omega), if_neg (by omega), if_pos h]
theorem eqv_bin {k1 k2 K : Nat} {C1 D1 C2 D2 : List (Nat × Int)} {b1 b2 b : Prop} (h1 : eqv k1 C1 D1 b1) (h2 : eqv k2 C2 D2 b2) (hK : 3 ≤ K) (hb : K < 9 ∨ (b1 ∧ b2)) (hb' : b → 6 ≤ K) : eqv (k1 + k2) (C1 ++ C2 ++ [(K, 0)]) (D1 ++ D2 ++ [(K, 0)]) b := by
  refine ⟨by have := h1.1; omega, fun N hN s hs => ?_⟩
  have p1 := h1.1
  obtain ⟨v1, w1, x1, y1⟩ := h1.2 N hN s (by omega)
  obtain ⟨v2, w2, x2, y2⟩ := h2.2 N hN (v1 :: s) (by simp only [List.length_cons]; omega)
  have hh : K < 9 ∨ (bol v1 ∧ bol v2) := by
    rcases hb with q | q
    · exact Or.inl q
    · exact Or.inr ⟨w1 q.1, w2 q.2⟩
  refine ⟨opv (K - 3) v1 v2, fun q => ?_, ?_, ?_⟩
  · have := hb' q
    unfold opv
    rw [if_neg (by omega), if_neg (by omega), if_neg (by omega)]
    split
    · exact b01_rng
    · split
      · exact b01_rng
      · split
        · exact b01_rng
        · split
          · exact b01_rng
          · exact b01_rng
  · rw [List.append_assoc, runL_app _ _ _ _ x1, runL_app _ _ _ _ x2, runL_c (step_bin hK hh)]; rfl
  · rw [List.append_assoc, runL_app _ _ _ _ y1, runL_app _ _ _ _ y2, runL_c (step_bin hK hh)]; rfl
theorem step_not {N : Nat → Int32} {z a : Int} {s : List Int} (h : bol a) : stepA N (2, z) (a :: s) = some ((1 - a) :: s) := by
  unfold stepA
  rw [if_neg (show ¬ (2 : Nat) = 0 by decide), if_neg (show ¬ (2 : Nat) = 1 by decide), if_pos rfl]
  exact if_pos h
theorem bol_not {a : Int} (h : bol a) : bol (1 - a) := by unfold bol at *; omega
theorem eqv_nots {k : Nat} {C D : List (Nat × Int)} (h : eqv k C D True) : ∀ j, eqv k (C ++ if j % 2 = 1 then [(2, 0)] else []) (D ++ List.replicate j (2, 0)) True := by
  have key : ∀ j, eqv k (C ++ if j % 2 = 1 then [(2, 0)] else []) (D ++ List.replicate j (2, 0)) True → eqv k (C ++ if (j + 1) % 2 = 1 then [(2, 0)] else []) (D ++ List.replicate (j + 1) (2, 0)) True := by
    intro j hj
    refine ⟨h.1, fun N hN s hs => ?_⟩
    obtain ⟨v, w1, x1, y1⟩ := hj.2 N hN s hs
    obtain ⟨u, w2, x2, y2⟩ := h.2 N hN s hs
    refine ⟨1 - v, fun _ => bol_not (w1 trivial), ?_, ?_⟩
    · by_cases e : j % 2 = 1
      · rw [if_pos e] at x1
        rw [if_neg (by omega), List.append_nil, x2]
        rw [runL_app _ _ _ _ x2, runL_c (step_not (w2 trivial))] at x1
        have := (List.cons.inj (Option.some.inj x1)).1
        rw [← this]
        congr 2
        omega
      · rw [if_neg e, List.append_nil, x2] at x1
        have := (List.cons.inj (Option.some.inj x1)).1
        rw [if_pos (by omega), runL_app _ _ _ _ x2, runL_c (step_not (w2 trivial)), this]
        rfl
    · rw [List.replicate_succ', ← List.append_assoc, runL_app _ _ _ _ y1, runL_c (step_not (w1 trivial))]
      rfl
  intro j
  induction j with
  | zero =>
    rw [if_neg (by decide), List.append_nil]
    show eqv k C (D ++ []) True
    rw [List.append_nil]
    exact h
  | succ j ih => exact key j ih
end PBEqv
