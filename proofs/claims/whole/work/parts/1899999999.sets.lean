/-! sets of suspects: in the order of their numbers, and as bits -/
section PBSets
/-- the rows of s numbers from lo on, n of them, in the order of words -/
def cmb : Nat → Nat → Nat → List (List Nat)
  | _, _, 0 => [[]]
  | _, 0, _ + 1 => []
  | lo, n + 1, s + 1 => (cmb (lo + 1) n s).map (fun L => lo :: L) ++ cmb (lo + 1) n (s + 1)
def nxc (hi : Nat) : List Nat → Option (List Nat)
  | [] => none
  | a :: L => match nxc hi L with
    | some L' => some (a :: L')
    | none => if a + (L.length + 1) < hi then some (List.range' (a + 1) (L.length + 1)) else none
/-- each is the next of the one ahead -/
def chn (hi : Nat) : List (List Nat) → Prop
  | [] => True
  | [L] => nxc hi L = none
  | L :: L' :: r => nxc hi L = some L' ∧ chn hi (L' :: r)
theorem cmb_0 (lo n : Nat) : cmb lo n 0 = [[]] := by cases n <;> rfl
theorem cmb_len : ∀ n lo s L, L ∈ cmb lo n s → L.length = s ∧ ∀ x, x ∈ L → lo ≤ x ∧ x < lo + n := by
  intro n
  induction n with
  | zero =>
    intro lo s L h
    cases s with
    | zero => rw [cmb_0] at h; rw [List.mem_singleton.mp h]; exact ⟨rfl, fun x hx => by cases hx⟩
    | succ s => cases h
  | succ n ih =>
    intro lo s L h
    cases s with
    | zero => rw [cmb_0] at h; rw [List.mem_singleton.mp h]; exact ⟨rfl, fun x hx => by cases hx⟩
    | succ s =>
      rcases List.mem_append.mp h with h | h
      · obtain ⟨L', h1, h2⟩ := List.mem_map.mp h
        obtain ⟨k1, k2⟩ := ih (lo + 1) s L' h1
        rw [← h2]
        refine ⟨by rw [List.length_cons, k1], fun x hx => ?_⟩
        rcases List.mem_cons.mp hx with q | q
        · omega
        · have := k2 x q; omega
      · obtain ⟨k1, k2⟩ := ih (lo + 1) (s + 1) L h
        exact ⟨k1, fun x hx => by have := k2 x hx; omega⟩
theorem cmb_many : ∀ n lo s, (cmb lo n s).length ≤ 2 ^ n := by
  intro n
  induction n with
  | zero =>
    intro lo s
    cases s with
    | zero => exact Nat.le_refl _
    | succ s => exact Nat.zero_le _
  | succ n ih =>
    intro lo s
    cases s with
    | zero => rw [cmb_0]; exact Nat.one_le_two_pow
    | succ s =>
      show ((cmb (lo + 1) n s).map (fun L => lo :: L) ++ cmb (lo + 1) n (s + 1)).length ≤ _
      rw [List.length_append, List.length_map, Nat.pow_succ]
      have := ih (lo + 1) s
      have := ih (lo + 1) (s + 1)
      omega
theorem cmb_hd : ∀ n lo s, (s ≤ n → ∃ r, cmb lo n s = List.range' lo s :: r) ∧ (n < s → cmb lo n s = []) := by
  intro n
  induction n with
  | zero =>
    intro lo s
    refine ⟨fun h => ?_, fun h => ?_⟩
    · have : s = 0 := by omega
      subst this
      exact ⟨[], rfl⟩
    · obtain ⟨s, rfl⟩ : ∃ k, s = k + 1 := ⟨s - 1, by omega⟩
      rfl
  | succ n ih =>
    intro lo s
    cases s with
    | zero => exact ⟨fun _ => ⟨[], cmb_0 _ _⟩, fun h => by omega⟩
    | succ s =>
      refine ⟨fun h => ?_, fun h => ?_⟩
      · obtain ⟨r, hr⟩ := (ih (lo + 1) s).1 (by omega)
        refine ⟨r.map (fun L => lo :: L) ++ cmb (lo + 1) n (s + 1), ?_⟩
        show (cmb (lo + 1) n s).map (fun L => lo :: L) ++ cmb (lo + 1) n (s + 1) = _
        rw [hr]
        rfl
      · show (cmb (lo + 1) n s).map (fun L => lo :: L) ++ cmb (lo + 1) n (s + 1) = _
        rw [(ih (lo + 1) s).2 (by omega), (ih (lo + 1) (s + 1)).2 (by omega)]
        rfl
theorem chn_app {hi lo s : Nat} : ∀ (A B : List (List Nat)), A ≠ [] → chn hi A → (∀ L, L ∈ A → L.length = s) → chn hi B → (∀ L, L.length = s → nxc hi L = none → nxc hi (lo :: L) = B.head?) → chn hi (A.map (fun L => lo :: L) ++ B) := by
  intro A
  induction A with
  | nil => intro B h; exact absurd rfl h
  | cons L A ih =>
    intro B _ hA hl hB hn
    cases A with
    | nil =>
      have hA : nxc hi L = none := hA
      have e := hn L (hl L List.mem_cons_self) hA
      cases B with
      | nil => exact e
      | cons L' r => exact ⟨e, hB⟩
    | cons L' A =>
      obtain ⟨h1, h2⟩ := hA
      refine ⟨?_, ih B (by simp) h2 (fun X hX => hl X (List.mem_cons_of_mem _ hX)) hB hn⟩
      show nxc hi (lo :: L) = some (lo :: L')
      unfold nxc
      rw [h1]
theorem cmb_chn : ∀ n lo s, chn (lo + n) (cmb lo n s) := by
  intro n
  induction n with
  | zero =>
    intro lo s
    cases s with
    | zero => exact rfl
    | succ s => trivial
  | succ n ih =>
    intro lo s
    cases s with
    | zero => rw [cmb_0]; exact rfl
    | succ s =>
      show chn _ ((cmb (lo + 1) n s).map (fun L => lo :: L) ++ cmb (lo + 1) n (s + 1))
      have h1 := ih (lo + 1) s
      have h2 := ih (lo + 1) (s + 1)
      rw [show lo + 1 + n = lo + (n + 1) by omega] at h1 h2
      by_cases e : cmb (lo + 1) n s = []
      · rw [e]; exact h2
      · refine chn_app _ _ e h1 (fun L hL => (cmb_len n (lo + 1) s L hL).1) h2 (fun L hL hn => ?_)
        show (match nxc (lo + (n + 1)) L with | some L' => some (lo :: L') | none => if lo + (L.length + 1) < lo + (n + 1) then some (List.range' (lo + 1) (L.length + 1)) else none) = _
        rw [hn]
        show (if lo + (L.length + 1) < lo + (n + 1) then some (List.range' (lo + 1) (L.length + 1)) else none) = _
        rw [hL]
        by_cases q : s + 1 ≤ n
        · obtain ⟨r, hr⟩ := (cmb_hd n (lo + 1) (s + 1)).1 q
          rw [if_pos (by omega), hr]
          rfl
        · rw [if_neg (by omega), (cmb_hd n (lo + 1) (s + 1)).2 (by omega)]
          rfl
/-- the numbers of the bits that are set -/
def ixs (mu : Nat) : Nat → Nat → List Nat
  | 0, _ => []
  | n + 1, k => if mu.testBit k then k :: ixs mu n (k + 1) else ixs mu n (k + 1)
theorem ixs_sh : ∀ n mu k, ixs mu n (k + 1) = (ixs (mu / 2) n k).map (fun x => x + 1) := by
  intro n
  induction n with
  | zero => intro mu k; rfl
  | succ n ih =>
    intro mu k
    show (if mu.testBit (k + 1) then (k + 1) :: ixs mu n (k + 1 + 1) else ixs mu n (k + 1 + 1)) = (if (mu / 2).testBit k then k :: ixs (mu / 2) n (k + 1) else ixs (mu / 2) n (k + 1)).map (fun x => x + 1)
    rw [ih mu (k + 1), Nat.testBit_succ]
    split <;> rfl
/-- how many of 0 .. M-1 -/
noncomputable def cnM (P : Nat → Prop) : Nat → Nat
  | 0 => 0
  | M + 1 => cnM P M + @ite _ (P M) (Classical.propDecidable _) 1 0
theorem cnM_c {P Q : Nat → Prop} : ∀ M, (∀ x, x < M → (P x ↔ Q x)) → cnM P M = cnM Q M := by
  intro M
  induction M with
  | zero => intro _; rfl
  | succ M ih =>
    intro h
    unfold cnM
    rw [ih (fun x hx => h x (by omega)), propext (h M (by omega))]
theorem cnM_2 {P : Nat → Prop} : ∀ M, cnM P (2 * M) = cnM (fun x => P (2 * x + 1)) M + cnM (fun x => P (2 * x)) M := by
  intro M
  induction M with
  | zero => rfl
  | succ M ih =>
    have e : cnM P (2 * (M + 1)) = cnM P (2 * M) + @ite _ (P (2 * M)) (Classical.propDecidable _) 1 0 + @ite _ (P (2 * M + 1)) (Classical.propDecidable _) 1 0 := rfl
    rw [e, ih]
    show _ = (cnM (fun x => P (2 * x + 1)) M + @ite _ (P (2 * M + 1)) (Classical.propDecidable _) 1 0) + (cnM (fun x => P (2 * x)) M + @ite _ (P (2 * M)) (Classical.propDecidable _) 1 0)
    omega
noncomputable def cntL {α : Type} (P : α → Prop) : List α → Nat
  | [] => 0
  | x :: l => cntL P l + @ite _ (P x) (Classical.propDecidable _) 1 0
theorem cntL_app {α : Type} {P : α → Prop} : ∀ a b : List α, cntL P (a ++ b) = cntL P a + cntL P b := by
  intro a
  induction a with
  | nil => intro b; show cntL P b = 0 + _; omega
  | cons x a ih => intro b; show cntL P (a ++ b) + _ = cntL P a + _ + _; rw [ih]; omega
theorem cntL_map {α β : Type} {P : β → Prop} {f : α → β} : ∀ a : List α, cntL P (a.map f) = cntL (fun x => P (f x)) a := by
  intro a
  induction a with
  | nil => rfl
  | cons x a ih => show cntL P (a.map f) + _ = _; rw [ih]; rfl
/-- sets as bits and sets as rows are equally many -/
theorem cnM_cmb : ∀ n lo s (R : List Nat → Prop), cnM (fun mu => ((ixs mu n 0).length = s) ∧ R ((ixs mu n 0).map (fun x => lo + x))) (2 ^ n) = cntL R (cmb lo n s) := by
  intro n
  induction n with
  | zero =>
    intro lo s R
    cases s with
    | zero =>
      show 0 + @ite _ (0 = 0 ∧ R []) (Classical.propDecidable _) 1 0 = 0 + @ite _ (R []) (Classical.propDecidable _) 1 0
      rw [propext (show (0 = 0 ∧ R []) ↔ R [] from ⟨fun h => h.2, fun h => ⟨rfl, h⟩⟩)]
    | succ s =>
      show 0 + @ite _ (0 = s + 1 ∧ R []) (Classical.propDecidable _) 1 0 = 0
      rw [if_neg (fun h => by omega)]
  | succ n ih =>
    intro lo s R
    rw [Nat.pow_succ, Nat.mul_comm, cnM_2]
    have e1 : ∀ x, ixs (2 * x + 1) (n + 1) 0 = 0 :: (ixs x n 0).map (fun y => y + 1) := fun x => by
      show (if (2 * x + 1).testBit 0 then 0 :: ixs (2 * x + 1) n 1 else ixs (2 * x + 1) n 1) = _
      have t : (2 * x + 1).testBit 0 = true := by rw [Nat.testBit_zero]; simp
      rw [t, ixs_sh n (2 * x + 1) 0, show (2 * x + 1) / 2 = x by omega]
      rfl
    have e0 : ∀ x, ixs (2 * x) (n + 1) 0 = (ixs x n 0).map (fun y => y + 1) := fun x => by
      show (if (2 * x).testBit 0 then 0 :: ixs (2 * x) n 1 else ixs (2 * x) n 1) = _
      have t : (2 * x).testBit 0 = false := by rw [Nat.testBit_zero]; simp
      rw [t, ixs_sh n (2 * x) 0, show (2 * x) / 2 = x by omega]
      rfl
    have mp : ∀ l : List Nat, (l.map (fun y => y + 1)).map (fun x => lo + x) = l.map (fun x => lo + 1 + x) := fun l => by
      rw [List.map_map]
      congr 1
      funext x
      show lo + (x + 1) = lo + 1 + x
      omega
    have c1 : cnM (fun x => ((ixs (2 * x + 1) (n + 1) 0).length = s) ∧ R ((ixs (2 * x + 1) (n + 1) 0).map (fun x => lo + x))) (2 ^ n) = cnM (fun x => ((ixs x n 0).length + 1 = s) ∧ R (lo :: (ixs x n 0).map (fun x => lo + 1 + x))) (2 ^ n) := cnM_c _ (fun x _ => by
      rw [e1 x, List.length_cons, List.length_map, List.map_cons, mp]
      exact Iff.rfl)
    have c0 : cnM (fun x => ((ixs (2 * x) (n + 1) 0).length = s) ∧ R ((ixs (2 * x) (n + 1) 0).map (fun x => lo + x))) (2 ^ n) = cnM (fun x => ((ixs x n 0).length = s) ∧ R ((ixs x n 0).map (fun x => lo + 1 + x))) (2 ^ n) := cnM_c _ (fun x _ => by
      rw [e0 x, List.length_map, mp])
    rw [c1, c0, ih (lo + 1) s R]
    cases s with
    | zero =>
      have z : cnM (fun x => ((ixs x n 0).length + 1 = 0) ∧ R (lo :: (ixs x n 0).map (fun x => lo + 1 + x))) (2 ^ n) = cnM (fun _ => False) (2 ^ n) := cnM_c _ (fun x _ => ⟨fun h => by omega, False.elim⟩)
      have z2 : ∀ M, cnM (fun _ => False) M = 0 := by
        intro M
        induction M with
        | zero => rfl
        | succ M ih => show cnM _ M + _ = 0; rw [ih, if_neg id]
      rw [z, z2, cmb_0, cmb_0, Nat.zero_add]
    | succ s =>
      have z : cnM (fun x => ((ixs x n 0).length + 1 = s + 1) ∧ R (lo :: (ixs x n 0).map (fun x => lo + 1 + x))) (2 ^ n) = cnM (fun x => ((ixs x n 0).length = s) ∧ R (lo :: (ixs x n 0).map (fun x => lo + 1 + x))) (2 ^ n) := cnM_c _ (fun x _ => by rw [Nat.add_right_cancel_iff])
      rw [z, ih (lo + 1) s (fun L => R (lo :: L))]
      show _ = cntL R ((cmb (lo + 1) n s).map (fun L => lo :: L) ++ cmb (lo + 1) n (s + 1))
      rw [cntL_app, cntL_map]
end PBSets
