/-! suspects: the class tries set after set -/
section PBPicks
def sumI (m : rf_m) : List Nat → Int
  | [] => 0
  | r :: l => (m.1 221 r).toInt + sumI m l
theorem smL_I {m : rf_m} : ∀ (l : List Nat) (x : Int32), 0 ≤ x.toInt → x.toInt + 12959999 * (l.length : Int) < 2000000000 → (∀ r, r ∈ l → iv 0 12959999 (m.1 221 r)) → (l.foldl (fun x r => x + m.1 221 r) x).toInt = x.toInt + sumI m l := by
  intro l
  induction l with
  | nil => intro x _ _ _; exact (Int.add_zero _).symm
  | cons r l ih =>
    intro x h0 h1 h2
    have hr := ivI (h2 r List.mem_cons_self)
    have hr1 : 0 ≤ (m.1 221 r).toInt := hr.1
    have hr2 : (m.1 221 r).toInt ≤ 12959999 := hr.2
    have el : ((r :: l).length : Int) = (l.length : Int) + 1 := by rw [List.length_cons]; omega
    rw [el] at h1
    have s := addI (a := x) (b := m.1 221 r) (by omega) (by omega)
    rw [List.foldl_cons, ih (x + m.1 221 r) (by omega) (by omega) (fun z hz => h2 z (List.mem_cons_of_mem _ hz)), s]
    show _ = x.toInt + ((m.1 221 r).toInt + sumI m l)
    omega
theorem sumI_er {m : rf_m} {x : Nat} : ∀ l : List Nat, x ∈ l → sumI m l = (m.1 221 x).toInt + sumI m (l.erase x) := by
  intro l
  induction l with
  | nil => intro h; cases h
  | cons y l ih =>
    intro h
    by_cases e : y = x
    · subst e
      rw [List.erase_cons_head]
      rfl
    · have hx : x ∈ l := by
        rcases List.mem_cons.mp h with q | q
        · exact absurd q.symm e
        · exact q
      rw [List.erase_cons_tail (by simpa using e)]
      show (m.1 221 y).toInt + sumI m l = (m.1 221 x).toInt + ((m.1 221 y).toInt + sumI m (l.erase x))
      rw [ih hx]
      omega
theorem sumI_nn {m : rf_m} : ∀ S : List Nat, (∀ x, x ∈ S → 0 ≤ (m.1 221 x).toInt) → 0 ≤ sumI m S := by
  intro S
  induction S with
  | nil => intro _; exact Int.le_refl _
  | cons y S ih =>
    intro h
    have := h y List.mem_cons_self
    have := ih (fun x hx => h x (List.mem_cons_of_mem _ hx))
    show (0 : Int) ≤ (m.1 221 y).toInt + sumI m S
    omega
theorem sum_sub {m : rf_m} : ∀ (D S : List Nat), D.Nodup → (∀ x, x ∈ D → x ∈ S) → (∀ x, x ∈ S → 0 ≤ (m.1 221 x).toInt) → sumI m D ≤ sumI m S := by
  intro D
  induction D with
  | nil =>
    intro S _ _ h
    exact sumI_nn S h
  | cons x D ih =>
    intro S hn hs h0
    obtain ⟨n1, n2⟩ := List.nodup_cons.mp hn
    rw [sumI_er S (hs x List.mem_cons_self)]
    have := ih (S.erase x) n2 (fun z hz => (List.mem_erase_of_ne (a := z) (b := x) (fun e => n1 (e ▸ hz))).mpr (hs z (List.mem_cons_of_mem _ hz))) (fun z hz => h0 z (List.mem_of_mem_erase hz))
    show (m.1 221 x).toInt + sumI m D ≤ _
    omega
def dL (m : rf_m) (V : Nat → Nat) (a : Nat) : List Nat → List Nat
  | [] => []
  | k :: L => if anV m V k = a then V k :: dL m V a L else dL m V a L
theorem dL_mem {m : rf_m} {V : Nat → Nat} {a x : Nat} : ∀ L, x ∈ dL m V a L → ∃ k, k ∈ L ∧ anV m V k = a ∧ x = V k := by
  intro L
  induction L with
  | nil => intro h; cases h
  | cons k L ih =>
    intro h
    by_cases e : anV m V k = a
    · have h : x ∈ (if anV m V k = a then V k :: dL m V a L else dL m V a L) := h
      rw [if_pos e] at h
      rcases List.mem_cons.mp h with q | q
      · exact ⟨k, List.mem_cons_self, e, q⟩
      · obtain ⟨k', q1, q2⟩ := ih q
        exact ⟨k', List.mem_cons_of_mem _ q1, q2⟩
    · have h : x ∈ (if anV m V k = a then V k :: dL m V a L else dL m V a L) := h
      rw [if_neg e] at h
      obtain ⟨k', q1, q2⟩ := ih h
      exact ⟨k', List.mem_cons_of_mem _ q1, q2⟩
theorem sA_d {m : rf_m} {V : Nat → Nat} {a : Nat} : ∀ L, sA m V L a = sumI m (dL m V a L) := by
  intro L
  induction L with
  | nil => rfl
  | cons k L ih =>
    show sA m V L a + (if anV m V k = a then whV m V k else 0) = sumI m (if anV m V k = a then V k :: dL m V a L else dL m V a L)
    rw [ih]
    by_cases e : anV m V k = a
    · rw [if_pos e, if_pos e]
      show _ = (m.1 221 (V k)).toInt + sumI m (dL m V a L)
      unfold whV
      omega
    · rw [if_neg e, if_neg e]; exact Int.add_zero _
theorem sA_sub {c : Nat} {w : rf_w} {m : rf_m} {V : Nat → Nat} {n a : Nat} {L : List Nat} (J : JCnt c w m) (hV : vOK w m V n) (hL : ∀ k, k ∈ L → k < n) (hn : L.Nodup) (ha : a < (m.1 206 16).toNatClampNeg) : sA m V L a ≤ smI w m a := by
  have h80 := ang80 J.2.2.2.2.1
  have ki := kpt_in (a := a) (d := 9999) J
  have h20 := ki.2 (by omega)
  have rg : ∀ r, r ∈ kpt w m 9999 a → iv 0 12959999 (m.1 221 r) := fun r hr => (mid_rng J.2.1 (ki.1 r hr).1 (ki.1 r hr).2.1).2
  have e : smI w m a = sumI m (kpt w m 9999 a) := by
    have := smL_I (kpt w m 9999 a) 0 (by rw [i_0]; omega) (by rw [i_0]; omega) rg
    rw [i_0, Int.zero_add] at this
    exact this
  rw [e, sA_d]
  refine sum_sub _ _ ?_ (fun x hx => ?_) (fun x hx => (ivI (rg x hx)).1)
  · clear e rg h20 ki
    induction L with
    | nil => exact List.nodup_nil
    | cons k L ih =>
      obtain ⟨n1, n2⟩ := List.nodup_cons.mp hn
      have i := ih (fun x hx => hL x (List.mem_cons_of_mem _ hx)) n2
      show (if anV m V k = a then V k :: dL m V a L else dL m V a L).Nodup
      split
      · refine List.nodup_cons.mpr ⟨fun q => ?_, i⟩
        obtain ⟨k', q1, _, q3⟩ := dL_mem L q
        have := hV.2.2 k k' (hL k List.mem_cons_self) (hL k' (List.mem_cons_of_mem _ q1)) q3
        exact n1 (this ▸ q1)
      · exact i
  · obtain ⟨k, q1, q2, q3⟩ := dL_mem L hx
    have := (v_f J hV (hL k q1)).2.1
    rw [q2] at this
    rw [q3]
    exact this
theorem mnL_R {c : Nat} {w : rf_w} {m : rf_m} {V : Nat → Nat} {n : Nat} {L : List Nat} (J : JCnt c w m) (hV : vOK w m V n) (hL : ∀ k, k ∈ L → k < n) (hn : L.Nodup) (ok : okL w m V n L) : mnR m (mnL w m V L) := by
  intro a ha
  unfold mnL
  by_cases e : klen w m a = cA m V L a
  · rw [if_pos e]; exact Or.inl rfl
  · rw [if_neg e]
    refine Or.inr ?_
    obtain ⟨kr1, kr2, kr3⟩ := k_rng J ha
    have hs := sA_sub J hV hL hn ha
    have sr := (sA_rng (a := a) J hV L hL).1
    have cl : cA m V L a < klen w m a := by
      by_cases q : 0 < cA m V L a
      · obtain ⟨k, q1, q2⟩ := cA_pos L q
        have := ok k (hL k q1)
        rw [q2] at this
        exact this
      · omega
    have b0 : 0 ≤ (smI w m a - sA m V L a) / ((klen w m a : Int) - cA m V L a) := Int.ediv_nonneg (by omega) (by omega)
    have b1 : (smI w m a - sA m V L a) / ((klen w m a : Int) - cA m V L a) ≤ smI w m a - sA m V L a := Int.ediv_le_self _ (by omega)
    rw [i_le, i_0, Int32.toInt_ofInt, tdiv_nn (by omega) (by omega), bm32 (by omega) (by omega)]
    exact b0
/-- a set whose striking lets all be within -/
def rgL (w : rf_w) (m : rf_m) (V : Nat → Nat) (n : Nat) (A : Int32) (L : List Nat) : Prop := okL w m V n L ∧ allG m (mnL w m V L) A
/-- the picked row -/
def pkL (X : rf_m) (L : List Nat) : Prop := ∀ i (h : i < L.length), X.1 188 i = Int32.ofNat L[i]
theorem fill39 {w : rf_w} {s : Nat} (hs : s ≤ 12) : ∀ r f j (X : rf_m) (v : Nat), j + r = s → 0 < j → r < f → v + r < 1000 → X.1 188 (j - 1) = Int32.ofNat v → ∃ G, g_X2_pickNext_39 w f (Int32.ofNat s) (Int32.ofNat j) X = some (1, stc X 188 G) ∧ (∀ i, i < j → G i = X.1 188 i) ∧ ∀ i, j ≤ i → i < s → G i = Int32.ofNat (v + 1 + (i - j)) := by
  intro r
  induction r with
  | zero =>
    intro f j X v hj h0 hf hv hx
    obtain ⟨f, rfl⟩ : ∃ g, f = g + 1 := ⟨f - 1, by omega⟩
    have e : j = s := by omega
    subst e
    refine ⟨X.1 188, ?_, fun _ _ => rfl, fun i h1 h2 => by omega⟩
    show g_X2_pickNext_39_b w _ _ _ X = _
    unfold g_X2_pickNext_39_b
    rw [if_pos (Int32.le_refl _), stc_self]
  | succ r ih =>
    intro f j X v hj h0 hf hv hx
    obtain ⟨f, rfl⟩ : ∃ g, f = g + 1 := ⟨f - 1, by omega⟩
    have g1 : ¬ Int32.ofNat s ≤ Int32.ofNat j := nle (by omega) (by omega)
    have em : Int32.ofNat j - 1 = Int32.ofNat (j - 1) := by rw [show j = (j - 1) + 1 by omega, ofm1']; rfl
    obtain ⟨G, k1, k2, k3⟩ := ih f (j + 1) (stc X 188 (pu (X.1 188) j (Int32.ofNat (v + 1)))) (v + 1) (by omega) (by omega) (by omega) (by omega) (by rw [stc_at, Nat.add_sub_cancel, pu_at])
    refine ⟨G, ?_, fun i hi => ?_, fun i h1 h2 => ?_⟩
    · show g_X2_pickNext_39_b w _ _ _ X = _
      unfold g_X2_pickNext_39_b
      rw [if_neg g1, em, gof (n := j - 1) (by omega) (by decide), g_t, gof (n := j) (by omega) (by decide), g_t, tn_of (n := j) (by omega), tn_of (n := j - 1) (by omega), hx, of_succ, of_succ, stc_i, k1, stc_stc]
    · rw [k2 i (by omega), stc_at, pu_ne (by omega)]
    · by_cases e : i = j
      · subst e
        rw [k2 i (by omega), stc_at, pu_at, Nat.sub_self]
      · rw [k3 i (by omega) h2, show v + 1 + 1 + (i - (j + 1)) = v + 1 + (i - j) by omega]
end PBPicks
