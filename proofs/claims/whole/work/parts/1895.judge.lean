/-! each reading is judged -/
section PBJudge
theorem insI_mem {x z : Int32} {s : List Int32} (h : z ∈ insI x s) : z = x ∨ z ∈ s := by
  induction s with
  | nil => exact Or.inl (List.mem_singleton.mp h)
  | cons y t ih =>
    unfold insI at h
    split at h
    · rcases List.mem_cons.mp h with h | h
      · exact Or.inl h
      · exact Or.inr h
    · rcases List.mem_cons.mp h with h | h
      · exact Or.inr (by rw [h]; exact List.mem_cons_self ..)
      · rcases ih h with h | h
        · exact Or.inl h
        · exact Or.inr (List.mem_cons_of_mem _ h)
theorem insI_ne {x : Int32} {s : List Int32} : insI x s ≠ [] := by
  intro h
  have := insI_len x s
  rw [h] at this
  cases this
theorem srt_mem {m : rf_m} {d : Int32} (l : List Nat) : ∀ i, i ≤ l.length → ∀ z, z ∈ srt m d (l.take i) → ∃ r, r ∈ l ∧ okP m d r ∧ z = m.1 221 r := by
  intro i
  induction i with
  | zero => intro _ z hz; simp [srt] at hz
  | succ i ih =>
    intro h z hz
    rw [take_snoc (by omega), srt_snoc] at hz
    by_cases q : okP m d (l[i]'(by omega))
    · rw [srS_t q] at hz
      rcases insI_mem hz with e | e
      · exact ⟨_, List.getElem_mem _, q, e⟩
      · exact ih (by omega) z e
    · rw [srS_f q] at hz
      exact ih (by omega) z hz
theorem srt_ne {m : rf_m} {d : Int32} (l : List Nat) : ∀ i, i ≤ l.length → (∃ j, ∃ h : j < i, ∃ h2 : j < l.length, okP m d l[j]) → srt m d (l.take i) ≠ [] := by
  intro i
  induction i with
  | zero => rintro _ ⟨j, h, _⟩; omega
  | succ i ih =>
    rintro h ⟨j, h1, h2, h3⟩
    rw [take_snoc (by omega), srt_snoc]
    by_cases q : okP m d (l[i]'(by omega))
    · rw [srS_t q]; exact insI_ne
    · rw [srS_f q]
      refine ih (by omega) ⟨j, ?_, h2, h3⟩
      by_cases e : j = i
      · subst e; exact absurd h3 q
      · omega
theorem mid_rng {m : rf_m} {d : Int32} {a r : Nat} (j : JRead m) (hr : r ∈ rdl m a) (hk : okP m d r) : iv 0 12959999 (midV m d a) ∧ iv 0 12959999 (m.1 221 r) := by
  obtain ⟨c1, c2, c3, c4⟩ := j
  have rng : ∀ r, r ∈ rdl m a → okP m d r → iv 0 12959999 (m.1 221 r) := by
    intro r hr hk
    have := rds_lt _ _ hr
    obtain ⟨_, _, _, _, _, _, h, _⟩ := c3 r this.1
    rcases h with h | h
    · exact absurd h hk.1
    · exact h
  refine ⟨?_, rng r hr hk⟩
  obtain ⟨i, hi, rfl⟩ := List.getElem_of_mem hr
  have ne := srt_ne (m := m) (d := d) (rdl m a) (rdl m a).length (Nat.le_refl _) ⟨i, hi, hi, hk⟩
  have mem := srt_mem (m := m) (d := d) (rdl m a) (rdl m a).length (Nat.le_refl _)
  rw [List.take_of_length_le (Nat.le_refl _)] at ne mem
  unfold midV
  generalize srt m d (rdl m a) = s at *
  cases s with
  | nil => exact absurd rfl ne
  | cons y t =>
    simp only
    rw [List.getD_eq_getElem?_getD, List.getElem?_eq_getElem (by simp; omega)]
    obtain ⟨r', h1, h2, h3⟩ := mem _ (List.getElem_mem (l := y :: t) (n := (y :: t).length - 1 - ((y :: t).length - 1) / 2) (by simp; omega))
    show iv 0 12959999 ((y :: t)[(y :: t).length - 1 - ((y :: t).length - 1) / 2]'_)
    rw [h3]
    exact rng r' h1 h2
theorem ab_rng {x z : Int32} (hx : iv 0 12959999 x) (hz : iv 0 12959999 z) : iv 0 12959999 (ab (x - z)) := by
  obtain ⟨a1, a2⟩ := ivI hx
  obtain ⟨b1, b2⟩ := ivI hz
  have a1' : 0 ≤ x.toInt := a1
  have a2' : x.toInt ≤ 12959999 := a2
  have b1' : 0 ≤ z.toInt := b1
  have b2' : z.toInt ≤ 12959999 := b2
  have e : (x - z).toInt = x.toInt - z.toInt := subI (by omega) (by omega)
  unfold ab
  split
  · rename_i h
    rw [i_le, i_0, e] at h
    exact ⟨by rw [i_le, i_0, e]; omega, by rw [i_le, e]; show _ ≤ (12959999 : Int); omega⟩
  · rename_i h
    rw [i_le, i_0, e] at h
    have e2 : (-(x - z)).toInt = -(x.toInt - z.toInt) := by rw [Int32.toInt_neg, bm32 (by rw [e]; omega) (by rw [e]; omega), e]
    exact ⟨by rw [i_le, i_0, e2]; omega, by rw [i_le, e2]; show _ ≤ (12959999 : Int); omega⟩
/-- the names that a reading is judged by -/
noncomputable def nmV (m : rf_m) (d : Int32) (a r i : Nat) : Int32 := if i = 0 then ab (m.1 221 r - midV m d a) else if i = 1 then m.1 222 r else if i = 2 then m.1 223 r else if i = 3 then Int32.ofNat (srt m d (rdl m a)).length else if i = 6 then m.1 217 a else 0
noncomputable def skV (m : rf_m) (d : Int32) (a r : Nat) : Int32 := stkV m (nmV m d a r) (m.1 224 r)
def keptP (w : rf_w) (m : rf_m) (d : Int32) (a r : Nat) : Prop := okP m d r ∧ svV w m r d = 0 ∧ skV m d a r = -2
theorem nm_ok {m : rf_m} {d : Int32} {a r : Nat} (j : JRead m) (ja : JAng m) (jm : JMark m) (ha : a < (m.1 206 16).toNatClampNeg) (hr : r ∈ rdl m a) (hk : okP m d r) (hs : (srt m d (rdl m a)).length ≤ 20) : nok (nmV m d a r) := by
  obtain ⟨q1, q2⟩ := mid_rng j hr hk
  have h0 := ab_rng q2 q1
  obtain ⟨c1, c2, c3, c4⟩ := j
  obtain ⟨_, _, _, _, _, _, _, h1, h2, _⟩ := c3 r (rds_lt _ _ hr).1
  have h6 := (ja.2.2.2.2.2 a ha).1
  have m2 := jm.2.1
  intro i hi
  unfold nmV
  have w1 : ∀ {x N : Int32}, iv 0 N x → N ≤ 1000000000 → iv 0 1000000000 x := fun h hN => ⟨h.1, by have := h.2; clear c3 c4; grind⟩
  by_cases e0 : i = 0
  · rw [if_pos e0]; exact w1 h0 (by decide)
  · rw [if_neg e0]
    by_cases e1 : i = 1
    · rw [if_pos e1]; exact w1 h1 (by decide)
    · rw [if_neg e1]
      by_cases e2 : i = 2
      · rw [if_pos e2]; exact w1 h2 (by decide)
      · rw [if_neg e2]
        by_cases e3 : i = 3
        · rw [if_pos e3]
          exact ⟨of_nn (by omega), (of_le (b := 1000000000) (by omega) (by omega)).mpr (by omega)⟩
        · rw [if_neg e3]
          by_cases e6 : i = 6
          · rw [if_pos e6]
            refine ⟨h6.1, ?_⟩
            have := h6.2
            have := m2.2
            clear c3 c4
            grind
          · rw [if_neg e6]
            exact ⟨by decide, by decide⟩
/-- the class's memory m1 has m's rules, strikes, readings, and the names that all of an angle share -/
def jdA (m m1 : rf_m) (d : Int32) (a : Nat) : Prop := (∀ c, c ≠ 18 → c ≠ 25 → c ≠ 31 → c ≠ 32 → c ≠ 34 → c ≠ 35 → c ≠ 40 → m1.1 c = m.1 c) ∧ (∀ r, r < 1200 → ∀ k, k < 5 → m1.1 32 (9 * r + k) = m.1 32 (9 * r + k)) ∧ m1.1 18 3 = Int32.ofNat (srt m d (rdl m a)).length ∧ m1.1 18 4 = 0 ∧ m1.1 18 5 = 0 ∧ m1.1 18 6 = m.1 217 a
theorem jdA_rule {w : rf_w} {m m1 : rf_m} {d : Int32} {a : Nat} (j : JRule w m) (h : jdA m m1 d a) : JRule w m1 := by
  obtain ⟨c1, c2, c3⟩ := j
  have e := h.1
  have e206 : m1.1 206 = m.1 206 := e 206 (by decide) (by decide) (by decide) (by decide) (by decide) (by decide) (by decide)
  have e13 : m1.1 13 = m.1 13 := e 13 (by decide) (by decide) (by decide) (by decide) (by decide) (by decide) (by decide)
  refine ⟨by rw [e13, e206]; exact c1, by rw [e206]; exact c2, fun r hr => ?_⟩
  rw [e206] at hr
  obtain ⟨c, k1, k2, kk⟩ := c3 r hr
  have r6 := k2.2.2.2.2.2
  refine ⟨c, k1, k2, ?_⟩
  have g : ∀ x, (x = 19 ∨ x = 20 ∨ x = 21 ∨ x = 22 ∨ x = 23 ∨ x = 24 ∨ x = c ∨ x = c + 1 ∨ x = c + 2) → m1.1 x = m.1 x := fun x hx => e x (by omega) (by omega) (by omega) (by omega) (by omega) (by omega) (by omega)
  rw [g 19 (by omega), g 20 (by omega), g 21 (by omega), g 22 (by omega), g 23 (by omega), g 24 (by omega), g c (by omega), g (c + 1) (by omega), g (c + 2) (by omega)]
  exact kk
theorem jdA_stk {m m1 : rf_m} {d : Int32} {a : Nat} (h : jdA m m1 d a) (N : Nat → Int32) (day : Int32) : stkV m1 N day = stkV m N day := by
  have e := h.1
  have g : ∀ x, (19 ≤ x ∧ x ≤ 24) ∨ x = 206 → m1.1 x = m.1 x := fun x hx => e x (by omega) (by omega) (by omega) (by omega) (by omega) (by omega) (by omega)
  unfold stkV dueP tstP
  rw [g 19 (by omega), g 20 (by omega), g 21 (by omega), g 22 (by omega), g 23 (by omega), g 24 (by omega), g 206 (by omega)]
end PBJudge
