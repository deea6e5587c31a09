/-! phase B: the words for the pure statement -/
section PB
def wp {α : Type} (o : Option α) (Q : α → Prop) : Prop := ∃ r, o = some r ∧ Q r
theorem wp_some {α : Type} {r : α} {Q : α → Prop} : wp (some r) Q ↔ Q r := ⟨fun ⟨_, e, h⟩ => Option.some.inj e ▸ h, fun h => ⟨r, rfl, h⟩⟩
theorem wp_none {α : Type} {Q : α → Prop} : wp none Q ↔ False := ⟨fun ⟨_, e, _⟩ => (nomatch e), False.elim⟩
theorem wp_g {α : Type} {b : Bool} {k : Option α} {Q : α → Prop} : wp (rf_g b k) Q ↔ b = true ∧ wp k Q := by
  cases b
  · exact ⟨fun ⟨_, e, _⟩ => (nomatch e), fun h => (nomatch h.1)⟩
  · exact ⟨fun h => ⟨rfl, h⟩, fun h => h.2⟩
theorem wp_b {α β : Type} {o : Option (α × rf_m)} {k : α → rf_m → Option β} {Q : β → Prop} : wp (rf_b o k) Q ↔ wp o (fun r => wp (k r.1 r.2) Q) := by
  cases o with
  | none => exact ⟨fun ⟨_, e, _⟩ => (nomatch e), fun ⟨_, e, _⟩ => (nomatch e)⟩
  | some q => rw [wp_some]; rfl
theorem wp_bv {β : Type} {o : Option rf_m} {k : rf_m → Option β} {Q : β → Prop} : wp (rf_bv o k) Q ↔ wp o (fun r => wp (k r) Q) := by
  cases o with
  | none => exact ⟨fun ⟨_, e, _⟩ => (nomatch e), fun ⟨_, e, _⟩ => (nomatch e)⟩
  | some q => rw [wp_some]; rfl
theorem wp_vi {β : Type} {x : Int32} {k : Int32 → Option β} {Q : β → Prop} : wp (rf_vi x k) Q ↔ wp (k x) Q := ⟨id, id⟩
theorem wp_vl {β : Type} {x : Int64} {k : Int64 → Option β} {Q : β → Prop} : wp (rf_vl x k) Q ↔ wp (k x) Q := ⟨id, id⟩
theorem wp_ite {α : Type} {c : Prop} [hd : Decidable c] {a b : Option α} {Q : α → Prop} : wp (if c then a else b) Q ↔ (c → wp a Q) ∧ (¬ c → wp b Q) := by
  by_cases h : c
  · rw [if_pos h]; exact ⟨fun x => ⟨fun _ => x, fun n => absurd h n⟩, fun x => x.1 h⟩
  · rw [if_neg h]; exact ⟨fun x => ⟨fun n => absurd n h, fun _ => x⟩, fun x => x.2 h⟩
theorem wp_mono {α : Type} {o : Option α} {Q Q' : α → Prop} (h : wp o Q) (k : ∀ r, Q r → Q' r) : wp o Q' := by
  obtain ⟨r, e, q⟩ := h
  exact ⟨r, e, k r q⟩
theorem wp_more {α : Type} {o : Option α} {Q F : α → Prop} (h : wp o Q) (f : ∀ r, o = some r → F r) : wp o (fun r => Q r ∧ F r) := by
  obtain ⟨r, e, q⟩ := h
  exact ⟨r, e, q, f r e⟩
theorem wp_eq {α : Type} {o : Option α} {v : α} : wp o (fun r => r = v) ↔ o = some v := ⟨fun ⟨_, e, q⟩ => q ▸ e, fun h => ⟨v, h, rfl⟩⟩
theorem wp_of {α : Type} {o : Option α} {v : α} {Q : α → Prop} (e : o = some v) (h : Q v) : wp o Q := ⟨v, e, h⟩
/-- a loop by fuel: s is the state, k what is left -/
theorem wp_loop {σ β : Type} (F : Nat → σ → Option β) (B : (σ → Option β) → σ → Option β) (hF : ∀ n s, F (n + 1) s = B (F n) s) (I : Nat → σ → Prop) (Q : σ → β → Prop) (step : ∀ k r s, I k s → (∀ k' s', k' < k → I k' s' → wp (r s') (Q s')) → wp (B r s) (Q s)) : ∀ n k s, k < n → I k s → wp (F n s) (Q s) := by
  intro n
  induction n with
  | zero => intro k s h; omega
  | succ n ih =>
    intro k s hk hI
    rw [hF]
    exact step k (F n) s hI (fun k' s' h' hI' => ih k' s' (by omega) hI')
def pu {α : Type} (f : Nat → α) (k : Nat) (x : α) : Nat → α := fun b => if b = k then x else f b
theorem pu_at {α : Type} (f : Nat → α) (k : Nat) (x : α) : pu f k x k = x := if_pos rfl
theorem pu_ne {α : Type} {f : Nat → α} {k b : Nat} {x : α} (h : b ≠ k) : pu f k x b = f b := if_neg h
theorem pu_all {α : Type} {P : α → Prop} {f : Nat → α} {k : Nat} {x : α} (h : ∀ i, P (f i)) (hx : P x) : ∀ i, P (pu f k x i) := by
  intro i
  unfold pu
  by_cases e : i = k
  · rw [if_pos e]; exact hx
  · rw [if_neg e]; exact h i
theorem pu_lt {α : Type} {P : α → Prop} {f : Nat → α} {k : Nat} {x : α} {n : Nat} (h : ∀ i, i < n → P (f i)) (hx : P x) : ∀ i, i < n → P (pu f k x i) := by
  intro i hi
  unfold pu
  by_cases e : i = k
  · rw [if_pos e]; exact hx
  · rw [if_neg e]; exact h i hi
theorem rf_i_c {m : rf_m} {c k a : Nat} {x : Int32} : (rf_i m c k x).1 a = if a = c then pu (m.1 c) k x else m.1 a := by
  funext b
  show (if a = c ∧ b = k then x else m.1 a b) = _
  by_cases h : a = c
  · subst h
    rw [if_pos rfl]
    by_cases h2 : b = k
    · rw [if_pos ⟨rfl, h2⟩, h2, pu_at]
    · rw [if_neg (fun hh => h2 hh.2), pu_ne h2]
  · rw [if_neg h, if_neg (fun hh => h hh.1)]
theorem rf_i_l {m : rf_m} {c k : Nat} {x : Int32} : (rf_i m c k x).2 = m.2 := rfl
theorem rf_l_i {m : rf_m} {c k : Nat} {x : Int64} : (rf_l m c k x).1 = m.1 := rfl
theorem rf_l_c {m : rf_m} {c k a : Nat} {x : Int64} : (rf_l m c k x).2 a = if a = c then pu (m.2 c) k x else m.2 a := by
  funext b
  show (if a = c ∧ b = k then x else m.2 a b) = _
  by_cases h : a = c
  · subst h
    rw [if_pos rfl]
    by_cases h2 : b = k
    · rw [if_pos ⟨rfl, h2⟩, h2, pu_at]
    · rw [if_neg (fun hh => h2 hh.2), pu_ne h2]
  · rw [if_neg h, if_neg (fun hh => h hh.1)]
/-- what is in S1 is in none of S2 -/
def fr_dis (P S : fr_S) : Bool := P.all fun e => S.all fun d => decide ((e.2.1 ≠ 0 ∨ e.1 = 0) ∧ e.2.1 < d.1) || decide ((d.2.1 ≠ 0 ∨ d.1 = 0) ∧ d.2.1 < e.1) || (match e.2.2, d.2.2 with
  | some i, some j => decide (i ≠ j)
  | _, _ => false)
theorem fr_dis_of {P S : fr_S} (h : fr_dis P S = true) {c k : Nat} (hp : fr_in P c k = true) : fr_in S c k = false := by
  cases e : fr_in S c k with
  | false => rfl
  | true =>
    exfalso
    obtain ⟨x, hx, hx2⟩ := List.any_eq_true.mp hp
    obtain ⟨y, hy, hy2⟩ := List.any_eq_true.mp e
    have h1 := List.all_eq_true.mp (List.all_eq_true.mp h x hx) y hy
    obtain ⟨a, b, o⟩ := x
    obtain ⟨a', b', o'⟩ := y
    unfold fr_e at hx2 hy2
    simp only [Bool.and_eq_true, Bool.or_eq_true, Nat.ble_eq, Nat.beq_eq] at hx2 hy2
    simp only [Bool.or_eq_true, decide_eq_true_eq] at h1
    rcases h1 with (h1 | h1) | h1
    · omega
    · omega
    · cases o with
      | none => cases h1
      | some i =>
        cases o' with
        | none => cases h1
        | some j =>
          have h3 := of_decide_eq_true h1
          have h4 := Nat.beq_eq.mp hx2.2
          have h5 := Nat.beq_eq.mp hy2.2
          omega
/-- both memories have the same at P -/
def dep (P : fr_S) (m m' : rf_m) : Prop := ∀ c k, fr_in P c k = true → m'.1 c k = m.1 c k ∧ m'.2 c k = m.2 c k
theorem dep_of {P S : fr_S} {m m' : rf_m} (h : fr S m m') (hd : fr_dis P S = true) : dep P m m' := fun c k hp => h c k (fr_dis_of hd hp)
theorem dep_c {P : fr_S} {m m' : rf_m} (h : dep P m m') (c : Nat) (hc : fr_c P c = true) : m'.1 c = m.1 c := funext fun k => (h c k (fr_c_in hc k)).1
theorem dep_cl {P : fr_S} {m m' : rf_m} (h : dep P m m') (c : Nat) (hc : fr_c P c = true) : m'.2 c = m.2 c := funext fun k => (h c k (fr_c_in hc k)).2
theorem dep_k {P : fr_S} {m m' : rf_m} (h : dep P m m') (c k : Nat) (hc : fr_in P c k = true) : m'.1 c k = m.1 c k := (h c k hc).1
theorem dep_kl {P : fr_S} {m m' : rf_m} (h : dep P m m') (c k : Nat) (hc : fr_in P c k = true) : m'.2 c k = m.2 c k := (h c k hc).2
end PB
