/-! chains: the order of keys, paths -/
section PBOrder
/-- lists of numbers, in the order of words -/
def lx : List Int → List Int → Prop
  | [], [] => False
  | [], _ :: _ => True
  | _ :: _, [] => False
  | a :: l, b :: r => a < b ∨ (a = b ∧ lx l r)
theorem lx_irr : ∀ a, ¬ lx a a := by
  intro a
  induction a with
  | nil => exact id
  | cons x l ih => rintro (h | ⟨_, h⟩); omega; exact ih h
theorem lx_co : ∀ (a b c : List Int), lx a c → lx a b ∨ lx b c := by
  intro a
  induction a with
  | nil =>
    intro b c h
    cases c with
    | nil => exact absurd h id
    | cons z c =>
      cases b with
      | nil => exact Or.inr trivial
      | cons y b => exact Or.inl trivial
  | cons x a ih =>
    intro b c h
    cases c with
    | nil => exact absurd h id
    | cons z c =>
      cases b with
      | nil => exact Or.inr trivial
      | cons y b =>
        rcases h with h | ⟨h1, h2⟩
        · by_cases e : x < y
          · exact Or.inl (Or.inl e)
          · by_cases e2 : x = y
            · exact Or.inr (Or.inl (by omega))
            · exact Or.inr (Or.inl (by omega))
        · by_cases e : x < y
          · exact Or.inl (Or.inl e)
          · by_cases e2 : x = y
            · rcases ih b c h2 with q | q
              · exact Or.inl (Or.inr ⟨e2, q⟩)
              · exact Or.inr (Or.inr ⟨by omega, q⟩)
            · exact Or.inr (Or.inl (by omega))
theorem lx_anti : ∀ a b : List Int, ¬ lx a b → ¬ lx b a → a = b := by
  intro a
  induction a with
  | nil =>
    intro b h1 h2
    cases b with
    | nil => rfl
    | cons y b => exact absurd trivial h1
  | cons x a ih =>
    intro b h1 h2
    cases b with
    | nil => exact absurd trivial h2
    | cons y b =>
      have n1 : ¬ x < y := fun h => h1 (Or.inl h)
      have n2 : ¬ y < x := fun h => h2 (Or.inl h)
      have e : x = y := by omega
      rw [e, ih b (fun h => h1 (Or.inr ⟨e, h⟩)) (fun h => h2 (Or.inr ⟨e.symm, h⟩))]
def lek (a b : List Int) : Prop := ¬ lx b a
theorem lek_refl (a : List Int) : lek a a := lx_irr a
theorem lek_trans {a b c : List Int} (h1 : lek a b) (h2 : lek b c) : lek a c := fun h => (lx_co c b a h).elim h2 h1
theorem lx_as : ∀ a b : List Int, lx a b → lx b a → False := by
  intro a
  induction a with
  | nil =>
    intro b h1 h2
    cases b with
    | nil => exact h1
    | cons y b => exact h2
  | cons x a ih =>
    intro b h1 h2
    cases b with
    | nil => exact h1
    | cons y b =>
      rcases h1 with h1 | ⟨e1, h1⟩
      · rcases h2 with h2 | ⟨e2, h2⟩ <;> omega
      · rcases h2 with h2 | ⟨e2, h2⟩
        · omega
        · exact ih b h1 h2
theorem lek_of {a b : List Int} (h : lx a b) : lek a b := fun h2 => lx_as a b h h2
theorem lx_app : ∀ (a a' b b' : List Int), a.length = a'.length → (lx (a ++ b) (a' ++ b') ↔ lx a a' ∨ (a = a' ∧ lx b b')) := by
  intro a
  induction a with
  | nil =>
    intro a' b b' h
    cases a' with
    | nil => exact ⟨fun q => Or.inr ⟨rfl, q⟩, fun q => q.elim False.elim (fun z => z.2)⟩
    | cons y a' => cases h
  | cons x a ih =>
    intro a' b b' h
    cases a' with
    | nil => cases h
    | cons y a' =>
      have i := ih a' b b' (Nat.succ.inj h)
      show (x < y ∨ (x = y ∧ lx (a ++ b) (a' ++ b'))) ↔ ((x < y ∨ (x = y ∧ lx a a')) ∨ (x :: a = y :: a' ∧ lx b b'))
      rw [i]
      constructor
      · rintro (q | ⟨q1, q | ⟨q2, q3⟩⟩)
        · exact Or.inl (Or.inl q)
        · exact Or.inl (Or.inr ⟨q1, q⟩)
        · exact Or.inr ⟨by rw [q1, q2], q3⟩
      · rintro ((q | ⟨q1, q⟩) | ⟨q1, q2⟩)
        · exact Or.inl q
        · exact Or.inr ⟨q1, Or.inl q⟩
        · injection q1 with q3 q4
          exact Or.inr ⟨q3, Or.inr ⟨q4, q2⟩⟩
/-- the environment of the chains: sides, least and most sines of a triangle's places, which may be used, the goal, and the start -/
abbrev chE : Type := (Nat → Nat → Int32) × (Nat → Nat → Int) × (Nat → Nat → Int) × (Nat → Prop) × Int32 × (Int32 × Int × Int)
def eSid (E : chE) : Nat → Nat → Int32 := E.1
def eSl (E : chE) : Nat → Nat → Int := E.2.1
def eSm (E : chE) : Nat → Nat → Int := E.2.2.1
def eAb (E : chE) : Nat → Prop := E.2.2.2.1
def eGo (E : chE) : Int32 := E.2.2.2.2.1
def eSt (E : chE) : Int32 × Int × Int := E.2.2.2.2.2
def plc (E : chE) (t : Nat) (s : Int32) : Option Nat := if eSid E t 0 = s then some 0 else if eSid E t 1 = s then some 1 else if eSid E t 2 = s then some 2 else none
def loN (E : chE) (t o i : Nat) (lo : Int) : Int := lo * eSl E t i / eSm E t o
def hiN (E : chE) (t o i : Nat) (hi : Int) : Int := (hi * eSm E t i + eSl E t o - 1) / eSl E t o
/-- one carrying -/
def stp (E : chE) (st : Int32 × Int × Int) (x : Nat × Nat) : Option (Int32 × Int × Int) := match plc E x.1 st.1 with
  | none => none
  | some o => if x.2 = o ∨ 3 ≤ x.2 ∨ 1000000000 < hiN E x.1 o x.2 st.2.2 then none else some (eSid E x.1 x.2, loN E x.1 o x.2 st.2.1, hiN E x.1 o x.2 st.2.2)
def rnE (E : chE) (p : List (Nat × Nat)) : Option (Int32 × Int × Int) := p.foldl (fun o x => o.bind (fun st => stp E st x)) (some (eSt E))
theorem rnE_snoc {E : chE} {p : List (Nat × Nat)} {x : Nat × Nat} : rnE E (p ++ [x]) = (rnE E p).bind (fun st => stp E st x) := by
  unfold rnE; rw [List.foldl_append]; rfl
theorem fold_none {E : chE} : ∀ r : List (Nat × Nat), r.foldl (fun o x => o.bind (fun st => stp E st x)) none = none := by
  intro r
  induction r with
  | nil => rfl
  | cons x r ih => rw [List.foldl_cons]; exact ih
/-- a chain that goes to the goal -/
def GC (E : chE) (p : List (Nat × Nat)) : Prop := p.length ≤ 6 ∧ (p.map (fun x => x.1)).Nodup ∧ (∀ x, x ∈ p → eAb E x.1) ∧ ∃ lo hi, rnE E p = some (eGo E, lo, hi)
def kyE (E : chE) (p : List (Nat × Nat)) (lo hi : Int) : List Int := (hi - lo) :: (p.length : Int) :: (p.map (fun x => (x.1 : Int)) ++ p.map (fun x => (eSid E x.1 x.2).toInt))
def kpE (E : chE) (p : List (Nat × Nat)) : List Int := match rnE E p with
  | none => []
  | some st => kyE E p st.2.1 st.2.2
theorem kpE_of {E : chE} {p : List (Nat × Nat)} {s : Int32} {lo hi : Int} (h : rnE E p = some (s, lo, hi)) : kpE E p = kyE E p lo hi := by unfold kpE; rw [h]
/-- the sides of a triangle are different ones -/
def eInj (E : chE) : Prop := ∀ t, eAb E t → eSid E t 0 ≠ eSid E t 1 ∧ eSid E t 1 ≠ eSid E t 2 ∧ eSid E t 0 ≠ eSid E t 2
theorem stp_lt {E : chE} {st st' : Int32 × Int × Int} {x : Nat × Nat} (h : stp E st x = some st') : x.2 < 3 := by
  unfold stp at h
  split at h
  · cases h
  · split at h
    · cases h
    · omega
theorem rnE_lt {E : chE} : ∀ (p : List (Nat × Nat)) o st, p.foldl (fun o x => o.bind (fun st => stp E st x)) o = some st → ∀ x, x ∈ p → x.2 < 3 := by
  intro p
  induction p with
  | nil => intro o st _ x hx; cases hx
  | cons y p ih =>
    intro o st h x hx
    rw [List.foldl_cons] at h
    cases o with
    | none => rw [show (none : Option (Int32 × Int × Int)).bind (fun st => stp E st y) = none from rfl, fold_none] at h; cases h
    | some s =>
      rcases List.mem_cons.mp hx with q | q
      · cases e : stp E s y with
        | none => rw [show (some s).bind (fun st => stp E st y) = stp E s y from rfl, e, fold_none] at h; cases h
        | some s' => rw [q]; exact stp_lt e
      · exact ih _ st h x q
/-- the key names the chain -/
theorem ky_inj {E : chE} (hE : eInj E) : ∀ (p q : List (Nat × Nat)), (∀ x, x ∈ p → eAb E x.1 ∧ x.2 < 3) → (∀ x, x ∈ q → x.2 < 3) → p.length = q.length → p.map (fun x => (x.1 : Int)) = q.map (fun x => (x.1 : Int)) → p.map (fun x => (eSid E x.1 x.2).toInt) = q.map (fun x => (eSid E x.1 x.2).toInt) → p = q := by
  intro p
  induction p with
  | nil => intro q _ _ h _ _; cases q with
    | nil => rfl
    | cons y q => cases h
  | cons x p ih =>
    intro q hp hq h1 h2 h3
    cases q with
    | nil => cases h1
    | cons y q =>
      rw [List.map_cons, List.map_cons] at h2 h3
      injection h2 with a1 a2
      injection h3 with b1 b2
      have e1 : x.1 = y.1 := by omega
      have e2 : x.2 = y.2 := by
        have q1 := hp x List.mem_cons_self
        have q2 := hq y List.mem_cons_self
        have b1 := Int32.toInt_inj.mp b1
        rw [← e1] at b1
        obtain ⟨i1, i2, i3⟩ := hE x.1 q1.1
        have c1 : x.2 = 0 ∨ x.2 = 1 ∨ x.2 = 2 := by omega
        have c2 : y.2 = 0 ∨ y.2 = 1 ∨ y.2 = 2 := by omega
        rcases c1 with c1 | c1 | c1 <;> rcases c2 with c2 | c2 | c2 <;> rw [c1, c2] at b1 <;> first | exact c1.trans c2.symm | exact absurd b1 i1 | exact absurd b1.symm i1 | exact absurd b1 i2 | exact absurd b1.symm i2 | exact absurd b1 i3 | exact absurd b1.symm i3
      rw [ih q (fun z hz => hp z (List.mem_cons_of_mem _ hz)) (fun z hz => hq z (List.mem_cons_of_mem _ hz)) (Nat.succ.inj h1) a2 b2]
      have : x = y := Prod.ext e1 e2
      rw [this]
theorem GC_eq {E : chE} (hE : eInj E) {p q : List (Nat × Nat)} (hp : GC E p) (hq : GC E q) (h1 : lek (kpE E p) (kpE E q)) (h2 : lek (kpE E q) (kpE E p)) : p = q := by
  have e := lx_anti _ _ h2 h1
  obtain ⟨_, _, p3, lo, hi, p4⟩ := hp
  obtain ⟨_, _, _, lo', hi', q4⟩ := hq
  rw [kpE_of p4, kpE_of q4] at e
  unfold kyE at e
  injection e with _ e
  injection e with e1 e
  have el : p.length = q.length := by omega
  have := List.append_inj e (by rw [List.length_map, List.length_map, el])
  exact ky_inj hE p q (fun x hx => ⟨p3 x hx, rnE_lt p _ _ p4 x hx⟩) (fun x hx => rnE_lt q _ _ q4 x hx) el this.1 this.2
/-- the best so far is no worse -/
def leB (E : chE) (B' B : Option (List (Nat × Nat))) : Prop := ∀ b, B = some b → ∃ q, B' = some q ∧ lek (kpE E q) (kpE E b)
theorem leB_refl {E : chE} (B : Option (List (Nat × Nat))) : leB E B B := fun b h => ⟨b, h, lek_refl _⟩
theorem leB_trans {E : chE} {A B C : Option (List (Nat × Nat))} (h1 : leB E A B) (h2 : leB E B C) : leB E A C := fun c hc => by
  obtain ⟨q, e, k⟩ := h2 c hc
  obtain ⟨q', e', k'⟩ := h1 q e
  exact ⟨q', e', lek_trans k' k⟩
def okB (E : chE) (B : Option (List (Nat × Nat))) : Prop := ∀ q, B = some q → GC E q
/-- behind a search from p -/
def srP (E : chE) (p : List (Nat × Nat)) (B B' : Option (List (Nat × Nat))) : Prop := okB E B' ∧ leB E B' B ∧ ∀ r, GC E (p ++ r) → leB E B' (some (p ++ r))
theorem best_eq {E : chE} (hE : eInj E) {B B' : Option (List (Nat × Nat))} (h : srP E [] none B) (h' : srP E [] none B') : B = B' := by
  cases B with
  | none =>
    cases B' with
    | none => rfl
    | some q =>
      obtain ⟨q', e, _⟩ := h.2.2 q (h'.1 q rfl) q rfl
      cases e
  | some p =>
    obtain ⟨q, e, k⟩ := h'.2.2 p (h.1 p rfl) p rfl
    obtain ⟨p', e', k'⟩ := h.2.2 q (h'.1 q e) q rfl
    cases e'
    rw [e, GC_eq hE (h.1 p rfl) (h'.1 q e) k' k]
end PBOrder
