/-! what a function leaves as it was (written by wip/tool/gen_frame.py) -/
section FR
/-- cells from .. to (0: all behind, but for 0 .. 0), one place or all -/
abbrev fr_S : Type := List (Nat × Nat × Option Nat)
def fr_e (e : Nat × Nat × Option Nat) (c k : Nat) : Bool := Nat.ble e.1 c && ((Nat.beq e.2.1 0 && Nat.ble 1 e.1) || Nat.ble c e.2.1) && (match e.2.2 with
  | none => true
  | some j => Nat.beq j k)
def fr_in (S : fr_S) (c k : Nat) : Bool := S.any (fun e => fr_e e c k)
/-- outside S nothing has changed -/
def fr (S : fr_S) (m m' : rf_m) : Prop := ∀ c k, fr_in S c k = false → m'.1 c k = m.1 c k ∧ m'.2 c k = m.2 c k
theorem fr_refl (S : fr_S) (m : rf_m) : fr S m m := fun _ _ _ => ⟨rfl, rfl⟩
theorem fr_trans {S : fr_S} {m m1 m2 : rf_m} (h1 : fr S m m1) (h2 : fr S m1 m2) : fr S m m2 := fun c k h => ⟨(h2 c k h).1.trans (h1 c k h).1, (h2 c k h).2.trans (h1 c k h).2⟩
theorem fr_in_mono {S S' : fr_S} (hs : S.all (fun e => decide (e ∈ S')) = true) {c k : Nat} (h : fr_in S' c k = false) : fr_in S c k = false := by
  cases e : fr_in S c k with
  | false => rfl
  | true =>
    obtain ⟨x, hx, hx2⟩ := List.any_eq_true.mp e
    have h2 := of_decide_eq_true (List.all_eq_true.mp hs x hx)
    have h3 : fr_in S' c k = true := List.any_eq_true.mpr ⟨x, h2, hx2⟩
    rw [h3] at h
    cases h
theorem fr_mono {S S' : fr_S} {m m' : rf_m} (h : fr S m m') (hs : S.all (fun e => decide (e ∈ S')) = true) : fr S' m m' := fun c k hc => h c k (fr_in_mono hs hc)
/-- a whole cell may be written -/
def fr_c (S : fr_S) (c : Nat) : Bool := S.any (fun e => Nat.ble e.1 c && ((Nat.beq e.2.1 0 && Nat.ble 1 e.1) || Nat.ble c e.2.1) && e.2.2.isNone)
theorem fr_c_in {S : fr_S} {c : Nat} (h : fr_c S c = true) (k : Nat) : fr_in S c k = true := by
  obtain ⟨x, hx, h2⟩ := List.any_eq_true.mp h
  refine List.any_eq_true.mpr ⟨x, hx, ?_⟩
  obtain ⟨a, b, o⟩ := x
  rw [Bool.and_eq_true] at h2
  cases o with
  | none => show (_ && true) = true; rw [Bool.and_true]; exact h2.1
  | some j => cases h2.2
theorem fr_i {S : fr_S} {m m1 : rf_m} (h : fr S m m1) {c k : Nat} {x : Int32} (hc : fr_in S c k = true) : fr S m (rf_i m1 c k x) := by
  intro a b hab
  refine ⟨?_, (h a b hab).2⟩
  show (if a = c ∧ b = k then x else m1.1 a b) = _
  rw [if_neg, (h a b hab).1]
  rintro ⟨rfl, rfl⟩
  rw [hc] at hab
  cases hab
theorem fr_l {S : fr_S} {m m1 : rf_m} (h : fr S m m1) {c k : Nat} {x : Int64} (hc : fr_in S c k = true) : fr S m (rf_l m1 c k x) := by
  intro a b hab
  refine ⟨(h a b hab).1, ?_⟩
  show (if a = c ∧ b = k then x else m1.2 a b) = _
  rw [if_neg, (h a b hab).2]
  rintro ⟨rfl, rfl⟩
  rw [hc] at hab
  cases hab
theorem fr_ci {S : fr_S} {m m1 : rf_m} (h : fr S m m1) {c0 c : Nat} {a1 a2 a3 : Int32} (hc : fr_c S c = true) : fr S m (rf_ci m1 c0 c a1 a2 a3) := by
  intro a b hab
  refine ⟨?_, (h a b hab).2⟩
  show (if a = c then _ else m1.1 a b) = _
  rw [if_neg, (h a b hab).1]
  rintro rfl
  rw [fr_c_in hc] at hab
  cases hab
theorem fr_cl2 {S : fr_S} {m m1 : rf_m} (h : fr S m m1) {c0 c : Nat} {a1 a2 a3 : Int32} (hc : fr_c S c = true) : fr S m (rf_cl2 m1 c0 c a1 a2 a3) := by
  intro a b hab
  refine ⟨(h a b hab).1, ?_⟩
  show (if a = c then _ else m1.2 a b) = _
  rw [if_neg, (h a b hab).2]
  rintro rfl
  rw [fr_c_in hc] at hab
  cases hab
theorem fr_vi {β : Type} {x : Int32} {k : Int32 → Option β} {r : β} (h : rf_vi x k = some r) : k x = some r := h
theorem fr_vl {β : Type} {x : Int64} {k : Int64 → Option β} {r : β} (h : rf_vl x k = some r) : k x = some r := h
end FR
