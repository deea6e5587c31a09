/-! the log grows by a row -/
section PBLog
theorem lastLog_congr {R R' : Nat → Int32} {r : Int32} : ∀ s, (∀ i, i < s → R i = R' i) → lastLog R r s = lastLog R' r s := by
  intro s
  induction s with
  | zero => intro _; rfl
  | succ s ih =>
    intro h
    unfold lastLog
    rw [h s (by omega), ih (fun i hi => h i (by omega))]
theorem strk_congr {R D I R' D' I' : Nat → Int32} {r d : Int32} : ∀ s, (∀ i, i < s → R i = R' i ∧ D i = D' i ∧ I i = I' i) → strk R D I r d s = strk R' D' I' r d s := by
  intro s
  induction s with
  | zero => intro _; rfl
  | succ s ih =>
    intro h
    obtain ⟨h1, h2, h3⟩ := h s (by omega)
    unfold strk
    rw [h1, h2, h3, ih (fun i hi => h i (by omega))]
end PBLog
