/-! read: the list of readings grows -/
section PBRead
theorem rds_congr {f g : Nat → Int32} {a : Int32} : ∀ n, (∀ i, i < n → f i = g i) → rds f a n = rds g a n := by
  intro n
  induction n with
  | zero => intro _; rfl
  | succ n ih =>
    intro h
    unfold rds
    rw [h n (by omega), ih (fun i hi => h i (by omega))]
/-- of angle a the same is told in both -/
def eqR (w w' : rf_w) (m m' : rf_m) (a : Nat) : Prop := rdl m' a = rdl m a ∧ (∀ r, r ∈ rdl m a → m'.1 221 r = m.1 221 r ∧ m'.1 222 r = m.1 222 r ∧ m'.1 223 r = m.1 223 r ∧ m'.1 224 r = m.1 224 r ∧ ∀ d, svV w' m' r d = svV w m r d) ∧ m'.1 217 a = m.1 217 a ∧ ∀ N d, stkV m' N d = stkV m N d
theorem R_ok {w w' : rf_w} {m m' : rf_m} {a r : Nat} (h : eqR w w' m m' a) (hr : r ∈ rdl m a) (d : Int32) : okP m' d r = okP m d r := by
  unfold okP
  rw [(h.2.1 r hr).1, (h.2.1 r hr).2.2.2.1]
theorem R_srt {w w' : rf_w} {m m' : rf_m} {a : Nat} (h : eqR w w' m m' a) (d : Int32) : srt m' d (rdl m a) = srt m d (rdl m a) := by
  have key : ∀ (l : List Nat) s, (∀ r, r ∈ l → r ∈ rdl m a) → l.foldl (srS m' d) s = l.foldl (srS m d) s := by
    intro l
    induction l with
    | nil => intro s _; rfl
    | cons x l ih =>
      intro s hl
      have e : srS m' d s x = srS m d s x := by unfold srS; rw [R_ok h (hl x List.mem_cons_self), (h.2.1 x (hl x List.mem_cons_self)).1]
      rw [List.foldl_cons, List.foldl_cons, e]
      exact ih _ (fun r hr => hl r (List.mem_cons_of_mem _ hr))
  unfold srt
  exact key _ _ (fun r hr => hr)
theorem R_mid {w w' : rf_w} {m m' : rf_m} {a : Nat} (h : eqR w w' m m' a) (d : Int32) : midV m' d a = midV m d a := by unfold midV; rw [h.1, R_srt h]
theorem R_nm {w w' : rf_w} {m m' : rf_m} {a r : Nat} (h : eqR w w' m m' a) (hr : r ∈ rdl m a) (d : Int32) : nmV m' d a r = nmV m d a r := by
  funext i
  unfold nmV
  obtain ⟨h1, h2, h3, _⟩ := h.2.1 r hr
  rw [R_mid h, h.1, R_srt h, h1, h2, h3, h.2.2.1]
theorem R_sk {w w' : rf_w} {m m' : rf_m} {a r : Nat} (h : eqR w w' m m' a) (hr : r ∈ rdl m a) (d : Int32) : skV m' d a r = skV m d a r := by
  unfold skV
  rw [R_nm h hr, (h.2.1 r hr).2.2.2.1, h.2.2.2]
theorem R_kp {w w' : rf_w} {m m' : rf_m} {a r : Nat} (h : eqR w w' m m' a) (hr : r ∈ rdl m a) (d : Int32) : keptP w' m' d a r = keptP w m d a r := by unfold keptP; rw [R_ok h hr, (h.2.1 r hr).2.2.2.2, R_sk h hr]
theorem R_kpt {w w' : rf_w} {m m' : rf_m} {a : Nat} (h : eqR w w' m m' a) (d : Int32) : kpt w' m' d a = kpt w m d a := by
  have key : ∀ (l s : List Nat), (∀ r, r ∈ l → r ∈ rdl m a) → l.foldl (kpS w' m' d a) s = l.foldl (kpS w m d a) s := by
    intro l
    induction l with
    | nil => intro s _; rfl
    | cons x l ih =>
      intro s hl
      have e : kpS w' m' d a s x = kpS w m d a s x := by unfold kpS; rw [R_kp h (hl x List.mem_cons_self)]
      rw [List.foldl_cons, List.foldl_cons, e]
      exact ih _ (fun r hr => hl r (List.mem_cons_of_mem _ hr))
  unfold kpt kpl
  rw [h.1]
  exact key _ _ (fun r hr => hr)
theorem kpt_sub {w : rf_w} {m : rf_m} {d : Int32} {a r : Nat} (h : r ∈ kpt w m d a) : r ∈ rdl m a := by
  have key : ∀ (l s : List Nat), r ∈ l.foldl (kpS w m d a) s → r ∈ s ∨ r ∈ l := by
    intro l
    induction l with
    | nil => intro s hs; exact Or.inl hs
    | cons x l ih =>
      intro s hs
      rw [List.foldl_cons] at hs
      rcases ih _ hs with q | q
      · unfold kpS at q
        split at q
        · rcases List.mem_append.mp q with q | q
          · exact Or.inl q
          · exact Or.inr (by rw [List.mem_singleton.mp q]; exact List.mem_cons_self)
        · exact Or.inl q
      · exact Or.inr (List.mem_cons_of_mem _ q)
  rcases key _ _ h with q | q
  · cases q
  · exact q
theorem fold_congr {α β : Type} {f g : β → α → β} : ∀ (l : List α) (s : β), (∀ x, x ∈ l → ∀ s, f s x = g s x) → l.foldl f s = l.foldl g s := by
  intro l
  induction l with
  | nil => intro s _; rfl
  | cons x l ih =>
    intro s h
    rw [List.foldl_cons, List.foldl_cons, h x List.mem_cons_self]
    exact ih _ (fun y hy => h y (List.mem_cons_of_mem _ hy))
theorem R_fre {w w' : rf_w} {m m' x : rf_m} {a : Nat} (h : eqR w w' m m' a) (hf : fre w m x a) : fre w' m' x a := by
  have hk : ∀ r, r ∈ kpt w m 9999 a → m'.1 221 r = m.1 221 r := fun r hr => (h.2.1 r (kpt_sub hr)).1
  have e1 : smL m' (kpt w m 9999 a) = smL m (kpt w m 9999 a) := fold_congr _ _ (fun r hr s => by rw [hk r hr])
  have e2 : loL m' (kpt w m 9999 a) = loL m (kpt w m 9999 a) := fold_congr _ _ (fun r hr s => by rw [hk r hr])
  have e3 : hiL m' (kpt w m 9999 a) = hiL m (kpt w m 9999 a) := fold_congr _ _ (fun r hr s => by rw [hk r hr])
  refine ⟨?_, fun r hr => ?_⟩
  · have := hf.1
    unfold tal meanV sprV loV hiV at this ⊢
    rw [R_kpt h, h.1, R_srt h, R_mid h, e1, e2, e3]
    exact this
  · rw [h.1] at hr
    have := hf.2 r hr
    obtain ⟨h1, h2, h3, h4, h5⟩ := h.2.1 r hr
    unfold fact4 strV offV at this ⊢
    rw [h5, R_sk h hr, R_kp h hr, R_ok h hr, R_mid h, h1]
    exact this
end PBRead
