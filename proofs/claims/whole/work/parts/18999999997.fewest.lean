/-! suspects: the fewest, as the class finds them -/
section PBFewest
def vL (l : List Int32) (k : Nat) : Nat := (l.reverse.getD k 0).toNatClampNeg
theorem plI_gd {f : Nat → Int32} : ∀ (l : List Int32) k, plI f l → k < l.length → f k = l.reverse.getD k 0 := by
  intro l
  induction l with
  | nil => intro k _ h; exact absurd h (Nat.not_lt_zero _)
  | cons x t ih =>
    intro k hp hk
    obtain ⟨p1, p2⟩ := hp
    rw [List.length_cons] at hk
    rw [List.reverse_cons, List.getD_eq_getElem?_getD]
    by_cases e : k < t.length
    · rw [List.getElem?_append_left (by rw [List.length_reverse]; exact e)]
      have := ih k p2 e
      rw [List.getD_eq_getElem?_getD] at this
      exact this
    · have e : k = t.length := by omega
      subst e
      rw [List.getElem?_append_right (by rw [List.length_reverse]; exact Nat.le_refl _), List.length_reverse, Nat.sub_self]
      exact p1
theorem rv_get {l : List Int32} {k : Nat} (hk : k < l.length) : ∃ h : k < l.reverse.length, l.reverse.getD k 0 = l.reverse[k] := by
  have h : k < l.reverse.length := by rw [List.length_reverse]; exact hk
  exact ⟨h, by rw [List.getD_eq_getElem?_getD, List.getElem?_eq_getElem h]; rfl⟩
theorem vL_mem {l : List Int32} {k : Nat} (hk : k < l.length) : l.reverse.getD k 0 ∈ l := by
  obtain ⟨h, e⟩ := rv_get hk
  rw [e]
  exact List.mem_reverse.mp (List.getElem_mem h)
theorem vL_OK {w : rf_w} {m : rf_m} {l : List Int32} (h12 : l.length ≤ 12) (hx : ∀ x, x ∈ l → ib x (m.1 206 17) ∧ kpP w m x) (hn : l.Nodup) : vOK w m (vL l) l.length := by
  refine ⟨h12, fun k hk => ?_, fun i j hi hj e => ?_⟩
  · have := hx _ (vL_mem hk)
    exact ⟨tn_lt2 this.1.1 this.1.2, this.2⟩
  · have e2 := tn_inj (hx _ (vL_mem hi)).1.1 (hx _ (vL_mem hj)).1.1 e
    obtain ⟨hi', ei⟩ := rv_get hi
    obtain ⟨hj', ej⟩ := rv_get hj
    rw [ei, ej] at e2
    have nr : l.reverse.Pairwise (fun a b => a ≠ b) := List.pairwise_reverse.mpr (List.Pairwise.imp (fun h => Ne.symm h) hn)
    have pw := List.pairwise_iff_getElem.mp nr
    rcases Nat.lt_trichotomy i j with q | q | q
    · exact absurd e2 (pw i j hi' hj' q)
    · exact q
    · exact absurd e2.symm (pw j i hj' hi' q)
theorem fIl_nd {P : Int32 → Prop} : ∀ l : List Int32, l.Nodup → (fIl P l).Nodup := by
  intro l
  induction l with
  | nil => intro _; exact List.nodup_nil
  | cons x l ih =>
    intro h
    obtain ⟨n1, n2⟩ := List.nodup_cons.mp h
    by_cases q : P x
    · rw [fIl_t q]
      exact List.nodup_cons.mpr ⟨fun z => n1 ((fIl_mem l).mp z).1, ih n2⟩
    · rw [fIl_f q]; exact ih n2
theorem insI_nd {x : Int32} : ∀ l : List Int32, x ∉ l → l.Nodup → (insI x l).Nodup := by
  intro l
  induction l with
  | nil => intro _ _; exact List.nodup_cons.mpr ⟨fun h => (by cases h), List.nodup_nil⟩
  | cons y l ih =>
    intro h1 h2
    obtain ⟨n1, n2⟩ := List.nodup_cons.mp h2
    show (if y ≤ x then x :: y :: l else y :: insI x l).Nodup
    split
    · exact List.nodup_cons.mpr ⟨h1, h2⟩
    · refine List.nodup_cons.mpr ⟨fun z => ?_, ih (fun z => h1 (List.mem_cons_of_mem _ z)) n2⟩
      rcases insI_mem z with e | e
      · exact h1 (e ▸ List.mem_cons_self)
      · exact n1 e
theorem isrt_nd : ∀ l : List Int32, l.Nodup → (isrt l).Nodup := by
  intro l
  induction l with
  | nil => intro _; exact List.nodup_nil
  | cons x l ih =>
    intro h
    obtain ⟨n1, n2⟩ := List.nodup_cons.mp h
    exact insI_nd _ (fun z => n1 (isrt_mem.mp z)) (ih n2)
theorem fsL_some {P : List Nat → Prop} : ∀ l, cntL P l ≠ 0 → ∃ F, fsL P l = some F := by
  intro l
  induction l with
  | nil => intro h; exact absurd rfl h
  | cons x l ih =>
    intro h
    by_cases q : P x
    · exact ⟨x, fsL_t q⟩
    · rw [cnL_n q] at h; rw [fsL_n q]; exact ih h
theorem fsL_mem {P : List Nat → Prop} {F : List Nat} : ∀ l, fsL P l = some F → F ∈ l ∧ P F := by
  intro l
  induction l with
  | nil => intro h; cases h
  | cons x l ih =>
    intro h
    by_cases q : P x
    · rw [fsL_t q] at h
      injection h with h
      subst h
      exact ⟨List.mem_cons_self, q⟩
    · rw [fsL_n q] at h
      exact ⟨List.mem_cons_of_mem _ (ih h).1, (ih h).2⟩
theorem fsL_pw {P : List Nat → Prop} {R : List Nat → List Nat → Prop} {F : List Nat} : ∀ l, fsL P l = some F → l.Pairwise R → ∀ x, x ∈ l → P x → x = F ∨ R F x := by
  intro l
  induction l with
  | nil => intro h; cases h
  | cons y l ih =>
    intro h hp x hx px
    obtain ⟨p1, p2⟩ := List.pairwise_cons.mp hp
    by_cases q : P y
    · rw [fsL_t q] at h
      injection h with h
      subst h
      rcases List.mem_cons.mp hx with e | e
      · exact Or.inl e
      · exact Or.inr (p1 x e)
    · rw [fsL_n q] at h
      rcases List.mem_cons.mp hx with e | e
      · subst e; exact absurd px q
      · exact ih h p2 x e px
def fwF (X X' : rf_m) : Prop := (∀ z, z ≠ 50 → z ≠ 184 → z ≠ 185 → (z < 187 ∨ 192 < z) → X'.1 z = X.1 z) ∧ (∀ k, k ≠ 7 → X'.1 50 k = X.1 50 k) ∧ (∀ k, k ≠ 2 → k ≠ 3 → k ≠ 8 → X'.1 184 k = X.1 184 k) ∧ X'.2 = X.2
/-- what the fewest tell: s suspects, of the first row F, of so many -/
def fwP (V : Nat → Nat) (n : Nat) (P : List Nat → Prop) (X' : rf_m) (v : Int32) (X : rf_m) : Prop := ((∀ s, s ≤ n → cntL P (cmb 0 n s) = 0) ∧ v = -2 ∧ X'.1 184 2 = X.1 184 2 ∧ X'.1 184 3 = X.1 184 3 ∧ X'.1 185 = X.1 185) ∨ ∃ s F, s ≤ n ∧ cntL P (cmb 0 n s) ≠ 0 ∧ (∀ s', s' < s → cntL P (cmb 0 n s') = 0) ∧ fsL P (cmb 0 n s) = some F ∧ v = Int32.ofNat s ∧ X'.1 184 2 = Int32.ofNat s ∧ X'.1 184 3 = Int32.ofNat (cntL P (cmb 0 n s)) ∧ ∀ j (h : j < F.length), X'.1 185 j = Int32.ofNat (V F[j])
theorem cmb_4096 {n s : Nat} {P : List Nat → Prop} (hn : n ≤ 12) : cntL P (cmb 0 n s) ≤ 4096 := by
  have h0 := cnL_le (P := P) (cmb 0 n s)
  have h1 := cmb_many n 0 s
  have h2 : 2 ^ n ≤ 2 ^ 12 := Nat.pow_le_pow_right (by omega) hn
  omega
theorem few_loop {c : Nat} {w : rf_w} {m X : rf_m} {V : Nat → Nat} {n : Nat} {A : Int32} (J : JCnt c w m) (jn : JNet m) (hV : vOK w m V n) : ∀ r f s Y, s + r = n + 1 → r < f → csF X Y → csI w m V n Y → (∀ s', s' < s → cntL (rgL w m V n A) (cmb 0 n s') = 0) → ∃ v X', g_X2_fewest_24 w f A (Int32.ofNat s) Y = some (v, X') ∧ fwF X X' ∧ 0 ≤ X'.1 50 7 ∧ fwP V n (rgL w m V n A) X' v X := by
  have n12 := hV.1
  intro r
  induction r with
  | zero =>
    intro f s Y hs hf fY I hd
    obtain ⟨f, rfl⟩ : ∃ g, f = g + 1 := ⟨f - 1, by omega⟩
    refine ⟨-2, Y, ?_, ⟨fun z a _ _ b => fY.1 z a (by omega), fY.2.1, fun k _ _ _ => by rw [fY.1 184 (by decide) (by decide)], fY.2.2⟩, I.2.2.2.1, Or.inl ⟨fun s' h => hd s' (by omega), rfl, by rw [fY.1 184 (by decide) (by decide)], by rw [fY.1 184 (by decide) (by decide)], fY.1 185 (by decide) (by decide)⟩⟩
    show g_X2_fewest_24_b w _ _ _ Y = _
    unfold g_X2_fewest_24_b
    rw [I.2.1, if_pos ((of_lt (by omega) (by omega)).mpr (by omega))]
  | succ r ih =>
    intro f s Y hs hf fY I hd
    obtain ⟨f, rfl⟩ : ∃ g, f = g + 1 := ⟨f - 1, by omega⟩
    have g1 : ¬ Int32.ofNat n < Int32.ofNat s := fun z => by have := (of_lt (by omega) (by omega)).mp z; omega
    obtain ⟨X1, k1, k2, k3, k4⟩ := count_c (A := A) (s := s) J jn hV (by omega) I
    have b4 := cmb_4096 (s := s) (P := rgL w m V n A) n12
    have st : g_X2_fewest_24 w (f + 1) A (Int32.ofNat s) Y = g_X2_fewest_24_b w (g_X2_fewest_24 w f) A (Int32.ofNat s) Y := rfl
    by_cases q : cntL (rgL w m V n A) (cmb 0 n s) = 0
    · obtain ⟨v, X', e1, e2⟩ := ih f (s + 1) X1 (by omega) (by omega) (csF_trans fY k2) k3 (fun s' h => by
        by_cases e : s' = s
        · rw [e]; exact q
        · exact hd s' (by omega))
      refine ⟨v, X', ?_, e2⟩
      rw [st]
      unfold g_X2_fewest_24_b
      have z0 : Int32.ofNat 0 ≤ 0 := by decide
      rw [I.2.1, if_neg g1, k1, b_sm, q, if_pos z0, of_succ, e1]
    · obtain ⟨F, hF⟩ := fsL_some _ q
      have z0 : ¬ Int32.ofNat (cntL (rgL w m V n A) (cmb 0 n s)) ≤ 0 := fun z => q (by have := (of_le (b := 0) (by omega) (by omega)).mp z; omega)
      have fl : F.length ≤ 12 := by
        have := (cmb_len _ _ _ _ (fsL_mem _ hF).1).1
        omega
      have cz : ∀ z, z ≠ 185 → (rf_ci X1 189 185 0 0 12).1 z = X1.1 z := fun z hz => by
        unfold rf_ci
        funext b
        simp only [if_neg hz]
      have c2 : ∀ j, j < 12 → (rf_ci X1 189 185 0 0 12).1 185 j = X1.1 189 j := fun j hj => by
        unfold rf_ci va_cpy
        simp
        intro h
        omega
      have cl : (rf_ci X1 189 185 0 0 12).2 = X1.2 := rfl
      have Fx := csF_trans fY k2
      refine ⟨Int32.ofNat s, rf_i (rf_i (rf_ci X1 189 185 0 0 12) 184 2 (Int32.ofNat s)) 184 3 (Int32.ofNat (cntL (rgL w m V n A) (cmb 0 n s))), ?_, ?_, ?_, Or.inr ⟨s, F, by omega, q, hd, hF, rfl, ?_, ?_, ?_⟩⟩
      · rw [st]
        unfold g_X2_fewest_24_b
        have cg : rf_cg 0 0 12 12 12 = true := by decide
        rw [I.2.1, if_neg g1, k1, b_sm, if_neg z0, cg, g_t]
      · refine ⟨fun z a b d c => ?_, fun k hk => ?_, fun k a b _ => ?_, ?_⟩
        · rw [rf_i_c, if_neg b, rf_i_c, if_neg b, cz z d]; exact Fx.1 z a (by omega)
        · rw [rf_i_c, if_neg (by decide), rf_i_c, if_neg (by decide), cz 50 (by decide)]; exact Fx.2.1 k hk
        · rw [rf_i_c, if_pos rfl, pu_ne b, rf_i_c, if_pos rfl, pu_ne a, cz 184 (by decide)]; rw [Fx.1 184 (by decide) (by decide)]
        · rw [rf_i_l, rf_i_l, cl]; exact Fx.2.2
      · rw [rf_i_c, if_neg (by decide), rf_i_c, if_neg (by decide), cz 50 (by decide)]; exact k3.2.2.2.1
      · rw [rf_i_c, if_pos rfl, pu_ne (by decide), rf_i_c, if_pos rfl, pu_at]
      · rw [rf_i_c, if_pos rfl, pu_at]
      · intro j h
        rw [rf_i_c, if_neg (by decide), rf_i_c, if_neg (by decide), c2 j (by omega)]
        exact k4 F hF j h
theorem few_c {c : Nat} {w : rf_w} {m X : rf_m} {u : List Int32} {A : Int32} (J : JCnt c w m) (jn : JNet m) (hu : u.length ≤ 12) (h1 : X.1 184 1 = Int32.ofNat u.length) (hp : plI (X.1 186) u) (hx : ∀ x, x ∈ u → ib x (m.1 206 17)) (hnd : u.Nodup) (h12 : (m.1 206 17).toNatClampNeg ≤ 1200) (hB : blA w m X) (h7 : 0 ≤ X.1 50 7) : ∃ v X', g_X2_fewest w X A = some (v, X') ∧ fwF X X' ∧ 0 ≤ X'.1 50 7 ∧ vOK w m (vL (isrt (fIl (kpP w m) u))) (isrt (fIl (kpP w m) u)).length ∧ fwP (vL (isrt (fIl (kpP w m) u))) (isrt (fIl (kpP w m) u)).length (rgL w m (vL (isrt (fIl (kpP w m) u))) (isrt (fIl (kpP w m) u)).length A) X' v X := by
  have h80 := ang80 J.2.2.2.2.1
  obtain ⟨X1, l1, l2, l3, l4⟩ := live_c hu h1 hp hx h12 hB
  have lk := fIl_len (P := kpP w m) u
  have lm : ∀ x, x ∈ isrt (fIl (kpP w m) u) → ib x (m.1 206 17) ∧ kpP w m x := fun x h => by
    have := (fIl_mem u).mp (isrt_mem.mp h)
    exact ⟨hx x this.1, this.2⟩
  have hV : vOK w m (vL (isrt (fIl (kpP w m) u))) (isrt (fIl (kpP w m) u)).length := vL_OK (by rw [isrt_len]; omega) lm (isrt_nd _ (fIl_nd _ hnd))
  rw [← isrt_len] at l3
  generalize hl : isrt (fIl (kpP w m) u) = l at *
  have cz : ∀ z, z ≠ 192 → (rf_ci X1 31 192 0 0 80).1 z = X1.1 z := fun z hz => by
    unfold rf_ci
    funext b
    simp only [if_neg hz]
  have c2 : ∀ j, j < 80 → (rf_ci X1 31 192 0 0 80).1 192 j = X1.1 31 j := fun j hj => by
    unfold rf_ci va_cpy
    simp
    intro h
    omega
  have cl : (rf_ci X1 31 192 0 0 80).2 = X1.2 := rfl
  have B1 : blA w m X1 := blA_e hB (fun z hz => l2.1 z (by omega) (by omega)) (fun k _ => by rw [l2.1 50 (by decide) (by decide)])
  have I : csI w m (vL l) l.length (rf_ci X1 31 192 0 0 80) := ⟨blA_e B1 (fun z hz => cz z (by omega)) (fun k _ => by rw [cz 50 (by decide)]), by rw [cz 184 (by decide)]; exact l3, fun k hk => by
    rw [cz 187 (by decide), plI_gd l k l4 hk]
    have := lm _ (vL_mem hk)
    exact (of_tn this.1.1).symm, by rw [cz 50 (by decide), l2.1 50 (by decide) (by decide)]; exact h7, fun a ha _ => by rw [c2 a (by omega)]; exact (B1.2.1 a ha).1⟩
  obtain ⟨F, hF, hFb⟩ := fuel_ex
  have n12 := hV.1
  obtain ⟨v, X', e1, e2, e3, e4⟩ := few_loop (A := A) J jn hV (l.length + 1) F 0 _ (by omega) (by omega) csF_refl I (fun s' h => by omega)
  refine ⟨v, X', ?_, ⟨fun z a b d c => ?_, fun k hk => ?_, fun k a b c => ?_, ?_⟩, e3, hV, ?_⟩
  · unfold g_X2_fewest
    have cg : rf_cg 0 0 80 80 80 = true := by decide
    rw [l1, bv_sm, cg, g_t, hF]
    exact e1
  · rw [e2.1 z a b d c, cz z (by omega), l2.1 z b (by omega)]
  · rw [e2.2.1 k hk, cz 50 (by decide), l2.1 50 (by decide) (by decide)]
  · rw [e2.2.2.1 k a b c, cz 184 (by decide), l2.2.1 k c]
  · rw [e2.2.2.2, cl, l2.2.2]
  · rcases e4 with ⟨a, b, c, d, e⟩ | q
    · exact Or.inl ⟨a, b, by rw [c, cz 184 (by decide), l2.2.1 2 (by decide)], by rw [d, cz 184 (by decide), l2.2.1 3 (by decide)], by rw [e, cz 185 (by decide), l2.1 185 (by decide) (by decide)]⟩
    · exact Or.inr q
end PBFewest
