/-! chains: the reference, which is better -/
section PBChainR
def onV (m : rf_m) (t i : Nat) : Int32 := if m.1 219 (cnr m t i) < m.1 218 (cnr m t i) then m.1 219 (cnr m t i) else m.1 218 (cnr m t i)
def otV (m : rf_m) (t i : Nat) : Int32 := if m.1 218 (cnr m t i) < m.1 219 (cnr m t i) then m.1 219 (cnr m t i) else m.1 218 (cnr m t i)
theorem sid_on {m : rf_m} {t i : Nat} : sidV m t i = onV m t i * 32 + otV m t i := rfl
theorem on_ib {m : rf_m} {t i : Nat} (jn : JNet m) (ja : JAng m) (jm : JMark m) (ht : t < (m.1 206 64).toNatClampNeg) (hi : i < 3) : ib (onV m t i) 30 ∧ ib (otV m t i) 30 := by
  obtain ⟨a, b⟩ := cor_ib jn ja jm ht hi
  unfold onV otV
  refine ⟨?_, ?_⟩ <;> split <;> first | exact a | exact b
theorem ib30 {x : Int32} (h : ib x 30) : 0 ≤ x.toInt ∧ x.toInt < 30 := ⟨i_le.mp h.1, i_lt.mp h.2⟩
theorem m32 {x y : Int32} (hx : ib x 30) (hy : ib y 30) : (x * 32 + y).toInt = x.toInt * 32 + y.toInt := by
  have a := ib30 hx
  have b := ib30 hy
  have k : (32 : Int32).toInt = 32 := by decide
  have m1 : (x * 32).toInt = x.toInt * 32 := by rw [mulI (by rw [k]; omega) (by rw [k]; omega), k]
  rw [addI (by rw [m1]; omega) (by rw [m1]; omega), m1]
/-- a path's rows -/
def rwR (m : rf_m) (f g h : Nat → Int32) (p : List (Nat × Nat)) : Prop := ∀ j (hj : j < p.length), f j = Int32.ofNat p[j].1 ∧ g j = onV m p[j].1 p[j].2 ∧ h j = otV m p[j].1 p[j].2
def sof (f g : Nat → Int32) : Nat → Nat → List Int
  | 0, _ => []
  | n + 1, i => ((f i).toInt * 32 + (g i).toInt) :: sof f g n (i + 1)
theorem sof_len {f g : Nat → Int32} : ∀ n i, (sof f g n i).length = n := by
  intro n
  induction n with
  | zero => intro i; rfl
  | succ n ih => intro i; show (sof f g n (i + 1)).length + 1 = _; rw [ih]
theorem sof_eq {f g : Nat → Int32} : ∀ (l : List Int) i, (∀ j (h : j < l.length), (f (i + j)).toInt * 32 + (g (i + j)).toInt = l[j]) → sof f g l.length i = l := by
  intro l
  induction l with
  | nil => intro i _; rfl
  | cons x l ih =>
    intro i h
    show ((f i).toInt * 32 + (g i).toInt) :: sof f g l.length (i + 1) = _
    rw [ih (i + 1) (fun j hj => by
      have := h (j + 1) (by rw [List.length_cons]; omega)
      rw [show i + 1 + j = i + (j + 1) by omega]
      exact this)]
    have := h 0 (by rw [List.length_cons]; omega)
    rw [show i + 0 = i by omega] at this
    rw [this]
    rfl
/-- its triangles, its sides -/
def tsE (p : List (Nat × Nat)) : List Int := p.map (fun x => (x.1 : Int))
def ssE (m : rf_m) (p : List (Nat × Nat)) : List Int := p.map (fun x => (sidV m x.1 x.2).toInt)
def pOK (m : rf_m) (p : List (Nat × Nat)) : Prop := p.length ≤ 6 ∧ ∀ x, x ∈ p → x.1 < (m.1 206 64).toNatClampNeg ∧ x.2 < 3
theorem rw_lof {m : rf_m} {f g h : Nat → Int32} {p : List (Nat × Nat)} (jn : JNet m) (hp : pOK m p) (r : rwR m f g h p) : lof f p.length 0 = tsE p := by
  have n30 := (net30 jn).1
  have := lof_eq (f := f) (tsE p) 0 (fun j hj => by
    unfold tsE at hj
    rw [List.length_map] at hj
    rw [Nat.zero_add, (r j hj).1]
    unfold tsE
    rw [List.getElem_map]
    have := (hp.2 p[j] (List.getElem_mem hj)).1
    exact ofI (by omega))
  unfold tsE at this ⊢
  rw [List.length_map] at this
  exact this
theorem rw_sof {m : rf_m} {f g h : Nat → Int32} {p : List (Nat × Nat)} (jn : JNet m) (ja : JAng m) (jm : JMark m) (hp : pOK m p) (r : rwR m f g h p) : sof g h p.length 0 = ssE m p := by
  have := sof_eq (f := g) (g := h) (ssE m p) 0 (fun j hj => by
    unfold ssE at hj
    rw [List.length_map] at hj
    rw [Nat.zero_add, (r j hj).2.1, (r j hj).2.2]
    unfold ssE
    rw [List.getElem_map]
    obtain ⟨q1, q2⟩ := hp.2 p[j] (List.getElem_mem hj)
    obtain ⟨a, b⟩ := on_ib jn ja jm q1 q2
    rw [sid_on, m32 a b])
  unfold ssE at this ⊢
  rw [List.length_map] at this
  exact this
theorem rw_ib {m : rf_m} {f g h : Nat → Int32} {p : List (Nat × Nat)} (jn : JNet m) (ja : JAng m) (jm : JMark m) (hp : pOK m p) (r : rwR m f g h p) : ∀ j, j < p.length → ib (g j) 30 ∧ ib (h j) 30 := fun j hj => by
  obtain ⟨q1, q2⟩ := hp.2 p[j] (List.getElem_mem hj)
  rw [(r j hj).2.1, (r j hj).2.2]
  exact on_ib jn ja jm q1 q2
theorem bet132 {w : rf_w} {M : rf_m} {N : Nat} (hN : N ≤ 6) (h1 : ∀ j, j < N → ib (M.1 273 j) 30 ∧ ib (M.1 274 j) 30) (h2 : ∀ j, j < N → ib (M.1 276 j) 30 ∧ ib (M.1 277 j) 30) : ∀ n f i, i + n = N → n < f → g_X14_isBetter_132 w f (Int32.ofNat N) (Int32.ofNat i) M = some (bi (lx (sof (M.1 273) (M.1 274) n i) (sof (M.1 276) (M.1 277) n i)), M) := by
  intro n
  induction n with
  | zero =>
    intro f i hi hf
    obtain ⟨f, rfl⟩ : ∃ g, f = g + 1 := ⟨f - 1, by omega⟩
    have e : i = N := by omega
    subst e
    show g_X14_isBetter_132_b w _ _ _ M = _
    unfold g_X14_isBetter_132_b
    have nl : ¬ lx (sof (M.1 273) (M.1 274) 0 i) (sof (M.1 276) (M.1 277) 0 i) := id
    rw [if_pos (Int32.le_refl _), bi_f nl]
  | succ n ih =>
    intro f i hi hf
    obtain ⟨f, rfl⟩ : ∃ g, f = g + 1 := ⟨f - 1, by omega⟩
    have g1 : ¬ Int32.ofNat N ≤ Int32.ofNat i := nle (by omega) (by omega)
    show g_X14_isBetter_132_b w _ _ _ M = _
    unfold g_X14_isBetter_132_b
    rw [if_neg g1, gof (by omega) (by decide), tn_of (by omega)]
    simp only [g_t]
    obtain ⟨a, b⟩ := h1 i (by omega)
    obtain ⟨a', b'⟩ := h2 i (by omega)
    have a := ib30 a
    have b := ib30 b
    have a' := ib30 a'
    have b' := ib30 b'
    have ex : lx (sof (M.1 273) (M.1 274) (n + 1) i) (sof (M.1 276) (M.1 277) (n + 1) i) ↔ ((M.1 273 i).toInt * 32 + (M.1 274 i).toInt < (M.1 276 i).toInt * 32 + (M.1 277 i).toInt ∨ ((M.1 273 i).toInt * 32 + (M.1 274 i).toInt = (M.1 276 i).toInt * 32 + (M.1 277 i).toInt ∧ lx (sof (M.1 273) (M.1 274) n (i + 1)) (sof (M.1 276) (M.1 277) n (i + 1)))) := Iff.rfl
    by_cases c1 : M.1 273 i = M.1 276 i
    · rw [if_pos c1]
      have c1' := i_eq.mp c1
      by_cases c2 : M.1 274 i = M.1 277 i
      · rw [if_pos c2, of_succ, ih f (i + 1) (by omega) (by omega)]
        have c2' := i_eq.mp c2
        rw [bi_congr (ex.trans ⟨fun q => q.elim (fun z => by omega) (fun z => z.2), fun q => Or.inr ⟨by omega, q⟩⟩)]
      · have c2' : (M.1 274 i).toInt ≠ (M.1 277 i).toInt := fun q => c2 (i_eq.mpr q)
        rw [if_neg c2]
        by_cases c3 : M.1 277 i ≤ M.1 274 i
        · have c3' := i_le.mp c3
          rw [if_pos c3, bi_f (fun q => (ex.mp q).elim (fun z => by omega) (fun z => by omega))]
        · have c3' : ¬ (M.1 277 i).toInt ≤ (M.1 274 i).toInt := fun q => c3 (i_le.mpr q)
          rw [if_neg c3, bi_t (ex.mpr (Or.inl (by omega)))]
    · have c1' : (M.1 273 i).toInt ≠ (M.1 276 i).toInt := fun q => c1 (i_eq.mpr q)
      rw [if_neg c1]
      by_cases c3 : M.1 276 i ≤ M.1 273 i
      · have c3' := i_le.mp c3
        rw [if_pos c3, bi_f (fun q => (ex.mp q).elim (fun z => by omega) (fun z => by omega))]
      · have c3' : ¬ (M.1 276 i).toInt ≤ (M.1 273 i).toInt := fun q => c3 (i_le.mpr q)
        rw [if_neg c3, bi_t (ex.mpr (Or.inl (by omega)))]
theorem bet77 {w : rf_w} {M : rf_m} {N : Nat} (hN : N ≤ 6) (h1 : ∀ j, j < N → ib (M.1 273 j) 30 ∧ ib (M.1 274 j) 30) (h2 : ∀ j, j < N → ib (M.1 276 j) 30 ∧ ib (M.1 277 j) 30) : ∀ n f i, i + n = N → n < f → g_X14_isBetter_77 w f (Int32.ofNat N) (Int32.ofNat i) M = some (bi (lx (lof (M.1 272) n i) (lof (M.1 275) n i) ∨ (lof (M.1 272) n i = lof (M.1 275) n i ∧ lx (sof (M.1 273) (M.1 274) N 0) (sof (M.1 276) (M.1 277) N 0))), M) := by
  intro n
  induction n with
  | zero =>
    intro f i hi hf
    obtain ⟨f, rfl⟩ : ∃ g, f = g + 1 := ⟨f - 1, by omega⟩
    have e : i = N := by omega
    subst e
    show g_X14_isBetter_77_b w _ _ _ M = _
    unfold g_X14_isBetter_77_b
    have b := bet132 (w := w) hN h1 h2 i rf_fuel 0 (by omega) (by unfold rf_fuel; omega)
    have b : g_X14_isBetter_132 w rf_fuel (Int32.ofNat i) 0 M = _ := b
    rw [if_pos (Int32.le_refl _), b]
    rw [bi_congr (show lx (sof (M.1 273) (M.1 274) i 0) (sof (M.1 276) (M.1 277) i 0) ↔ (lx (lof (M.1 272) 0 i) (lof (M.1 275) 0 i) ∨ (lof (M.1 272) 0 i = lof (M.1 275) 0 i ∧ lx (sof (M.1 273) (M.1 274) i 0) (sof (M.1 276) (M.1 277) i 0))) from ⟨fun q => Or.inr ⟨rfl, q⟩, fun q => q.elim False.elim (fun z => z.2)⟩)]
  | succ n ih =>
    intro f i hi hf
    obtain ⟨f, rfl⟩ : ∃ g, f = g + 1 := ⟨f - 1, by omega⟩
    have g1 : ¬ Int32.ofNat N ≤ Int32.ofNat i := nle (by omega) (by omega)
    show g_X14_isBetter_77_b w _ _ _ M = _
    unfold g_X14_isBetter_77_b
    rw [if_neg g1, gof (by omega) (by decide), tn_of (by omega)]
    simp only [g_t]
    have e1 : lof (M.1 272) (n + 1) i = (M.1 272 i).toInt :: lof (M.1 272) n (i + 1) := rfl
    have e2 : lof (M.1 275) (n + 1) i = (M.1 275 i).toInt :: lof (M.1 275) n (i + 1) := rfl
    have ex : ∀ P : Prop, (lx (lof (M.1 272) (n + 1) i) (lof (M.1 275) (n + 1) i) ∨ (lof (M.1 272) (n + 1) i = lof (M.1 275) (n + 1) i ∧ P)) ↔ ((M.1 272 i).toInt < (M.1 275 i).toInt ∨ ((M.1 272 i).toInt = (M.1 275 i).toInt ∧ (lx (lof (M.1 272) n (i + 1)) (lof (M.1 275) n (i + 1)) ∨ (lof (M.1 272) n (i + 1) = lof (M.1 275) n (i + 1) ∧ P)))) := fun P => by
      rw [e1, e2]
      constructor
      · rintro ((q | ⟨q1, q2⟩) | ⟨q1, q2⟩)
        · exact Or.inl q
        · exact Or.inr ⟨q1, Or.inl q2⟩
        · injection q1 with a b
          exact Or.inr ⟨a, Or.inr ⟨b, q2⟩⟩
      · rintro (q | ⟨q1, q2 | ⟨q2, q3⟩⟩)
        · exact Or.inl (Or.inl q)
        · exact Or.inl (Or.inr ⟨q1, q2⟩)
        · exact Or.inr ⟨by rw [q1, q2], q3⟩
    by_cases c1 : M.1 272 i = M.1 275 i
    · rw [if_pos c1, of_succ, ih f (i + 1) (by omega) (by omega)]
      have c1' := i_eq.mp c1
      rw [bi_congr ((ex _).trans ⟨fun q => q.elim (fun z => by omega) (fun z => z.2), fun q => Or.inr ⟨c1', q⟩⟩)]
    · have c1' : (M.1 272 i).toInt ≠ (M.1 275 i).toInt := fun q => c1 (i_eq.mpr q)
      rw [if_neg c1]
      by_cases c3 : M.1 275 i ≤ M.1 272 i
      · have c3' := i_le.mp c3
        rw [if_pos c3, bi_f (fun q => ((ex _).mp q).elim (fun z => by omega) (fun z => by omega))]
      · have c3' : ¬ (M.1 275 i).toInt ≤ (M.1 272 i).toInt := fun q => c3 (i_le.mpr q)
        rw [if_neg c3, bi_t ((ex _).mpr (Or.inl (by omega)))]
/-- the best so far, as the reference keeps it -/
def bsR (E : chE) (m M : rf_m) : Option (List (Nat × Nat)) → Prop
  | none => M.1 206 105 = -1
  | some q => M.1 206 105 = Int32.ofNat q.length ∧ rnE E q = some (eGo E, (M.1 206 106).toInt, (M.1 206 107).toInt) ∧ pOK m q ∧ rwR m (M.1 275) (M.1 276) (M.1 277) q ∧ stO (eGo E, (M.1 206 106).toInt, (M.1 206 107).toInt)
theorem ky_lx {E : chE} {p q : List (Nat × Nat)} {lo hi lo' hi' : Int} : lx (kyE E p lo hi) (kyE E q lo' hi') ↔ (hi - lo < hi' - lo' ∨ (hi - lo = hi' - lo' ∧ (p.length < q.length ∨ (p.length = q.length ∧ (lx (tsE p) (tsE q) ∨ (tsE p = tsE q ∧ lx (p.map (fun x => (eSid E x.1 x.2).toInt)) (q.map (fun x => (eSid E x.1 x.2).toInt)))))))) := by
  show (hi - lo < hi' - lo' ∨ (hi - lo = hi' - lo' ∧ ((p.length : Int) < q.length ∨ ((p.length : Int) = q.length ∧ lx (tsE p ++ _) (tsE q ++ _))))) ↔ _
  refine or_congr Iff.rfl (and_congr Iff.rfl (or_congr (by omega) ?_))
  constructor
  · rintro ⟨q1, q2⟩
    have e : p.length = q.length := by omega
    exact ⟨e, (lx_app _ _ _ _ (by unfold tsE; rw [List.length_map, List.length_map, e])).mp q2⟩
  · rintro ⟨e, q2⟩
    exact ⟨by omega, (lx_app _ _ _ _ (by unfold tsE; rw [List.length_map, List.length_map, e])).mpr q2⟩
theorem better_r {w : rf_w} {m M : rf_m} {L go s s' : Int32} {lo0 hi0 : Int} {p : List (Nat × Nat)} {lo hi : Int32} {B : Option (List (Nat × Nat))} (jn : JNet m) (ja : JAng m) (jm : JMark m) (hp : pOK m p) (r : rwR m (M.1 272) (M.1 273) (M.1 274) p) (hr : rnE (envE w m L go s lo0 hi0) p = some (s', lo.toInt, hi.toInt)) (hO : stO (s', lo.toInt, hi.toInt)) (hB : bsR (envE w m L go s lo0 hi0) m M B) : g_X14_isBetter w M (Int32.ofNat p.length) lo hi = some (bi (∀ q, B = some q → lx (kpE (envE w m L go s lo0 hi0) p) (kpE (envE w m L go s lo0 hi0) q)), M) := by
  cases B with
  | none =>
    have h0 : M.1 206 105 = -1 := hB
    unfold g_X14_isBetter g_X14_isBetter_23
    rw [if_pos h0, if_pos h0, bi_t (fun q hq => by cases hq)]
  | some q =>
    obtain ⟨b1, b2, b3, b4, b5⟩ := hB
    have lq : q.length ≤ 6 := b3.1
    have lp : p.length ≤ 6 := hp.1
    have n1 : ¬ M.1 206 105 = -1 := by
      rw [b1]
      intro z
      have := i_eq.mp z
      rw [ofI (by omega)] at this
      have k : (-1 : Int32).toInt = -1 := by decide
      omega
    have dv : (hi - lo).toInt = hi.toInt - lo.toInt := by
      obtain ⟨x1, x2, x3⟩ := hO
      have x1 : 0 ≤ lo.toInt := x1
      have x2 : lo.toInt ≤ hi.toInt := x2
      have x3 : hi.toInt ≤ 1000000000 := x3
      exact subI (by omega) (by omega)
    have dq : (M.1 206 107 - M.1 206 106).toInt = (M.1 206 107).toInt - (M.1 206 106).toInt := by
      obtain ⟨x1, x2, x3⟩ := b5
      have x1 : 0 ≤ (M.1 206 106).toInt := x1
      have x2 : (M.1 206 106).toInt ≤ (M.1 206 107).toInt := x2
      have x3 : (M.1 206 107).toInt ≤ 1000000000 := x3
      exact subI (by omega) (by omega)
    have key : (∀ q', some q = some q' → lx (kpE (envE w m L go s lo0 hi0) p) (kpE (envE w m L go s lo0 hi0) q')) ↔ lx (kyE (envE w m L go s lo0 hi0) p lo.toInt hi.toInt) (kyE (envE w m L go s lo0 hi0) q (M.1 206 106).toInt (M.1 206 107).toInt) := by
      rw [kpE_of hr]
      constructor
      · intro h
        have := h q rfl
        rw [kpE_of b2] at this
        exact this
      · intro h q' e
        injection e with e
        rw [← e, kpE_of b2]
        exact h
    rw [bi_congr (key.trans ky_lx)]
    unfold g_X14_isBetter g_X14_isBetter_23
    rw [if_neg n1, if_neg n1]
    by_cases c1 : hi - lo = M.1 206 107 - M.1 206 106
    · have c1' : hi.toInt - lo.toInt = (M.1 206 107).toInt - (M.1 206 106).toInt := by rw [← dv, ← dq, c1]
      rw [if_pos c1, b1]
      by_cases c2 : p.length = q.length
      · have c2' : Int32.ofNat p.length = Int32.ofNat q.length := by rw [c2]
        have h2 := rw_ib jn ja jm b3 b4
        rw [← c2] at h2
        have bb := bet77 (w := w) lp (rw_ib jn ja jm hp r) h2 p.length rf_fuel 0 (by omega) (by unfold rf_fuel; omega)
        have bb : g_X14_isBetter_77 w rf_fuel (Int32.ofNat p.length) 0 M = _ := bb
        have l2 := rw_lof jn b3 b4
        have s2 := rw_sof jn ja jm b3 b4
        rw [← c2] at l2 s2
        rw [if_pos c2', bb, rw_lof jn hp r, rw_sof jn ja jm hp r, l2, s2]
        rw [bi_congr (show (lx (tsE p) (tsE q) ∨ (tsE p = tsE q ∧ lx (ssE m p) (ssE m q))) ↔ (hi.toInt - lo.toInt < (M.1 206 107).toInt - (M.1 206 106).toInt ∨ (hi.toInt - lo.toInt = (M.1 206 107).toInt - (M.1 206 106).toInt ∧ (p.length < q.length ∨ (p.length = q.length ∧ (lx (tsE p) (tsE q) ∨ (tsE p = tsE q ∧ lx (ssE m p) (ssE m q))))))) from ⟨fun z => Or.inr ⟨c1', Or.inr ⟨c2, z⟩⟩, fun z => z.elim (fun y => by omega) (fun y => y.2.elim (fun x => by omega) (fun x => x.2))⟩)]
        rfl
      · have c2' : ¬ Int32.ofNat p.length = Int32.ofNat q.length := fun z => c2 ((of_inj (by omega) (by omega)).mp z)
        rw [if_neg c2']
        by_cases c3 : q.length ≤ p.length
        · have c3' : Int32.ofNat q.length ≤ Int32.ofNat p.length := (of_le (by omega) (by omega)).mpr c3
          rw [if_pos c3', bi_f (fun z => z.elim (fun y => by omega) (fun y => y.2.elim (fun x => by omega) (fun x => c2 x.1)))]
        · have c3' : ¬ Int32.ofNat q.length ≤ Int32.ofNat p.length := fun z => c3 ((of_le (by omega) (by omega)).mp z)
          rw [if_neg c3', bi_t (Or.inr ⟨c1', Or.inl (by omega)⟩)]
    · have c1' : hi.toInt - lo.toInt ≠ (M.1 206 107).toInt - (M.1 206 106).toInt := fun z => c1 (i_eq.mpr (by rw [dv, dq, z]))
      rw [if_neg c1]
      by_cases c3 : M.1 206 107 - M.1 206 106 ≤ hi - lo
      · have c3' := i_le.mp c3
        rw [dv, dq] at c3'
        rw [if_pos c3, bi_f (fun z => z.elim (fun y => by omega) (fun y => c1' y.1))]
      · have c3' : ¬ (M.1 206 107).toInt - (M.1 206 106).toInt ≤ hi.toInt - lo.toInt := fun z => c3 (i_le.mpr (by rw [dv, dq]; exact z))
        rw [if_neg c3, bi_t (Or.inl (by omega))]
end PBChainR
