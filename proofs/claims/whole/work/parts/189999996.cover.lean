/-! chains: what a search covers; the environment -/
section PBCover
def lof (f : Nat → Int32) : Nat → Nat → List Int
  | 0, _ => []
  | n + 1, i => (f i).toInt :: lof f n (i + 1)
theorem lof_len {f : Nat → Int32} : ∀ n i, (lof f n i).length = n := by
  intro n
  induction n with
  | zero => intro i; rfl
  | succ n ih => intro i; show (lof f n (i + 1)).length + 1 = _; rw [ih]
theorem lof_eq {f : Nat → Int32} : ∀ (l : List Int) i, (∀ j (h : j < l.length), (f (i + j)).toInt = l[j]) → lof f l.length i = l := by
  intro l
  induction l with
  | nil => intro i _; rfl
  | cons x l ih =>
    intro i h
    show (f i).toInt :: lof f l.length (i + 1) = _
    rw [ih (i + 1) (fun j hj => by
      have := h (j + 1) (by rw [List.length_cons]; omega)
      rw [show i + 1 + j = i + (j + 1) by omega]
      exact this)]
    have := h 0 (by rw [List.length_cons]; omega)
    rw [show i + 0 = i by omega] at this
    rw [this]
    rfl
/-- searched below p: B' is no worse than B, nor than any that goes on by one of C -/
def cov (E : chE) (p : List (Nat × Nat)) (B B' : Option (List (Nat × Nat))) (C : Nat × Nat → Prop) : Prop := okB E B' ∧ leB E B' B ∧ ∀ x r, C x → GC E (p ++ x :: r) → leB E B' (some (p ++ x :: r))
theorem cov_refl {E : chE} {p : List (Nat × Nat)} {B : Option (List (Nat × Nat))} (h : okB E B) : cov E p B B (fun _ => False) := ⟨h, leB_refl B, fun _ _ q => q.elim⟩
theorem cov_c {E : chE} {p : List (Nat × Nat)} {B B' : Option (List (Nat × Nat))} {C C' : Nat × Nat → Prop} (h : cov E p B B' C) (e : ∀ x, C' x → C x) : cov E p B B' C' := ⟨h.1, h.2.1, fun x r q => h.2.2 x r (e x q)⟩
theorem cov_step {E : chE} {p : List (Nat × Nat)} {B B1 B2 : Option (List (Nat × Nat))} {C : Nat × Nat → Prop} {x : Nat × Nat} (h : cov E p B B1 C) (s : srP E (p ++ [x]) B1 B2) : cov E p B B2 (fun z => C z ∨ z = x) := by
  refine ⟨s.1, leB_trans s.2.1 h.2.1, fun z r hz hg => ?_⟩
  rcases hz with hz | hz
  · exact leB_trans s.2.1 (h.2.2 z r hz hg)
  · rw [hz] at hg ⊢
    have e : p ++ x :: r = (p ++ [x]) ++ r := by simp
    rw [e] at hg ⊢
    exact s.2.2 r hg
theorem cov_skip {E : chE} {p : List (Nat × Nat)} {B B1 : Option (List (Nat × Nat))} {C : Nat × Nat → Prop} {D : Nat × Nat → Prop} (h : cov E p B B1 C) (s : ∀ x r, D x → ¬ GC E (p ++ x :: r)) : cov E p B B1 (fun z => C z ∨ D z) := ⟨h.1, h.2.1, fun z r hz hg => hz.elim (fun q => h.2.2 z r q hg) (fun q => absurd hg (s z r q))⟩
theorem cov_end {E : chE} {p : List (Nat × Nat)} {B B0 B' : Option (List (Nat × Nat))} {C : Nat × Nat → Prop} (h0 : leB E B0 B) (h1 : GC E p → leB E B0 (some p)) (h : cov E p B0 B' C) (hC : ∀ x r, GC E (p ++ x :: r) → C x) : srP E p B B' := by
  refine ⟨h.1, leB_trans h.2.1 h0, fun r hg => ?_⟩
  cases r with
  | nil =>
    rw [List.append_nil] at hg ⊢
    exact leB_trans h.2.1 (h1 hg)
  | cons x r => exact h.2.2 x r (hC x r hg) hg
theorem GC_st {E : chE} {p r : List (Nat × Nat)} {x : Nat × Nat} (h : GC E (p ++ x :: r)) : x.1 ∉ p.map (fun x => x.1) ∧ eAb E x.1 ∧ ∃ st st', rnE E p = some st ∧ stp E st x = some st' := by
  obtain ⟨h1, h2, h3, lo, hi, h4⟩ := h
  refine ⟨?_, h3 x (by simp), ?_⟩
  · rw [List.map_append, List.map_cons] at h2
    intro q
    have := (List.nodup_append.mp h2).2.2
    exact this x.1 q x.1 (by simp) rfl
  · unfold rnE at h4 ⊢
    rw [List.foldl_append, List.foldl_cons] at h4
    cases e : p.foldl (fun o x => o.bind (fun st => stp E st x)) (some (eSt E)) with
    | none => rw [e] at h4; rw [show (none : Option (Int32 × Int × Int)).bind (fun st => stp E st x) = none from rfl, fold_none] at h4; cases h4
    | some st =>
      rw [e] at h4
      cases e2 : stp E st x with
      | none => rw [show (some st).bind (fun st => stp E st x) = stp E st x from rfl, e2, fold_none] at h4; cases h4
      | some st' => exact ⟨st, st', rfl, e2⟩
/-- a triangle's place -/
def cnr (m : rf_m) (t i : Nat) : Nat := (m.1 243 (3 * t + i)).toNatClampNeg
noncomputable def envE (w : rf_w) (m : rf_m) (L go s : Int32) (lo hi : Int) : chE := (sidV m, fun t i => (sLv w m (cnr m t i)).toInt, fun t i => (sMv w m (cnr m t i)).toInt, fun t => t < (m.1 206 64).toNatClampNeg ∧ wlI (tmF w m t) L 3 0 ≠ 0 ∧ abP w m t, go, (s, lo, hi))
theorem sn_mono {s : Int32} (h0 : 3600 ≤ s.toInt) (h1 : s.toInt ≤ 644400) : 1 ≤ (sn s).toInt ∧ (sn s).toInt ≤ 1000000 := by
  obtain ⟨e, a, b, c⟩ := sn_I (s := s) (by omega) (by omega)
  refine ⟨?_, b⟩
  rw [e]
  have p := par_rng (s := s.toInt) (by omega) (by omega)
  have q : 1000000 ≤ s.toInt * (648000 - s.toInt) := by
    have : 3600 * 3600 ≤ s.toInt * (648000 - s.toInt) := Int.mul_le_mul h0 (by omega) (by omega) (by omega)
    omega
  generalize s.toInt * (648000 - s.toInt) = v at *
  have : (1 : Int) ≤ 4000000 * v / (524880000000 - v) := Int.le_ediv_of_mul_le (by omega) (by omega)
  exact this
theorem sin_rng {c a : Nat} {w : rf_w} {m : rf_m} (J : JCnt c w m) (h : carP w m a) : 1 ≤ (sLv w m a).toInt ∧ (sLv w m a).toInt ≤ (sMv w m a).toInt ∧ (sMv w m a).toInt ≤ 1000000 := by
  obtain ⟨q1, q2, q3⟩ := car_I J h
  have t1 := ten_I (t := loV w m 9999 a) (by omega)
  have t2 := ten_I (t := hiV w m 9999 a) (by omega)
  have l1 := sn_mono (s := loV w m 9999 a / 10) (by omega) (by omega)
  have l2 := sn_mono (s := hiV w m 9999 a / 10) (by omega) (by omega)
  have l3 : (sn 324000).toInt = 1000000 := by decide
  have eL : (sLv w m a).toInt = min (sn (loV w m 9999 a / 10)).toInt (sn (hiV w m 9999 a / 10)).toInt := mnI
  have eM : (sMv w m a).toInt = max (sn (loV w m 9999 a / 10)).toInt (sn (hiV w m 9999 a / 10)).toInt ∨ (sMv w m a).toInt = 1000000 := by
    unfold sMv
    split
    · exact Or.inl mxI
    · exact Or.inr l3
  generalize (sLv w m a).toInt = x at *
  generalize (sMv w m a).toInt = z at *
  generalize (sn (loV w m 9999 a / 10)).toInt = u at *
  generalize (sn (hiV w m 9999 a / 10)).toInt = v at *
  clear l3 t1 t2 q1 q2 q3 h J
  rcases eM with eM | eM <;> omega
theorem sd_comm {a b : Int32} (ha : ib a 30) (hb : ib b 30) : sd a b = sd b a := (sd_iff hb ha ha hb).mpr (Or.inr ⟨rfl, rfl⟩)
theorem sd_btw {f g : Nat → Int32} {a x y : Int32} (h : btw f g a x y) (hx : ib x 30) (hy : ib y 30) : sd (f a.toNatClampNeg) (g a.toNatClampNeg) = sd x y := by
  rcases h with ⟨h1, h2⟩ | ⟨h1, h2⟩
  · rw [h1, h2]
  · rw [h1, h2, sd_comm hy hx]
theorem tri_sd {m : rf_m} {t : Nat} (jn : JNet m) (ja : JAng m) (jm : JMark m) (ht : t < (m.1 206 64).toNatClampNeg) : sidV m t 0 ≠ sidV m t 1 ∧ sidV m t 1 ≠ sidV m t 2 ∧ sidV m t 0 ≠ sidV m t 2 := by
  have k : ∀ i, i < 3 → ib (m.1 217 (m.1 243 (3 * t + i)).toNatClampNeg) 30 := fun i hi => by
    obtain ⟨_, q⟩ := net_t jn ja ht hi
    obtain ⟨⟨a1, a2⟩, _⟩ := ja.2.2.2.2.2 _ q
    have h := jm.2.1.2
    exact ⟨a1, by clear jn ja; grind⟩
  have k0 : ib (m.1 217 (m.1 243 (3 * t)).toNatClampNeg) 30 := k 0 (by decide)
  have k1 := k 1 (by decide)
  have k2 := k 2 (by decide)
  obtain ⟨_, _, _, _, _, _, _, _, _, _, _, jt, _⟩ := jn
  obtain ⟨_, _, _, d1, d2, d3, t0, t1, t2⟩ := jt t ht
  have s0 : sidV m t 0 = _ := sd_btw t0 k1 k2
  have s1 : sidV m t 1 = _ := sd_btw t1 k0 k2
  have s2 : sidV m t 2 = _ := sd_btw t2 k0 k1
  rw [s0, s1, s2]
  refine ⟨fun h => ?_, fun h => ?_, fun h => ?_⟩
  · rcases (sd_iff k0 k2 k1 k2).mp h with ⟨h1, h2⟩ | ⟨h1, h2⟩
    · exact d1 h1.symm
    · exact d2 h1
  · rcases (sd_iff k0 k1 k0 k2).mp h with ⟨h1, h2⟩ | ⟨h1, h2⟩
    · exact d2 h2.symm
    · exact d1 h1
  · rcases (sd_iff k0 k1 k1 k2).mp h with ⟨h1, h2⟩ | ⟨h1, h2⟩
    · exact d1 h1.symm
    · exact d3 h2
theorem env_inj {w : rf_w} {m : rf_m} {L go s : Int32} {lo hi : Int} (jn : JNet m) (ja : JAng m) (jm : JMark m) : eInj (envE w m L go s lo hi) := fun t h => tri_sd jn ja jm h.1
/-- what the sines are -/
def eRng (E : chE) : Prop := ∀ t, eAb E t → ∀ i, i < 3 → 1 ≤ eSl E t i ∧ eSl E t i ≤ eSm E t i ∧ eSm E t i ≤ 1000000
theorem env_sl {w : rf_w} {m : rf_m} {L go s : Int32} {lo hi : Int} : eSl (envE w m L go s lo hi) = fun t i => (sLv w m (cnr m t i)).toInt := rfl
theorem env_sm {w : rf_w} {m : rf_m} {L go s : Int32} {lo hi : Int} : eSm (envE w m L go s lo hi) = fun t i => (sMv w m (cnr m t i)).toInt := rfl
theorem env_ab {w : rf_w} {m : rf_m} {L go s : Int32} {lo hi : Int} {t : Nat} : eAb (envE w m L go s lo hi) t = (t < (m.1 206 64).toNatClampNeg ∧ wlI (tmF w m t) L 3 0 ≠ 0 ∧ abP w m t) := rfl
theorem env_rng {c : Nat} {w : rf_w} {m : rf_m} {L go s : Int32} {lo hi : Int} (J : JCnt c w m) : eRng (envE w m L go s lo hi) := by
  unfold eRng
  rw [env_sl, env_sm]
  intro t h i hi
  rw [env_ab] at h
  have h3 := h.2.2 i hi
  exact sin_rng J h3
theorem plc_some {E : chE} {t o : Nat} {s : Int32} (h : plc E t s = some o) : o < 3 ∧ eSid E t o = s := by
  unfold plc at h
  split at h
  · injection h with h; subst h; exact ⟨by decide, ‹_›⟩
  · split at h
    · injection h with h; subst h; exact ⟨by decide, ‹_›⟩
    · split at h
      · injection h with h; subst h; exact ⟨by decide, ‹_›⟩
      · cases h
/-- a carried span stays one -/
theorem span_ok {E : chE} (hE : eRng E) {t o i : Nat} {lo hi : Int} (ht : eAb E t) (ho : o < 3) (hi3 : i < 3) (h0 : 0 ≤ lo) (h1 : lo ≤ hi) : 0 ≤ loN E t o i lo ∧ loN E t o i lo ≤ hiN E t o i hi ∧ eSm E t o * (hiN E t o i hi - loN E t o i lo) ≥ (hi - lo) * eSl E t i := by
  obtain ⟨a1, a2, a3⟩ := hE t ht o ho
  obtain ⟨b1, b2, b3⟩ := hE t ht i hi3
  unfold loN hiN
  generalize eSl E t o = A at *
  generalize eSm E t o = B at *
  generalize eSl E t i = C at *
  generalize eSm E t i = D at *
  have n0 : 0 ≤ lo * C := Int.mul_nonneg h0 (by omega)
  have n1 : 0 ≤ hi * D := Int.mul_nonneg (by omega) (by omega)
  have p1 : lo * C / B * B ≤ lo * C := Int.ediv_mul_le _ (by omega)
  have p0 : 0 ≤ lo * C / B := Int.ediv_nonneg n0 (by omega)
  have p2 : hi * D ≤ (hi * D + A - 1) / A * A := by
    have e1 := Int.mul_ediv_add_emod (hi * D + A - 1) A
    have e2 := Int.emod_lt_of_pos (hi * D + A - 1) (show 0 < A by omega)
    have e3 : A * ((hi * D + A - 1) / A) = (hi * D + A - 1) / A * A := Int.mul_comm _ _
    omega
  have p3 : 0 ≤ (hi * D + A - 1) / A := Int.ediv_nonneg (by omega) (by omega)
  generalize hx : lo * C / B = x at *
  generalize hy : (hi * D + A - 1) / A = y at *
  have q1 : y * A ≤ y * B := Int.mul_le_mul_of_nonneg_left (by omega) p3
  have q2 : hi * C ≤ hi * D := Int.mul_le_mul_of_nonneg_left (by omega) (by omega)
  have q3 : lo * C ≤ hi * C := Int.mul_le_mul_of_nonneg_right h1 (by omega)
  have q4 : x * B ≤ y * B := by omega
  refine ⟨p0, Int.le_of_mul_le_mul_right q4 (by omega), ?_⟩
  have e : B * (y - x) = y * B - x * B := by rw [Int.mul_sub, Int.mul_comm, Int.mul_comm B x]
  have e2 : (hi - lo) * C = hi * C - lo * C := Int.sub_mul _ _ _
  rw [e, e2]
  omega
/-- a span within bounds -/
def stO (st : Int32 × Int × Int) : Prop := 0 ≤ st.2.1 ∧ st.2.1 ≤ st.2.2 ∧ st.2.2 ≤ 1000000000
theorem stp_ok {E : chE} (hE : eRng E) {st st' : Int32 × Int × Int} {x : Nat × Nat} (ha : eAb E x.1) (h : stO st) (hs : stp E st x = some st') : stO st' := by
  have l3 := stp_lt hs
  unfold stp at hs
  split at hs
  · cases hs
  · rename_i o ho
    obtain ⟨o3, _⟩ := plc_some ho
    split at hs
    · cases hs
    · rename_i hn
      injection hs with hs
      subst hs
      obtain ⟨p1, p2, _⟩ := span_ok hE ha o3 l3 h.1 h.2.1
      refine ⟨p1, p2, ?_⟩
      show hiN E x.1 o x.2 st.2.2 ≤ _
      exact Int.not_lt.mp (fun q => hn (Or.inr (Or.inr q)))
end PBCover
