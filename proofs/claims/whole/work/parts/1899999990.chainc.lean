/-! chains: the class, which is better, what is hopeless -/
section PBChainC
def rwC (m : rf_m) (f : Nat → Int32) (p : List (Nat × Nat)) : Prop := ∀ j (hj : j < p.length), f j = Int32.ofNat p[j].1 ∧ f (6 + j) = sidV m p[j].1 p[j].2
theorem sid_rng {m : rf_m} {t i : Nat} (jn : JNet m) (ja : JAng m) (jm : JMark m) (ht : t < (m.1 206 64).toNatClampNeg) (hi : i < 3) : 0 ≤ (sidV m t i).toInt ∧ (sidV m t i).toInt < 1000 := by
  obtain ⟨a, b⟩ := on_ib jn ja jm ht hi
  have e : (sidV m t i).toInt = (onV m t i).toInt * 32 + (otV m t i).toInt := by rw [sid_on, m32 a b]
  have a := ib30 a
  have b := ib30 b
  generalize (onV m t i).toInt = u at *
  generalize (otV m t i).toInt = v at *
  omega
theorem rc_lof {m : rf_m} {f : Nat → Int32} {p : List (Nat × Nat)} (jn : JNet m) (hp : pOK m p) (r : rwC m f p) : lof f p.length 0 = tsE p ∧ lof f p.length 6 = ssE m p := by
  have n30 := (net30 jn).1
  have a := lof_eq (f := f) (tsE p) 0 (fun j hj => by
    unfold tsE at hj
    rw [List.length_map] at hj
    rw [Nat.zero_add, (r j hj).1]
    unfold tsE
    rw [List.getElem_map]
    have := (hp.2 p[j] (List.getElem_mem hj)).1
    exact ofI (by omega))
  have b := lof_eq (f := f) (ssE m p) 6 (fun j hj => by
    unfold ssE at hj
    rw [List.length_map] at hj
    rw [(r j hj).2]
    unfold ssE
    rw [List.getElem_map])
  unfold tsE at a ⊢
  unfold ssE at b ⊢
  rw [List.length_map] at a b
  exact ⟨a, b⟩
theorem rc_rng {m : rf_m} {f : Nat → Int32} {p : List (Nat × Nat)} (jn : JNet m) (ja : JAng m) (jm : JMark m) (hp : pOK m p) (r : rwC m f p) : ∀ j, j < p.length → (0 ≤ (f j).toInt ∧ (f j).toInt < 1000) ∧ (0 ≤ (f (6 + j)).toInt ∧ (f (6 + j)).toInt < 1000) := fun j hj => by
  have n30 := (net30 jn).1
  obtain ⟨q1, q2⟩ := hp.2 p[j] (List.getElem_mem hj)
  rw [(r j hj).1, (r j hj).2, ofI (by omega)]
  exact ⟨by omega, sid_rng jn ja jm q1 q2⟩
theorem cmpR {w : rf_w} {X : rf_m} {a N : Nat} (hN : a + N ≤ 12) (h1 : ∀ j, j < N → 0 ≤ (X.1 181 (a + j)).toInt ∧ (X.1 181 (a + j)).toInt < 1000) (h2 : ∀ j, j < N → 0 ≤ (X.1 182 (a + j)).toInt ∧ (X.1 182 (a + j)).toInt < 1000) : ∀ n f i, i + n = N → n < f → ∃ v, g_X4_compareRows_2 w f (Int32.ofNat a) (Int32.ofNat N) (Int32.ofNat (a + i)) X = some (v, X) ∧ (v < 0 ↔ lx (lof (X.1 181) n (a + i)) (lof (X.1 182) n (a + i))) ∧ (v = 0 ↔ lof (X.1 181) n (a + i) = lof (X.1 182) n (a + i)) := by
  intro n
  induction n with
  | zero =>
    intro f i hi hf
    obtain ⟨f, rfl⟩ : ∃ g, f = g + 1 := ⟨f - 1, by omega⟩
    have e : i = N := by omega
    subst e
    refine ⟨0, ?_, ⟨fun q => absurd q (by decide), fun q => q.elim⟩, ⟨fun _ => rfl, fun _ => rfl⟩⟩
    show g_X4_compareRows_2_b w _ _ _ _ X = _
    unfold g_X4_compareRows_2_b
    have e2 : Int32.ofNat a + Int32.ofNat i = Int32.ofNat (a + i) := (Int32.ofNat_add a i).symm
    rw [e2, if_pos (Int32.le_refl _)]
  | succ n ih =>
    intro f i hi hf
    obtain ⟨f, rfl⟩ : ∃ g, f = g + 1 := ⟨f - 1, by omega⟩
    have e2 : Int32.ofNat a + Int32.ofNat N = Int32.ofNat (a + N) := (Int32.ofNat_add a N).symm
    have g1 : ¬ Int32.ofNat (a + N) ≤ Int32.ofNat (a + i) := nle (by omega) (by omega)
    have l1 : lof (X.1 181) (n + 1) (a + i) = (X.1 181 (a + i)).toInt :: lof (X.1 181) n (a + i + 1) := rfl
    have l2 : lof (X.1 182) (n + 1) (a + i) = (X.1 182 (a + i)).toInt :: lof (X.1 182) n (a + i + 1) := rfl
    have r1 := h1 i (by omega)
    have r2 := h2 i (by omega)
    rw [l1, l2]
    show ∃ v, g_X4_compareRows_2_b w _ _ _ _ X = _ ∧ _
    unfold g_X4_compareRows_2_b
    rw [e2, if_neg g1, gof (by omega) (by decide), tn_of (by omega)]
    simp only [g_t]
    by_cases c1 : X.1 181 (a + i) = X.1 182 (a + i)
    · rw [if_pos c1, of_succ]
      obtain ⟨v, k1, k2, k3⟩ := ih f (i + 1) (by omega) (by omega)
      have k1 : g_X4_compareRows_2 w f (Int32.ofNat a) (Int32.ofNat N) (Int32.ofNat (a + i + 1)) X = _ := k1
      have c1' := i_eq.mp c1
      refine ⟨v, k1, k2.trans ⟨fun q => Or.inr ⟨c1', q⟩, fun q => q.elim (fun z => by omega) (fun z => z.2)⟩, k3.trans ⟨fun q => by rw [c1']; congr 1, fun q => by injection q⟩⟩
    · have c1' : (X.1 181 (a + i)).toInt ≠ (X.1 182 (a + i)).toInt := fun q => c1 (i_eq.mpr q)
      rw [if_neg c1]
      have sI := subI (a := X.1 181 (a + i)) (b := X.1 182 (a + i)) (by omega) (by omega)
      refine ⟨_, rfl, ?_, ?_⟩
      · rw [i_lt, sI, i_0]
        exact ⟨fun q => Or.inl (by omega), fun q => q.elim (fun z => by omega) (fun z => by omega)⟩
      · rw [i_eq, sI, i_0]
        exact ⟨fun q => by omega, fun q => by injection q with q _; omega⟩
theorem cmpR0 {w : rf_w} {X : rf_m} {a N : Nat} (hN : a + N ≤ 12) (h1 : ∀ j, j < N → 0 ≤ (X.1 181 (a + j)).toInt ∧ (X.1 181 (a + j)).toInt < 1000) (h2 : ∀ j, j < N → 0 ≤ (X.1 182 (a + j)).toInt ∧ (X.1 182 (a + j)).toInt < 1000) : ∃ v, g_X4_compareRows w X (Int32.ofNat a) (Int32.ofNat N) = some (v, X) ∧ (v < 0 ↔ lx (lof (X.1 181) N a) (lof (X.1 182) N a)) ∧ (v = 0 ↔ lof (X.1 181) N a = lof (X.1 182) N a) := by
  obtain ⟨F, hF, hFb⟩ := fuel_ex
  unfold g_X4_compareRows
  rw [hF]
  exact cmpR hN h1 h2 N F 0 (by omega) (by omega)
/-- the best so far, as the class keeps it -/
def bsC (E : chE) (m X : rf_m) : Option (List (Nat × Nat)) → Prop
  | none => X.1 175 15 = -1
  | some q => X.1 175 15 = Int32.ofNat q.length ∧ rnE E q = some (eGo E, (X.2 175 16).toInt, (X.2 175 17).toInt) ∧ pOK m q ∧ rwC m (X.1 182) q ∧ stO (eGo E, (X.2 175 16).toInt, (X.2 175 17).toInt)
theorem subO {s : Int32} {lo hi : Int64} (h : stO (s, lo.toInt, hi.toInt)) : (hi - lo).toInt = hi.toInt - lo.toInt := by
  obtain ⟨x1, x2, x3⟩ := h
  have x1 : 0 ≤ lo.toInt := x1
  have x2 : lo.toInt ≤ hi.toInt := x2
  have x3 : hi.toInt ≤ 1000000000 := x3
  exact subL (by omega) (by omega)
theorem better_c {w : rf_w} {m X : rf_m} {E : chE} {s' : Int32} {p : List (Nat × Nat)} {lo hi : Int64} {B : Option (List (Nat × Nat))} (jn : JNet m) (ja : JAng m) (jm : JMark m) (hid : eSid E = sidV m) (hp : pOK m p) (r : rwC m (X.1 181) p) (hr : rnE E p = some (s', lo.toInt, hi.toInt)) (hO : stO (s', lo.toInt, hi.toInt)) (hB : bsC E m X B) : g_X4_isBetter w X (Int32.ofNat p.length) (hi - lo) = some (bi (∀ q, B = some q → lx (kpE E p) (kpE E q)), X) := by
  cases B with
  | none =>
    have h0 : X.1 175 15 = -1 := hB
    unfold g_X4_isBetter g_X4_isBetter_22
    rw [if_pos h0, if_pos h0, bi_t (fun q hq => by cases hq)]
  | some q =>
    obtain ⟨b1, b2, b3, b4, b5⟩ := hB
    have lq : q.length ≤ 6 := b3.1
    have lp : p.length ≤ 6 := hp.1
    have n1 : ¬ X.1 175 15 = -1 := by
      rw [b1]
      intro z
      have := i_eq.mp z
      rw [ofI (by omega)] at this
      have k : (-1 : Int32).toInt = -1 := by decide
      omega
    have dv := subO hO
    have dq := subO b5
    have key : (∀ q', some q = some q' → lx (kpE E p) (kpE E q')) ↔ lx (kyE E p lo.toInt hi.toInt) (kyE E q (X.2 175 16).toInt (X.2 175 17).toInt) := by
      rw [kpE_of hr]
      constructor
      · intro h
        have := h q rfl
        rw [kpE_of b2] at this
        exact this
      · intro h q' e
        injection e with e
        rw [← e, kpE_of b2]
        exact h
    have key2 := key.trans ky_lx
    rw [hid] at key2
    rw [bi_congr key2]
    unfold g_X4_isBetter g_X4_isBetter_22
    rw [if_neg n1, if_neg n1]
    by_cases c1 : hi.toInt - lo.toInt = (X.2 175 17).toInt - (X.2 175 16).toInt
    · have c1' : lg_cmp (hi - lo) (X.2 175 17 - X.2 175 16) = 0 := cmp_eq0.mpr (l_eq.mpr (by rw [dv, dq, c1]))
      rw [if_pos c1', b1]
      by_cases c2 : p.length = q.length
      · have c2' : Int32.ofNat p.length = Int32.ofNat q.length := by rw [c2]
        have rp := rc_rng jn ja jm hp r
        have rq := rc_rng jn ja jm b3 b4
        rw [← c2] at rq
        obtain ⟨v, v1, v2, v3⟩ := cmpR0 (w := w) (X := X) (a := 0) (N := p.length) (by omega) (fun j hj => by rw [Nat.zero_add]; exact (rp j hj).1) (fun j hj => by rw [Nat.zero_add]; exact (rq j hj).1)
        obtain ⟨u, u1, u2, u3⟩ := cmpR0 (w := w) (X := X) (a := 6) (N := p.length) (by omega) (fun j hj => (rp j hj).2) (fun j hj => (rq j hj).2)
        have v1 : g_X4_compareRows w X 0 (Int32.ofNat p.length) = _ := v1
        have u1 : g_X4_compareRows w X 6 (Int32.ofNat p.length) = _ := u1
        have lq2 := rc_lof jn b3 b4
        rw [← c2] at lq2
        obtain ⟨e1, e2⟩ := rc_lof jn hp r
        rw [e1, lq2.1] at v2 v3
        rw [e2, lq2.2] at u2 u3
        have fin : (lx (tsE p) (tsE q) ∨ (tsE p = tsE q ∧ lx (ssE m p) (ssE m q))) ↔ (hi.toInt - lo.toInt < (X.2 175 17).toInt - (X.2 175 16).toInt ∨ (hi.toInt - lo.toInt = (X.2 175 17).toInt - (X.2 175 16).toInt ∧ (p.length < q.length ∨ (p.length = q.length ∧ (lx (tsE p) (tsE q) ∨ (tsE p = tsE q ∧ lx (ssE m p) (ssE m q))))))) := ⟨fun z => Or.inr ⟨c1, Or.inr ⟨c2, z⟩⟩, fun z => z.elim (fun y => by omega) (fun y => y.2.elim (fun x => by omega) (fun x => x.2))⟩
        have ess : ∀ p : List (Nat × Nat), p.map (fun x => (sidV m x.1 x.2).toInt) = ssE m p := fun _ => rfl
        rw [if_pos c2', v1, b_sm, ess, ess, ← bi_congr fin]
        by_cases d1 : v < 0
        · rw [if_pos d1, bi_t (Or.inl (v2.mp d1))]
        · rw [if_neg d1]
          have d1' : ¬ lx (tsE p) (tsE q) := fun z => d1 (v2.mpr z)
          by_cases d2 : v = 0
          · rw [if_pos d2, u1, b_sm]
            by_cases d3 : (0 : Int32) ≤ u
            · have d3' : ¬ lx (ssE m p) (ssE m q) := fun z => Int32.not_lt.mpr d3 (u2.mpr z)
              rw [if_pos d3, bi_f (fun z => z.elim d1' (fun y => d3' y.2))]
            · rw [if_neg d3, bi_t (Or.inr ⟨v3.mp d2, u2.mp (Int32.not_le.mp d3)⟩)]
          · rw [if_neg d2, bi_f (fun z => z.elim d1' (fun y => d2 (v3.mpr y.1)))]
      · have c2' : ¬ Int32.ofNat p.length = Int32.ofNat q.length := fun z => c2 ((of_inj (by omega) (by omega)).mp z)
        rw [if_neg c2']
        by_cases c3 : q.length ≤ p.length
        · have c3' : Int32.ofNat q.length ≤ Int32.ofNat p.length := (of_le (by omega) (by omega)).mpr c3
          rw [if_pos c3', bi_f (fun z => z.elim (fun y => by omega) (fun y => y.2.elim (fun x => by omega) (fun x => c2 x.1)))]
        · have c3' : ¬ Int32.ofNat q.length ≤ Int32.ofNat p.length := fun z => c3 ((of_le (by omega) (by omega)).mp z)
          rw [if_neg c3', bi_t (Or.inr ⟨c1, Or.inl (by omega)⟩)]
    · have c1' : ¬ lg_cmp (hi - lo) (X.2 175 17 - X.2 175 16) = 0 := fun z => c1 (by have := l_eq.mp (cmp_eq0.mp z); rw [dv, dq] at this; exact this)
      rw [if_neg c1']
      by_cases c3 : (X.2 175 17).toInt - (X.2 175 16).toInt ≤ hi.toInt - lo.toInt
      · have c3' : (0 : Int32) ≤ lg_cmp (hi - lo) (X.2 175 17 - X.2 175 16) := cmp_nn.mpr (by rw [dv, dq]; exact c3)
        rw [if_pos c3', bi_f (fun z => z.elim (fun y => by omega) (fun y => c1 y.1))]
      · have c3' : ¬ (0 : Int32) ≤ lg_cmp (hi - lo) (X.2 175 17 - X.2 175 16) := fun z => c3 (by have := cmp_nn.mp z; rw [dv, dq] at this; exact this)
        rw [if_neg c3', bi_t (Or.inl (by omega))]
/-- shrunk so often -/
def itr (sh : Int) : Nat → Int → Int
  | 0, s => s
  | k + 1, s => itr sh k (s * sh / 1000000)
theorem itr_mono {sh : Int} (h0 : 0 ≤ sh) : ∀ k a b, a ≤ b → itr sh k a ≤ itr sh k b := by
  intro k
  induction k with
  | zero => intro a b h; exact h
  | succ k ih => intro a b h; exact ih _ _ (Int.ediv_le_ediv (by omega) (Int.mul_le_mul_of_nonneg_right h h0))
theorem itr_dec {sh : Int} (h0 : 0 ≤ sh) (h1 : sh ≤ 1000000) : ∀ k a, 0 ≤ a → itr sh k a ≤ a ∧ 0 ≤ itr sh k a := by
  intro k
  induction k with
  | zero => intro a h; exact ⟨Int.le_refl _, h⟩
  | succ k ih =>
    intro a h
    have n : 0 ≤ a * sh := Int.mul_nonneg h h0
    have l : a * sh / 1000000 ≤ a := by
      have := Int.mul_le_mul_of_nonneg_left h1 h
      omega
    obtain ⟨q1, q2⟩ := ih (a * sh / 1000000) (Int.ediv_nonneg n (by omega))
    exact ⟨Int.le_trans q1 l, q2⟩
theorem itr_add {sh : Int} : ∀ a b s, itr sh (a + b) s = itr sh b (itr sh a s) := by
  intro a
  induction a with
  | zero => intro b s; rw [Nat.zero_add]; rfl
  | succ a ih => intro b s; rw [Nat.succ_add]; exact ih b _
/-- no carrying shrinks more -/
def eShr (E : chE) (sh : Int) : Prop := 0 ≤ sh ∧ sh ≤ 1000000 ∧ ∀ t, eAb E t → ∀ o i, o < 3 → i < 3 → sh * eSm E t o ≤ 1000000 * eSl E t i
theorem shr_st {E : chE} {sh : Int} (hE : eRng E) (hS : eShr E sh) {st st' : Int32 × Int × Int} {x : Nat × Nat} (ha : eAb E x.1) (h : stO st) (hs : stp E st x = some st') : (st.2.2 - st.2.1) * sh / 1000000 ≤ st'.2.2 - st'.2.1 := by
  have l3 := stp_lt hs
  unfold stp at hs
  split at hs
  · cases hs
  · rename_i o ho
    obtain ⟨o3, _⟩ := plc_some ho
    split at hs
    · cases hs
    · injection hs with hs
      subst hs
      obtain ⟨p1, p2, p3⟩ := span_ok hE ha o3 l3 h.1 h.2.1
      have q := hS.2.2 x.1 ha o x.2 o3 l3
      obtain ⟨a1, a2, a3⟩ := hE x.1 ha o o3
      show (st.2.2 - st.2.1) * sh / 1000000 ≤ hiN E x.1 o x.2 st.2.2 - loN E x.1 o x.2 st.2.1
      have s0 : 0 ≤ st.2.2 - st.2.1 := by have := h.2.1; omega
      generalize st.2.2 - st.2.1 = S at *
      generalize hiN E x.1 o x.2 st.2.2 - loN E x.1 o x.2 st.2.1 = D at *
      generalize eSm E x.1 o = Bb at *
      generalize eSl E x.1 x.2 = Cc at *
      have e1 : (S * sh) * Bb ≤ (1000000 * D) * Bb := by
        have t1 : S * (sh * Bb) ≤ S * (1000000 * Cc) := Int.mul_le_mul_of_nonneg_left q s0
        have t2 : S * (sh * Bb) = (S * sh) * Bb := (Int.mul_assoc _ _ _).symm
        have t3 : S * (1000000 * Cc) = 1000000 * (S * Cc) := by rw [Int.mul_left_comm]
        have t4 : (1000000 * D) * Bb = 1000000 * (Bb * D) := by rw [Int.mul_assoc, Int.mul_comm D Bb]
        rw [t2, t3] at t1
        rw [t4]
        have : S * Cc ≤ Bb * D := p3
        omega
      have e2 := Int.le_of_mul_le_mul_right e1 (by omega)
      omega
theorem shr_run {E : chE} {sh : Int} (hE : eRng E) (hS : eShr E sh) : ∀ (r : List (Nat × Nat)) (st st' : Int32 × Int × Int), stO st → (∀ x, x ∈ r → eAb E x.1) → r.foldl (fun o x => o.bind (fun st => stp E st x)) (some st) = some st' → itr sh r.length (st.2.2 - st.2.1) ≤ st'.2.2 - st'.2.1 ∧ stO st' := by
  intro r
  induction r with
  | nil => intro st st' h _ e; injection e with e; subst e; exact ⟨Int.le_refl _, h⟩
  | cons x r ih =>
    intro st st' h ha e
    rw [List.foldl_cons] at e
    have ha0 := ha x List.mem_cons_self
    cases e1 : stp E st x with
    | none => rw [show (some st).bind (fun st => stp E st x) = stp E st x from rfl, e1, fold_none] at e; cases e
    | some s1 =>
      rw [show (some st).bind (fun st => stp E st x) = stp E st x from rfl, e1] at e
      have q := ih s1 st' (stp_ok hE ha0 h e1) (fun y hy => ha y (List.mem_cons_of_mem _ hy)) e
      exact ⟨Int.le_trans (itr_mono hS.1 r.length _ _ (shr_st hE hS ha0 h e1)) q.1, q.2⟩
theorem hope_no {E : chE} {sh : Int} (hE : eRng E) (hS : eShr E sh) {p q : List (Nat × Nat)} {st : Int32 × Int × Int} {s : Int32} {lo hi : Int} (hr : rnE E p = some st) (hO : stO st) (hq : rnE E q = some (s, lo, hi)) (h : hi - lo < itr sh (6 - p.length) (st.2.2 - st.2.1) ∨ (itr sh (6 - p.length) (st.2.2 - st.2.1) = hi - lo ∧ q.length ≤ p.length)) : ∀ x r, GC E (p ++ x :: r) → lek (kpE E q) (kpE E (p ++ x :: r)) := by
  intro x r hg
  obtain ⟨g1, g2, g3, lo', hi', g4⟩ := hg
  have g4' := g4
  unfold rnE at g4 hr
  rw [List.foldl_append, hr] at g4
  obtain ⟨k1, k2⟩ := shr_run hE hS (x :: r) st _ hO (fun y hy => g3 y (List.mem_append_right _ hy)) g4
  rw [List.length_append] at g1
  have le6 : (x :: r).length + (6 - p.length - (x :: r).length) = 6 - p.length := by omega
  have dd := itr_add (sh := sh) (x :: r).length (6 - p.length - (x :: r).length) (st.2.2 - st.2.1)
  rw [le6] at dd
  have n1 := (itr_dec hS.1 hS.2.1 (x :: r).length (st.2.2 - st.2.1) (by have := hO.2.1; omega)).2
  have n2 := (itr_dec hS.1 hS.2.1 (6 - p.length - (x :: r).length) _ n1).1
  rw [← dd] at n2
  have k1 : itr sh (x :: r).length (st.2.2 - st.2.1) ≤ hi' - lo' := k1
  unfold lek
  rw [kpE_of g4', kpE_of hq, ky_lx]
  have ll : (p ++ x :: r).length = p.length + (r.length + 1) := by rw [List.length_append, List.length_cons]
  rintro (z | ⟨z1, z | ⟨z2, _⟩⟩)
  · rcases h with h | h <;> omega
  · rcases h with h | h <;> omega
  · rcases h with h | h <;> omega
theorem hope_c {w : rf_w} {m X : rf_m} {E : chE} {p : List (Nat × Nat)} {s' : Int32} {lo hi : Int64} {B : Option (List (Nat × Nat))} (lp : p.length ≤ 6) (hS0 : 0 ≤ (X.2 175 12).toInt) (hS1 : (X.2 175 12).toInt ≤ 1000000) (hO : stO (s', lo.toInt, hi.toInt)) (hB : bsC E m X B) : g_X4_isHopeless w X (Int32.ofNat p.length) (hi - lo) = some (bi (∃ q, B = some q ∧ ((X.2 175 17).toInt - (X.2 175 16).toInt < itr (X.2 175 12).toInt (6 - p.length) (hi.toInt - lo.toInt) ∨ (itr (X.2 175 12).toInt (6 - p.length) (hi.toInt - lo.toInt) = (X.2 175 17).toInt - (X.2 175 16).toInt ∧ q.length ≤ p.length))), X) := by
  unfold g_X4_isHopeless
  cases B with
  | none =>
    have h0 : X.1 175 15 = -1 := hB
    rw [if_pos h0, bi_f (fun ⟨q, e, _⟩ => by cases e)]
  | some q =>
    obtain ⟨b1, b2, b3, b4, b5⟩ := hB
    have lq : q.length ≤ 6 := b3.1
    have n1 : ¬ X.1 175 15 = -1 := by
      rw [b1]
      intro z
      have := i_eq.mp z
      rw [ofI (by omega)] at this
      have k : (-1 : Int32).toInt = -1 := by decide
      omega
    rw [if_neg n1]
    have dv := subO hO
    have dq := subO b5
    obtain ⟨x1, x2, x3⟩ := hO
    have x1 : 0 ≤ lo.toInt := x1
    have x2 : lo.toInt ≤ hi.toInt := x2
    have x3 : hi.toInt ≤ 1000000000 := x3
    have key : ∀ n f i (a : Int64), i + n = 6 → n < f → 0 ≤ a.toInt → a.toInt ≤ 1000000000 → g_X4_isHopeless_16 w f (Int32.ofNat p.length) a (Int32.ofNat i) X = some (bi ((X.2 175 17).toInt - (X.2 175 16).toInt < itr (X.2 175 12).toInt n a.toInt ∨ (itr (X.2 175 12).toInt n a.toInt = (X.2 175 17).toInt - (X.2 175 16).toInt ∧ q.length ≤ p.length)), X) := by
      intro n
      induction n with
      | zero =>
        intro f i a hi hf a0 a1
        obtain ⟨f, rfl⟩ : ∃ g, f = g + 1 := ⟨f - 1, by omega⟩
        have e : i = 6 := by omega
        subst e
        show g_X4_isHopeless_16_b w _ _ _ _ X = _
        unfold g_X4_isHopeless_16_b
        simp only [rf_vl]
        have p6 : (6 : Int32) ≤ Int32.ofNat 6 := by decide
        have ei : itr (X.2 175 12).toInt 0 a.toInt = a.toInt := rfl
        rw [if_pos p6, ei, b1]
        by_cases c1 : (X.2 175 17).toInt - (X.2 175 16).toInt < a.toInt
        · have c1' : (0 : Int32) < lg_cmp a (X.2 175 17 - X.2 175 16) := cmp_pos.mpr (by rw [dq]; exact c1)
          rw [if_pos c1', bi_t (Or.inl c1)]
        · have c1' : ¬ (0 : Int32) < lg_cmp a (X.2 175 17 - X.2 175 16) := fun z => c1 (by have := cmp_pos.mp z; rw [dq] at this; exact this)
          rw [if_neg c1']
          by_cases c2 : a.toInt = (X.2 175 17).toInt - (X.2 175 16).toInt
          · have c2' : lg_cmp a (X.2 175 17 - X.2 175 16) = 0 := cmp_eq0.mpr (l_eq.mpr (by rw [dq]; exact c2))
            rw [if_pos c2']
            by_cases c3 : p.length < q.length
            · have c3' : Int32.ofNat p.length < Int32.ofNat q.length := (of_lt (by omega) (by omega)).mpr c3
              rw [if_pos c3', bi_f (fun z => z.elim c1 (fun y => by omega))]
            · have c3' : ¬ Int32.ofNat p.length < Int32.ofNat q.length := fun z => c3 ((of_lt (by omega) (by omega)).mp z)
              rw [if_neg c3', bi_t (Or.inr ⟨c2, by omega⟩)]
          · have c2' : ¬ lg_cmp a (X.2 175 17 - X.2 175 16) = 0 := fun z => c2 (by have := l_eq.mp (cmp_eq0.mp z); rw [dq] at this; exact this)
            rw [if_neg c2', bi_f (fun z => z.elim c1 (fun y => c2 y.1))]
      | succ n ih =>
        intro f i a hi hf a0 a1
        obtain ⟨f, rfl⟩ : ∃ g, f = g + 1 := ⟨f - 1, by omega⟩
        have g1 : ¬ (6 : Int32) ≤ Int32.ofNat i := nle (R := 6) (by omega) (by decide)
        have k6 : (1000000 : Int64).toInt = 1000000 := by decide
        have cv := carLo (a := a) (b := X.2 175 12) (c := 1000000) a0 a1 hS0 hS1 (by rw [k6]; omega)
        rw [k6] at cv
        have n0 : 0 ≤ a.toInt * (X.2 175 12).toInt := Int.mul_nonneg a0 hS0
        have n1 : a.toInt * (X.2 175 12).toInt / 1000000 ≤ a.toInt := by
          have := Int.mul_le_mul_of_nonneg_left hS1 a0
          omega
        have ei : itr (X.2 175 12).toInt (n + 1) a.toInt = itr (X.2 175 12).toInt n (a * X.2 175 12 / 1000000).toInt := by rw [cv]; rfl
        show g_X4_isHopeless_16_b w _ _ _ _ X = _
        unfold g_X4_isHopeless_16_b
        simp only [rf_vl]
        rw [if_neg g1, of_succ, ei]
        exact ih f (i + 1) _ (by omega) (by omega) (by rw [cv]; exact Int.ediv_nonneg n0 (by omega)) (by rw [cv]; omega)
    obtain ⟨F, hF, hFb⟩ := fuel_ex
    rw [hF, key (6 - p.length) F p.length (hi - lo) (by omega) (by omega) (by rw [dv]; omega) (by rw [dv]; omega), dv]
    refine congrArg (fun z => some (z, X)) (bi_congr ⟨fun h => ⟨q, rfl, h⟩, fun ⟨q', e, h⟩ => ?_⟩)
    injection e with e
    rw [e]
    exact h
end PBChainC
