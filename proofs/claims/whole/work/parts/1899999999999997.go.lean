/-! rules: the class's loop over the tokens -/
section PBGo
def CB (st wt : List Int32) (p s o k b : Nat) : Prop := o ≤ 30 ∧ k ≤ 8 ∧ b ≤ 8 ∧ 3 * (st.length + wt.length) + (if s = 4 ∨ s = 5 then 3 else 0) ≤ p + 5 * o + 3 * b
/-- the class stands ahead of the token behind p, and r is what comes of it all -/
def cgo (w : rf_w) (n : Nat) (f : Nat → Int32) (r : Option (Int32 × rf_m)) (p : Nat) (st wt : List Int32) (s h o k b ac sp : Nat) : Prop := ∃ F a m, CA n f m ∧ LSm m st wt ∧ CN m s h o k b ac sp ∧ CB st wt p s o k b ∧ m.1 14 9 = Int32.ofNat p ∧ p ≤ n ∧ 1000 ≤ F + p ∧ a ≤ p ∧ g_X8_parse_62 w F (Int32.ofNat a) m = r
/-- it is refused -/
def cfin (r : Option (Int32 × rf_m)) (kd pl : Nat) : Prop := ∃ m, r = some (0, m) ∧ CF m kd pl
/-- it is taken -/
def cdone (n : Nat) (f : Nat → Int32) (r : Option (Int32 × rf_m)) (st : List Int32) (ac sp : Nat) : Prop := ∃ m s h o k b, r = some (1, m) ∧ CA n f m ∧ LSm m st [] ∧ CN m s h o k b ac sp ∧ st.length < 160
theorem cb_len {st wt : List Int32} {p s o k b n : Nat} (hn : n ≤ 300) (hp : p ≤ n) (h : CB st wt p s o k b) : st.length + wt.length ≤ 158 := by
  obtain ⟨h1, h2, h3, h4⟩ := h
  omega
theorem cgo_step {w : rf_w} {n p : Nat} {f : Nat → Int32} {r : Option (Int32 × rf_m)} {st wt : List Int32} {s h o k b ac sp : Nat} (hn : n ≤ 300) (hb : ∀ k, 0 ≤ (f k).toInt ∧ (f k).toInt ≤ 255) (hg : cgo w n f r p st wt s h o k b ac sp) (hs : s ≤ 5) : ∃ F a M, CT n f p M st wt s h o k b ac sp ∧ CB st wt p s o k b ∧ p ≤ n ∧ 999 ≤ F + p ∧ a ≤ p ∧ rf_bv (g_X8_takeToken w M) (fun m1 => g_X8_parse_62 w F (Int32.ofNat (a + 1)) m1) = r := by
  obtain ⟨F, a, m, ca, ls, cn, cb, h9, hp, hF, ha, hr⟩ := hg
  obtain ⟨F, rfl⟩ : ∃ G, F = G + 1 := ⟨F - 1, by omega⟩
  obtain ⟨M, n1, n2, n3, n4, n5, n6, n7, n8⟩ := next_c (w := w) hn hp ca.1 hb ca.2.1 h9
  refine ⟨F, a, M, ⟨⟨(n3 15 (by decide)).trans ca.1, (n4 7 (by decide) (by decide) (by decide) (by decide)).trans ca.2.1, (n4 5 (by decide) (by decide) (by decide) (by decide)).trans ca.2.2.1, (n4 6 (by decide) (by decide) (by decide) (by decide)).trans ca.2.2.2⟩, ⟨(n4 2 (by decide) (by decide) (by decide) (by decide)).trans ls.1, by rw [n3 16 (by decide)]; exact ls.2.1, (n4 18 (by decide) (by decide) (by decide) (by decide)).trans ls.2.2.1, by rw [n3 17 (by decide)]; exact ls.2.2.2⟩, ⟨(n4 12 (by decide) (by decide) (by decide) (by decide)).trans cn.1, (n4 13 (by decide) (by decide) (by decide) (by decide)).trans cn.2.1, (n4 14 (by decide) (by decide) (by decide) (by decide)).trans cn.2.2.1, (n4 15 (by decide) (by decide) (by decide) (by decide)).trans cn.2.2.2.1, (n4 16 (by decide) (by decide) (by decide) (by decide)).trans cn.2.2.2.2.1, (n4 4 (by decide) (by decide) (by decide) (by decide)).trans cn.2.2.2.2.2.1, (n4 3 (by decide) (by decide) (by decide) (by decide)).trans cn.2.2.2.2.2.2⟩, n5, n6, n7, n8⟩, cb, hp, by omega, ha, ?_⟩
  have st0 : g_X8_parse_62 w (F + 1) (Int32.ofNat a) m = g_X8_parse_62_b w (g_X8_parse_62 w F) (Int32.ofNat a) m := rfl
  rw [st0] at hr
  unfold g_X8_parse_62_b at hr
  have n300 : ¬ (300 : Int32) < Int32.ofNat a := nle' (b := a) (a := 300) (by omega) (by decide)
  rw [if_neg n300, cn.1, if_neg (show ¬ Int32.ofNat s = 6 from fun z => by have := (of_inj (b := 6) (by omega) (by decide)).mp z; omega), if_pos ca.2.2.1, n1, bv_sm, of_succ] at hr
  exact hr
theorem cgo_to {w : rf_w} {n p : Nat} {f : Nat → Int32} {r : Option (Int32 × rf_m)} {st wt st' wt' : List Int32} {s h o k b ac sp s' h' o' k' b' ac' sp' : Nat} (hn : n ≤ 300) (hb : ∀ k, 0 ≤ (f k).toInt ∧ (f k).toInt ≤ 255) (hg : cgo w n f r p st wt s h o k b ac sp) (hs : s ≤ 5) (ht : tkC f n p ≠ 0) (tr : ∀ M, p ≤ n → CT n f p M st wt s h o k b ac sp → CB st wt p s o k b → ∃ M', g_X8_takeToken w M = some M' ∧ CT n f p M' st' wt' s' h' o' k' b' ac' sp' ∧ CB st' wt' (tkE f n p) s' o' k' b') : cgo w n f r (tkE f n p) st' wt' s' h' o' k' b' ac' sp' := by
  obtain ⟨F, a, M, ct, cb, hp, hF, ha, hr⟩ := cgo_step hn hb hg hs
  obtain ⟨M', t1, ⟨ca, ls, cn, tk⟩, t3⟩ := tr M hp ct cb
  have e := tk_e (f := f) hp
  have e1 := e.2.2.2.2 ht
  rw [t1, bv_sm] at hr
  exact ⟨F, a + 1, M', ca, ls, cn, t3, tk.2.1, e.2.2.2.1, by omega, by omega, hr⟩
theorem cgo_fa {w : rf_w} {n p : Nat} {f : Nat → Int32} {r : Option (Int32 × rf_m)} {st wt : List Int32} {s h o k b ac sp kd pl : Nat} (hn : n ≤ 300) (hb : ∀ k, 0 ≤ (f k).toInt ∧ (f k).toInt ≤ 255) (hg : cgo w n f r p st wt s h o k b ac sp) (hs : s ≤ 5) (hk : 1 ≤ kd) (hk3 : kd ≤ 3) (tr : ∀ M, p ≤ n → CT n f p M st wt s h o k b ac sp → CB st wt p s o k b → ∃ M', g_X8_takeToken w M = some M' ∧ CF M' kd pl) : cfin r kd pl := by
  obtain ⟨F, a, M, ct, cb, hp, hF, ha, hr⟩ := cgo_step hn hb hg hs
  obtain ⟨M', t1, t2⟩ := tr M hp ct cb
  obtain ⟨F, rfl⟩ : ∃ G, F = G + 1 := ⟨F - 1, by omega⟩
  rw [t1, bv_sm] at hr
  have n5 : ¬ M'.1 14 5 = 0 := fun z => by
    rw [t2.1] at z
    have := (of_inj (b := 0) (by omega) (by decide)).mp z
    omega
  refine ⟨M', ?_, t2⟩
  rw [← hr]
  show g_X8_parse_62_b w (g_X8_parse_62 w F) (Int32.ofNat (a + 1)) M' = _
  unfold g_X8_parse_62_b
  simp only [if_neg n5, ite_self]
theorem cgo_dn {w : rf_w} {n p : Nat} {f : Nat → Int32} {r : Option (Int32 × rf_m)} {st wt st' : List Int32} {s h o k b ac sp h' o' k' b' ac' sp' : Nat} (hn : n ≤ 300) (hb : ∀ k, 0 ≤ (f k).toInt ∧ (f k).toInt ≤ 255) (hg : cgo w n f r p st wt s h o k b ac sp) (hs : s ≤ 5) (hl : st'.length < 160) (tr : ∀ M, p ≤ n → CT n f p M st wt s h o k b ac sp → CB st wt p s o k b → ∃ M', g_X8_takeToken w M = some M' ∧ CT n f p M' st' [] 6 h' o' k' b' ac' sp') : cdone n f r st' ac' sp' := by
  obtain ⟨F, a, M, ct, cb, hp, hF, ha, hr⟩ := cgo_step hn hb hg hs
  obtain ⟨M', t1, ca, ls, cn, tk⟩ := tr M hp ct cb
  obtain ⟨F, rfl⟩ : ∃ G, F = G + 1 := ⟨F - 1, by omega⟩
  rw [t1, bv_sm] at hr
  refine ⟨M', 6, h', o', k', b', ?_, ca, ls, cn, hl⟩
  rw [← hr]
  show g_X8_parse_62_b w (g_X8_parse_62 w F) (Int32.ofNat (a + 1)) M' = _
  unfold g_X8_parse_62_b
  simp only [if_pos ca.2.2.1, cn.1, if_pos (show Int32.ofNat 6 = 6 from rfl), ite_self]
/-- an operand where a sum goes on -/
theorem go_op {w : rf_w} {n p : Nat} {f : Nat → Int32} {r : Option (Int32 × rf_m)} {st wt : List Int32} {s h o k b ac sp : Nat} (hn : n ≤ 300) (hb : ∀ k, 0 ≤ (f k).toInt ∧ (f k).toInt ≤ 255) (hg : cgo w n f r p st wt s h o k b ac sp) (hs : s = 3 ∨ (s = 2 ∧ tkC f n p ≠ 109 ∧ tkC f n p ≠ 40)) : (opT (tkC f n p) → o < 30 → cgo w n f r (tkE f n p) (st ++ [opV f n p]) wt 4 (if s = 2 then 1 else h) (o + 1) (if s = 2 then 0 else k) b ac sp) ∧ (¬ (opT (tkC f n p) ∧ o < 30) → cfin r (opF (tkC f n p)) (tS f n p)) := by
  have r' := tk_rng (f := f) (n := n) (p := p)
  constructor
  · intro q1 q2
    have t0 : tkC f n p ≠ 0 := by unfold opT at q1; omega
    refine cgo_to hn hb hg (by omega) t0 (fun M hp ct cb => ?_)
    have e1 := (tk_e (f := f) hp).2.2.2.2 t0
    have len := cb_len hn hp cb
    have cb' : CB (st ++ [opV f n p]) wt (tkE f n p) 4 (o + 1) (if s = 2 then 0 else k) b := by
      obtain ⟨c1, c2, c3, c4⟩ := cb
      refine ⟨by omega, by split <;> omega, c3, ?_⟩
      rw [List.length_append, if_pos (Or.inl rfl)]
      simp only [List.length_cons, List.length_nil]
      split at c4 <;> omega
    rcases hs with q | ⟨q, q4, q5⟩
    · subst q
      obtain ⟨M', j1, j2⟩ := operand_ok (w := w) hn hp ct q1 q2 (by omega)
      rw [if_neg (by decide)] at cb' ⊢
      rw [if_neg (by decide)]
      exact ⟨M', token_c ct.2.2.1.1 (by decide) (fun z => absurd z (by decide)) (fun z => absurd z (by decide)) (fun z => absurd z (by decide)) (fun _ => j1) (fun z => absurd z (by decide)) (fun z => absurd z (by decide)), j2, cb'⟩
    · subst q
      obtain ⟨M', j1, j2⟩ := (one_op (w := w) hn hp cb.1 ct q4 q5).1 q1 q2 (by omega)
      rw [if_pos rfl] at cb' ⊢
      rw [if_pos rfl]
      exact ⟨M', token_c ct.2.2.1.1 (by decide) (fun z => absurd z (by decide)) (fun z => absurd z (by decide)) (fun _ => j1) (fun z => absurd z (by decide)) (fun z => absurd z (by decide)) (fun z => absurd z (by decide)), j2, cb'⟩
  · intro q
    refine cgo_fa hn hb hg (by omega) ?_ ?_ (fun M hp ct cb => ?_)
    · unfold opF; split <;> (try split) <;> omega
    · unfold opF; split <;> (try split) <;> omega
    · rcases hs with z | ⟨z, q4, q5⟩
      · subst z
        obtain ⟨M', j1, j2⟩ := operand_no (w := w) hn hp cb.1 ct q
        exact ⟨M', token_c ct.2.2.1.1 (by decide) (fun z => absurd z (by decide)) (fun z => absurd z (by decide)) (fun z => absurd z (by decide)) (fun _ => j1) (fun z => absurd z (by decide)) (fun z => absurd z (by decide)), j2⟩
      · subst z
        obtain ⟨M', j1, j2⟩ := (one_op (w := w) hn hp cb.1 ct q4 q5).2 q
        exact ⟨M', token_c ct.2.2.1.1 (by decide) (fun z => absurd z (by decide)) (fun z => absurd z (by decide)) (fun _ => j1) (fun z => absurd z (by decide)) (fun z => absurd z (by decide)) (fun z => absurd z (by decide)), j2⟩
/-- plus, minus, times -/
theorem go_sign {w : rf_w} {n p : Nat} {f : Nat → Int32} {r : Option (Int32 × rf_m)} {st wx wt : List Int32} {h o k b ac sp : Nat} {sg : Int32} (hn : n ≤ 300) (hb : ∀ k, 0 ≤ (f k).toInt ∧ (f k).toInt ≤ 255) (hg : cgo w n f r p st (wx ++ wt) 4 h o k b ac sp) (ht : (tkC f n p = 42 ∧ sg = -11) ∨ (tkC f n p = 43 ∧ sg = -12) ∨ (tkC f n p = 45 ∧ sg = -13)) (hl : lvl (losN sg) wx) (hst : stops (losN sg) wt) : cgo w n f r (tkE f n p) (st ++ wx) (sg :: wt) 3 h o k b ac sp := by
  have t0 : tkC f n p ≠ 0 := by omega
  refine cgo_to hn hb hg (by decide) t0 (fun M hp ct cb => ?_)
  have e1 := (tk_e (f := f) hp).2.2.2.2 t0
  have len := cb_len hn hp cb
  rw [List.length_append] at len
  obtain ⟨M', j1, j2⟩ := sign_go (w := w) ct ht hl hst (by omega)
  refine ⟨M', token_c ct.2.2.1.1 (by decide) (fun z => absurd z (by decide)) (fun z => absurd z (by decide)) (fun z => absurd z (by decide)) (fun z => absurd z (by decide)) (fun _ => j1) (fun z => absurd z (by decide)), j2, ?_⟩
  obtain ⟨c1, c2, c3, c4⟩ := cb
  refine ⟨c1, c2, c3, ?_⟩
  rw [if_neg (by decide)]
  rw [if_pos (Or.inl rfl)] at c4
  simp only [List.length_append, List.length_cons] at c4 ⊢
  omega
/-- a comparing sign -/
theorem go_cmp {w : rf_w} {n p : Nat} {f : Nat → Int32} {r : Option (Int32 × rf_m)} {st wx wt : List Int32} {o k b ac sp : Nat} {sg : Int32} (hn : n ≤ 300) (hb : ∀ k, 0 ≤ (f k).toInt ∧ (f k).toInt ≤ 255) (hg : cgo w n f r p st (wx ++ wt) 4 1 o k b ac sp) (ht : (tkC f n p = 60 ∧ sg = -14) ∨ (tkC f n p = 61 ∧ sg = -16) ∨ (tkC f n p = 62 ∧ sg = -15)) (hl : lvl (losN sg) wx) (hst : stops (losN sg) wt) : cgo w n f r (tkE f n p) (st ++ wx) (sg :: wt) 3 2 o k b ac sp := by
  have t0 : tkC f n p ≠ 0 := by omega
  refine cgo_to hn hb hg (by decide) t0 (fun M hp ct cb => ?_)
  have e1 := (tk_e (f := f) hp).2.2.2.2 t0
  have len := cb_len hn hp cb
  rw [List.length_append] at len
  obtain ⟨M', j1, j2⟩ := sign_cmp (w := w) ct ht hl hst (by omega)
  refine ⟨M', token_c ct.2.2.1.1 (by decide) (fun z => absurd z (by decide)) (fun z => absurd z (by decide)) (fun z => absurd z (by decide)) (fun z => absurd z (by decide)) (fun _ => j1) (fun z => absurd z (by decide)), j2, ?_⟩
  obtain ⟨c1, c2, c3, c4⟩ := cb
  refine ⟨c1, c2, c3, ?_⟩
  rw [if_neg (by decide)]
  rw [if_pos (Or.inl rfl)] at c4
  simp only [List.length_append, List.length_cons] at c4 ⊢
  omega
theorem go_ncmp {w : rf_w} {n p : Nat} {f : Nat → Int32} {r : Option (Int32 × rf_m)} {st wt : List Int32} {o k b ac sp : Nat} (hn : n ≤ 300) (hb : ∀ k, 0 ≤ (f k).toInt ∧ (f k).toInt ≤ 255) (hg : cgo w n f r p st wt 4 1 o k b ac sp) (h1 : tkC f n p ≠ 42) (h2 : tkC f n p ≠ 43) (h3 : tkC f n p ≠ 45) (h4 : tkC f n p ≠ 60) (h5 : tkC f n p ≠ 61) (h6 : tkC f n p ≠ 62) : cfin r 1 (tS f n p) := by
  refine cgo_fa hn hb hg (by decide) (by decide) (by decide) (fun M hp ct cb => ?_)
  obtain ⟨M', j1, j2⟩ := sign_no (w := w) ct h1 h2 h3 h4 h5 h6
  exact ⟨M', token_c ct.2.2.1.1 (by decide) (fun z => absurd z (by decide)) (fun z => absurd z (by decide)) (fun z => absurd z (by decide)) (fun z => absurd z (by decide)) (fun _ => j1) (fun z => absurd z (by decide)), j2⟩
/-- behind a one -/
def aft (f : Nat → Int32) (n p s h : Nat) : Prop := s = 5 ∨ (s = 4 ∧ h = 2 ∧ tkC f n p ≠ 42 ∧ tkC f n p ≠ 43 ∧ tkC f n p ≠ 45)
theorem aft_c {w : rf_w} {n p : Nat} {f : Nat → Int32} {m M : rf_m} {st wt : List Int32} {s h o k b ac sp : Nat} (ha : aft f n p s h) (ct : CT n f p m st wt s h o k b ac sp) (hj : g_X8_takeJoint w m = some M) : g_X8_takeToken w m = some M := by
  rcases ha with q | ⟨q, q1, q2, q3, q4⟩
  · subst q
    exact token_c ct.2.2.1.1 (by decide) (fun z => absurd z (by decide)) (fun z => absurd z (by decide)) (fun z => absurd z (by decide)) (fun z => absurd z (by decide)) (fun z => absurd z (by decide)) (fun _ => hj)
  · subst q
    exact token_c ct.2.2.1.1 (by decide) (fun z => absurd z (by decide)) (fun z => absurd z (by decide)) (fun z => absurd z (by decide)) (fun z => absurd z (by decide)) (fun _ => (sign_on (w := w) ct q2 q3 q4).1 q1 M hj) (fun z => absurd z (by decide))
theorem aft_s {f : Nat → Int32} {n p s h : Nat} (ha : aft f n p s h) : s ≤ 5 ∧ (s = 4 ∨ s = 5) := by
  rcases ha with q | ⟨q, _⟩ <;> omega
theorem go_and {w : rf_w} {n p : Nat} {f : Nat → Int32} {r : Option (Int32 × rf_m)} {st wx wt : List Int32} {s h o k b ac sp : Nat} (hn : n ≤ 300) (hb : ∀ k, 0 ≤ (f k).toInt ∧ (f k).toInt ≤ 255) (hg : cgo w n f r p st (wx ++ wt) s h o k b ac sp) (ha : aft f n p s h) (ht : tkC f n p = 107) (hl : lvl 5 wx) (hst : stops 5 wt) : cgo w n f r (tkE f n p) (st ++ wx) (-18 :: wt) 2 h o k b ac sp := by
  have t0 : tkC f n p ≠ 0 := by omega
  refine cgo_to hn hb hg (aft_s ha).1 t0 (fun M hp ct cb => ?_)
  have e1 := (tk_e (f := f) hp).2.2.2.2 t0
  have len := cb_len hn hp cb
  rw [List.length_append] at len
  obtain ⟨M', j1, j2⟩ := joint_and (w := w) hn hp ct ht hl hst (by omega)
  refine ⟨M', aft_c ha ct j1, j2, ?_⟩
  obtain ⟨c1, c2, c3, c4⟩ := cb
  refine ⟨c1, c2, c3, ?_⟩
  rw [if_neg (by decide)]
  rw [if_pos (aft_s ha).2] at c4
  simp only [List.length_append, List.length_cons] at c4 ⊢
  omega
theorem go_or {w : rf_w} {n p : Nat} {f : Nat → Int32} {r : Option (Int32 × rf_m)} {st wx wt : List Int32} {s h o k b ac sp : Nat} (hn : n ≤ 300) (hb : ∀ k, 0 ≤ (f k).toInt ∧ (f k).toInt ≤ 255) (hg : cgo w n f r p st (wx ++ wt) s h o k b ac sp) (ha : aft f n p s h) (ht : tkC f n p = 108) (hl : lvl 6 wx) (hst : stops 6 wt) : cgo w n f r (tkE f n p) (st ++ wx) (-19 :: wt) 2 h o k b ac sp := by
  have t0 : tkC f n p ≠ 0 := by omega
  refine cgo_to hn hb hg (aft_s ha).1 t0 (fun M hp ct cb => ?_)
  have e1 := (tk_e (f := f) hp).2.2.2.2 t0
  have len := cb_len hn hp cb
  rw [List.length_append] at len
  obtain ⟨M', j1, j2⟩ := joint_or (w := w) hn hp ct ht hl hst (by omega)
  refine ⟨M', aft_c ha ct j1, j2, ?_⟩
  obtain ⟨c1, c2, c3, c4⟩ := cb
  refine ⟨c1, c2, c3, ?_⟩
  rw [if_neg (by decide)]
  rw [if_pos (aft_s ha).2] at c4
  simp only [List.length_append, List.length_cons] at c4 ⊢
  omega
theorem go_close {w : rf_w} {n p : Nat} {f : Nat → Int32} {r : Option (Int32 × rf_m)} {st wx wt : List Int32} {s h o k b ac sp : Nat} (hn : n ≤ 300) (hb : ∀ k, 0 ≤ (f k).toInt ∧ (f k).toInt ≤ 255) (hg : cgo w n f r p st (wx ++ -20 :: wt) s h o k (b + 1) ac sp) (ha : aft f n p s h) (ht : tkC f n p = 41) (hl : lvl 6 wx) : cgo w n f r (tkE f n p) (st ++ wx) wt 5 h o k b ac sp := by
  have t0 : tkC f n p ≠ 0 := by omega
  refine cgo_to hn hb hg (aft_s ha).1 t0 (fun M hp ct cb => ?_)
  have e1 := (tk_e (f := f) hp).2.2.2.2 t0
  have len := cb_len hn hp cb
  rw [List.length_append, List.length_cons] at len
  obtain ⟨M', j1, j2⟩ := joint_close (w := w) hn hp ct cb.2.2.1 ht hl (by omega)
  refine ⟨M', aft_c ha ct j1, j2, ?_⟩
  obtain ⟨c1, c2, c3, c4⟩ := cb
  refine ⟨c1, c2, by omega, ?_⟩
  rw [if_pos (Or.inr rfl)]
  rw [if_pos (aft_s ha).2] at c4
  simp only [List.length_append, List.length_cons] at c4 ⊢
  omega
theorem go_end {w : rf_w} {n p : Nat} {f : Nat → Int32} {r : Option (Int32 × rf_m)} {st wx : List Int32} {s h o k ac sp : Nat} (hn : n ≤ 300) (hb : ∀ k, 0 ≤ (f k).toInt ∧ (f k).toInt ≤ 255) (hg : cgo w n f r p st wx s h o k 0 ac sp) (ha : aft f n p s h) (ht : tkC f n p = 0) (hl : lvl 6 wx) : cdone n f r (st ++ wx) ac sp := by
  have hlen : (st ++ wx).length < 158 := by
    obtain ⟨F, a, M, ct, cb, hp, hF, ha', hr⟩ := cgo_step hn hb hg (aft_s ha).1
    obtain ⟨c1, c2, c3, c4⟩ := cb
    rw [if_pos (aft_s ha).2] at c4
    rw [List.length_append]
    omega
  refine cgo_dn (st' := st ++ wx) (h' := h) (o' := o) (k' := k) (b' := 0) hn hb hg (aft_s ha).1 (by omega) (fun M hp ct cb => ?_)
  obtain ⟨M', j1, j2⟩ := joint_end (w := w) hn hp ct ht hl (by rw [List.length_append] at hlen; omega)
  exact ⟨M', aft_c ha ct j1, j2⟩
theorem go_no {w : rf_w} {n p : Nat} {f : Nat → Int32} {r : Option (Int32 × rf_m)} {st wt : List Int32} {s h o k b ac sp : Nat} (hn : n ≤ 300) (hb : ∀ k, 0 ≤ (f k).toInt ∧ (f k).toInt ≤ 255) (hg : cgo w n f r p st wt s h o k b ac sp) (ha : aft f n p s h) (h7 : tkC f n p ≠ 107) (h8 : tkC f n p ≠ 108) (h4 : tkC f n p = 41 → b = 0) (h0 : tkC f n p = 0 → b ≠ 0) : cfin r 1 (tS f n p) := by
  refine cgo_fa hn hb hg (aft_s ha).1 (by decide) (by decide) (fun M hp ct cb => ?_)
  obtain ⟨M', j1, j2⟩ := joint_no (w := w) hn hp cb.2.2.1 ct h7 h8 h4 h0
  exact ⟨M', aft_c ha ct j1, j2⟩
theorem stk {f : Nat → Int32} {n p : Nat} (hp : p ≤ n) (h : tkC f n p = 109) : p + 3 ≤ tkE f n p := by
  have hw := tC_word (f := f) (n := n) (s := tS f n p) (by show 99 ≤ tkC f n p; omega)
  have e := hw.1
  rw [show tC f n (tS f n p) = 101 + 8 from h] at e
  have l := (wc_iff (i := 8) (by decide)).mp e.symm
  have l2 := congrArg List.length l
  rw [lts_len] at l2
  have l3 : (rf_sB (1000001 + 8)).length = 3 := by decide
  have e1 := tk_e (f := f) hp
  have : tkE f n p = tE f n (tS f n p) := rfl
  omega
theorem go_not {w : rf_w} {n p : Nat} {f : Nat → Int32} {r : Option (Int32 × rf_m)} {st wt : List Int32} {h o k b ac sp : Nat} (hn : n ≤ 300) (hb : ∀ k, 0 ≤ (f k).toInt ∧ (f k).toInt ≤ 255) (hg : cgo w n f r p st wt 2 h o k b ac sp) (ht : tkC f n p = 109) : (k < 8 → (∀ t, wt = -17 :: t → cgo w n f r (tkE f n p) st t 2 h o (k + 1) b ac sp) ∧ ((∀ t, wt ≠ -17 :: t) → cgo w n f r (tkE f n p) st (-17 :: wt) 2 h o (k + 1) b ac sp)) ∧ (k = 8 → cfin r 3 (tS f n p)) := by
  have t0 : tkC f n p ≠ 0 := by omega
  refine ⟨fun k8 => ⟨fun t e => ?_, fun hne => ?_⟩, fun k8 => ?_⟩
  · refine cgo_to hn hb hg (by decide) t0 (fun M hp ct cb => ?_)
    have e1 := (tk_e (f := f) hp).2.2.2.2 t0
    have len := cb_len hn hp cb
    obtain ⟨M', j1, j2⟩ := ((one_not (w := w) hn hp cb.2.1 ct ht).1 k8).1 t e (by subst e; simp only [List.length_cons] at len; omega)
    refine ⟨M', token_c ct.2.2.1.1 (by decide) (fun z => absurd z (by decide)) (fun z => absurd z (by decide)) (fun _ => j1) (fun z => absurd z (by decide)) (fun z => absurd z (by decide)) (fun z => absurd z (by decide)), j2, ?_⟩
    subst e
    obtain ⟨c1, c2, c3, c4⟩ := cb
    refine ⟨c1, by omega, c3, ?_⟩
    rw [if_neg (by decide)] at c4 ⊢
    simp only [List.length_cons] at c4
    omega
  · refine cgo_to hn hb hg (by decide) t0 (fun M hp ct cb => ?_)
    have e1 := stk hp ht
    have len := cb_len hn hp cb
    obtain ⟨M', j1, j2⟩ := ((one_not (w := w) hn hp cb.2.1 ct ht).1 k8).2 hne (by omega)
    refine ⟨M', token_c ct.2.2.1.1 (by decide) (fun z => absurd z (by decide)) (fun z => absurd z (by decide)) (fun _ => j1) (fun z => absurd z (by decide)) (fun z => absurd z (by decide)) (fun z => absurd z (by decide)), j2, ?_⟩
    obtain ⟨c1, c2, c3, c4⟩ := cb
    refine ⟨c1, by omega, c3, ?_⟩
    rw [if_neg (by decide)] at c4 ⊢
    simp only [List.length_cons]
    omega
  · refine cgo_fa hn hb hg (by decide) (by decide) (by decide) (fun M hp ct cb => ?_)
    obtain ⟨M', j1, j2⟩ := (one_not (w := w) hn hp cb.2.1 ct ht).2 k8
    exact ⟨M', token_c ct.2.2.1.1 (by decide) (fun z => absurd z (by decide)) (fun z => absurd z (by decide)) (fun _ => j1) (fun z => absurd z (by decide)) (fun z => absurd z (by decide)) (fun z => absurd z (by decide)), j2⟩
theorem go_br {w : rf_w} {n p : Nat} {f : Nat → Int32} {r : Option (Int32 × rf_m)} {st wt : List Int32} {h o k b ac sp : Nat} (hn : n ≤ 300) (hb : ∀ k, 0 ≤ (f k).toInt ∧ (f k).toInt ≤ 255) (hg : cgo w n f r p st wt 2 h o k b ac sp) (ht : tkC f n p = 40) : (b < 8 → cgo w n f r (tkE f n p) st (-20 :: wt) 2 h o 0 (b + 1) ac sp) ∧ (b = 8 → cfin r 3 (tS f n p)) := by
  have t0 : tkC f n p ≠ 0 := by omega
  constructor
  · intro b8
    refine cgo_to hn hb hg (by decide) t0 (fun M hp ct cb => ?_)
    have e1 := (tk_e (f := f) hp).2.2.2.2 t0
    have len := cb_len hn hp cb
    obtain ⟨M', j1, j2⟩ := (one_br (w := w) hn hp cb.2.2.1 ct ht).1 b8 (by omega)
    refine ⟨M', token_c ct.2.2.1.1 (by decide) (fun z => absurd z (by decide)) (fun z => absurd z (by decide)) (fun _ => j1) (fun z => absurd z (by decide)) (fun z => absurd z (by decide)) (fun z => absurd z (by decide)), j2, ?_⟩
    obtain ⟨c1, c2, c3, c4⟩ := cb
    refine ⟨c1, by omega, by omega, ?_⟩
    rw [if_neg (by decide)] at c4 ⊢
    simp only [List.length_cons]
    omega
  · intro b8
    refine cgo_fa hn hb hg (by decide) (by decide) (by decide) (fun M hp ct cb => ?_)
    obtain ⟨M', j1, j2⟩ := (one_br (w := w) hn hp cb.2.2.1 ct ht).2 b8
    exact ⟨M', token_c ct.2.2.1.1 (by decide) (fun z => absurd z (by decide)) (fun z => absurd z (by decide)) (fun _ => j1) (fun z => absurd z (by decide)) (fun z => absurd z (by decide)) (fun z => absurd z (by decide)), j2⟩
end PBGo
