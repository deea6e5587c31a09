/-! rules: the whole text, both sides -/
section PBReads
variable {w : rf_w} {n c : Nat} {f : Nat → Int32} {r : Option (Int32 × rf_m)}
theorem go_act {p : Nat} {st wt : List Int32} {h o k b ac sp : Nat} (hn : n ≤ 300) (hb : ∀ k, 0 ≤ (f k).toInt ∧ (f k).toInt ≤ 255) (hg : cgo w n f r p st wt 0 h o k b ac sp) : (101 ≤ tkC f n p → tkC f n p ≤ 105 → cgo w n f r (tkE f n p) st wt (if tkC f n p = 101 ∨ tkC f n p = 103 then 1 else 3) h o k b (tkC f n p - 100) sp) ∧ (¬ (101 ≤ tkC f n p ∧ tkC f n p ≤ 105) → cfin r (if tkC f n p < 99 ∨ (106 ≤ tkC f n p ∧ tkC f n p ≤ 109) then 1 else 2) (tS f n p)) := by
  constructor
  · intro q1 q2
    have t0 : tkC f n p ≠ 0 := by omega
    refine cgo_to hn hb hg (by decide) t0 (fun M hp ct cb => ?_)
    have e1 := (tk_e (f := f) hp).2.2.2.2 t0
    obtain ⟨M', j1, j2⟩ := (act_t (w := w) hn hp ct).1 q1 q2
    refine ⟨M', token_c ct.2.2.1.1 (by decide) (fun _ => j1) (fun z => absurd z (by decide)) (fun z => absurd z (by decide)) (fun z => absurd z (by decide)) (fun z => absurd z (by decide)) (fun z => absurd z (by decide)), j2, ?_⟩
    obtain ⟨c1, c2, c3, c4⟩ := cb
    refine ⟨c1, c2, c3, ?_⟩
    rw [if_neg (by decide)] at c4
    rw [if_neg (by split <;> omega)]
    omega
  · intro q
    refine cgo_fa hn hb hg (by decide) ?_ ?_ (fun M hp ct cb => ?_)
    · split <;> decide
    · split <;> decide
    · obtain ⟨M', j1, j2⟩ := (act_t (w := w) hn hp ct).2 q
      exact ⟨M', token_c ct.2.2.1.1 (by decide) (fun _ => j1) (fun z => absurd z (by decide)) (fun z => absurd z (by decide)) (fun z => absurd z (by decide)) (fun z => absurd z (by decide)) (fun z => absurd z (by decide)), j2⟩
theorem go_if {p : Nat} {st wt : List Int32} {h o k b ac sp : Nat} (hn : n ≤ 300) (hb : ∀ k, 0 ≤ (f k).toInt ∧ (f k).toInt ≤ 255) (hg : cgo w n f r p st wt 1 h o k b ac sp) : (tkC f n p = 106 → cgo w n f r (tkE f n p) st wt 2 h o k b ac sp) ∧ (tkC f n p ≠ 106 → cfin r 1 (tS f n p)) := by
  constructor
  · intro q
    have t0 : tkC f n p ≠ 0 := by omega
    refine cgo_to hn hb hg (by decide) t0 (fun M hp ct cb => ?_)
    have e1 := (tk_e (f := f) hp).2.2.2.2 t0
    obtain ⟨M', j1, j2⟩ := (if_c (w := w) hn hp ct).1 q
    refine ⟨M', token_c ct.2.2.1.1 (by decide) (fun z => absurd z (by decide)) (fun _ => j1) (fun z => absurd z (by decide)) (fun z => absurd z (by decide)) (fun z => absurd z (by decide)) (fun z => absurd z (by decide)), j2, ?_⟩
    obtain ⟨c1, c2, c3, c4⟩ := cb
    refine ⟨c1, c2, c3, ?_⟩
    rw [if_neg (by decide)] at c4 ⊢
    omega
  · intro q
    refine cgo_fa hn hb hg (by decide) (by decide) (by decide) (fun M hp ct cb => ?_)
    obtain ⟨M', j1, j2⟩ := (if_c (w := w) hn hp ct).2 q
    exact ⟨M', token_c ct.2.2.1.1 (by decide) (fun z => absurd z (by decide)) (fun _ => j1) (fun z => absurd z (by decide)) (fun z => absurd z (by decide)) (fun z => absurd z (by decide)) (fun z => absurd z (by decide)), j2⟩
theorem go_sum {p : Nat} {st wx : List Int32} {o k b ac sp : Nat} (hn : n ≤ 300) (hb : ∀ k, 0 ≤ (f k).toInt ∧ (f k).toInt ≤ 255) (hg : cgo w n f r p st wx 4 0 o k b ac sp) (hac : ac ≤ 5) (hl : lvl 6 wx) (h1 : tkC f n p ≠ 42) (h2 : tkC f n p ≠ 43) (h3 : tkC f n p ≠ 45) : (tkC f n p = 0 → cdone n f r (st ++ wx) ac (st ++ wx).length) ∧ (tkC f n p = 106 → ac = 2 → cgo w n f r (tkE f n p) (st ++ wx) [] 2 0 o k b ac (st ++ wx).length) ∧ (tkC f n p ≠ 0 → (tkC f n p ≠ 106 ∨ ac ≠ 2) → cfin r 1 (tS f n p)) := by
  have hlen : st.length + wx.length < 158 ∧ (st ++ wx).length < 160 := by
    obtain ⟨F, a, M, ct, cb, hp, hF, ha', hr⟩ := cgo_step hn hb hg (by decide)
    obtain ⟨c1, c2, c3, c4⟩ := cb
    rw [if_pos (Or.inl rfl)] at c4
    rw [List.length_append]
    omega
  refine ⟨fun q => ?_, fun q qa => ?_, fun q qa => ?_⟩
  · refine cgo_dn (st' := st ++ wx) (h' := 0) (o' := o) (k' := k) (b' := b) hn hb hg (by decide) hlen.2 (fun M hp ct cb => ?_)
    obtain ⟨M', j1, j2⟩ := (sum_end (w := w) hn hp ct hac hl hlen.1).1 q
    exact ⟨M', token_c ct.2.2.1.1 (by decide) (fun z => absurd z (by decide)) (fun z => absurd z (by decide)) (fun z => absurd z (by decide)) (fun z => absurd z (by decide)) (fun _ => (sign_on (w := w) ct h1 h2 h3).2 rfl M' j1) (fun z => absurd z (by decide)), j2⟩
  · have t0 : tkC f n p ≠ 0 := by omega
    refine cgo_to hn hb hg (by decide) t0 (fun M hp ct cb => ?_)
    have e1 := (tk_e (f := f) hp).2.2.2.2 t0
    obtain ⟨M', j1, j2⟩ := (sum_end (w := w) hn hp ct hac hl hlen.1).2.1 q qa
    refine ⟨M', token_c ct.2.2.1.1 (by decide) (fun z => absurd z (by decide)) (fun z => absurd z (by decide)) (fun z => absurd z (by decide)) (fun z => absurd z (by decide)) (fun _ => (sign_on (w := w) ct h1 h2 h3).2 rfl M' j1) (fun z => absurd z (by decide)), j2, ?_⟩
    obtain ⟨c1, c2, c3, c4⟩ := cb
    refine ⟨c1, c2, c3, ?_⟩
    rw [if_neg (by decide)]
    rw [if_pos (Or.inl rfl)] at c4
    simp only [List.length_append, List.length_nil]
    omega
  · refine cgo_fa hn hb hg (by decide) (by decide) (by decide) (fun M hp ct cb => ?_)
    obtain ⟨M', j1, j2⟩ := (sum_end (w := w) hn hp ct hac hl hlen.1).2.2 q qa
    exact ⟨M', token_c ct.2.2.1.1 (by decide) (fun z => absurd z (by decide)) (fun z => absurd z (by decide)) (fun z => absurd z (by decide)) (fun z => absurd z (by decide)) (fun _ => (sign_on (w := w) ct h1 h2 h3).2 rfl M' j1) (fun z => absurd z (by decide)), j2⟩
/-- what reading a text leaves as it was -/
def frT (c : Nat) (A M : rf_m) : Prop := (∀ z, z ≠ 206 → z ≠ 233 → z ≠ c → z ≠ c + 1 → z ≠ c + 2 → M.1 z = A.1 z) ∧ (∀ k, k < 46 ∨ 52 < k → M.1 206 k = A.1 206 k) ∧ (∀ z k, ¬ (z = 206 ∧ k = 53) → M.2 z k = A.2 z k)
theorem frT_K {A M : rf_m} (h : frK c A M) : frT c A M := ⟨h.1, h.2.1, h.2.2.2⟩
theorem frT_r {A : rf_m} : frT c A A := frT_K frK_r
theorem frT_t {A B M : rf_m} (h : frT c A B) (h' : frT c B M) : frT c A M := ⟨fun z a1 a2 a3 a4 a5 => (h'.1 z a1 a2 a3 a4 a5).trans (h.1 z a1 a2 a3 a4 a5), fun k a => (h'.2.1 k a).trans (h.2.1 k a), fun z k a => (h'.2.2 z k a).trans (h.2.2 z k a)⟩
/-- refused alike -/
def rNo (c : Nat) (A : rf_m) (r : Option (Int32 × rf_m)) (res : Option (rf_m ⊕ rf_m)) : Prop := ∃ M kd pl, res = some (.inr M) ∧ M.1 233 6 = Int32.ofNat kd ∧ M.1 233 7 = Int32.ofNat pl ∧ cfin r kd pl ∧ frT c A M
/-- taken alike -/
def rYes (n : Nat) (f : Nat → Int32) (c : Nat) (A : rf_m) (r : Option (Int32 × rf_m)) (res : Option (rf_m ⊕ rf_m)) : Prop := ∃ M ac st1 st2 I1 I2 d1 d2, res = some (.inl M) ∧ 1 ≤ ac ∧ ac ≤ 5 ∧ cdone n f r (st1 ++ st2) ac st1.length ∧ M.1 c 0 = Int32.ofNat (ac - 1) ∧ M.1 c 4 = Int32.ofNat (List.length I1) ∧ RI c M (I1 ++ I2) ∧ (I1 ++ I2).length ≤ 300 ∧ d1 ≤ 30 ∧ d2 ≤ 30 ∧ (ac ≠ 1 → ac ≠ 3 → eqv d1 (st1.map dC) (I1.map dRp) False) ∧ ((st2 = [] ∧ I2 = []) ∨ eqv d2 (st2.map dC) (I2.map dRp) True) ∧ frT c A M
theorem rNo_of {A M : rf_m} {res : Option (rf_m ⊕ rf_m)} (hA : frT c A M) {M' : rf_m} (e : res = some (.inr M')) (h : stopped c M M' r) : rNo c A r res := by
  obtain ⟨kd, pl, h1, h2, h3, h4⟩ := h
  exact ⟨M', kd, pl, e, h1, h2, h3, frT_t hA (frT_K h4)⟩
/-- a place of the object is set -/
theorem set_c {M : rf_m} {p o b : Nat} {I : List (Int32 × Int32)} {j : Nat} {x : Int32} (hr : rob w c) (hj : j ≠ 3) (hM : RM n f c M p I o b) : RM n f c (rf_i M c j x) p I o b ∧ frT c M (rf_i M c j x) ∧ (∀ k, k ≠ j → (rf_i M c j x).1 c k = M.1 c k) ∧ (rf_i M c j x).1 c j = x := by
  obtain ⟨n1, n2, n3, n4, n5, n6, n7, n8, n9⟩ := rob_ne hr
  obtain ⟨a1, a2, a3, a4, a5, a6⟩ := hM
  have e206 : (rf_i M c j x).1 206 = M.1 206 := by rw [rf_i_c, if_neg (Ne.symm n1)]
  have e234 : (rf_i M c j x).1 234 = M.1 234 := by rw [rf_i_c, if_neg (Ne.symm n3)]
  have ec : ∀ k, k ≠ j → (rf_i M c j x).1 c k = M.1 c k := fun k hk => by rw [rf_i_c, if_pos rfl, pu_ne hk]
  refine ⟨⟨by rw [e206]; exact a1, fun k => by rw [e234]; exact a2 k, ?_, by rw [e206]; exact a4, by rw [e206]; exact a5, ?_⟩, ⟨fun z _ _ q _ _ => by rw [rf_i_c, if_neg q], fun k _ => by rw [e206], fun z k _ => rfl⟩, ec, by rw [rf_i_c, if_pos rfl, pu_at]⟩
  · unfold RK at *
    rw [e206]
    exact a3
  · refine ⟨(ec 3 (Ne.symm hj)).trans a6.1, ?_⟩
    rw [rf_i_c, if_neg (by omega), rf_i_c, if_neg (by omega)]
    exact a6.2
/-- the end of a text, with its condition -/
theorem cond_K (H : HC w n f c) {A M : rf_m} {p o ac sp h : Nat} {I : List (Int32 × Int32)} {st : List Int32} {d1 : Nat} (hA : frT c A M) (hM : RM n f c M p I o 0) (hI : I.length ≤ p) (hg : cgo w n f r p st [] 2 h o 0 0 ac sp) (hsp : sp = st.length) (h1 : 1 ≤ ac) (h5 : ac ≤ 5) (h0 : M.1 c 0 = Int32.ofNat (ac - 1)) (h4 : M.1 c 4 = Int32.ofNat I.length) (hd : d1 ≤ 30) (he : ac ≠ 1 → ac ≠ 3 → eqv d1 (st.map dC) (I.map dRp) False) : rNo c A r (rf_bx (g_X14_readAny w 16 M) fun m3 => if m3.1 206 47 = 1 then some (.inl m3) else rf_bv (g_X14_stop w m3 1) fun m4 => some (.inr m4)) ∨ rYes n f c A r (rf_bx (g_X14_readAny w 16 M) fun m3 => if m3.1 206 47 = 1 then some (.inl m3) else rf_bv (g_X14_stop w m3 1) fun m4 => some (.inr m4)) := by
  have H' := H
  obtain ⟨hn, hb, hc, hr⟩ := H
  rcases any_K H' 16 0 (by decide) (by decide) M p I o st [] h hM hI hg trivial with ⟨M', b1, b2⟩ | ⟨M2, p2, J, d, C, wx, s', h', b1, b2, b3, b4, b5, b6, b7, b8, b9⟩
  · rw [b1, bx_r]
    exact Or.inl (rNo_of hA rfl b2)
  · rw [b1, bx_l]
    have hp2 := cgo_b b5
    have k1 : M2.1 206 47 = 1 ↔ tkC f n p2 = 0 := by rw [b2.2.2.1.2.2.1]; exact sr_1
    rw [List.append_nil] at b5
    by_cases t : tkC f n p2 = 0
    · right
      rw [if_pos (k1.mpr t)]
      have g := go_end hn hb b5 b6 t b7
      rw [List.append_assoc, hsp] at g
      refine ⟨M2, ac, st, C ++ wx, I, J, d1, d, rfl, h1, h5, g, (b3.2.2.1 0 (by decide)).trans h0, (b3.2.2.1 4 (by decide)).trans h4, b2.2.2.2.2.2, ?_, hd, by omega, he, Or.inr b8, frT_t hA (frT_K b3)⟩
      rw [List.length_append]; omega
    · left
      rw [if_neg (fun z => t (k1.mp z))]
      obtain ⟨M', s1, s2⟩ := stop_r (w := w) (r := r) (x := 1) (kd := 1) hr rfl b2.2.2.1 (go_no hn hb b5 b6 b9.1 b9.2 (fun _ => rfl) (fun z => absurd z t))
      rw [s1, bv_sm]
      exact rNo_of (frT_t hA (frT_K b3)) rfl s2
end PBReads
