/-! rules: terms and sums, both sides -/
section PBTerm
variable {w : rf_w} {n c : Nat} {f : Nat → Int32} {r : Option (Int32 × rf_m)} {ac sp : Nat}
def HC (w : rf_w) (n : Nat) (f : Nat → Int32) (c : Nat) : Prop := n ≤ 300 ∧ (∀ k, 0 ≤ (f k).toInt ∧ (f k).toInt ≤ 255) ∧ w.2.2 0 = some c ∧ rob w c
def okSm (w : rf_w) (n : Nat) (f : Nat → Int32) (c : Nat) (r : Option (Int32 × rf_m)) (ac sp : Nat) (A : rf_m) (p0 : Nat) (I : List (Int32 × Int32)) (o b : Nat) (st wt : List Int32) (h k l : Nat) (ex : Nat → Prop) (res : Option (rf_m ⊕ rf_m)) : Prop := (∃ M', res = some (.inr M') ∧ stopped c A M' r) ∨ (∃ M' p J d C wx, res = some (.inl M') ∧ RM n f c M' p (I ++ J) (o + d) b ∧ frK c A M' ∧ J.length + p0 ≤ p ∧ cgo w n f r p (st ++ C) (wx ++ wt) 4 h (o + d) k b ac sp ∧ lvl l wx ∧ eqv d ((C ++ wx).map dC) (J.map dRp) False ∧ ex (tkC f n p))
theorem stopped_t {A B M : rf_m} (h : frK c A B) (j : stopped c B M r) : stopped c A M r := by
  obtain ⟨kd, pl, j1, j2, j3, j4⟩ := j
  exact ⟨kd, pl, j1, j2, j3, frK_t h j4⟩
theorem lvl_m {l l' : Nat} {wx : List Int32} (h : lvl l wx) (hl : l ≤ l') : lvl l' wx := fun x hx => ⟨by have := (h x hx).1; omega, (h x hx).2⟩
theorem lvl_a {l : Nat} {a b : List Int32} (h : lvl l a) (h' : lvl l b) : lvl l (a ++ b) := fun x hx => by
  rcases List.mem_append.mp hx with q | q
  · exact h x q
  · exact h' x q
theorem lvl_1 {l : Nat} {x : Int32} (h : losN x ≤ l) (h' : x ≠ -20) : lvl l [x] := fun y hy => by
  rcases List.mem_cons.mp hy with rfl | hy
  · exact ⟨h, h'⟩
  · cases hy
theorem lvl_0 {l : Nat} : lvl l [] := fun y hy => by cases hy
theorem g5 {α : Type} {c : Nat} {k : Option α} (hr : rob w c) : rf_g (rf_isO w c 12) (rf_g (rf_isR w c 5 (c + 1)) (rf_g (rf_isA w (c + 1) .int 300) (rf_g (rf_isR w c 6 (c + 2)) (rf_g (rf_isA w (c + 2) .int 300) k)))) = k := by
  obtain ⟨r1, r2, r3, r4, r5, r6⟩ := hr
  rw [r1, r2, r3, r4, r5, g_t, g_t, g_t, g_t, g_t]
theorem term_loop (H : HC w n f c) {A : rf_m} {p0 o b h k : Nat} {I : List (Int32 × Int32)} {st wt : List Int32} (hI : I.length ≤ p0) (hst : stops 1 wt) : ∀ F (M : rf_m) p J d C wx, n - p < F → RM n f c M p (I ++ J) (o + d) b → frK c A M → J.length + p0 ≤ p → cgo w n f r p (st ++ C) (wx ++ wt) 4 h (o + d) k b ac sp → lvl 1 wx → eqv d ((C ++ wx).map dC) (J.map dRp) False → okSm w n f c r ac sp A p0 I o b st wt h k 1 (fun t => t ≠ 42) (g_X14_readTerm_4 w F M) := by
  obtain ⟨hn, hb, hc, hr⟩ := H
  intro F
  induction F with
  | zero => intro M p J d C wx hF; omega
  | succ F ih =>
    intro M p J d C wx hF hM hA hJ hg hl he
    have hp := (cgo_b hg).2.2.2
    have e42 : g_X14_is w M 42 = some (bi (tkC f n p = 42), M) := rs_r (c := 42) (by unfold sgn; omega) hM.2.2.1
    show okSm w n f c r ac sp A p0 I o b st wt h k 1 _ (g_X14_readTerm_4_b w (g_X14_readTerm_4 w F) M)
    unfold g_X14_readTerm_4_b
    rw [e42, b_sm, bi_ite]
    by_cases t : tkC f n p = 42
    · rw [if_pos t]
      have ee := tk_e (f := f) hp
      have ee1 := ee.2.2.2.2 (by omega)
      obtain ⟨M1, a1, a2, a3, a4⟩ := next_R hn hb hr hp hM (by omega)
      have g1 := go_sign (sg := -11) hn hb hg (Or.inl ⟨t, rfl⟩) (show lvl 1 wx from hl) (show stops 1 wt from hst)
      rw [a1, bv_sm]
      rcases part_K hn hb hc hr a2 (by rw [List.length_append]; omega) g1 (Or.inl rfl) with ⟨M', b1, b2⟩ | ⟨M2, x, y, b1, b2, b3, b4, b5, b6⟩
      · left
        rw [b1, bx_r]
        exact ⟨M', rfl, stopped_t (frK_t hA a3) b2⟩
      · have ee2 := (tk_e (f := f) ee.2.2.2.1).2.2.2.1
        rw [b1, bx_l, hc, o_t, g5 hr]
        obtain ⟨M3, c1, c2, c3⟩ := put_K (w := w) (a := 4) (v := 0) hr b2.2.2.2.2.2 (by rw [List.length_append, List.length_append]; simp only [List.length_cons, List.length_nil]; omega)
        rw [c1, bv_sm]
        have hM3 := RM_P hr b2 c3 c2
        rw [if_neg (by decide), if_neg (by decide)] at b5
        refine ih M3 (tkE f n (tkE f n p)) (J ++ [x] ++ [(4, 0)]) (d + 1) (C ++ wx ++ [y]) [-11] (by omega) ?_ (frK_t hA (frK_t a3 (frK_t b3 (frP_R hr c3)))) ?_ ?_ (lvl_1 (by decide) (by decide)) ?_
        · rw [← List.append_assoc, ← List.append_assoc]; exact hM3
        · simp only [List.length_append, List.length_cons, List.length_nil]; omega
        · rw [← List.append_assoc, ← List.append_assoc]; exact b5
        · have := eqv_bin (K := 5) (b := False) he b6 (by decide) (Or.inl (by decide)) (fun z => z.elim)
          rw [List.map_append, List.map_append (l₁ := C ++ wx), List.map_append (l₁ := J ++ [x]), List.map_append (l₁ := J)]
          exact this
    · rw [if_neg t]
      exact Or.inr ⟨M, p, J, d, C, wx, rfl, hM, hA, hJ, hg, hl, he, t⟩
theorem term_K (H : HC w n f c) {M : rf_m} {p o b s h k : Nat} {I : List (Int32 × Int32)} {st wt : List Int32} (hM : RM n f c M p I o b) (hI : I.length ≤ p) (hg : cgo w n f r p st wt s h o k b ac sp) (hs : s = 3 ∨ (s = 2 ∧ tkC f n p ≠ 109 ∧ tkC f n p ≠ 40)) (hst : stops 1 wt) : okSm w n f c r ac sp M p I o b st wt (if s = 2 then 1 else h) (if s = 2 then 0 else k) 1 (fun t => t ≠ 42) (g_X14_readTerm w M) := by
  have H' := H
  obtain ⟨hn, hb, hc, hr⟩ := H
  unfold g_X14_readTerm
  rcases part_K hn hb hc hr hM hI hg hs with ⟨M', b1, b2⟩ | ⟨M2, x, y, b1, b2, b3, b4, b5, b6⟩
  · left
    rw [b1, bx_r]
    exact ⟨M', rfl, b2⟩
  · rw [b1, bx_l]
    obtain ⟨F, hF, hF8⟩ : ∃ F, rf_fuel = F ∧ 1000 < F := ⟨rf_fuel, rfl, by unfold rf_fuel; decide⟩
    rw [hF]
    refine term_loop H' hI hst F M2 (tkE f n p) [x] 1 [y] [] (by omega) b2 b3 ?_ b5 lvl_0 b6
    simp only [List.length_cons, List.length_nil]; omega
theorem sum_loop (H : HC w n f c) {A : rf_m} {p0 o b h k : Nat} {I : List (Int32 × Int32)} {st wt : List Int32} (hI : I.length ≤ p0) (hst : stops 2 wt) : ∀ F (M : rf_m) p J d C wx, n - p < F → RM n f c M p (I ++ J) (o + d) b → frK c A M → J.length + p0 ≤ p → cgo w n f r p (st ++ C) (wx ++ wt) 4 h (o + d) k b ac sp → lvl 2 wx → eqv d ((C ++ wx).map dC) (J.map dRp) False → tkC f n p ≠ 42 → okSm w n f c r ac sp A p0 I o b st wt h k 2 (fun t => t ≠ 42 ∧ t ≠ 43 ∧ t ≠ 45) (g_X14_readSum_4 w F M) := by
  have H' := H
  obtain ⟨hn, hb, hc, hr⟩ := H
  intro F
  induction F with
  | zero => intro M p J d C wx hF; omega
  | succ F ih =>
    intro M p J d C wx hF hM hA hJ hg hl he ht
    have hp := (cgo_b hg).2.2.2
    have e43 : g_X14_is w M 43 = some (bi (tkC f n p = 43), M) := rs_r (c := 43) (by unfold sgn; omega) hM.2.2.1
    have e45 : g_X14_is w M 45 = some (bi (tkC f n p = 45), M) := rs_r (c := 45) (by unfold sgn; omega) hM.2.2.1
    have on : ∀ (sg s0 : Int32) (K : Nat), ((tkC f n p = 42 ∧ sg = -11) ∨ (tkC f n p = 43 ∧ sg = -12) ∨ (tkC f n p = 45 ∧ sg = -13)) → losN sg = 2 → sg ≠ -20 → dC sg = (K, 0) → dRp (s0, 0) = (K, 0) → 3 ≤ K → K < 9 → okSm w n f c r ac sp A p0 I o b st wt h k 2 (fun t => t ≠ 42 ∧ t ≠ 43 ∧ t ≠ 45) (g_X14_readSum_36 w (g_X14_readSum_4 w F) s0 M) := by
      intro sg s0 K q q2 q20 qC qR q3 q9
      have ee := tk_e (f := f) hp
      have ee1 := ee.2.2.2.2 (by omega)
      obtain ⟨M1, a1, a2, a3, a4⟩ := next_R hn hb hr hp hM (by omega)
      have g1 := go_sign (sg := sg) hn hb hg q (by rw [q2]; exact hl) (by rw [q2]; exact hst)
      unfold g_X14_readSum_36
      rw [a1, bv_sm]
      rcases term_K H' a2 (by rw [List.length_append]; omega) g1 (Or.inl rfl) (Or.inl (by omega)) with ⟨M', b1, b2⟩ | ⟨M2, p2, J2, d2, C2, wx2, b1, b2, b3, b4, b5, b6, b7, b8⟩
      · left
        rw [b1, bx_r]
        exact ⟨M', rfl, stopped_t (frK_t hA a3) b2⟩
      · have hp2 := (cgo_b b5).2.2.2
        rw [b1, bx_l, hc, o_t, g5 hr]
        obtain ⟨M3, c1, c2, c3⟩ := put_K (w := w) (a := s0) (v := 0) hr b2.2.2.2.2.2 (by rw [List.length_append, List.length_append]; omega)
        rw [c1, bv_sm]
        have hM3 := RM_P hr b2 c3 c2
        rw [if_neg (by decide), if_neg (by decide)] at b5
        refine ih M3 p2 (J ++ J2 ++ [(s0, 0)]) (d + d2) (C ++ wx ++ C2) (wx2 ++ [sg]) (by omega) ?_ (frK_t hA (frK_t a3 (frK_t b3 (frP_R hr c3)))) ?_ ?_ (lvl_a (lvl_m b6 (by omega)) (lvl_1 (by omega) q20)) ?_ b8
        · rw [← List.append_assoc, ← List.append_assoc, ← Nat.add_assoc]; exact hM3
        · simp only [List.length_append, List.length_cons, List.length_nil]; omega
        · rw [← List.append_assoc, ← List.append_assoc, ← Nat.add_assoc, List.append_assoc wx2]; exact b5
        · have := eqv_bin (K := K) (b := False) he b7 q3 (Or.inl q9) (fun z => z.elim)
          have eC : (C ++ wx ++ C2 ++ (wx2 ++ [sg])).map dC = (C ++ wx).map dC ++ (C2 ++ wx2).map dC ++ [(K, 0)] := by
            rw [← qC]; simp only [List.map_append, List.append_assoc, List.map_cons, List.map_nil]
          have eD : (J ++ J2 ++ [(s0, 0)]).map dRp = J.map dRp ++ J2.map dRp ++ [(K, 0)] := by
            rw [← qR]; simp only [List.map_append, List.append_assoc, List.map_cons, List.map_nil]
          rw [eC, eD]
          exact this
    show okSm w n f c r ac sp A p0 I o b st wt h k 2 _ (g_X14_readSum_4_b w (g_X14_readSum_4 w F) M)
    unfold g_X14_readSum_4_b g_X14_readSum_22
    rw [e43, b_sm, bi_ite]
    by_cases t3 : tkC f n p = 43
    · rw [if_pos t3, e43, b_sm, bi_ite, if_pos t3]
      exact on (-12) 2 3 (Or.inr (Or.inl ⟨t3, rfl⟩)) (by decide) (by decide) (by decide) (by decide) (by decide) (by decide)
    · rw [if_neg t3, e45, b_sm, bi_ite]
      by_cases t5 : tkC f n p = 45
      · rw [if_pos t5, e43, b_sm, bi_ite, if_neg t3]
        exact on (-13) 3 4 (Or.inr (Or.inr ⟨t5, rfl⟩)) (by decide) (by decide) (by decide) (by decide) (by decide) (by decide)
      · rw [if_neg t5]
        exact Or.inr ⟨M, p, J, d, C, wx, rfl, hM, hA, hJ, hg, hl, he, ht, t3, t5⟩
theorem sum_K (H : HC w n f c) {M : rf_m} {p o b s h k : Nat} {I : List (Int32 × Int32)} {st wt : List Int32} (hM : RM n f c M p I o b) (hI : I.length ≤ p) (hg : cgo w n f r p st wt s h o k b ac sp) (hs : s = 3 ∨ (s = 2 ∧ tkC f n p ≠ 109 ∧ tkC f n p ≠ 40)) (hst : stops 2 wt) : okSm w n f c r ac sp M p I o b st wt (if s = 2 then 1 else h) (if s = 2 then 0 else k) 2 (fun t => t ≠ 42 ∧ t ≠ 43 ∧ t ≠ 45) (g_X14_readSum w M) := by
  have hst1 : stops 1 wt := by
    cases wt with
    | nil => trivial
    | cons x t =>
      rcases hst with q | q
      · exact Or.inl (by omega)
      · exact Or.inr q
  unfold g_X14_readSum
  rcases term_K H hM hI hg hs hst1 with ⟨M', b1, b2⟩ | ⟨M2, p2, J2, d2, C2, wx2, b1, b2, b3, b4, b5, b6, b7, b8⟩
  · left
    rw [b1, bx_r]
    exact ⟨M', rfl, b2⟩
  · rw [b1, bx_l]
    obtain ⟨F, hF, hF8⟩ : ∃ F, rf_fuel = F ∧ 1000 < F := ⟨rf_fuel, rfl, by unfold rf_fuel; decide⟩
    rw [hF]
    exact sum_loop H hI hst F M2 p2 J2 d2 C2 wx2 (by have := H.1; omega) b2 b3 b4 b5 (lvl_m b6 (by omega)) b7 b8
end PBTerm
