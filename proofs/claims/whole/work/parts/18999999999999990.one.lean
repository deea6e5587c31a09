/-! rules: conditions, both sides -/
section PBOne
variable {w : rf_w} {n c : Nat} {f : Nat → Int32} {r : Option (Int32 × rf_m)} {ac sp : Nat}
def okCm (w : rf_w) (n : Nat) (f : Nat → Int32) (c : Nat) (r : Option (Int32 × rf_m)) (ac sp : Nat) (A : rf_m) (p0 : Nat) (I : List (Int32 × Int32)) (o b : Nat) (st wt : List Int32) (l : Nat) (ex : Nat → Prop) (res : Option (rf_m ⊕ rf_m)) : Prop := (∃ M', res = some (.inr M') ∧ stopped c A M' r) ∨ (∃ M' p J d C wx s h, res = some (.inl M') ∧ RM n f c M' p (I ++ J) (o + d) b ∧ frK c A M' ∧ J.length + p0 ≤ p ∧ cgo w n f r p (st ++ C) (wx ++ wt) s h (o + d) 0 b ac sp ∧ aft f n p s h ∧ lvl l wx ∧ eqv d ((C ++ wx).map dC) (J.map dRp) True ∧ ex (tkC f n p))
/-- the inner reader, at a depth -/
def anyS (w : rf_w) (n : Nat) (f : Nat → Int32) (c : Nat) (r : Option (Int32 × rf_m)) (ac sp : Nat) (rc : rf_m → Option (rf_m ⊕ rf_m)) (b : Nat) : Prop := ∀ (M : rf_m) p I o (st wt : List Int32) h, RM n f c M p I o b → I.length ≤ p → cgo w n f r p st wt 2 h o 0 b ac sp → stops 6 wt → okCm w n f c r ac sp M p I o b st wt 6 (fun t => t ≠ 107 ∧ t ≠ 108) (rc M)
def nwx (j : Nat) : List Int32 := if j % 2 = 1 then [-17] else []
theorem nwx_0 : nwx 0 = [] := rfl
theorem nwx_s {j : Nat} : (j % 2 = 1 → nwx j = [-17] ∧ nwx (j + 1) = []) ∧ (¬ j % 2 = 1 → nwx j = [] ∧ nwx (j + 1) = [-17]) := by
  unfold nwx
  refine ⟨fun h => ⟨if_pos h, if_neg (by omega)⟩, fun h => ⟨if_neg h, if_pos (by omega)⟩⟩
theorem nwx_l {j : Nat} : lvl 4 (nwx j) := by
  unfold nwx
  split
  · exact lvl_1 (by decide) (by decide)
  · exact lvl_0
theorem nwx_st {j l : Nat} {wt : List Int32} (hl : l ≤ 3) (h : stops 4 wt) : stops l (nwx j ++ wt) := by
  unfold nwx
  split
  · exact Or.inl (by have : losN (-17) = 4 := by decide
                     omega)
  · cases wt with
    | nil => trivial
    | cons x t =>
      rcases h with q | q
      · exact Or.inl (by omega)
      · exact Or.inr q
theorem nots_put (H : HC w n f c) {o b j p : Nat} (rc : rf_m → Option (rf_m ⊕ rf_m)) (hj : j ≤ 8) : ∀ q i F (M : rf_m) (I : List (Int32 × Int32)), i + q = j → q < F → RM n f c M p I o b → I.length + q ≤ 300 → ∃ M', g_X14_readOne_185 w rc F (Int32.ofNat j) (Int32.ofNat i) M = some (.inl M') ∧ RM n f c M' p (I ++ List.replicate q (8, 0)) o b ∧ frK c M M' := by
  obtain ⟨hn, hb, hc, hr⟩ := H
  intro q
  induction q with
  | zero =>
    intro i F M I hi hF hM _
    obtain ⟨F, rfl⟩ : ∃ g, F = g + 1 := ⟨F - 1, by omega⟩
    refine ⟨M, ?_, ?_, frK_r⟩
    · show g_X14_readOne_185_b w rc (g_X14_readOne_185 w rc F) (Int32.ofNat j) (Int32.ofNat i) M = _
      unfold g_X14_readOne_185_b
      rw [show i = j by omega, if_pos (Int32.le_refl _)]
    · show RM n f c M p (I ++ []) o b
      rw [List.append_nil]; exact hM
  | succ q ih =>
    intro i F M I hi hF hM hl
    obtain ⟨F, rfl⟩ : ∃ g, F = g + 1 := ⟨F - 1, by omega⟩
    obtain ⟨M1, c1, c2, c3⟩ := put_K (w := w) (a := 8) (v := 0) hr hM.2.2.2.2.2 (by omega)
    obtain ⟨M2, d1, d2, d3⟩ := ih (i + 1) F M1 (I ++ [(8, 0)]) (by omega) (by omega) (RM_P hr hM c3 c2) (by simp only [List.length_append, List.length_cons, List.length_nil]; omega)
    refine ⟨M2, ?_, ?_, frK_t (frP_R hr c3) d3⟩
    · show g_X14_readOne_185_b w rc (g_X14_readOne_185 w rc F) (Int32.ofNat j) (Int32.ofNat i) M = _
      unfold g_X14_readOne_185_b
      rw [if_neg (nle (show i < j by omega) (by omega)), hc, o_t, g5 hr, c1, bv_sm, of_succ]
      exact d1
    · rw [List.replicate_succ]
      rw [List.append_assoc] at d2
      exact d2
theorem nots_end (H : HC w n f c) {A M : rf_m} {p p0 o b j d s h : Nat} {I J : List (Int32 × Int32)} {st wt C wx : List Int32} {ex : Nat → Prop} (rc : rf_m → Option (rf_m ⊕ rf_m)) (hj : j ≤ 8) (hI : I.length ≤ p0) (hM : RM n f c M p (I ++ J) (o + d) b) (hA : frK c A M) (hJ : J.length + j + p0 ≤ p) (hg : cgo w n f r p (st ++ C) (wx ++ (nwx j ++ wt)) s h (o + d) 0 b ac sp) (ha : aft f n p s h) (hl : lvl 3 wx) (he : eqv d ((C ++ wx).map dC) (J.map dRp) True) (hx : ex (tkC f n p)) : okCm w n f c r ac sp A p0 I o b st wt 4 ex (g_X14_readOne_183 w rc (Int32.ofNat j) M) := by
  have hp := (cgo_b hg).2.2.2
  have hn := H.1
  unfold g_X14_readOne_183
  obtain ⟨F, hF, hF8⟩ : ∃ F, rf_fuel = F ∧ 1000 < F := ⟨rf_fuel, rfl, by unfold rf_fuel; decide⟩
  rw [hF]
  obtain ⟨M', k1, k2, k3⟩ := nots_put H rc hj j 0 F M (I ++ J) (by omega) (by omega) hM (by rw [List.length_append]; omega)
  refine Or.inr ⟨M', p, J ++ List.replicate j (8, 0), d, C, wx ++ nwx j, s, h, k1, ?_, frK_t hA k3, ?_, ?_, ha, lvl_a (lvl_m hl (by decide)) nwx_l, ?_, hx⟩
  · rw [← List.append_assoc]; exact k2
  · rw [List.length_append, List.length_replicate]; omega
  · rw [List.append_assoc]; exact hg
  · have := eqv_nots he j
    have eC : (C ++ (wx ++ nwx j)).map dC = (C ++ wx).map dC ++ if j % 2 = 1 then [(2, 0)] else [] := by
      rw [← List.append_assoc, List.map_append]
      congr 1
      unfold nwx
      split
      · rfl
      · rfl
    have eD : (J ++ List.replicate j (8, 0)).map dRp = J.map dRp ++ List.replicate j (2, 0) := by
      rw [List.map_append, List.map_replicate]
      rfl
    rw [eC, eD]
    exact this
theorem one_loop (H : HC w n f c) {rc : rf_m → Option (rf_m ⊕ rf_m)} {A : rf_m} {p0 o b : Nat} {I : List (Int32 × Int32)} {st wt : List Int32} (hrc : b < 8 → anyS w n f c r ac sp rc (b + 1)) (hI : I.length ≤ p0) (hst : stops 4 wt) : ∀ F (M : rf_m) p j h, n - p < F → RM n f c M p I o b → frK c A M → j + p0 ≤ p → j ≤ 8 → cgo w n f r p st (nwx j ++ wt) 2 h o j b ac sp → okCm w n f c r ac sp A p0 I o b st wt 4 (fun _ => True) (g_X14_readOne_2 w rc F (Int32.ofNat j) M) := by
  have H' := H
  obtain ⟨hn, hb, hc, hr⟩ := H
  intro F
  induction F with
  | zero => intro M p j h hF; omega
  | succ F ih =>
    intro M p j h hF hM hA hJ hj hg
    obtain ⟨_, _, b8, hp⟩ := cgo_b hg
    have rk := hM.2.2.1
    have e9 : g_X14_isWord w M 1000020 = some (bi (tkC f n p = 109), M) := rw_r (i := 8) (by decide) (by decide) (by decide +kernel) rk
    have e40 : g_X14_is w M 40 = some (bi (tkC f n p = 40), M) := rs_r (c := 40) (by unfold sgn; omega) rk
    have ee := tk_e (f := f) hp
    show okCm w n f c r ac sp A p0 I o b st wt 4 _ (g_X14_readOne_2_b w rc (g_X14_readOne_2 w rc F) (Int32.ofNat j) M)
    unfold g_X14_readOne_2_b
    rw [e9, b_sm, bi_ite]
    by_cases t9 : tkC f n p = 109
    · rw [if_pos t9]
      have gn := go_not hn hb hg t9
      by_cases j8 : j = 8
      · rw [if_pos (show Int32.ofNat j = 8 by rw [j8]; rfl)]
        obtain ⟨M', s1, s2⟩ := stop_r (w := w) (r := r) (x := 3) (kd := 3) hr rfl rk (gn.2 j8)
        rw [s1, bv_sm]
        exact Or.inl ⟨M', rfl, stopped_t hA s2⟩
      · have e1 := ee.2.2.2.2 (by omega)
        rw [if_neg (show ¬ Int32.ofNat j = 8 from fun z => j8 ((of_inj (b := 8) (by omega) (by decide)).mp z))]
        obtain ⟨M1, a1, a2, a3, a4⟩ := next_R hn hb hr hp hM (by omega)
        rw [a1, bv_sm, of_succ]
        refine ih M1 (tkE f n p) (j + 1) h (by omega) a2 (frK_t hA a3) (by omega) (by omega) ?_
        obtain ⟨g1, g2⟩ := gn.1 (by omega)
        by_cases jo : j % 2 = 1
        · obtain ⟨x1, x2⟩ := nwx_s.1 jo
          rw [x2]
          exact g1 wt (by rw [x1]; rfl)
        · obtain ⟨x1, x2⟩ := nwx_s.2 jo
          rw [x2]
          rw [x1] at g2
          refine g2 (fun t z => ?_)
          have z' : wt = -17 :: t := z
          rw [z'] at hst
          have : losN (-17) = 4 := by decide
          rcases hst with y | y
          · omega
          · exact absurd y (by decide)
    · rw [if_neg t9, e40, b_sm, bi_ite]
      by_cases t4 : tkC f n p = 40
      · rw [if_pos t4, hM.2.2.2.2.1]
        have gb := go_br hn hb hg t4
        have e1 := ee.2.2.2.2 (by omega)
        by_cases b8' : b = 8
        · rw [if_pos (show Int32.ofNat b = 8 by rw [b8']; rfl)]
          obtain ⟨M', s1, s2⟩ := stop_r (w := w) (r := r) (x := 3) (kd := 3) hr rfl rk (gb.2 b8')
          rw [s1, bv_sm]
          exact Or.inl ⟨M', rfl, stopped_t hA s2⟩
        · rw [if_neg (show ¬ Int32.ofNat b = 8 from fun z => b8' ((of_inj (b := 8) (by omega) (by decide)).mp z)), of_succ]
          obtain ⟨n1, n2, n3, n4, n5, n6, n7, n8, n9⟩ := rob_ne hr
          have set51 : ∀ {B : rf_m} {q I' o' b'} {x : Nat}, RM n f c B q I' o' b' → RM n f c (rf_i B 206 51 (Int32.ofNat x)) q I' o' x ∧ frK c B (rf_i B 206 51 (Int32.ofNat x)) := by
            intro B q I' o' b' x hB
            obtain ⟨a1, a2, a3, a4, a5, a6⟩ := hB
            refine ⟨⟨?_, fun k => ?_, ?_, ?_, ?_, ?_⟩, fun z a1 _ _ _ _ => by rw [rf_i_c, if_neg a1], fun k hk => by rw [rf_i_c, if_pos rfl, pu_ne (by omega)], fun k _ => by rw [rf_i_c, if_neg n1], fun z k _ => rfl⟩
            · rw [rf_i_c, if_pos rfl, pu_ne (by decide)]; exact a1
            · rw [rf_i_c, if_neg (by decide)]; exact a2 k
            · unfold RK at *
              rw [rf_i_c, if_pos rfl, pu_ne (by decide), pu_ne (by decide), pu_ne (by decide), pu_ne (by decide), pu_ne (by decide)]
              exact a3
            · rw [rf_i_c, if_pos rfl, pu_ne (by decide)]; exact a4
            · rw [rf_i_c, if_pos rfl, pu_at]
            · unfold RI at *
              rw [rf_i_c, if_neg n1, rf_i_c, if_neg n4, rf_i_c, if_neg n7]
              exact a6
          obtain ⟨hB, fB⟩ := set51 (x := b + 1) hM
          obtain ⟨M1, a1, a2, a3, a4⟩ := next_R hn hb hr hp hB (by omega)
          rw [a1, bv_sm]
          rcases hrc (by omega) M1 (tkE f n p) I o st (-20 :: (nwx j ++ wt)) h a2 (by omega) (gb.1 (by omega)) (Or.inr rfl) with ⟨M', b1, b2⟩ | ⟨M2, p2, J, d, C, wx, s', h', b1, b2, b3, b4, b5, b6, b7, b9, b10⟩
          · rw [b1, bx_r]
            exact Or.inl ⟨M', rfl, stopped_t (frK_t hA (frK_t fB a3)) b2⟩
          · rw [b1, bx_l]
            have hp2 := (cgo_b b5).2.2.2
            have ee2 := tk_e (f := f) hp2
            have e41 : g_X14_is w M2 41 = some (bi (tkC f n p2 = 41), M2) := rs_r (c := 41) (by unfold sgn; omega) b2.2.2.1
            rw [e41, b_sm, bi_ite]
            by_cases tc : tkC f n p2 = 41
            · rw [if_pos tc]
              have e2 := ee2.2.2.2.2 (by omega)
              obtain ⟨M3, c1, c2, c3, c4⟩ := next_R hn hb hr hp2 b2 (by omega)
              rw [c1, bv_sm, c2.2.2.2.2.1, ofm1']
              obtain ⟨hD, fD⟩ := set51 (x := b) c2
              have g3 := go_close hn hb b5 b6 tc b7
              have fAD := frK_t hA (frK_t fB (frK_t a3 (frK_t b3 (frK_t c3 fD))))
              refine nots_end (s := 5) (h := h') (wx := []) (C := C ++ wx) (J := J) H' rc hj hI hD fAD (by omega) ?_ (Or.inl rfl) lvl_0 ?_ trivial
              · rw [← List.append_assoc]; exact g3
              · rw [List.append_nil]; exact b9
            · rw [if_neg tc]
              obtain ⟨M', s1, s2⟩ := stop_r (w := w) (r := r) (x := 1) (kd := 1) hr rfl b2.2.2.1 (go_no hn hb b5 b6 b10.1 b10.2 (fun z => absurd z tc) (fun _ => by omega))
              rw [s1, bv_sm]
              exact Or.inl ⟨M', rfl, stopped_t (frK_t hA (frK_t fB (frK_t a3 b3))) s2⟩
      · rw [if_neg t4]
        have hsm := sum_K H' hM (by omega) hg (Or.inr ⟨rfl, t9, t4⟩) (nwx_st (by decide) hst)
        rw [if_pos rfl, if_pos rfl] at hsm
        rcases hsm with ⟨M', b1, b2⟩ | ⟨M2, p2, J, d, C, wx, b1, b2, b3, b4, b5, b6, b7, b8, b9, b10⟩
        · rw [b1, bx_r]
          exact Or.inl ⟨M', rfl, stopped_t hA b2⟩
        · rw [b1, bx_l]
          have hp2 := (cgo_b b5).2.2.2
          have ee2 := tk_e (f := f) hp2
          have rk2 := b2.2.2.1
          have e60 : g_X14_is w M2 60 = some (bi (tkC f n p2 = 60), M2) := rs_r (c := 60) (by unfold sgn; omega) rk2
          have e62 : g_X14_is w M2 62 = some (bi (tkC f n p2 = 62), M2) := rs_r (c := 62) (by unfold sgn; omega) rk2
          have e61 : g_X14_is w M2 61 = some (bi (tkC f n p2 = 61), M2) := rs_r (c := 61) (by unfold sgn; omega) rk2
          have cmp : ∀ (sg s0 : Int32) (K : Nat), ((tkC f n p2 = 60 ∧ sg = -14) ∨ (tkC f n p2 = 61 ∧ sg = -16) ∨ (tkC f n p2 = 62 ∧ sg = -15)) → losN sg = 3 → sg ≠ -20 → ¬ s0 = -1 → dC sg = (K, 0) → dRp (s0, 0) = (K, 0) → 6 ≤ K → K < 9 → okCm w n f c r ac sp A p0 I o b st wt 4 (fun _ => True) (g_X14_readOne_154 w rc (Int32.ofNat j) s0 M2) := by
            intro sg s0 K q q3 q20 q1 qC qR q6 q9
            have e2 := ee2.2.2.2.2 (by omega)
            obtain ⟨M3, c1, c2, c3, c4⟩ := next_R hn hb hr hp2 b2 (by omega)
            have g3 := go_cmp (sg := sg) hn hb b5 q (by rw [q3]; exact lvl_m b6 (by decide)) (by rw [q3]; exact nwx_st (by decide) hst)
            unfold g_X14_readOne_154
            rw [if_neg q1, c1, bv_sm]
            have hs2 := sum_K H' c2 (by rw [List.length_append]; omega) g3 (Or.inl rfl) (Or.inl (by omega))
            rw [if_neg (by decide), if_neg (by decide)] at hs2
            rcases hs2 with ⟨M', d1, d2⟩ | ⟨M4, p4, J2, d4, C2, wx2, d1, d2, d3, d5, d6, d7, d8, d9, d10, d11⟩
            · rw [d1, bx_r]
              exact Or.inl ⟨M', rfl, stopped_t (frK_t hA (frK_t b3 c3)) d2⟩
            · rw [d1, bx_l, hc, o_t, g5 hr]
              have hp4 := (cgo_b d6).2.2.2
              obtain ⟨M5, f1, f2, f3⟩ := put_K (w := w) (a := s0) (v := 0) hr d2.2.2.2.2.2 (by rw [List.length_append, List.length_append]; omega)
              rw [f1, bv_sm]
              have hM5 := RM_P hr d2 f3 f2
              refine nots_end (p := p4) (s := 4) (h := 2) (d := d + d4) (wx := wx2 ++ [sg]) (C := C ++ wx ++ C2) (J := J ++ J2 ++ [(s0, 0)]) H' rc hj hI ?_ (frK_t hA (frK_t b3 (frK_t c3 (frK_t d3 (frP_R hr f3))))) ?_ ?_ (Or.inr ⟨rfl, rfl, d9, d10, d11⟩) (lvl_a (lvl_m d7 (by decide)) (lvl_1 (by omega) q20)) ?_ trivial
              · rw [← List.append_assoc, ← List.append_assoc, ← Nat.add_assoc]; exact hM5
              · simp only [List.length_append, List.length_cons, List.length_nil]; omega
              · rw [← List.append_assoc, ← List.append_assoc, ← Nat.add_assoc, List.append_assoc wx2]; exact d6
              · have := eqv_bin (K := K) (b := True) b7 d8 (by omega) (Or.inl q9) (fun _ => q6)
                have eC : (C ++ wx ++ C2 ++ (wx2 ++ [sg])).map dC = (C ++ wx).map dC ++ (C2 ++ wx2).map dC ++ [(K, 0)] := by
                  rw [← qC]; simp only [List.map_append, List.append_assoc, List.map_cons, List.map_nil]
                have eD : (J ++ J2 ++ [(s0, 0)]).map dRp = J.map dRp ++ J2.map dRp ++ [(K, 0)] := by
                  rw [← qR]; simp only [List.map_append, List.append_assoc, List.map_cons, List.map_nil]
                rw [eC, eD]
                exact this
          rw [e60, b_sm, bi_ite]
          by_cases t60 : tkC f n p2 = 60
          · rw [if_pos t60]
            exact cmp (-14) 5 6 (Or.inl ⟨t60, rfl⟩) (by decide) (by decide) (by decide) (by decide) (by decide) (by decide) (by decide)
          · rw [if_neg t60, e62, b_sm, bi_ite]
            by_cases t62 : tkC f n p2 = 62
            · rw [if_pos t62]
              exact cmp (-15) 6 7 (Or.inr (Or.inr ⟨t62, rfl⟩)) (by decide) (by decide) (by decide) (by decide) (by decide) (by decide) (by decide)
            · rw [if_neg t62, e61, b_sm, bi_ite]
              by_cases t61 : tkC f n p2 = 61
              · rw [if_pos t61]
                exact cmp (-16) 7 8 (Or.inr (Or.inl ⟨t61, rfl⟩)) (by decide) (by decide) (by decide) (by decide) (by decide) (by decide) (by decide)
              · rw [if_neg t61]
                unfold g_X14_readOne_154
                rw [if_pos rfl]
                obtain ⟨M', s1, s2⟩ := stop_r (w := w) (r := r) (x := 1) (kd := 1) hr rfl rk2 (go_ncmp hn hb b5 b8 b9 b10 t60 t61 t62)
                rw [s1, bv_sm]
                exact Or.inl ⟨M', rfl, stopped_t (frK_t hA b3) s2⟩
theorem one_K (H : HC w n f c) {rc : rf_m → Option (rf_m ⊕ rf_m)} {M : rf_m} {p o b h : Nat} {I : List (Int32 × Int32)} {st wt : List Int32} (hrc : b < 8 → anyS w n f c r ac sp rc (b + 1)) (hM : RM n f c M p I o b) (hI : I.length ≤ p) (hg : cgo w n f r p st wt 2 h o 0 b ac sp) (hst : stops 4 wt) : okCm w n f c r ac sp M p I o b st wt 4 (fun _ => True) (g_X14_readOne w rc M) := by
  unfold g_X14_readOne
  obtain ⟨F, hF, hF8⟩ : ∃ F, rf_fuel = F ∧ 1000 < F := ⟨rf_fuel, rfl, by unfold rf_fuel; decide⟩
  rw [hF]
  exact one_loop H hrc hI hst F M p 0 h (by have := H.1; omega) hM frK_r (by omega) (by omega) hg
theorem stops_d {l l' : Nat} {wt : List Int32} (h : stops l wt) (hl : l' ≤ l) : stops l' wt := by
  cases wt with
  | nil => trivial
  | cons x t =>
    rcases h with q | q
    · exact Or.inl (by omega)
    · exact Or.inr q
theorem all_loop (H : HC w n f c) {rc : rf_m → Option (rf_m ⊕ rf_m)} {A : rf_m} {p0 o b : Nat} {I : List (Int32 × Int32)} {st wt : List Int32} (hrc : b < 8 → anyS w n f c r ac sp rc (b + 1)) (hI : I.length ≤ p0) (hst : stops 5 wt) : ∀ F (M : rf_m) p J d C wx s h, n - p < F → RM n f c M p (I ++ J) (o + d) b → frK c A M → J.length + p0 ≤ p → cgo w n f r p (st ++ C) (wx ++ wt) s h (o + d) 0 b ac sp → aft f n p s h → lvl 5 wx → eqv d ((C ++ wx).map dC) (J.map dRp) True → okCm w n f c r ac sp A p0 I o b st wt 5 (fun t => t ≠ 107) (g_X14_readAll_4 w rc F M) := by
  have H' := H
  obtain ⟨hn, hb, hc, hr⟩ := H
  intro F
  induction F with
  | zero => intro M p J d C wx s h hF; omega
  | succ F ih =>
    intro M p J d C wx s h hF hM hA hJ hg ha hl he
    have hp := (cgo_b hg).2.2.2
    have e7 : g_X14_isWord w M 1000018 = some (bi (tkC f n p = 107), M) := rw_r (i := 6) (by decide) (by decide) (by decide +kernel) hM.2.2.1
    show okCm w n f c r ac sp A p0 I o b st wt 5 _ (g_X14_readAll_4_b w rc (g_X14_readAll_4 w rc F) M)
    unfold g_X14_readAll_4_b
    rw [e7, b_sm, bi_ite]
    by_cases t : tkC f n p = 107
    · rw [if_pos t]
      have ee := tk_e (f := f) hp
      have ee1 := ee.2.2.2.2 (by omega)
      obtain ⟨M1, a1, a2, a3, a4⟩ := next_R hn hb hr hp hM (by omega)
      have g1 := go_and hn hb hg ha t hl hst
      rw [a1, bv_sm]
      rcases one_K H' hrc a2 (by rw [List.length_append]; omega) g1 (Or.inl (by decide)) with ⟨M', b1, b2⟩ | ⟨M2, p2, J2, d2, C2, wx2, s2, h2, b1, b2, b3, b4, b5, b6, b7, b8, b9⟩
      · rw [b1, bx_r]
        exact Or.inl ⟨M', rfl, stopped_t (frK_t hA a3) b2⟩
      · have hp2 := (cgo_b b5).2.2.2
        rw [b1, bx_l, hc, o_t, g5 hr]
        obtain ⟨M3, c1, c2, c3⟩ := put_K (w := w) (a := 9) (v := 0) hr b2.2.2.2.2.2 (by rw [List.length_append, List.length_append]; omega)
        rw [c1, bv_sm]
        have hM3 := RM_P hr b2 c3 c2
        refine ih M3 p2 (J ++ J2 ++ [(9, 0)]) (d + d2) (C ++ wx ++ C2) (wx2 ++ [-18]) s2 h2 (by omega) ?_ (frK_t hA (frK_t a3 (frK_t b3 (frP_R hr c3)))) ?_ ?_ b6 (lvl_a (lvl_m b7 (by decide)) (lvl_1 (by decide) (by decide))) ?_
        · rw [← List.append_assoc, ← List.append_assoc, ← Nat.add_assoc]; exact hM3
        · simp only [List.length_append, List.length_cons, List.length_nil]; omega
        · rw [← List.append_assoc, ← List.append_assoc, ← Nat.add_assoc, List.append_assoc wx2]; exact b5
        · have := eqv_bin (K := 9) (b := True) he b8 (by decide) (Or.inr ⟨trivial, trivial⟩) (fun _ => by decide)
          have eC : (C ++ wx ++ C2 ++ (wx2 ++ [-18])).map dC = (C ++ wx).map dC ++ (C2 ++ wx2).map dC ++ [(9, 0)] := by
            rw [← (show dC (-18) = (9, 0) by decide)]; simp only [List.map_append, List.append_assoc, List.map_cons, List.map_nil]
          have eD : (J ++ J2 ++ [(9, 0)]).map dRp = J.map dRp ++ J2.map dRp ++ [(9, 0)] := by
            rw [List.map_append, List.map_append]; rfl
          rw [eC, eD]
          exact this
    · rw [if_neg t]
      exact Or.inr ⟨M, p, J, d, C, wx, s, h, rfl, hM, hA, hJ, hg, ha, hl, he, t⟩
theorem all_K (H : HC w n f c) {rc : rf_m → Option (rf_m ⊕ rf_m)} {M : rf_m} {p o b h : Nat} {I : List (Int32 × Int32)} {st wt : List Int32} (hrc : b < 8 → anyS w n f c r ac sp rc (b + 1)) (hM : RM n f c M p I o b) (hI : I.length ≤ p) (hg : cgo w n f r p st wt 2 h o 0 b ac sp) (hst : stops 5 wt) : okCm w n f c r ac sp M p I o b st wt 5 (fun t => t ≠ 107) (g_X14_readAll w rc M) := by
  unfold g_X14_readAll
  rcases one_K H hrc hM hI hg (stops_d hst (by decide)) with ⟨M', b1, b2⟩ | ⟨M2, p2, J2, d2, C2, wx2, s2, h2, b1, b2, b3, b4, b5, b6, b7, b8, b9⟩
  · rw [b1, bx_r]
    exact Or.inl ⟨M', rfl, b2⟩
  · rw [b1, bx_l]
    obtain ⟨F, hF, hF8⟩ : ∃ F, rf_fuel = F ∧ 1000 < F := ⟨rf_fuel, rfl, by unfold rf_fuel; decide⟩
    rw [hF]
    exact all_loop H hrc hI hst F M2 p2 J2 d2 C2 wx2 s2 h2 (by have := H.1; omega) b2 b3 b4 b5 b6 (lvl_m b7 (by decide)) b8
theorem any_loop (H : HC w n f c) {rc : rf_m → Option (rf_m ⊕ rf_m)} {A : rf_m} {p0 o b : Nat} {I : List (Int32 × Int32)} {st wt : List Int32} (hrc : b < 8 → anyS w n f c r ac sp rc (b + 1)) (hI : I.length ≤ p0) (hst : stops 6 wt) : ∀ F (M : rf_m) p J d C wx s h, n - p < F → RM n f c M p (I ++ J) (o + d) b → frK c A M → J.length + p0 ≤ p → cgo w n f r p (st ++ C) (wx ++ wt) s h (o + d) 0 b ac sp → aft f n p s h → lvl 6 wx → eqv d ((C ++ wx).map dC) (J.map dRp) True → tkC f n p ≠ 107 → okCm w n f c r ac sp A p0 I o b st wt 6 (fun t => t ≠ 107 ∧ t ≠ 108) (g_X14_readAny_4 w rc F M) := by
  have H' := H
  obtain ⟨hn, hb, hc, hr⟩ := H
  intro F
  induction F with
  | zero => intro M p J d C wx s h hF; omega
  | succ F ih =>
    intro M p J d C wx s h hF hM hA hJ hg ha hl he h7
    have hp := (cgo_b hg).2.2.2
    have e8 : g_X14_isWord w M 1000019 = some (bi (tkC f n p = 108), M) := rw_r (i := 7) (by decide) (by decide) (by decide +kernel) hM.2.2.1
    show okCm w n f c r ac sp A p0 I o b st wt 6 _ (g_X14_readAny_4_b w rc (g_X14_readAny_4 w rc F) M)
    unfold g_X14_readAny_4_b
    rw [e8, b_sm, bi_ite]
    by_cases t : tkC f n p = 108
    · rw [if_pos t]
      have ee := tk_e (f := f) hp
      have ee1 := ee.2.2.2.2 (by omega)
      obtain ⟨M1, a1, a2, a3, a4⟩ := next_R hn hb hr hp hM (by omega)
      have g1 := go_or hn hb hg ha t hl hst
      rw [a1, bv_sm]
      rcases all_K H' hrc a2 (by rw [List.length_append]; omega) g1 (Or.inl (by decide)) with ⟨M', b1, b2⟩ | ⟨M2, p2, J2, d2, C2, wx2, s2, h2, b1, b2, b3, b4, b5, b6, b7, b8, b9⟩
      · rw [b1, bx_r]
        exact Or.inl ⟨M', rfl, stopped_t (frK_t hA a3) b2⟩
      · have hp2 := (cgo_b b5).2.2.2
        rw [b1, bx_l, hc, o_t, g5 hr]
        obtain ⟨M3, c1, c2, c3⟩ := put_K (w := w) (a := 10) (v := 0) hr b2.2.2.2.2.2 (by rw [List.length_append, List.length_append]; omega)
        rw [c1, bv_sm]
        have hM3 := RM_P hr b2 c3 c2
        refine ih M3 p2 (J ++ J2 ++ [(10, 0)]) (d + d2) (C ++ wx ++ C2) (wx2 ++ [-19]) s2 h2 (by omega) ?_ (frK_t hA (frK_t a3 (frK_t b3 (frP_R hr c3)))) ?_ ?_ b6 (lvl_a (lvl_m b7 (by decide)) (lvl_1 (by decide) (by decide))) ?_ b9
        · rw [← List.append_assoc, ← List.append_assoc, ← Nat.add_assoc]; exact hM3
        · simp only [List.length_append, List.length_cons, List.length_nil]; omega
        · rw [← List.append_assoc, ← List.append_assoc, ← Nat.add_assoc, List.append_assoc wx2]; exact b5
        · have := eqv_bin (K := 10) (b := True) he b8 (by decide) (Or.inr ⟨trivial, trivial⟩) (fun _ => by decide)
          have eC : (C ++ wx ++ C2 ++ (wx2 ++ [-19])).map dC = (C ++ wx).map dC ++ (C2 ++ wx2).map dC ++ [(10, 0)] := by
            rw [← (show dC (-19) = (10, 0) by decide)]; simp only [List.map_append, List.append_assoc, List.map_cons, List.map_nil]
          have eD : (J ++ J2 ++ [(10, 0)]).map dRp = J.map dRp ++ J2.map dRp ++ [(10, 0)] := by
            rw [List.map_append, List.map_append]; rfl
          rw [eC, eD]
          exact this
    · rw [if_neg t]
      exact Or.inr ⟨M, p, J, d, C, wx, s, h, rfl, hM, hA, hJ, hg, ha, hl, he, h7, t⟩
theorem any_K (H : HC w n f c) : ∀ d b, 9 ≤ d + b → b ≤ 8 → anyS w n f c r ac sp (g_X14_readAny w d) b := by
  intro d
  induction d with
  | zero => intro b h1 h2; omega
  | succ d ih =>
    intro b h1 h2 M p I o st wt h hM hI hg hst
    show okCm w n f c r ac sp M p I o b st wt 6 _ (g_X14_readAny_f w (g_X14_readAny w d) M)
    have hrc : b < 8 → anyS w n f c r ac sp (g_X14_readAny w d) (b + 1) := fun hb => ih (b + 1) (by omega) (by omega)
    unfold g_X14_readAny_f
    rcases all_K H hrc hM hI hg (stops_d hst (by decide)) with ⟨M', b1, b2⟩ | ⟨M2, p2, J2, d2, C2, wx2, s2, h2, b1, b2, b3, b4, b5, b6, b7, b8, b9⟩
    · rw [b1, bx_r]
      exact Or.inl ⟨M', rfl, b2⟩
    · rw [b1, bx_l]
      obtain ⟨F, hF, hF8⟩ : ∃ F, rf_fuel = F ∧ 1000 < F := ⟨rf_fuel, rfl, by unfold rf_fuel; decide⟩
      rw [hF]
      exact any_loop H hrc hI hst F M2 p2 J2 d2 C2 wx2 s2 h2 (by have := H.1; omega) b2 b3 b4 b5 b6 (lvl_m b7 (by decide)) b8 b9
end PBOne
