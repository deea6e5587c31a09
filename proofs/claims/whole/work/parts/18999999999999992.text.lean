/-! rules: a text is read alike -/
section PBText
variable {w : rf_w} {n c : Nat} {f : Nat → Int32} {r : Option (Int32 × rf_m)}
theorem of_sur (x : Int32) : ∃ k, x = Int32.ofNat k := by
  refine ⟨x.toUInt32.toNat, ?_⟩
  show x = (UInt32.ofNat x.toUInt32.toNat).toInt32
  rw [UInt32.ofNat_toNat]
  rfl
/-- a sum that ends the text -/
theorem last_K (H : HC w n f c) {A M : rf_m} {p o ac d1 : Nat} {I : List (Int32 × Int32)} {st wx : List Int32} (hA : frT c A M) (hM : RM n f c M p I o 0) (hI : I.length ≤ p) (hg : cgo w n f r p st wx 4 0 o 0 0 ac 0) (hl : lvl 6 wx) (h1 : 1 ≤ ac) (h5 : ac ≤ 5) (h0 : M.1 c 0 = Int32.ofNat (ac - 1)) (h4 : M.1 c 4 = Int32.ofNat I.length) (hd : d1 ≤ 30) (he : eqv d1 ((st ++ wx).map dC) (I.map dRp) False) (t2 : tkC f n p ≠ 42) (t3 : tkC f n p ≠ 43) (t5 : tkC f n p ≠ 45) (hq : tkC f n p ≠ 106 ∨ ac ≠ 2) : rNo c A r (g_X14_reads_200 w 0 M) ∨ rYes n f c A r (g_X14_reads_200 w 0 M) := by
  have hp := (cgo_b hg).2.2.2
  obtain ⟨hn, hb, hc, hr⟩ := H
  have gs := go_sum hn hb hg h5 hl t2 t3 t5
  have k1 : M.1 206 47 = 1 ↔ tkC f n p = 0 := by rw [hM.2.2.1.2.2.1]; exact sr_1
  unfold g_X14_reads_200
  rw [if_pos rfl]
  by_cases t : tkC f n p = 0
  · right
    rw [if_pos (k1.mpr t)]
    have g := gs.1 t
    refine ⟨M, ac, st ++ wx, [], I, [], d1, 0, rfl, h1, h5, by rw [List.append_nil]; exact g, h0, h4, by rw [List.append_nil]; exact hM.2.2.2.2.2, by rw [List.append_nil]; omega, hd, by omega, fun _ _ => he, Or.inl ⟨rfl, rfl⟩, hA⟩
  · left
    rw [if_neg (fun z => t (k1.mp z))]
    obtain ⟨M', s1, s2⟩ := stop_r (w := w) (r := r) (x := 1) (kd := 1) hr rfl hM.2.2.1 (gs.2.2 t hq)
    rw [s1, bv_sm]
    exact rNo_of hA rfl s2
theorem act_K (H : HC w n f c) {A M : rf_m} {p ac0 : Nat} (hA : frT c A M) (hM : RM n f c M p [] 0 0) (hg : cgo w n f r p [] [] 0 0 0 0 0 ac0 0) (q1 : 101 ≤ tkC f n p) (q2 : tkC f n p ≤ 105) : rNo c A r (g_X14_reads_119 w (Int32.ofNat (tkC f n p - 101)) M) ∨ rYes n f c A r (g_X14_reads_119 w (Int32.ofNat (tkC f n p - 101)) M) := by
  have H' := H
  have hp := (cgo_b hg).2.2.2
  obtain ⟨hn, hb, hc, hr⟩ := H
  have ga := (go_act hn hb hg).1 q1 q2
  have ee := tk_e (f := f) hp
  have ee1 := ee.2.2.2.2 (by omega)
  have nx : ∀ a, a < 99 → (Int32.ofNat (tkC f n p - 101) = Int32.ofNat a ↔ tkC f n p - 101 = a) := fun a ha => of_inj (by omega) (by omega)
  obtain ⟨s1, s2, s3, s4⟩ := set_c (x := Int32.ofNat (tkC f n p - 101)) hr (show 0 ≠ 3 by decide) hM
  obtain ⟨M2, a1, a2, a3, a4⟩ := next_R hn hb hr hp s1 (by omega)
  have hA2 : frT c A M2 := frT_t hA (frT_t s2 (frT_K a3))
  have c0 : M2.1 c 0 = Int32.ofNat (tkC f n p - 101) := (a3.2.2.1 0 (by decide)).trans s4
  have nm : ¬ Int32.ofNat (tkC f n p - 101) = -1 := fun z => by
    have := congrArg Int32.toInt z
    rw [ofI (by omega)] at this
    have e : (-1 : Int32).toInt = -1 := rfl
    omega
  unfold g_X14_reads_119
  rw [if_neg nm, hc, o_t, g5 hr, a1, bv_sm]
  generalize hx : Int32.ofNat (tkC f n p - 101) = x at nx c0
  generalize tkE f n p = p1 at *
  have hp1 := (cgo_b ga).2.2.2
  have ee' := tk_e (f := f) hp1
  -- the test behind if
  have e157 : ∀ (B : rf_m) (a : Int32), g_X14_reads_157 w a B = (if a = 0 then g_X14_reads_195 w (rf_i B c 4 (B.1 c 3)) else (if a = 2 then g_X14_reads_195 w (rf_i B c 4 (B.1 c 3)) else (if a = 1 then rf_b (g_X14_isWord w (rf_i B c 4 (B.1 c 3)) 1000017) fun y12 m12 => (if y12 = 0 then g_X14_reads_199 w m12 else g_X14_reads_195 w m12) else g_X14_reads_199 w (rf_i B c 4 (B.1 c 3))))) := by
    intro B a
    unfold g_X14_reads_157
    rw [hc, o_t, g5 hr, o_t, g5 hr]
  by_cases st : tkC f n p = 101 ∨ tkC f n p = 103
  · -- strike, again
    rw [if_pos st] at ga
    have x3 : x < 3 := by rw [← hx, show (3 : Int32) = Int32.ofNat 3 from rfl, of_lt (by omega) (by decide)]; omega
    have gi := go_if hn hb ga
    obtain ⟨u1, u2, u3, u4⟩ := set_c (x := M2.1 c 3) hr (show 4 ≠ 3 by decide) a2
    have e200 : g_X14_reads_157 w x M2 = g_X14_reads_200 w 1 (rf_i M2 c 4 (M2.1 c 3)) := by
      rw [e157]
      rcases st with q | q
      · rw [if_pos (show x = 0 from (nx 0 (by decide)).mpr (by omega))]; rfl
      · rw [if_neg (fun z => by have := (nx 0 (by decide)).mp z; omega), if_pos (show x = 2 from (nx 2 (by decide)).mpr (by omega))]; rfl
    rw [if_neg (fun z => by have := (nx 1 (by decide)).mp z; omega), if_pos x3, e200]
    have c3 : M2.1 c 3 = Int32.ofNat 0 := a2.2.2.2.2.2.1
    generalize rf_i M2 c 4 (M2.1 c 3) = B at *
    have e6 : g_X14_isWord w B 1000017 = some (bi (tkC f n p1 = 106), B) := rw_r (i := 5) (by decide) (by decide) (by decide +kernel) u1.2.2.1
    unfold g_X14_reads_200
    rw [if_neg (by decide), e6, b_sm, bi_ite]
    by_cases t6 : tkC f n p1 = 106
    · rw [if_pos t6]
      obtain ⟨M4, v1, v2, v3, v4⟩ := next_R hn hb hr hp1 u1 (by omega)
      rw [v1, bv_sm]
      refine cond_K (d1 := 0) H' (frT_t hA2 (frT_t u2 (frT_K v3))) v2 (Nat.zero_le _) (gi.1 t6) rfl (by omega) (by omega) ?_ ?_ (by omega) (fun z1 z3 => by omega)
      · rw [v3.2.2.1 0 (by decide), u3 0 (by decide), c0, ← hx]
        congr 1
      · rw [v3.2.2.1 4 (by decide), u4, c3]
        rfl
    · rw [if_neg t6]
      left
      obtain ⟨M', y1, y2⟩ := stop_r (w := w) (r := r) (x := 1) (kd := 1) hr rfl u1.2.2.1 (gi.2 t6)
      rw [y1, bv_sm]
      exact rNo_of (frT_t hA2 u2) rfl y2
  · -- a sum first
    rw [if_neg st] at ga
    have e153 : (if x = 1 then g_X14_reads_153 w x M2 else if x < 3 then g_X14_reads_157 w x M2 else g_X14_reads_153 w x M2) = g_X14_reads_153 w x M2 := by
      by_cases q : x = 1
      · rw [if_pos q]
      · rw [if_neg q, if_neg]
        intro z
        rw [← hx, show (3 : Int32) = Int32.ofNat 3 from rfl, of_lt (by omega) (by decide)] at z
        have : tkC f n p - 101 ≠ 1 := fun y => q ((nx 1 (by decide)).mpr y)
        omega
    rw [e153]
    unfold g_X14_reads_153
    have hsm := sum_K H' a2 (Nat.zero_le _) ga (Or.inl rfl) trivial
    rw [if_neg (by decide), if_neg (by decide)] at hsm
    rcases hsm with ⟨M', b1, b2⟩ | ⟨M3, p2, J, d, C, wx, b1, b2, b3, b4, b5, b6, b7, b8, b9, b10⟩
    · rw [b1, bx_r]
      exact Or.inl (rNo_of hA2 rfl b2)
    · rw [b1, bx_l]
      simp only [List.nil_append, Nat.zero_add, List.append_nil] at b2 b5
      have hp2 := cgo_b b5
      obtain ⟨u1, u2, u3, u4⟩ := set_c (x := M3.1 c 3) hr (show 4 ≠ 3 by decide) b2
      have c3 : M3.1 c 3 = Int32.ofNat J.length := b2.2.2.2.2.2.1
      have hA3 : frT c A (rf_i M3 c 4 (M3.1 c 3)) := frT_t hA2 (frT_t (frT_K b3) u2)
      have h0 : (rf_i M3 c 4 (M3.1 c 3)).1 c 0 = Int32.ofNat (tkC f n p - 100 - 1) := by
        rw [u3 0 (by decide), b3.2.2.1 0 (by decide), c0, ← hx]
        congr 1
      have h4 : (rf_i M3 c 4 (M3.1 c 3)).1 c 4 = Int32.ofNat J.length := by rw [u4, c3]
      rw [e157, if_neg (fun z => by have := (nx 0 (by decide)).mp z; omega), if_neg (fun z => by have := (nx 2 (by decide)).mp z; omega)]
      generalize rf_i M3 c 4 (M3.1 c 3) = B at *
      have e6 : g_X14_isWord w B 1000017 = some (bi (tkC f n p2 = 106), B) := rw_r (i := 5) (by decide) (by decide) (by decide +kernel) u1.2.2.1
      have last : (tkC f n p2 ≠ 106 ∨ tkC f n p - 100 ≠ 2) → rNo c A r (g_X14_reads_199 w B) ∨ rYes n f c A r (g_X14_reads_199 w B) := fun hq => last_K (d1 := d) H' hA3 u1 (by omega) b5 (lvl_m b6 (by decide)) (by omega) (by omega) h0 h4 (by omega) b7 b8 b9 b10 hq
      by_cases x1 : x = 1
      · have t2 := (nx 1 (by decide)).mp x1
        rw [if_pos x1, e6, b_sm, bi_ite]
        by_cases t6 : tkC f n p2 = 106
        · rw [if_pos t6]
          unfold g_X14_reads_195 g_X14_reads_200
          rw [if_neg (by decide), e6, b_sm, bi_ite, if_pos t6]
          have gs := (go_sum hn hb b5 (by omega) (lvl_m b6 (by decide)) b8 b9 b10).2.1 t6 (by omega)
          obtain ⟨M4, v1, v2, v3, v4⟩ := next_R hn hb hr hp2.2.2.2 u1 (by omega)
          have ee2 := tk_e (f := f) hp2.2.2.2
          rw [v1, bv_sm]
          refine cond_K (d1 := d) H' (frT_t hA3 (frT_K v3)) v2 (by omega) gs rfl (by omega) (by omega) ?_ ?_ (by omega) (fun _ _ => b7)
          · rw [v3.2.2.1 0 (by decide)]; exact h0
          · rw [v3.2.2.1 4 (by decide)]; exact h4
        · rw [if_neg t6]
          exact last (Or.inl t6)
      · rw [if_neg x1]
        exact last (Or.inr (fun z => x1 ((nx 1 (by decide)).mpr (by omega))))
theorem reads_K (H : HC w n f c) {m : rf_m} {ac0 : Nat} (h45 : m.1 206 45 = Int32.ofNat n) (hf : ∀ k, m.1 234 k &&& 255 = f k) (hg : cgo w n f r 0 [] [] 0 0 0 0 0 ac0 0) : rNo c m r (g_X14_reads w m) ∨ rYes n f c m r (g_X14_reads w m) := by
  have H' := H
  obtain ⟨hn, hb, hc, hr⟩ := H
  obtain ⟨n1, n2, n3, n4, n5, n6, n7, n8, n9⟩ := rob_ne hr
  unfold g_X14_reads
  rw [hc, o_t, g5 hr]
  generalize hB : rf_i (rf_i (rf_i (rf_i m c 3 0) 206 51 0) 206 52 0) 206 46 0 = B
  have b206 : ∀ k, B.1 206 k = if k = 46 then 0 else if k = 52 then 0 else if k = 51 then 0 else m.1 206 k := by
    intro k
    rw [← hB, rf_i_c, if_pos rfl, rf_i_c, if_pos rfl, rf_i_c, if_pos rfl, rf_i_c, if_neg (Ne.symm n1)]
    rfl
  have bz : ∀ z, z ≠ 206 → z ≠ c → B.1 z = m.1 z := fun z z1 z2 => by rw [← hB, rf_i_c, if_neg z1, rf_i_c, if_neg z1, rf_i_c, if_neg z1, rf_i_c, if_neg z2]
  have bc : B.1 c 3 = 0 := by rw [← hB, rf_i_c, if_neg n1, rf_i_c, if_neg n1, rf_i_c, if_neg n1, rf_i_c, if_pos rfl, pu_at]
  have b2 : B.2 = m.2 := by rw [← hB]; rfl
  clear hB
  obtain ⟨M1, a1, k2, k3, k4, k5, k6, k7, k8, k9, k10⟩ := next_r (w := w) (m := B) (n := n) (p := 0) (f := f) hn (Nat.zero_le _) (fun k => by rw [bz 234 (by decide) (Ne.symm n3)]; exact hf k) hb (by rw [b206]; exact h45) (by rw [b206]; rfl)
  have hM : RM n f c M1 0 [] 0 0 := by
    refine ⟨?_, fun k => ?_, ⟨k5, k6, k7, k8, k9, k10⟩, ?_, ?_, ?_, fun i x hx => by cases hx⟩
    · rw [k3 45 (by omega), b206]; exact h45
    · rw [k2 234 (by decide), bz 234 (by decide) (Ne.symm n3)]; exact hf k
    · rw [k3 52 (by omega), b206]; rfl
    · rw [k3 51 (by omega), b206]; rfl
    · rw [k2 c n1, bc]; rfl
  have hA : frT c m M1 := by
    refine ⟨fun z z1 _ z3 _ _ => by rw [k2 z z1, bz z z1 z3], fun k hk => ?_, fun z k hk => by rw [k4 z k hk, b2]⟩
    rw [k3 k (by omega), b206, if_neg (by omega), if_neg (by omega), if_neg (by omega)]
  rw [a1, bv_sm]
  have rk := hM.2.2.1
  have q2 : M1.1 206 47 = 2 ↔ 99 ≤ tkC f n 0 := by rw [rk.2.2.1]; exact sr_2
  have ga := (go_act hn hb hg).2
  have no : ∀ (x : Int32) (kd : Nat), x = Int32.ofNat kd → ¬ (101 ≤ tkC f n 0 ∧ tkC f n 0 ≤ 105) → kd = (if tkC f n 0 < 99 ∨ (106 ≤ tkC f n 0 ∧ tkC f n 0 ≤ 109) then 1 else 2) → rNo c m r (rf_bv (g_X14_stop w M1 x) fun m7 => some (.inr m7)) := by
    intro x kd hx hq hk
    obtain ⟨M', y1, y2⟩ := stop_r (w := w) (r := r) (x := x) (kd := kd) hr hx rk (by rw [hk]; exact ga hq)
    rw [y1, bv_sm]
    exact rNo_of hA rfl y2
  by_cases t9 : 99 ≤ tkC f n 0
  · rw [if_pos (q2.mpr t9), kept_r rk, b_sm, bi_ite]
    by_cases tj : 106 ≤ tkC f n 0 ∧ tkC f n 0 ≤ 109
    · rw [if_pos tj]
      exact Or.inl (no 1 1 rfl (by omega) (by rw [if_pos (Or.inr tj)]))
    · rw [if_neg tj]
      have w1 : g_X14_isWord w M1 1000021 = some (bi (tkC f n 0 = 101), M1) := rw_r (i := 0) (by decide) (by decide) (by decide +kernel) rk
      have w2 : g_X14_isWord w M1 1000022 = some (bi (tkC f n 0 = 102), M1) := rw_r (i := 1) (by decide) (by decide) (by decide +kernel) rk
      have w3 : g_X14_isWord w M1 1000023 = some (bi (tkC f n 0 = 103), M1) := rw_r (i := 2) (by decide) (by decide) (by decide +kernel) rk
      have w4 : g_X14_isWord w M1 1000024 = some (bi (tkC f n 0 = 104), M1) := rw_r (i := 3) (by decide) (by decide) (by decide +kernel) rk
      have w5 : g_X14_isWord w M1 1000025 = some (bi (tkC f n 0 = 105), M1) := rw_r (i := 4) (by decide) (by decide) (by decide +kernel) rk
      by_cases ta : 101 ≤ tkC f n 0 ∧ tkC f n 0 ≤ 105
      · have k := act_K H' hA hM hg ta.1 ta.2
        rcases (show tkC f n 0 = 101 ∨ tkC f n 0 = 102 ∨ tkC f n 0 = 103 ∨ tkC f n 0 = 104 ∨ tkC f n 0 = 105 by omega) with e | e | e | e | e
        · rw [w1, b_sm, bi_ite, if_pos e]
          rw [e] at k
          exact k
        · rw [w1, b_sm, bi_ite, if_neg (by omega), w2, b_sm, bi_ite, if_pos e]
          rw [e] at k
          exact k
        · rw [w1, b_sm, bi_ite, if_neg (by omega), w2, b_sm, bi_ite, if_neg (by omega), w3, b_sm, bi_ite, if_pos e]
          rw [e] at k
          exact k
        · rw [w1, b_sm, bi_ite, if_neg (by omega), w2, b_sm, bi_ite, if_neg (by omega), w3, b_sm, bi_ite, if_neg (by omega), w4, b_sm, bi_ite, if_pos e]
          rw [e] at k
          exact k
        · rw [w1, b_sm, bi_ite, if_neg (by omega), w2, b_sm, bi_ite, if_neg (by omega), w3, b_sm, bi_ite, if_neg (by omega), w4, b_sm, bi_ite, if_neg (by omega), w5, b_sm, bi_ite, if_pos e]
          rw [e] at k
          exact k
      · rw [w1, b_sm, bi_ite, if_neg (by omega), w2, b_sm, bi_ite, if_neg (by omega), w3, b_sm, bi_ite, if_neg (by omega), w4, b_sm, bi_ite, if_neg (by omega), w5, b_sm, bi_ite, if_neg (by omega)]
        unfold g_X14_reads_119
        rw [if_pos rfl]
        exact Or.inl (no 2 2 rfl ta (by rw [if_neg (by omega)]))
  · rw [if_neg (fun z => t9 (q2.mp z))]
    exact Or.inl (no 1 1 rfl (by omega) (by rw [if_pos (Or.inl (by omega))]))
/-- the class's loop begins -/
theorem parse_K {m : rf_m} (h15 : m.1 15 = f) : ∃ ac0, cgo w n f (g_X8_parse w m (Int32.ofNat n)) 0 [] [] 0 0 0 0 0 ac0 0 := by
  obtain ⟨ac0, hac⟩ := of_sur (m.1 14 4)
  unfold g_X8_parse
  obtain ⟨F, hF, hF8⟩ : ∃ F, rf_fuel = F ∧ 1000 < F := ⟨rf_fuel, rfl, by unfold rf_fuel; decide⟩
  rw [hF]
  refine ⟨ac0, F, 0, _, ⟨?_, ?_, ?_, ?_⟩, ⟨?_, (fun i x hx => nomatch hx), ?_, trivial⟩, ⟨?_, ?_, ?_, ?_, ?_, ?_, ?_⟩, ⟨by omega, by omega, by omega, by simp⟩, ?_, Nat.zero_le _, by omega, Nat.le_refl _, rfl⟩
  · simp only [rf_i_c, if_neg (show ¬ (15 : Nat) = 14 by decide)]; exact h15
  · simp [rf_iat]
  · simp [rf_iat]
  · simp [rf_iat]
  · simp [rf_iat]
  · simp [rf_iat]
  · simp [rf_iat]
  · simp [rf_iat]
  · simp [rf_iat]
  · simp [rf_iat]
  · simp [rf_iat]
  · simp [rf_iat, hac]
  · simp [rf_iat]
  · simp [rf_iat]
end PBText
