/-! rules: what the class does at a token, by what is due -/
section PBTrans2
theorem joint_and {w : rf_w} {m : rf_m} {n p : Nat} {f : Nat → Int32} {st wx wt : List Int32} {s h o k b ac sp : Nat} (hn : n ≤ 300) (hp : p ≤ n) (ct : CT n f p m st (wx ++ wt) s h o k b ac sp) (ht : tkC f n p = 107) (hl : lvl 5 wx) (hs : stops 5 wt) (hb : st.length + wx.length + wt.length < 159) : ∃ M, g_X8_takeJoint w m = some M ∧ CT n f p M (st ++ wx) (-18 :: wt) 2 h o k b ac sp := by
  obtain ⟨ca, ls, cn, tk⟩ := ct
  unfold g_X8_takeJoint
  have w7 : g_X8_isWord w m 1000007 = some (bi (tkC f n p = 107), m) := ct_w (i := 6) hn hp (by decide) ca tk
  rw [w7, b_sm, bi_ite, if_pos ht]
  obtain ⟨M, j1, j2, j3, j4, j5, j6⟩ := join_c (w := w) (sg := -18) (th := 2) ls hs hl hb
  rw [j1, bv_sm]
  refine ⟨M, rfl, ⟨(j4 15 (by decide) (by decide) (by decide)).trans ca.1, (j5 7 (by decide) (by decide) (by decide)).trans ca.2.1, (j5 5 (by decide) (by decide) (by decide)).trans ca.2.2.1, (j5 6 (by decide) (by decide) (by decide)).trans ca.2.2.2⟩, j2, ⟨j3, (j5 13 (by decide) (by decide) (by decide)).trans cn.2.1, (j5 14 (by decide) (by decide) (by decide)).trans cn.2.2.1, (j5 15 (by decide) (by decide) (by decide)).trans cn.2.2.2.1, (j5 16 (by decide) (by decide) (by decide)).trans cn.2.2.2.2.1, (j5 4 (by decide) (by decide) (by decide)).trans cn.2.2.2.2.2.1, (j5 3 (by decide) (by decide) (by decide)).trans cn.2.2.2.2.2.2⟩, ⟨(j5 8 (by decide) (by decide) (by decide)).trans tk.1, (j5 9 (by decide) (by decide) (by decide)).trans tk.2.1, (j5 10 (by decide) (by decide) (by decide)).trans tk.2.2.1, fun q => (j5 11 (by decide) (by decide) (by decide)).trans (tk.2.2.2 q)⟩⟩
/-- a sign is joined -/
theorem join_t {w : rf_w} {m : rf_m} {n p : Nat} {f : Nat → Int32} {st wx wt : List Int32} {s h o k b ac sp s' : Nat} {sg : Int32} (ct : CT n f p m st (wx ++ wt) s h o k b ac sp) (hl : lvl (losN sg) wx) (hs : stops (losN sg) wt) (hb : st.length + wx.length + wt.length < 159) : ∃ M, g_X8_join w m sg (Int32.ofNat s') = some M ∧ CT n f p M (st ++ wx) (sg :: wt) s' h o k b ac sp := by
  obtain ⟨ca, ls, cn, tk⟩ := ct
  obtain ⟨M, j1, j2, j3, j4, j5, j6⟩ := join_c (w := w) (sg := sg) (th := Int32.ofNat s') ls hs hl hb
  refine ⟨M, j1, ⟨(j4 15 (by decide) (by decide) (by decide)).trans ca.1, (j5 7 (by decide) (by decide) (by decide)).trans ca.2.1, (j5 5 (by decide) (by decide) (by decide)).trans ca.2.2.1, (j5 6 (by decide) (by decide) (by decide)).trans ca.2.2.2⟩, j2, ⟨j3, (j5 13 (by decide) (by decide) (by decide)).trans cn.2.1, (j5 14 (by decide) (by decide) (by decide)).trans cn.2.2.1, (j5 15 (by decide) (by decide) (by decide)).trans cn.2.2.2.1, (j5 16 (by decide) (by decide) (by decide)).trans cn.2.2.2.2.1, (j5 4 (by decide) (by decide) (by decide)).trans cn.2.2.2.2.2.1, (j5 3 (by decide) (by decide) (by decide)).trans cn.2.2.2.2.2.2⟩, ⟨(j5 8 (by decide) (by decide) (by decide)).trans tk.1, (j5 9 (by decide) (by decide) (by decide)).trans tk.2.1, (j5 10 (by decide) (by decide) (by decide)).trans tk.2.2.1, fun q => (j5 11 (by decide) (by decide) (by decide)).trans (tk.2.2.2 q)⟩⟩
theorem joint_or {w : rf_w} {m : rf_m} {n p : Nat} {f : Nat → Int32} {st wx wt : List Int32} {s h o k b ac sp : Nat} (hn : n ≤ 300) (hp : p ≤ n) (ct : CT n f p m st (wx ++ wt) s h o k b ac sp) (ht : tkC f n p = 108) (hl : lvl 6 wx) (hs : stops 6 wt) (hb : st.length + wx.length + wt.length < 159) : ∃ M, g_X8_takeJoint w m = some M ∧ CT n f p M (st ++ wx) (-19 :: wt) 2 h o k b ac sp := by
  have ct' := ct
  obtain ⟨ca, ls, cn, tk⟩ := ct
  unfold g_X8_takeJoint
  have w7 : g_X8_isWord w m 1000007 = some (bi (tkC f n p = 107), m) := ct_w (i := 6) hn hp (by decide) ca tk
  have w8 : g_X8_isWord w m 1000008 = some (bi (tkC f n p = 108), m) := ct_w (i := 7) hn hp (by decide) ca tk
  rw [w7, b_sm, bi_ite, if_neg (by omega), w8, b_sm, bi_ite, if_pos ht]
  obtain ⟨M, j1, j2⟩ := join_t (w := w) (sg := -19) (s' := 2) ct' hl hs hb
  rw [show (2 : Int32) = Int32.ofNat 2 from rfl, j1, bv_sm]
  exact ⟨M, rfl, j2⟩
theorem release_t {w : rf_w} {m : rf_m} {n p : Nat} {f : Nat → Int32} {st wx wt : List Int32} {s h o k b ac sp : Nat} {sg : Int32} (ct : CT n f p m st (wx ++ wt) s h o k b ac sp) (hl : lvl (losN sg) wx) (hs : stops (losN sg) wt) (hb : st.length + wx.length + wt.length < 159) : ∃ M, g_X8_release w m sg = some M ∧ CT n f p M (st ++ wx) wt s h o k b ac sp := by
  obtain ⟨ca, ls, cn, tk⟩ := ct
  unfold g_X8_release
  obtain ⟨F, hF, hF8⟩ : ∃ F, rf_fuel = F ∧ 1000 < F := ⟨rf_fuel, rfl, by unfold rf_fuel; decide⟩
  rw [hF]
  obtain ⟨M, k1, k2, k3⟩ := release_c (w := w) hs wx st m F (by omega) ls hl (by omega) (by omega)
  exact ⟨M, k1, CA_fw k3 ca, k2, CN_fw k3 cn, TK_fw k3 tk⟩
theorem joint_close {w : rf_w} {m : rf_m} {n p : Nat} {f : Nat → Int32} {st wx wt : List Int32} {s h o k b ac sp : Nat} (hn : n ≤ 300) (hp : p ≤ n) (ct : CT n f p m st (wx ++ -20 :: wt) s h o k (b + 1) ac sp) (hb8 : b + 1 ≤ 8) (ht : tkC f n p = 41) (hl : lvl 6 wx) (hb : st.length + wx.length + wt.length < 158) : ∃ M, g_X8_takeJoint w m = some M ∧ CT n f p M (st ++ wx) wt 5 h o k b ac sp := by
  obtain ⟨ca, ls, cn, tk⟩ := ct
  unfold g_X8_takeJoint
  have w7 : g_X8_isWord w m 1000007 = some (bi (tkC f n p = 107), m) := ct_w (i := 6) hn hp (by decide) ca tk
  have w8 : g_X8_isWord w m 1000008 = some (bi (tkC f n p = 108), m) := ct_w (i := 7) hn hp (by decide) ca tk
  have k41 : m.1 14 10 = 41 ↔ tkC f n p = 41 := ct_k (c := 41) (by decide) (by decide) tk
  have n0 : ¬ m.1 14 16 ≤ 0 := by
    rw [cn.2.2.2.2.1]
    exact nle (i := 0) (R := b + 1) (by omega) (by omega)
  rw [w7, b_sm, bi_ite, if_neg (by omega), w8, b_sm, bi_ite, if_neg (by omega), if_pos (k41.mpr ht), if_neg n0]
  have ct1 : CT n f p (rf_i m 14 16 (m.1 14 16 - 1)) st (wx ++ -20 :: wt) s h o k b ac sp := ⟨CA_i (by decide) (by decide) (by decide) ca, LSm_i (by decide) (by decide) ls, CN_16 (by rw [cn.2.2.2.2.1, ofm1']) cn, TK_i (by decide) (by decide) (by decide) (by decide) tk⟩
  obtain ⟨M, j1, j2⟩ := release_t (w := w) (sg := -20) ct1 (show lvl 6 wx from hl) (Or.inr rfl) (by simp only [List.length_cons]; omega)
  rw [j1, bv_sm]
  obtain ⟨ca2, ls2, cn2, tk2⟩ := j2
  obtain ⟨l1, l2, l3, l4⟩ := ls2
  have e18 : M.1 14 18 - 1 = Int32.ofNat wt.length := by rw [l3]; exact ofm1'
  refine ⟨_, rfl, CA_i (by decide) (by decide) (by decide) (CA_i (by decide) (by decide) (by decide) ca2), LSm_i (by decide) (by decide) ⟨?_, ?_, ?_, ?_⟩, CN_12 rfl ⟨(i14 (by decide)).trans cn2.1, (i14 (by decide)).trans cn2.2.1, (i14 (by decide)).trans cn2.2.2.1, (i14 (by decide)).trans cn2.2.2.2.1, (i14 (by decide)).trans cn2.2.2.2.2.1, (i14 (by decide)).trans cn2.2.2.2.2.2.1, (i14 (by decide)).trans cn2.2.2.2.2.2.2⟩, TK_i (by decide) (by decide) (by decide) (by decide) (TK_i (by decide) (by decide) (by decide) (by decide) tk2)⟩
  · exact (i14 (by decide)).trans l1
  · rw [i14c (by decide)]; exact l2
  · exact i14a.trans e18
  · rw [i14c (by decide)]; exact l4.2
theorem joint_end {w : rf_w} {m : rf_m} {n p : Nat} {f : Nat → Int32} {st wx : List Int32} {s h o k ac sp : Nat} (hn : n ≤ 300) (hp : p ≤ n) (ct : CT n f p m st wx s h o k 0 ac sp) (ht : tkC f n p = 0) (hl : lvl 6 wx) (hb : st.length + wx.length < 158) : ∃ M, g_X8_takeJoint w m = some M ∧ CT n f p M (st ++ wx) [] 6 h o k 0 ac sp := by
  have ct' := ct
  obtain ⟨ca, ls, cn, tk⟩ := ct
  unfold g_X8_takeJoint g_X8_takeJoint_88
  have w7 : g_X8_isWord w m 1000007 = some (bi (tkC f n p = 107), m) := ct_w (i := 6) hn hp (by decide) ca tk
  have w8 : g_X8_isWord w m 1000008 = some (bi (tkC f n p = 108), m) := ct_w (i := 7) hn hp (by decide) ca tk
  have k41 : m.1 14 10 = 41 ↔ tkC f n p = 41 := ct_k (c := 41) (by decide) (by decide) tk
  have k0 : m.1 14 10 = 0 ↔ tkC f n p = 0 := ct_k (c := 0) (by decide) (by decide) tk
  rw [w7, b_sm, bi_ite, if_neg (by omega), w8, b_sm, bi_ite, if_neg (by omega), if_neg (fun z => by have := k41.mp z; omega), if_pos (k0.mpr ht), if_pos (show m.1 14 16 = 0 from cn.2.2.2.2.1)]
  have ct1 : CT n f p m st (wx ++ []) s h o k 0 ac sp := by rw [List.append_nil]; exact ct'
  obtain ⟨M, j1, j2⟩ := release_t (w := w) (sg := -20) ct1 (show lvl 6 wx from hl) trivial (by simp only [List.length_nil]; omega)
  rw [j1, bv_sm]
  obtain ⟨ca2, ls2, cn2, tk2⟩ := j2
  exact ⟨_, rfl, CA_i (by decide) (by decide) (by decide) ca2, LSm_i (by decide) (by decide) ls2, CN_12 rfl cn2, TK_i (by decide) (by decide) (by decide) (by decide) tk2⟩
theorem joint_no {w : rf_w} {m : rf_m} {n p : Nat} {f : Nat → Int32} {st wt : List Int32} {s h o k b ac sp : Nat} (hn : n ≤ 300) (hp : p ≤ n) (hb8 : b ≤ 8) (ct : CT n f p m st wt s h o k b ac sp) (h7 : tkC f n p ≠ 107) (h8 : tkC f n p ≠ 108) (h4 : tkC f n p = 41 → b = 0) (h0 : tkC f n p = 0 → b ≠ 0) : ∃ M, g_X8_takeJoint w m = some M ∧ CF M 1 (tS f n p) := by
  obtain ⟨ca, ls, cn, tk⟩ := ct
  unfold g_X8_takeJoint g_X8_takeJoint_88
  have w7 : g_X8_isWord w m 1000007 = some (bi (tkC f n p = 107), m) := ct_w (i := 6) hn hp (by decide) ca tk
  have w8 : g_X8_isWord w m 1000008 = some (bi (tkC f n p = 108), m) := ct_w (i := 7) hn hp (by decide) ca tk
  have k41 : m.1 14 10 = 41 ↔ tkC f n p = 41 := ct_k (c := 41) (by decide) (by decide) tk
  have k0 : m.1 14 10 = 0 ↔ tkC f n p = 0 := ct_k (c := 0) (by decide) (by decide) tk
  obtain ⟨M, f1, f2⟩ := fail_c (w := w) (x := 1) (kd := 1) rfl tk.1
  have fin : ∃ M, (rf_bv (g_X8_fail w m 1) fun m0 => some m0) = some M ∧ CF M 1 (tS f n p) := ⟨M, by rw [f1, bv_sm], f2⟩
  rw [w7, b_sm, bi_ite, if_neg h7, w8, b_sm, bi_ite, if_neg h8]
  have b0 : m.1 14 16 = 0 ↔ b = 0 := by
    rw [cn.2.2.2.2.1]
    exact of_inj (b := 0) (by omega) (by decide)
  have f88 : ∃ M, (if m.1 14 10 = 0 then (if m.1 14 16 = 0 then rf_bv (g_X8_release w m (-20)) fun m2 => some (rf_i m2 14 12 6) else rf_bv (g_X8_fail w m 1) fun m1 => some m1) else rf_bv (g_X8_fail w m 1) fun m0 => some m0) = some M ∧ CF M 1 (tS f n p) := by
    by_cases q : tkC f n p = 0
    · rw [if_pos (k0.mpr q), if_neg (fun z => h0 q (b0.mp z))]; exact fin
    · rw [if_neg (fun z => q (k0.mp z))]; exact fin
  by_cases q : tkC f n p = 41
  · rw [if_pos (k41.mpr q), if_pos (show m.1 14 16 ≤ 0 by rw [b0.mpr (h4 q)]; exact Int32.le_refl _)]
    exact f88
  · rw [if_neg (fun z => q (k41.mp z))]
    exact f88
theorem if_c {w : rf_w} {m : rf_m} {n p : Nat} {f : Nat → Int32} {st wt : List Int32} {s h o k b ac sp : Nat} (hn : n ≤ 300) (hp : p ≤ n) (ct : CT n f p m st wt s h o k b ac sp) : (tkC f n p = 106 → ∃ M, g_X8_takeIf w m = some M ∧ CT n f p M st wt 2 h o k b ac sp) ∧ (tkC f n p ≠ 106 → ∃ M, g_X8_takeIf w m = some M ∧ CF M 1 (tS f n p)) := by
  obtain ⟨ca, ls, cn, tk⟩ := ct
  have w6 : g_X8_isWord w m 1000006 = some (bi (tkC f n p = 106), m) := ct_w (i := 5) hn hp (by decide) ca tk
  unfold g_X8_takeIf
  rw [w6, b_sm, bi_ite]
  constructor
  · intro q
    rw [if_pos q]
    exact ⟨_, rfl, CA_i (by decide) (by decide) (by decide) ca, LSm_i (by decide) (by decide) ls, CN_12 rfl cn, TK_i (by decide) (by decide) (by decide) (by decide) tk⟩
  · intro q
    obtain ⟨M, f1, f2⟩ := fail_c (w := w) (x := 1) (kd := 1) rfl tk.1
    rw [if_neg q, f1, bv_sm]
    exact ⟨M, rfl, f2⟩
/-- a sum that stands alone has ended -/
theorem sum_end {w : rf_w} {m : rf_m} {n p : Nat} {f : Nat → Int32} {st wx : List Int32} {s h o k b ac sp : Nat} (hn : n ≤ 300) (hp : p ≤ n) (ct : CT n f p m st wx s h o k b ac sp) (hac : ac ≤ 5) (hl : lvl 6 wx) (hb : st.length + wx.length < 158) : (tkC f n p = 0 → ∃ M, g_X8_endSum w m = some M ∧ CT n f p M (st ++ wx) [] 6 h o k b ac (st ++ wx).length) ∧ (tkC f n p = 106 → ac = 2 → ∃ M, g_X8_endSum w m = some M ∧ CT n f p M (st ++ wx) [] 2 h o k b ac (st ++ wx).length) ∧ (tkC f n p ≠ 0 → (tkC f n p ≠ 106 ∨ ac ≠ 2) → ∃ M, g_X8_endSum w m = some M ∧ CF M 1 (tS f n p)) := by
  have ct1 : CT n f p m st (wx ++ []) s h o k b ac sp := by rw [List.append_nil]; exact ct
  obtain ⟨M, j1, j2⟩ := release_t (w := w) (sg := -20) ct1 (show lvl 6 wx from hl) trivial (by simp only [List.length_nil]; omega)
  obtain ⟨ca2, ls2, cn2, tk2⟩ := j2
  have ct3 : CT n f p (rf_i M 14 3 (M.1 14 2)) (st ++ wx) [] s h o k b ac (st ++ wx).length := ⟨CA_i (by decide) (by decide) (by decide) ca2, LSm_i (by decide) (by decide) ls2, CN_3 ls2.1 cn2, TK_i (by decide) (by decide) (by decide) (by decide) tk2⟩
  have k0 : (rf_i M 14 3 (M.1 14 2)).1 14 10 = 0 ↔ tkC f n p = 0 := ct_k (c := 0) (by decide) (by decide) ct3.2.2.2
  have a2 : (rf_i M 14 3 (M.1 14 2)).1 14 4 = 2 ↔ ac = 2 := by
    rw [ct3.2.2.1.2.2.2.2.2.1]
    exact of_inj (b := 2) (by omega) (by decide)
  obtain ⟨i1, i2⟩ := if_c (w := w) hn hp ct3
  have ct3' := ct3
  obtain ⟨ca3, ls3, cn3, tk3⟩ := ct3
  unfold g_X8_endSum
  rw [j1, bv_sm]
  refine ⟨fun q => ?_, fun q qa => ?_, fun q qa => ?_⟩
  · rw [if_pos (k0.mpr q)]
    exact ⟨_, rfl, CA_i (by decide) (by decide) (by decide) ca3, LSm_i (by decide) (by decide) ls3, CN_12 rfl cn3, TK_i (by decide) (by decide) (by decide) (by decide) tk3⟩
  · rw [if_neg (fun z => by have := k0.mp z; omega), if_pos (a2.mpr qa)]
    obtain ⟨M', l1, l2⟩ := i1 q
    rw [l1, bv_sm]
    exact ⟨M', rfl, l2⟩
  · rw [if_neg (fun z => q (k0.mp z))]
    by_cases e : ac = 2
    · rw [if_pos (a2.mpr e)]
      obtain ⟨M', l1, l2⟩ := i2 (by omega)
      rw [l1, bv_sm]
      exact ⟨M', rfl, l2⟩
    · rw [if_neg (fun z => e (a2.mp z))]
      obtain ⟨M', f1, f2⟩ := fail_c (w := w) (x := 1) (kd := 1) rfl tk3.1
      rw [f1, bv_sm]
      exact ⟨M', rfl, f2⟩
def sgO (t : Nat) : Int32 := if t = 42 then -11 else if t = 43 then -12 else if t = 45 then -13 else if t = 60 then -14 else if t = 61 then -16 else if t = 62 then -15 else -1
theorem sign_h {w : rf_w} {m : rf_m} {n p : Nat} {f : Nat → Int32} (tk : TK n f p m) : g_X8_signHere w m = some (sgO (tkC f n p), m) := by
  have k2 : m.1 14 10 = 42 ↔ tkC f n p = 42 := ct_k (c := 42) (by decide) (by decide) tk
  have k3 : m.1 14 10 = 43 ↔ tkC f n p = 43 := ct_k (c := 43) (by decide) (by decide) tk
  have k5 : m.1 14 10 = 45 ↔ tkC f n p = 45 := ct_k (c := 45) (by decide) (by decide) tk
  have k60 : m.1 14 10 = 60 ↔ tkC f n p = 60 := ct_k (c := 60) (by decide) (by decide) tk
  have k61 : m.1 14 10 = 61 ↔ tkC f n p = 61 := ct_k (c := 61) (by decide) (by decide) tk
  have k62 : m.1 14 10 = 62 ↔ tkC f n p = 62 := ct_k (c := 62) (by decide) (by decide) tk
  unfold g_X8_signHere sgO
  simp only [k2, k3, k5, k60, k61, k62]
  repeat' split
  all_goals rfl
/-- plus, minus, times behind an operand -/
theorem sign_go {w : rf_w} {m : rf_m} {n p : Nat} {f : Nat → Int32} {st wx wt : List Int32} {s h o k b ac sp : Nat} {sg : Int32} (ct : CT n f p m st (wx ++ wt) s h o k b ac sp) (ht : (tkC f n p = 42 ∧ sg = -11) ∨ (tkC f n p = 43 ∧ sg = -12) ∨ (tkC f n p = 45 ∧ sg = -13)) (hl : lvl (losN sg) wx) (hs : stops (losN sg) wt) (hb : st.length + wx.length + wt.length < 159) : ∃ M, g_X8_takeSign w m = some M ∧ CT n f p M (st ++ wx) (sg :: wt) 3 h o k b ac sp := by
  obtain ⟨M, j1, j2⟩ := join_t (w := w) (sg := sg) (s' := 3) ct hl hs hb
  have tk := ct.2.2.2
  unfold g_X8_takeSign
  rw [sign_h tk, b_sm]
  have e : sgO (tkC f n p) = sg := by
    rcases ht with ⟨h1, h2⟩ | ⟨h1, h2⟩ | ⟨h1, h2⟩ <;> rw [h1, h2] <;> rfl
  rw [e, show (3 : Int32) = Int32.ofNat 3 from rfl, j1]
  rcases ht with ⟨h1, h2⟩ | ⟨h1, h2⟩ | ⟨h1, h2⟩
  · rw [if_pos h2]; exact ⟨M, rfl, j2⟩
  · rw [if_neg (by rw [h2]; decide), if_pos h2]; exact ⟨M, rfl, j2⟩
  · rw [if_neg (by rw [h2]; decide), if_neg (by rw [h2]; decide), if_pos h2]; exact ⟨M, rfl, j2⟩
/-- a comparing sign behind the left sum -/
theorem sign_cmp {w : rf_w} {m : rf_m} {n p : Nat} {f : Nat → Int32} {st wx wt : List Int32} {s o k b ac sp : Nat} {sg : Int32} (ct : CT n f p m st (wx ++ wt) s 1 o k b ac sp) (ht : (tkC f n p = 60 ∧ sg = -14) ∨ (tkC f n p = 61 ∧ sg = -16) ∨ (tkC f n p = 62 ∧ sg = -15)) (hl : lvl (losN sg) wx) (hs : stops (losN sg) wt) (hb : st.length + wx.length + wt.length < 159) : ∃ M, g_X8_takeSign w m = some M ∧ CT n f p M (st ++ wx) (sg :: wt) 3 2 o k b ac sp := by
  obtain ⟨ca, ls, cn, tk⟩ := ct
  have ct1 : CT n f p (rf_i m 14 13 2) st (wx ++ wt) s 2 o k b ac sp := ⟨CA_i (by decide) (by decide) (by decide) ca, LSm_i (by decide) (by decide) ls, CN_13 rfl cn, TK_i (by decide) (by decide) (by decide) (by decide) tk⟩
  obtain ⟨M, j1, j2⟩ := join_t (w := w) (sg := sg) (s' := 3) ct1 hl hs hb
  have e13 : m.1 14 13 = 1 := cn.2.1
  unfold g_X8_takeSign
  rw [sign_h tk, b_sm]
  have e : sgO (tkC f n p) = sg := by
    rcases ht with ⟨h1, h2⟩ | ⟨h1, h2⟩ | ⟨h1, h2⟩ <;> rw [h1, h2] <;> rfl
  have ne : ¬ sg = -11 ∧ ¬ sg = -12 ∧ ¬ sg = -13 ∧ ¬ sg = -1 := by
    rcases ht with ⟨_, h2⟩ | ⟨_, h2⟩ | ⟨_, h2⟩ <;> subst h2 <;> decide
  rw [e, if_neg ne.1, if_neg ne.2.1, if_neg ne.2.2.1, e13, if_neg (by decide), if_neg (by decide), if_neg ne.2.2.2, show (3 : Int32) = Int32.ofNat 3 from rfl, j1]
  exact ⟨M, rfl, j2⟩
theorem sign_no {w : rf_w} {m : rf_m} {n p : Nat} {f : Nat → Int32} {st wt : List Int32} {s o k b ac sp : Nat} (ct : CT n f p m st wt s 1 o k b ac sp) (h1 : tkC f n p ≠ 42) (h2 : tkC f n p ≠ 43) (h3 : tkC f n p ≠ 45) (h4 : tkC f n p ≠ 60) (h5 : tkC f n p ≠ 61) (h6 : tkC f n p ≠ 62) : ∃ M, g_X8_takeSign w m = some M ∧ CF M 1 (tS f n p) := by
  obtain ⟨ca, ls, cn, tk⟩ := ct
  have e13 : m.1 14 13 = 1 := cn.2.1
  have e : sgO (tkC f n p) = -1 := by
    unfold sgO
    rw [if_neg h1, if_neg h2, if_neg h3, if_neg h4, if_neg h5, if_neg h6]
  obtain ⟨M, f1, f2⟩ := fail_c (w := w) (x := 1) (kd := 1) rfl tk.1
  unfold g_X8_takeSign
  rw [sign_h tk, b_sm, e, if_neg (by decide), if_neg (by decide), if_neg (by decide), e13, if_neg (by decide), if_neg (by decide), if_pos rfl, f1]
  exact ⟨M, rfl, f2⟩
/-- behind the right sum, or behind a sum alone -/
theorem sign_on {w : rf_w} {m : rf_m} {n p : Nat} {f : Nat → Int32} {st wt : List Int32} {s h o k b ac sp : Nat} (ct : CT n f p m st wt s h o k b ac sp) (h1 : tkC f n p ≠ 42) (h2 : tkC f n p ≠ 43) (h3 : tkC f n p ≠ 45) : (h = 2 → ∀ M, g_X8_takeJoint w m = some M → g_X8_takeSign w m = some M) ∧ (h = 0 → ∀ M, g_X8_endSum w m = some M → g_X8_takeSign w m = some M) := by
  obtain ⟨ca, ls, cn, tk⟩ := ct
  have e1 : ¬ sgO (tkC f n p) = -11 := by
    unfold sgO
    rw [if_neg h1, if_neg h2, if_neg h3]
    repeat' split
    all_goals decide
  have e2 : ¬ sgO (tkC f n p) = -12 := by
    unfold sgO
    rw [if_neg h1, if_neg h2, if_neg h3]
    repeat' split
    all_goals decide
  have e3 : ¬ sgO (tkC f n p) = -13 := by
    unfold sgO
    rw [if_neg h1, if_neg h2, if_neg h3]
    repeat' split
    all_goals decide
  unfold g_X8_takeSign
  rw [sign_h tk, b_sm, if_neg e1, if_neg e2, if_neg e3, cn.2.1]
  constructor
  · intro q M hM
    subst q
    rw [if_pos (show Int32.ofNat 2 = 2 from rfl), hM, bv_sm]
  · intro q M hM
    subst q
    rw [if_neg (by decide), if_pos (show Int32.ofNat 0 = 0 from rfl), hM, bv_sm]
/-- where an ACT is due -/
theorem act_t {w : rf_w} {m : rf_m} {n p : Nat} {f : Nat → Int32} {st wt : List Int32} {s h o k b ac sp : Nat} (hn : n ≤ 300) (hp : p ≤ n) (ct : CT n f p m st wt s h o k b ac sp) : (101 ≤ tkC f n p → tkC f n p ≤ 105 → ∃ M, g_X8_takeAct w m = some M ∧ CT n f p M st wt (if tkC f n p = 101 ∨ tkC f n p = 103 then 1 else 3) h o k b (tkC f n p - 100) sp) ∧ (¬ (101 ≤ tkC f n p ∧ tkC f n p ≤ 105) → ∃ M, g_X8_takeAct w m = some M ∧ CF M (if tkC f n p < 99 ∨ (106 ≤ tkC f n p ∧ tkC f n p ≤ 109) then 1 else 2) (tS f n p)) := by
  obtain ⟨ca, ls, cn, tk⟩ := ct
  unfold g_X8_takeAct
  rw [act_c hn hp ca tk, b_sm]
  generalize hx : (if 101 ≤ tkC f n p ∧ tkC f n p ≤ 105 then Int32.ofNat (tkC f n p - 100) else 0) = x
  have r := tk_rng (f := f) (n := n) (p := p)
  unfold sgn at r
  have cn1 : ∀ a, x = Int32.ofNat a → CN (rf_i m 14 4 x) s h o k b a sp := fun a e => CN_4 e cn
  have ca1 : CA n f (rf_i m 14 4 x) := CA_i (by decide) (by decide) (by decide) ca
  have tk1 : TK n f p (rf_i m 14 4 x) := TK_i (by decide) (by decide) (by decide) (by decide) tk
  have ls1 : LSm (rf_i m 14 4 x) st wt := LSm_i (by decide) (by decide) ls
  have k2 : (rf_i m 14 4 x).1 14 10 = 2 ↔ 99 ≤ tkC f n p := ct_2 tk1
  have e4 : (rf_i m 14 4 x).1 14 4 = x := i14a
  have jc := joint_c (w := w) hn hp ca1 tk1
  constructor
  · intro q1 q2
    rw [if_pos ⟨q1, q2⟩] at hx
    rw [if_pos (k2.mpr (by omega)), jc, b_sm, bi_f (by omega), if_pos rfl, e4]
    have nx : ∀ a, a < 99 → (x = Int32.ofNat a ↔ tkC f n p - 100 = a) := fun a ha => by rw [← hx]; exact of_inj (by omega) (by omega)
    have n0 : ¬ x = 0 := fun z => by have := (nx 0 (by decide)).mp z; omega
    have c := cn1 _ hx.symm
    rw [if_neg n0]
    by_cases t1 : tkC f n p = 101
    · rw [if_pos (show x = 1 from (nx 1 (by decide)).mpr (by omega)), if_pos (Or.inl t1)]
      exact ⟨_, rfl, CA_i (by decide) (by decide) (by decide) ca1, LSm_i (by decide) (by decide) ls1, CN_12 rfl c, TK_i (by decide) (by decide) (by decide) (by decide) tk1⟩
    · rw [if_neg (show ¬ x = 1 from fun z => by have := (nx 1 (by decide)).mp z; omega)]
      by_cases t3 : tkC f n p = 103
      · rw [if_pos (show x = 3 from (nx 3 (by decide)).mpr (by omega)), if_pos (Or.inr t3)]
        exact ⟨_, rfl, CA_i (by decide) (by decide) (by decide) ca1, LSm_i (by decide) (by decide) ls1, CN_12 rfl c, TK_i (by decide) (by decide) (by decide) (by decide) tk1⟩
      · rw [if_neg (show ¬ x = 3 from fun z => by have := (nx 3 (by decide)).mp z; omega), if_neg (by omega)]
        exact ⟨_, rfl, CA_i (by decide) (by decide) (by decide) ca1, LSm_i (by decide) (by decide) ls1, CN_12 rfl c, TK_i (by decide) (by decide) (by decide) (by decide) tk1⟩
  · intro q
    rw [if_neg q] at hx
    by_cases t9 : 99 ≤ tkC f n p
    · rw [if_pos (k2.mpr t9), jc, b_sm]
      by_cases tj : 106 ≤ tkC f n p ∧ tkC f n p ≤ 109
      · rw [bi_t tj, if_neg (by decide), if_pos (Or.inr tj)]
        obtain ⟨M, f1, f2⟩ := fail_c (w := w) (x := 1) (kd := 1) rfl tk1.1
        rw [f1, bv_sm]
        exact ⟨M, rfl, f2⟩
      · rw [bi_f tj, if_pos rfl, e4, if_pos hx.symm, if_neg (show ¬ (tkC f n p < 99 ∨ (106 ≤ tkC f n p ∧ tkC f n p ≤ 109)) by omega)]
        obtain ⟨M, f1, f2⟩ := fail_c (w := w) (x := 2) (kd := 2) rfl tk1.1
        rw [f1, bv_sm]
        exact ⟨M, rfl, f2⟩
    · rw [if_neg (fun z => t9 (k2.mp z)), if_pos (Or.inl (by omega))]
      obtain ⟨M, f1, f2⟩ := fail_c (w := w) (x := 1) (kd := 1) rfl tk1.1
      rw [f1, bv_sm]
      exact ⟨M, rfl, f2⟩
/-- where one is due: not, a bracket, or the left sum's operand -/
theorem one_not {w : rf_w} {m : rf_m} {n p : Nat} {f : Nat → Int32} {st wt : List Int32} {s h o k b ac sp : Nat} (hn : n ≤ 300) (hp : p ≤ n) (hk : k ≤ 8) (ct : CT n f p m st wt s h o k b ac sp) (ht : tkC f n p = 109) : (k < 8 → (∀ t, wt = -17 :: t → t.length < 159 → ∃ M, g_X8_takeOne w m = some M ∧ CT n f p M st t s h o (k + 1) b ac sp) ∧ ((∀ t, wt ≠ -17 :: t) → wt.length < 160 → ∃ M, g_X8_takeOne w m = some M ∧ CT n f p M st (-17 :: wt) s h o (k + 1) b ac sp)) ∧ (k = 8 → ∃ M, g_X8_takeOne w m = some M ∧ CF M 3 (tS f n p)) := by
  obtain ⟨ca, ls, cn, tk⟩ := ct
  have w9 : g_X8_isWord w m 1000009 = some (bi (tkC f n p = 109), m) := ct_w (i := 8) hn hp (by decide) ca tk
  unfold g_X8_takeOne g_X8_takeNot
  rw [w9, b_sm, bi_ite, if_pos ht]
  have cn1 : CN (rf_i m 14 15 (m.1 14 15 + 1)) s h o (k + 1) b ac sp := CN_15 (by rw [cn.2.2.2.1, of_succ]) cn
  have ca1 : CA n f (rf_i m 14 15 (m.1 14 15 + 1)) := CA_i (by decide) (by decide) (by decide) ca
  have tk1 : TK n f p (rf_i m 14 15 (m.1 14 15 + 1)) := TK_i (by decide) (by decide) (by decide) (by decide) tk
  have ls1 : LSm (rf_i m 14 15 (m.1 14 15 + 1)) st wt := LSm_i (by decide) (by decide) ls
  generalize rf_i m 14 15 (m.1 14 15 + 1) = A at *
  clear ls ca cn tk w9
  have e15 : A.1 14 15 = Int32.ofNat (k + 1) := cn1.2.2.2.1
  have e18 : A.1 14 18 = Int32.ofNat wt.length := ls1.2.2.1
  have hold : wt.length < 160 → ∃ M, rf_bv (rf_bv (g_X8_hold w A (-17)) (fun m0 => some m0)) (fun m3 => some m3) = some M ∧ CT n f p M st (-17 :: wt) s h o (k + 1) b ac sp := by
    intro hw
    obtain ⟨M, j1, j2, j3⟩ := hold_c (w := w) (x := -17) ls1 hw
    rw [j1, bv_sm, bv_sm]
    exact ⟨M, rfl, CA_fw j3 ca1, j2, CN_fw j3 cn1, TK_fw j3 tk1⟩
  constructor
  · intro k8
    have k8' : A.1 14 15 ≤ 8 := by rw [e15]; exact (of_le (b := 8) (by omega) (by decide)).mpr (by omega)
    rw [if_pos k8']
    constructor
    · intro t ht hl
      subst ht
      have n0 : ¬ A.1 14 18 ≤ 0 := by rw [e18]; exact nle (i := 0) (R := t.length + 1) (by omega) (by omega)
      have e18' : A.1 14 18 - 1 = Int32.ofNat t.length := by rw [e18]; exact ofm1'
      rw [if_neg n0, e18', gof (by omega) (by decide), g_t, tn_of (by omega), if_pos (show A.1 17 t.length = -17 from ls1.2.2.2.1)]
      refine ⟨_, rfl, CA_i (by decide) (by decide) (by decide) ca1, ⟨(i14 (by decide)).trans ls1.1, ?_, i14a, ?_⟩, ⟨(i14 (by decide)).trans cn1.1, (i14 (by decide)).trans cn1.2.1, (i14 (by decide)).trans cn1.2.2.1, (i14 (by decide)).trans cn1.2.2.2.1, (i14 (by decide)).trans cn1.2.2.2.2.1, (i14 (by decide)).trans cn1.2.2.2.2.2.1, (i14 (by decide)).trans cn1.2.2.2.2.2.2⟩, TK_i (by decide) (by decide) (by decide) (by decide) tk1⟩
      · rw [i14c (by decide)]; exact ls1.2.1
      · rw [i14c (by decide)]; exact ls1.2.2.2.2
    · intro hne hl
      cases wt with
      | nil =>
        rw [if_pos (show A.1 14 18 ≤ 0 by rw [e18]; exact Int32.le_refl _)]
        exact hold hl
      | cons x t =>
        simp only [List.length_cons] at hl
        have n0 : ¬ A.1 14 18 ≤ 0 := by rw [e18]; exact nle (i := 0) (R := t.length + 1) (by omega) (by omega)
        have e18' : A.1 14 18 - 1 = Int32.ofNat t.length := by rw [e18]; exact ofm1'
        have nx : ¬ A.1 17 t.length = -17 := fun z => by
          have : A.1 17 t.length = x := ls1.2.2.2.1
          exact hne t (by rw [← this, z])
        rw [if_neg n0, e18', gof (by omega) (by decide), g_t, tn_of (by omega), if_neg nx]
        exact hold (by simp only [List.length_cons]; omega)
  · intro k8
    have k8' : ¬ A.1 14 15 ≤ 8 := by rw [e15, k8]; decide
    rw [if_neg k8']
    obtain ⟨M, f1, f2⟩ := fail_c (w := w) (x := 3) (kd := 3) rfl tk1.1
    rw [f1, bv_sm]
    exact ⟨M, rfl, f2⟩
theorem one_br {w : rf_w} {m : rf_m} {n p : Nat} {f : Nat → Int32} {st wt : List Int32} {s h o k b ac sp : Nat} (hn : n ≤ 300) (hp : p ≤ n) (hb : b ≤ 8) (ct : CT n f p m st wt s h o k b ac sp) (ht : tkC f n p = 40) : (b < 8 → wt.length < 160 → ∃ M, g_X8_takeOne w m = some M ∧ CT n f p M st (-20 :: wt) s h o 0 (b + 1) ac sp) ∧ (b = 8 → ∃ M, g_X8_takeOne w m = some M ∧ CF M 3 (tS f n p)) := by
  obtain ⟨ca, ls, cn, tk⟩ := ct
  have w9 : g_X8_isWord w m 1000009 = some (bi (tkC f n p = 109), m) := ct_w (i := 8) hn hp (by decide) ca tk
  have k40 : m.1 14 10 = 40 ↔ tkC f n p = 40 := ct_k (c := 40) (by decide) (by decide) tk
  unfold g_X8_takeOne g_X8_takeBracket
  rw [w9, b_sm, bi_ite, if_neg (by omega), if_pos (k40.mpr ht)]
  have cn1 : CN (rf_i m 14 16 (m.1 14 16 + 1)) s h o k (b + 1) ac sp := CN_16 (by rw [cn.2.2.2.2.1, of_succ]) cn
  have ca1 : CA n f (rf_i m 14 16 (m.1 14 16 + 1)) := CA_i (by decide) (by decide) (by decide) ca
  have tk1 : TK n f p (rf_i m 14 16 (m.1 14 16 + 1)) := TK_i (by decide) (by decide) (by decide) (by decide) tk
  have ls1 : LSm (rf_i m 14 16 (m.1 14 16 + 1)) st wt := LSm_i (by decide) (by decide) ls
  generalize rf_i m 14 16 (m.1 14 16 + 1) = A at *
  have e16 : A.1 14 16 = Int32.ofNat (b + 1) := cn1.2.2.2.2.1
  constructor
  · intro b8 hw
    have b8' : A.1 14 16 ≤ 8 := by rw [e16]; exact (of_le (b := 8) (by omega) (by decide)).mpr (by omega)
    rw [if_pos b8']
    obtain ⟨M, j1, j2, j3⟩ := hold_c (w := w) (x := -20) (LSm_i (j := 15) (x := 0) (by decide) (by decide) ls1) hw
    rw [j1, bv_sm]
    exact ⟨M, rfl, CA_fw j3 (CA_i (by decide) (by decide) (by decide) ca1), j2, CN_fw j3 (CN_15 rfl cn1), TK_fw j3 (TK_i (by decide) (by decide) (by decide) (by decide) tk1)⟩
  · intro b8
    have b8' : ¬ A.1 14 16 ≤ 8 := by rw [e16, b8]; decide
    rw [if_neg b8']
    obtain ⟨M, f1, f2⟩ := fail_c (w := w) (x := 3) (kd := 3) rfl tk1.1
    rw [f1, bv_sm]
    exact ⟨M, rfl, f2⟩
theorem one_op {w : rf_w} {m : rf_m} {n p : Nat} {f : Nat → Int32} {st wt : List Int32} {s h o k b ac sp : Nat} (hn : n ≤ 300) (hp : p ≤ n) (ho : o ≤ 30) (ct : CT n f p m st wt s h o k b ac sp) (h9 : tkC f n p ≠ 109) (h4 : tkC f n p ≠ 40) : (opT (tkC f n p) → o < 30 → st.length < 160 → ∃ M, g_X8_takeOne w m = some M ∧ CT n f p M (st ++ [opV f n p]) wt 4 1 (o + 1) 0 b ac sp) ∧ (¬ (opT (tkC f n p) ∧ o < 30) → ∃ M, g_X8_takeOne w m = some M ∧ CF M (opF (tkC f n p)) (tS f n p)) := by
  obtain ⟨ca, ls, cn, tk⟩ := ct
  have w9 : g_X8_isWord w m 1000009 = some (bi (tkC f n p = 109), m) := ct_w (i := 8) hn hp (by decide) ca tk
  have k40 : m.1 14 10 = 40 ↔ tkC f n p = 40 := ct_k (c := 40) (by decide) (by decide) tk
  unfold g_X8_takeOne
  rw [w9, b_sm, bi_ite, if_neg h9, if_neg (fun z => h4 (k40.mp z))]
  have ct1 : CT n f p (rf_i (rf_i m 14 15 0) 14 13 1) st wt s 1 o 0 b ac sp := ⟨CA_i (by decide) (by decide) (by decide) (CA_i (by decide) (by decide) (by decide) ca), LSm_i (by decide) (by decide) (LSm_i (by decide) (by decide) ls), CN_13 rfl (CN_15 rfl cn), TK_i (by decide) (by decide) (by decide) (by decide) (TK_i (by decide) (by decide) (by decide) (by decide) tk)⟩
  constructor
  · intro q1 q2 q3
    obtain ⟨M, j1, j2⟩ := operand_ok (w := w) hn hp ct1 q1 q2 q3
    rw [j1, bv_sm]
    exact ⟨M, rfl, j2⟩
  · intro q
    obtain ⟨M, j1, j2⟩ := operand_no (w := w) hn hp ho ct1 q
    rw [j1, bv_sm]
    exact ⟨M, rfl, j2⟩
/-- which of them a token goes to -/
theorem token_c {w : rf_w} {m M : rf_m} {s : Nat} (e : m.1 14 12 = Int32.ofNat s) (hs : s ≤ 5) (h0 : s = 0 → g_X8_takeAct w m = some M) (h1 : s = 1 → g_X8_takeIf w m = some M) (h2 : s = 2 → g_X8_takeOne w m = some M) (h3 : s = 3 → g_X8_takeOperand w m = some M) (h4 : s = 4 → g_X8_takeSign w m = some M) (h5 : s = 5 → g_X8_takeJoint w m = some M) : g_X8_takeToken w m = some M := by
  unfold g_X8_takeToken
  rw [e]
  rcases (show s = 0 ∨ s = 1 ∨ s = 2 ∨ s = 3 ∨ s = 4 ∨ s = 5 by omega) with q | q | q | q | q | q
  · rw [h0 q, bv_sm]; subst q; rfl
  · rw [h1 q, bv_sm]; subst q; rfl
  · rw [h2 q, bv_sm]; subst q; rfl
  · rw [h3 q, bv_sm]; subst q; rfl
  · rw [h4 q, bv_sm]; subst q; rfl
  · rw [h5 q, bv_sm]; subst q; rfl
end PBTrans2
