/-! rules: what the class does at a token -/
section PBTrans
def tkC (f : Nat → Int32) (n p : Nat) : Nat := tC f n (tS f n p)
def tkE (f : Nat → Int32) (n p : Nat) : Nat := tE f n (tS f n p)
def tkV (f : Nat → Int32) (n p : Nat) : Int32 := nl f (tE f n (tS f n p) - tS f n p) (tS f n p) 0
theorem tk_rng {f : Nat → Int32} {n p : Nat} : tkC f n p = 0 ∨ tkC f n p = 1 ∨ tkC f n p = 3 ∨ sgn (tkC f n p) ∨ (99 ≤ tkC f n p ∧ tkC f n p ≤ 116) := tC_rng
theorem tk_e {f : Nat → Int32} {n p : Nat} (h : p ≤ n) : p ≤ tS f n p ∧ tS f n p ≤ n ∧ p ≤ tkE f n p ∧ tkE f n p ≤ n ∧ (tkC f n p ≠ 0 → p + 1 ≤ tkE f n p) := by
  have h1 := tS_rng (f := f) h
  have h2 := tE_rng (f := f) h1.2
  refine ⟨h1.1, h1.2, ?_, h2.2.1, fun q => ?_⟩
  · show p ≤ tE f n (tS f n p); omega
  · have := (h2.2.2 q).1
    show p + 1 ≤ tE f n (tS f n p); omega
def CN (m : rf_m) (s h o k b ac sp : Nat) : Prop := m.1 14 12 = Int32.ofNat s ∧ m.1 14 13 = Int32.ofNat h ∧ m.1 14 14 = Int32.ofNat o ∧ m.1 14 15 = Int32.ofNat k ∧ m.1 14 16 = Int32.ofNat b ∧ m.1 14 4 = Int32.ofNat ac ∧ m.1 14 3 = Int32.ofNat sp
def CA (n : Nat) (f : Nat → Int32) (m : rf_m) : Prop := m.1 15 = f ∧ m.1 14 7 = Int32.ofNat n ∧ m.1 14 5 = 0 ∧ m.1 14 6 = 0
def TK (n : Nat) (f : Nat → Int32) (p : Nat) (m : rf_m) : Prop := m.1 14 8 = Int32.ofNat (tS f n p) ∧ m.1 14 9 = Int32.ofNat (tkE f n p) ∧ m.1 14 10 = kdO (tkC f n p) ∧ (tkC f n p = 3 → m.1 14 11 = tkV f n p)
theorem CA_fw {n : Nat} {f : Nat → Int32} {m M : rf_m} (h : fw m M) (j : CA n f m) : CA n f M := ⟨(h.1 15 (by decide) (by decide) (by decide)).trans j.1, (h.2.1 7 (by decide) (by decide)).trans j.2.1, (h.2.1 5 (by decide) (by decide)).trans j.2.2.1, (h.2.1 6 (by decide) (by decide)).trans j.2.2.2⟩
theorem TK_fw {n p : Nat} {f : Nat → Int32} {m M : rf_m} (h : fw m M) (j : TK n f p m) : TK n f p M := ⟨(h.2.1 8 (by decide) (by decide)).trans j.1, (h.2.1 9 (by decide) (by decide)).trans j.2.1, (h.2.1 10 (by decide) (by decide)).trans j.2.2.1, fun q => (h.2.1 11 (by decide) (by decide)).trans (j.2.2.2 q)⟩
theorem CN_fw {m M : rf_m} {s h o k b ac sp : Nat} (e : fw m M) (j : CN m s h o k b ac sp) : CN M s h o k b ac sp := ⟨(e.2.1 12 (by decide) (by decide)).trans j.1, (e.2.1 13 (by decide) (by decide)).trans j.2.1, (e.2.1 14 (by decide) (by decide)).trans j.2.2.1, (e.2.1 15 (by decide) (by decide)).trans j.2.2.2.1, (e.2.1 16 (by decide) (by decide)).trans j.2.2.2.2.1, (e.2.1 4 (by decide) (by decide)).trans j.2.2.2.2.2.1, (e.2.1 3 (by decide) (by decide)).trans j.2.2.2.2.2.2⟩
theorem i14 {m : rf_m} {j k : Nat} {x : Int32} (h : k ≠ j) : (rf_i m 14 j x).1 14 k = m.1 14 k := by rw [rf_i_c, if_pos rfl, pu_ne h]
theorem i14a {m : rf_m} {j : Nat} {x : Int32} : (rf_i m 14 j x).1 14 j = x := by rw [rf_i_c, if_pos rfl, pu_at]
theorem i14c {m : rf_m} {j c : Nat} {x : Int32} (h : c ≠ 14) : (rf_i m 14 j x).1 c = m.1 c := by rw [rf_i_c, if_neg h]
theorem CA_i {n j : Nat} {f : Nat → Int32} {m : rf_m} {x : Int32} (h5 : 5 ≠ j) (h6 : 6 ≠ j) (h7 : 7 ≠ j) (c : CA n f m) : CA n f (rf_i m 14 j x) := ⟨(i14c (by decide)).trans c.1, (i14 h7).trans c.2.1, (i14 h5).trans c.2.2.1, (i14 h6).trans c.2.2.2⟩
theorem TK_i {n p j : Nat} {f : Nat → Int32} {m : rf_m} {x : Int32} (h8 : 8 ≠ j) (h9 : 9 ≠ j) (h10 : 10 ≠ j) (h11 : 11 ≠ j) (c : TK n f p m) : TK n f p (rf_i m 14 j x) := ⟨(i14 h8).trans c.1, (i14 h9).trans c.2.1, (i14 h10).trans c.2.2.1, fun q => (i14 h11).trans (c.2.2.2 q)⟩
theorem LSm_i {j : Nat} {m : rf_m} {x : Int32} {st wt : List Int32} (h2 : 2 ≠ j) (h18 : 18 ≠ j) (c : LSm m st wt) : LSm (rf_i m 14 j x) st wt := ⟨(i14 h2).trans c.1, by rw [i14c (by decide)]; exact c.2.1, (i14 h18).trans c.2.2.1, by rw [i14c (by decide)]; exact c.2.2.2⟩
theorem CN_12 {m : rf_m} {x : Int32} {s s' h o k b ac sp : Nat} (e : x = Int32.ofNat s') (j : CN m s h o k b ac sp) : CN (rf_i m 14 12 x) s' h o k b ac sp := ⟨i14a.trans e, (i14 (by decide)).trans j.2.1, (i14 (by decide)).trans j.2.2.1, (i14 (by decide)).trans j.2.2.2.1, (i14 (by decide)).trans j.2.2.2.2.1, (i14 (by decide)).trans j.2.2.2.2.2.1, (i14 (by decide)).trans j.2.2.2.2.2.2⟩
theorem CN_13 {m : rf_m} {x : Int32} {s h h' o k b ac sp : Nat} (e : x = Int32.ofNat h') (j : CN m s h o k b ac sp) : CN (rf_i m 14 13 x) s h' o k b ac sp := ⟨(i14 (by decide)).trans j.1, i14a.trans e, (i14 (by decide)).trans j.2.2.1, (i14 (by decide)).trans j.2.2.2.1, (i14 (by decide)).trans j.2.2.2.2.1, (i14 (by decide)).trans j.2.2.2.2.2.1, (i14 (by decide)).trans j.2.2.2.2.2.2⟩
theorem CN_14 {m : rf_m} {x : Int32} {s h o o' k b ac sp : Nat} (e : x = Int32.ofNat o') (j : CN m s h o k b ac sp) : CN (rf_i m 14 14 x) s h o' k b ac sp := ⟨(i14 (by decide)).trans j.1, (i14 (by decide)).trans j.2.1, i14a.trans e, (i14 (by decide)).trans j.2.2.2.1, (i14 (by decide)).trans j.2.2.2.2.1, (i14 (by decide)).trans j.2.2.2.2.2.1, (i14 (by decide)).trans j.2.2.2.2.2.2⟩
theorem CN_15 {m : rf_m} {x : Int32} {s h o k k' b ac sp : Nat} (e : x = Int32.ofNat k') (j : CN m s h o k b ac sp) : CN (rf_i m 14 15 x) s h o k' b ac sp := ⟨(i14 (by decide)).trans j.1, (i14 (by decide)).trans j.2.1, (i14 (by decide)).trans j.2.2.1, i14a.trans e, (i14 (by decide)).trans j.2.2.2.2.1, (i14 (by decide)).trans j.2.2.2.2.2.1, (i14 (by decide)).trans j.2.2.2.2.2.2⟩
theorem CN_16 {m : rf_m} {x : Int32} {s h o k b b' ac sp : Nat} (e : x = Int32.ofNat b') (j : CN m s h o k b ac sp) : CN (rf_i m 14 16 x) s h o k b' ac sp := ⟨(i14 (by decide)).trans j.1, (i14 (by decide)).trans j.2.1, (i14 (by decide)).trans j.2.2.1, (i14 (by decide)).trans j.2.2.2.1, i14a.trans e, (i14 (by decide)).trans j.2.2.2.2.2.1, (i14 (by decide)).trans j.2.2.2.2.2.2⟩
theorem CN_4 {m : rf_m} {x : Int32} {s h o k b ac ac' sp : Nat} (e : x = Int32.ofNat ac') (j : CN m s h o k b ac sp) : CN (rf_i m 14 4 x) s h o k b ac' sp := ⟨(i14 (by decide)).trans j.1, (i14 (by decide)).trans j.2.1, (i14 (by decide)).trans j.2.2.1, (i14 (by decide)).trans j.2.2.2.1, (i14 (by decide)).trans j.2.2.2.2.1, i14a.trans e, (i14 (by decide)).trans j.2.2.2.2.2.2⟩
theorem CN_3 {m : rf_m} {x : Int32} {s h o k b ac sp sp' : Nat} (e : x = Int32.ofNat sp') (j : CN m s h o k b ac sp) : CN (rf_i m 14 3 x) s h o k b ac sp' := ⟨(i14 (by decide)).trans j.1, (i14 (by decide)).trans j.2.1, (i14 (by decide)).trans j.2.2.1, (i14 (by decide)).trans j.2.2.2.1, (i14 (by decide)).trans j.2.2.2.2.1, (i14 (by decide)).trans j.2.2.2.2.2.1, i14a.trans e⟩
/-- a token is due or read -/
def CT (n : Nat) (f : Nat → Int32) (p : Nat) (m : rf_m) (st wt : List Int32) (s h o k b ac sp : Nat) : Prop := CA n f m ∧ LSm m st wt ∧ CN m s h o k b ac sp ∧ TK n f p m
def CF (m : rf_m) (kd pl : Nat) : Prop := m.1 14 5 = Int32.ofNat kd ∧ m.1 14 6 = Int32.ofNat pl
theorem fail_c {w : rf_w} {m : rf_m} {x : Int32} {kd pl : Nat} (hx : x = Int32.ofNat kd) (h8 : m.1 14 8 = Int32.ofNat pl) : ∃ M, g_X8_fail w m x = some M ∧ CF M kd pl := by
  refine ⟨_, rfl, ?_, ?_⟩
  · rw [i14 (by decide), i14a]; exact hx
  · rw [i14a, i14 (by decide)]; exact h8
theorem ct_w {w : rf_w} {m : rf_m} {n p i : Nat} {f : Nat → Int32} (hn : n ≤ 300) (hp : p ≤ n) (hi : i < 16) (ca : CA n f m) (tk : TK n f p m) : g_X8_isWord w m (1000001 + i) = some (bi (tkC f n p = 101 + i), m) := isW_c hn (tS_rng hp).2 hi ca.1 tk.1 tk.2.1 tk.2.2.1
theorem ct_k {m : rf_m} {n p c : Nat} {f : Nat → Int32} (hc : c < 99) (h2 : c ≠ 2) (tk : TK n f p m) : m.1 14 10 = Int32.ofNat c ↔ tkC f n p = c := by
  rw [tk.2.2.1]
  exact kd_iff hc h2
theorem ct_2 {m : rf_m} {n p : Nat} {f : Nat → Int32} (tk : TK n f p m) : m.1 14 10 = 2 ↔ 99 ≤ tkC f n p := by
  rw [tk.2.2.1]
  exact kd_2
def nmO (t : Nat) : Int32 := if 110 ≤ t then Int32.ofNat (t - 110) else -1
theorem bi_ite {P : Prop} [hd : Decidable P] {α : Type} {a b : α} : (if bi P = 0 then a else b) = if P then b else a := by
  by_cases h : P
  · rw [bi_t h, if_neg (by decide), if_pos h]
  · rw [bi_f h, if_pos rfl, if_neg h]
theorem name_c {w : rf_w} {m : rf_m} {n p : Nat} {f : Nat → Int32} (hn : n ≤ 300) (hp : p ≤ n) (ca : CA n f m) (tk : TK n f p m) : g_X8_nameHere w m = some (nmO (tkC f n p), m) := by
  have w10 : g_X8_isWord w m 1000010 = some (bi (tkC f n p = 110), m) := ct_w (i := 9) hn hp (by decide) ca tk
  have w11 : g_X8_isWord w m 1000011 = some (bi (tkC f n p = 111), m) := ct_w (i := 10) hn hp (by decide) ca tk
  have w12 : g_X8_isWord w m 1000012 = some (bi (tkC f n p = 112), m) := ct_w (i := 11) hn hp (by decide) ca tk
  have w13 : g_X8_isWord w m 1000013 = some (bi (tkC f n p = 113), m) := ct_w (i := 12) hn hp (by decide) ca tk
  have w14 : g_X8_isWord w m 1000014 = some (bi (tkC f n p = 114), m) := ct_w (i := 13) hn hp (by decide) ca tk
  have w15 : g_X8_isWord w m 1000015 = some (bi (tkC f n p = 115), m) := ct_w (i := 14) hn hp (by decide) ca tk
  have w16 : g_X8_isWord w m 1000016 = some (bi (tkC f n p = 116), m) := ct_w (i := 15) hn hp (by decide) ca tk
  have r := tk_rng (f := f) (n := n) (p := p)
  unfold sgn at r
  unfold g_X8_nameHere
  simp only [w10, w11, w12, w13, w14, w15, w16, b_sm, bi_ite]
  generalize tkC f n p = t at *
  unfold nmO
  by_cases e : 110 ≤ t
  · rw [if_pos e]
    rcases (show t = 110 ∨ t = 111 ∨ t = 112 ∨ t = 113 ∨ t = 114 ∨ t = 115 ∨ t = 116 by omega) with rfl | rfl | rfl | rfl | rfl | rfl | rfl <;> rfl
  · rw [if_neg e, if_neg (by omega), if_neg (by omega), if_neg (by omega), if_neg (by omega), if_neg (by omega), if_neg (by omega), if_neg (by omega)]
theorem joint_c {w : rf_w} {m : rf_m} {n p : Nat} {f : Nat → Int32} (hn : n ≤ 300) (hp : p ≤ n) (ca : CA n f m) (tk : TK n f p m) : g_X8_isJoint w m = some (bi (106 ≤ tkC f n p ∧ tkC f n p ≤ 109), m) := by
  have w6 : g_X8_isWord w m 1000006 = some (bi (tkC f n p = 106), m) := ct_w (i := 5) hn hp (by decide) ca tk
  have w7 : g_X8_isWord w m 1000007 = some (bi (tkC f n p = 107), m) := ct_w (i := 6) hn hp (by decide) ca tk
  have w8 : g_X8_isWord w m 1000008 = some (bi (tkC f n p = 108), m) := ct_w (i := 7) hn hp (by decide) ca tk
  have w9 : g_X8_isWord w m 1000009 = some (bi (tkC f n p = 109), m) := ct_w (i := 8) hn hp (by decide) ca tk
  unfold g_X8_isJoint
  simp only [w6, w7, w8, w9, b_sm, bi_ite]
  generalize tkC f n p = t at *
  by_cases e : 106 ≤ t ∧ t ≤ 109
  · rw [bi_t e]
    rcases (show t = 106 ∨ t = 107 ∨ t = 108 ∨ t = 109 by omega) with rfl | rfl | rfl | rfl <;> rfl
  · rw [bi_f e, if_neg (by omega), if_neg (by omega), if_neg (by omega), if_neg (by omega)]
theorem act_c {w : rf_w} {m : rf_m} {n p : Nat} {f : Nat → Int32} (hn : n ≤ 300) (hp : p ≤ n) (ca : CA n f m) (tk : TK n f p m) : g_X8_actHere w m = some (if 101 ≤ tkC f n p ∧ tkC f n p ≤ 105 then Int32.ofNat (tkC f n p - 100) else 0, m) := by
  have w1 : g_X8_isWord w m 1000001 = some (bi (tkC f n p = 101), m) := ct_w (i := 0) hn hp (by decide) ca tk
  have w2 : g_X8_isWord w m 1000002 = some (bi (tkC f n p = 102), m) := ct_w (i := 1) hn hp (by decide) ca tk
  have w3 : g_X8_isWord w m 1000003 = some (bi (tkC f n p = 103), m) := ct_w (i := 2) hn hp (by decide) ca tk
  have w4 : g_X8_isWord w m 1000004 = some (bi (tkC f n p = 104), m) := ct_w (i := 3) hn hp (by decide) ca tk
  have w5 : g_X8_isWord w m 1000005 = some (bi (tkC f n p = 105), m) := ct_w (i := 4) hn hp (by decide) ca tk
  unfold g_X8_actHere
  simp only [w1, w2, w3, w4, w5, b_sm, bi_ite]
  generalize tkC f n p = t at *
  by_cases e : 101 ≤ t ∧ t ≤ 105
  · rw [if_pos e]
    rcases (show t = 101 ∨ t = 102 ∨ t = 103 ∨ t = 104 ∨ t = 105 by omega) with rfl | rfl | rfl | rfl | rfl <;> rfl
  · rw [if_neg e, if_neg (by omega), if_neg (by omega), if_neg (by omega), if_neg (by omega), if_neg (by omega)]
/-- an operand's step, and what is wrong with a token where one is due -/
def opT (t : Nat) : Prop := t = 3 ∨ 110 ≤ t
def opV (f : Nat → Int32) (n p : Nat) : Int32 := if tkC f n p = 3 then tkV f n p else -1 - nmO (tkC f n p)
def opF (t : Nat) : Nat := if t = 3 ∨ 110 ≤ t then 3 else if 99 ≤ t ∧ t < 106 then 2 else 1
theorem operand_ok {w : rf_w} {m : rf_m} {n p : Nat} {f : Nat → Int32} {st wt : List Int32} {s h o k b ac sp : Nat} (hn : n ≤ 300) (hp : p ≤ n) (ct : CT n f p m st wt s h o k b ac sp) (ht : opT (tkC f n p)) (ho : o < 30) (hs : st.length < 160) : ∃ M, g_X8_takeOperand w m = some M ∧ CT n f p M (st ++ [opV f n p]) wt 4 h (o + 1) k b ac sp := by
  obtain ⟨ca, ls, cn, tk⟩ := ct
  have k3 : m.1 14 10 = 3 ↔ tkC f n p = 3 := ct_k (c := 3) (by decide) (by decide) tk
  have k2 := ct_2 tk
  have e14 : m.1 14 14 < 30 := by rw [cn.2.2.1]; exact (of_lt (b := 30) (by omega) (by decide)).mpr ho
  have cn1 : CN (rf_i m 14 14 (m.1 14 14 + 1)) s h (o + 1) k b ac sp := CN_14 (by rw [cn.2.2.1, of_succ]) cn
  have ca1 : CA n f (rf_i m 14 14 (m.1 14 14 + 1)) := CA_i (by decide) (by decide) (by decide) ca
  have tk1 : TK n f p (rf_i m 14 14 (m.1 14 14 + 1)) := TK_i (by decide) (by decide) (by decide) (by decide) tk
  have ls1 : LSm (rf_i m 14 14 (m.1 14 14 + 1)) st wt := LSm_i (by decide) (by decide) ls
  have k31 : (rf_i m 14 14 (m.1 14 14 + 1)).1 14 10 = 3 ↔ tkC f n p = 3 := ct_k (c := 3) (by decide) (by decide) tk1
  have fin : ∀ x, x = opV f n p → ∃ M, rf_bv (g_X8_write w (rf_i m 14 14 (m.1 14 14 + 1)) x) (fun m1 => some (rf_i m1 14 12 4)) = some M ∧ CT n f p M (st ++ [opV f n p]) wt 4 h (o + 1) k b ac sp := by
    intro x hx
    obtain ⟨M, j1, j2, j3⟩ := write_c (w := w) (x := x) ls1 hs
    rw [j1, bv_sm]
    refine ⟨_, rfl, CA_i (by decide) (by decide) (by decide) (CA_fw j3 ca1), ?_, CN_12 rfl (CN_fw j3 cn1), TK_i (by decide) (by decide) (by decide) (by decide) (TK_fw j3 tk1)⟩
    rw [hx] at j2
    exact LSm_i (by decide) (by decide) j2
  have f57 : ∃ M, g_X8_takeOperand_57 w (nmO (tkC f n p)) m = some M ∧ CT n f p M (st ++ [opV f n p]) wt 4 h (o + 1) k b ac sp := by
    unfold g_X8_takeOperand_57
    rw [if_pos e14]
    by_cases t3 : tkC f n p = 3
    · rw [if_pos (k31.mpr t3)]
      refine fin _ ?_
      unfold opV
      rw [if_pos t3]
      exact tk1.2.2.2 t3
    · rw [if_neg (fun z => t3 (k31.mp z))]
      refine fin _ ?_
      unfold opV
      rw [if_neg t3]
  unfold g_X8_takeOperand g_X8_takeOperand_36
  rw [name_c hn hp ca tk, b_sm]
  unfold opT at ht
  by_cases t3 : tkC f n p = 3
  · rw [if_pos (k3.mpr t3), if_neg (fun z => by have := k2.mp z; omega)]
    exact f57
  · have t9 : 110 ≤ tkC f n p := by omega
    have r := tk_rng (f := f) (n := n) (p := p)
    unfold sgn at r
    rw [if_neg (fun z => t3 (k3.mp z)), if_pos (k2.mpr (by omega)), joint_c hn hp ca tk, b_sm, bi_f (by omega), if_pos rfl, if_pos (k2.mpr (by omega)), if_neg]
    · exact f57
    · unfold nmO
      rw [if_pos t9]
      intro z
      have := congrArg Int32.toInt z
      rw [ofI (by omega)] at this
      have e : (-1 : Int32).toInt = -1 := rfl
      omega
theorem operand_no {w : rf_w} {m : rf_m} {n p : Nat} {f : Nat → Int32} {st wt : List Int32} {s h o k b ac sp : Nat} (hn : n ≤ 300) (hp : p ≤ n) (ho : o ≤ 30) (ct : CT n f p m st wt s h o k b ac sp) (ht : ¬ (opT (tkC f n p) ∧ o < 30)) : ∃ M, g_X8_takeOperand w m = some M ∧ CF M (opF (tkC f n p)) (tS f n p) := by
  obtain ⟨ca, ls, cn, tk⟩ := ct
  have k3 : m.1 14 10 = 3 ↔ tkC f n p = 3 := ct_k (c := 3) (by decide) (by decide) tk
  have k2 := ct_2 tk
  have fl : ∀ x kd, x = Int32.ofNat kd → kd = opF (tkC f n p) → ∃ M, rf_bv (g_X8_fail w m x) (fun m0 => some m0) = some M ∧ CF M (opF (tkC f n p)) (tS f n p) := by
    intro x kd hx hk
    obtain ⟨M, j1, j2⟩ := fail_c (w := w) hx tk.1
    rw [j1, bv_sm]
    rw [hk] at j2
    exact ⟨M, rfl, j2⟩
  have r := tk_rng (f := f) (n := n) (p := p)
  unfold sgn at r
  have f57 : opT (tkC f n p) → ∃ M, g_X8_takeOperand_57 w (nmO (tkC f n p)) m = some M ∧ CF M (opF (tkC f n p)) (tS f n p) := by
    intro q
    unfold g_X8_takeOperand_57
    have n14 : ¬ m.1 14 14 < 30 := by
      rw [cn.2.2.1]
      exact nle' (b := 30) (by by_cases z : o < 30; exact absurd ⟨q, z⟩ ht; omega) (by omega)
    rw [if_neg n14]
    exact fl 3 3 rfl (by unfold opF; rw [if_pos (show tkC f n p = 3 ∨ 110 ≤ tkC f n p from q)])
  unfold g_X8_takeOperand g_X8_takeOperand_36
  rw [name_c hn hp ca tk, b_sm]
  by_cases t3 : tkC f n p = 3
  · rw [if_pos (k3.mpr t3), if_neg (fun z => by have := k2.mp z; omega)]
    exact f57 (Or.inl t3)
  · rw [if_neg (fun z => t3 (k3.mp z))]
    by_cases t9 : 99 ≤ tkC f n p
    · rw [if_pos (k2.mpr t9), joint_c hn hp ca tk, b_sm]
      by_cases tj : 106 ≤ tkC f n p ∧ tkC f n p ≤ 109
      · rw [bi_t tj, if_neg (by decide)]
        exact fl 1 1 rfl (by unfold opF; rw [if_neg (by omega), if_neg (by omega)])
      · rw [bi_f tj, if_pos rfl, if_pos (k2.mpr t9)]
        by_cases tn : 110 ≤ tkC f n p
        · rw [if_neg]
          · exact f57 (Or.inr tn)
          · unfold nmO
            rw [if_pos tn]
            intro z
            have := congrArg Int32.toInt z
            rw [ofI (by omega)] at this
            have e : (-1 : Int32).toInt = -1 := rfl
            omega
        · rw [if_pos (show nmO (tkC f n p) = -1 by unfold nmO; rw [if_neg tn])]
          exact fl 2 2 rfl (by unfold opF; rw [if_neg (by omega), if_pos (by omega)])
    · rw [if_neg (fun z => t9 (k2.mp z))]
      exact fl 1 1 rfl (by unfold opF; rw [if_neg (by omega), if_neg (by omega)])
end PBTrans
