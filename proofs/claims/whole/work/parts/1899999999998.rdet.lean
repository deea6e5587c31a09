/-! the reference's determinants (the last two written by wip/tool/gen_det.py) -/
section PBRDet
theorem sarI {v k : Nat} (hk : k < 32) (hv : v < 2147483648) : (Int32.ofNat v) >>> (Int32.ofNat k &&& 31) = Int32.ofNat (v / 2 ^ k) := by
  have e : ((Int32.ofNat v) >>> (Int32.ofNat k &&& 31)).toBitVec = (Int32.ofNat v).toBitVec.sshiftRight k := by
    rw [Int32.toBitVec_shiftRight, sh_amt k hk]
    show (Int32.ofNat v).toBitVec.sshiftRight (BitVec.ofNat 32 k).toNat = _
    rw [BitVec.toNat_ofNat, Nat.mod_eq_of_lt (by omega)]
  rw [i_eq]
  show ((Int32.ofNat v) >>> (Int32.ofNat k &&& 31)).toBitVec.toInt = _
  have l : v / 2 ^ k ≤ v := Nat.div_le_self _ _
  have o : (Int32.ofNat v).toBitVec.toInt = (v : Int) := ofI hv
  rw [e, BitVec.toInt_sshiftRight, Int.shiftRight_eq_div_pow, o, ofI (by omega)]
  rw [Int.natCast_ediv, Int.natCast_pow]
theorem bt_one {u v : Nat} (hu : u < 32) (hv : v < 32) : bt ((1 : Int32) <<< (Int32.ofNat v &&& 31)) u = decide (u = v) := by
  have h := bt_set (a := 0) (u := u) (v := v) hu hv
  have z : (0 : Int32) ||| ((1 : Int32) <<< (Int32.ofNat v &&& 31)) = (1 : Int32) <<< (Int32.ofNat v &&& 31) := Int32.toBitVec_inj.mp (by rw [Int32.toBitVec_or]; exact BitVec.zero_or)
  rw [z, bt_0, Bool.false_or] at h
  exact h
theorem bt_not {a : Int32} {u : Nat} (hu : u < 32) : bt (a ^^^ (-1)) u = !bt a u := by
  rw [bt_xor]
  have : bt (-1) u = true := by
    show (BitVec.allOnes 32).getLsbD u = true
    rw [BitVec.getLsbD_allOnes]
    exact decide_eq_true hu
  rw [this, Bool.xor_true]
theorem clr_r {mu j : Nat} (hj : j < 32) : (Int32.ofNat mu) &&& (((1 : Int32) <<< (Int32.ofNat j &&& 31)) ^^^ (-1)) = Int32.ofNat (mu &&& (4294967295 ^^^ 2 ^ j)) := by
  refine bt_ext fun u hu => ?_
  rw [bt_and, bt_not hu, bt_one hu hj, bt_nat hu, bt_nat hu, Nat.testBit_and, Nat.testBit_xor, Nat.testBit_two_pow]
  have : Nat.testBit 4294967295 u = true := by
    have : (4294967295 : Nat) = 2 ^ 32 - 1 := by decide
    rw [this, Nat.testBit_two_pow_sub_one]
    exact decide_eq_true hu
  rw [this, Bool.true_xor]
  have e : decide (u = j) = decide (j = u) := by
    by_cases q : u = j
    · rw [decide_eq_true q, decide_eq_true q.symm]
    · rw [decide_eq_false q, decide_eq_false (fun z => q z.symm)]
  rw [e]
def clr (mu j : Nat) : Nat := mu &&& (4294967295 ^^^ 2 ^ j)
theorem clr_t {mu j u : Nat} (hm : mu < 4294967296) : (clr mu j).testBit u = (mu.testBit u && !decide (j = u)) := by
  unfold clr
  rw [Nat.testBit_and, Nat.testBit_xor, Nat.testBit_two_pow]
  by_cases hu : u < 32
  · have : Nat.testBit 4294967295 u = true := by
      have : (4294967295 : Nat) = 2 ^ 32 - 1 := by decide
      rw [this, Nat.testBit_two_pow_sub_one]
      exact decide_eq_true hu
    rw [this, Bool.true_xor]
  · have pl : 2 ^ 32 ≤ 2 ^ u := Nat.pow_le_pow_right (by omega) (by omega)
    have : mu.testBit u = false := Nat.testBit_lt_two_pow (Nat.lt_of_lt_of_le hm pl)
    rw [this, Bool.false_and, Bool.false_and]
theorem clr_lt {mu j : Nat} (hm : mu < 4294967296) (hb : mu.testBit j = true) : clr mu j < mu := by
  have le : clr mu j ≤ mu := Nat.and_le_left
  have ne : clr mu j ≠ mu := fun e => by
    have h := clr_t (j := j) (u := j) hm
    rw [e, hb, decide_eq_true rfl] at h
    cases h
  omega
/-- the columns of a set, and their determinant -/
def cls (cl : Nat → Nat → Int) (n mu : Nat) : List (Nat → Int) := (ixs mu n 0).map cl
def dP (cl : Nat → Nat → Int) (n mu : Nat) : Int := dtn (ixs mu n 0).length (cls cl n mu)
def pst (mu n j : Nat) : List Nat := ixf mu.testBit (n - 1 - j) (j + 1)
theorem ixs_sp {mu n j : Nat} (hj : j < n) : ixs mu n 0 = ixs mu j 0 ++ ((if mu.testBit j then [j] else []) ++ pst mu n j) := by
  have e : n = (j + 1) + (n - 1 - j) := by omega
  have h : ixs mu n 0 = ixs mu (j + 1) 0 ++ pst mu n j := by
    unfold pst
    rw [ixs_f, ixs_f]
    have := ixf_add (f := mu.testBit) (j + 1) (n - 1 - j) 0
    rw [← e, Nat.zero_add] at this
    exact this
  rw [h, ixs_s, List.append_assoc]
theorem ixs_clr {mu n j : Nat} (hm : mu < 4294967296) (hj : j < n) : ixs (clr mu j) n 0 = ixs mu j 0 ++ pst mu n j := by
  rw [ixs_sp hj]
  have b0 : (clr mu j).testBit j = false := by rw [clr_t hm, decide_eq_true rfl, Bool.not_true, Bool.and_false]
  rw [b0, if_neg (by decide), List.nil_append]
  congr 1
  · rw [ixs_f, ixs_f]
    exact ixf_c j 0 (fun u _ hu => by rw [clr_t hm, decide_eq_false (show ¬ j = u by omega), Bool.not_false, Bool.and_true])
  · exact ixf_c _ _ (fun u hu _ => by rw [clr_t hm, decide_eq_false (show ¬ j = u by omega), Bool.not_false, Bool.and_true])
theorem ixf_sh {f : Nat → Bool} {s : Nat} : ∀ n k, (ixf f n (k + s)).length = (ixf (fun i => f (i + s)) n k).length := by
  intro n
  induction n with
  | zero => intro k; rfl
  | succ n ih =>
    intro k
    have i1 := ih (k + 1)
    rw [show k + 1 + s = k + s + 1 by omega] at i1
    by_cases h : f (k + s) = true
    · rw [ixf_t h, ixf_t (f := fun i => f (i + s)) (k := k) h, List.length_cons, List.length_cons, i1]
    · rw [ixf_n h, ixf_n (f := fun i => f (i + s)) (k := k) h, i1]
theorem pst_len {mu n j : Nat} (hn : n ≤ 12) (hm : mu < 2 ^ n) (hj : j < n) : (ixf (bt (Int32.ofNat (mu / 2 ^ (j + 1)))) 32 0).length = (pst mu n j).length := by
  have e1 : ixf (bt (Int32.ofNat (mu / 2 ^ (j + 1)))) 32 0 = ixf (fun i => mu.testBit (i + (j + 1))) 32 0 := ixf_c 32 0 (fun i _ hi => by rw [bt_nat (by omega), Nat.testBit_div_two_pow])
  have e2 : (32 : Nat) = (n - 1 - j) + (32 - (n - 1 - j)) := by omega
  rw [e1, e2, ixf_add, Nat.zero_add]
  have e3 : ixf (fun i => mu.testBit (i + (j + 1))) (32 - (n - 1 - j)) (n - 1 - j) = [] := by
    refine List.eq_nil_iff_forall_not_mem.mpr (fun x hx => ?_)
    have h := (ixf_ge _ _ x).mp hx
    have lt : mu < 2 ^ (x + (j + 1)) := Nat.lt_of_lt_of_le hm (Nat.pow_le_pow_right (by omega) (by omega))
    have := h.2.2
    rw [Nat.testBit_lt_two_pow lt] at this
    exact absurd this (by decide)
  rw [e3, List.append_nil]
  have := ixf_sh (f := mu.testBit) (s := j + 1) (n - 1 - j) 0
  rw [Nat.zero_add] at this
  exact this.symm
theorem sg_par : ∀ n, sg n = if n % 2 = 1 then -1 else 1 := by
  intro n
  induction n with
  | zero => rfl
  | succ n ih =>
    show - sg n = _
    rw [ih]
    by_cases h : n % 2 = 1
    · rw [if_pos h, if_neg (by omega)]; rfl
    · rw [if_neg h, if_pos (by omega)]
theorem and_1 {n : Nat} (h : n < 2147483648) : ((Int32.ofNat n) &&& 1) = 1 ↔ n % 2 = 1 := by
  have hb := bt_sar (a := Int32.ofNat n) (u := 0) (by decide)
  have e : (Int32.ofNat n) >>> (Int32.ofNat 0 &&& 31) = Int32.ofNat n := by rw [sarI (by decide) h, Nat.pow_zero, Nat.div_one]
  rw [e, bt_nat (by decide)] at hb
  have tb : n.testBit 0 = decide (n % 2 = 1) := by rw [Nat.testBit_zero]
  rw [hb, tb]
  by_cases q : n % 2 = 1
  · rw [decide_eq_true q, if_pos rfl]; exact ⟨fun _ => q, fun _ => rfl⟩
  · rw [decide_eq_false q, if_neg (by decide)]; exact ⟨fun z => absurd z (by decide), fun z => absurd z q⟩
theorem full_cls {cl : Nat → Nat → Int} {n : Nat} : dP cl n (2 ^ n - 1) = dF n cl := by
  have e : ∀ r k, k + r = n → (ixf (2 ^ n - 1).testBit r k).map cl = sgl cl k r := by
    intro r
    induction r with
    | zero => intro k _; rfl
    | succ r ih =>
      intro k hk
      have h : (2 ^ n - 1).testBit k = true := by rw [Nat.testBit_two_pow_sub_one]; exact decide_eq_true (by omega)
      rw [ixf_t h, List.map_cons, ih (k + 1) (by omega)]
      rfl
  have e0 := e n 0 (by omega)
  rw [← ixs_f] at e0
  have l : (ixs (2 ^ n - 1) n 0).length = n := by
    have := congrArg List.length e0
    rw [List.length_map, sgl_len] at this
    exact this
  unfold dP dF cls
  rw [l, e0]
theorem fst_256 {F G : Nat → Int32} {p q : Nat} {x : Int} (h : wF p F G) (hq : q + 6 ≤ p ∨ p + 6 ≤ q) (hx : wd F q x) : wd G q x := wd_c hx (fun i hi => h (q + i) (by omega))
/-- what stands in the rows -/
def clM (m : rf_m) (col : Int32) (j i : Nat) : Int := if Int32.ofNat j = col then (m.1 255 i).toInt else (m.1 254 (6 * i + j)).toInt
def dtF (c : Nat) (m m' : rf_m) : Prop := (∀ z, z ≠ 256 → z ≠ 257 → z ≠ c → m'.1 z = m.1 z) ∧ m'.2 = m.2
theorem det_258 {w : rf_w} {m : rf_m} {n at_ : Nat} {col : Int32} (hn : n ≤ 6) (hat : at_ + 6 ≤ 36) (b255 : ∀ i, i < n → m.1 255 i ≠ -2147483648) (b254 : ∀ i j, i < n → j < n → m.1 254 (6 * i + j) ≠ -2147483648) : ∃ m', g_X14_determinant__258 w m (Int32.ofNat n) col (Int32.ofNat at_) = some m' ∧ dtF 258 m m' ∧ wF at_ (m.1 258) (m'.1 258) ∧ wd (m'.1 258) at_ (dF n (clM m col)) := by
  obtain ⟨FU, hF, hFb⟩ := fuel_ex
  have o1 : ¬ (1 : Int32) = 0 := by decide
  have p64 : 2 ^ n ≤ 2 ^ 6 := Nat.pow_le_pow_right (by omega) hn
  have zo : Int32.ofNat 0 = 0 := rfl
  have six : ∀ k, k ≤ 64 → 6 * Int32.ofNat k = Int32.ofNat (6 * k) := fun k hk => by
    have z6 : (6 : Int32).toInt = 6 := rfl
    rw [i_eq, mulI (by rw [ofI (by omega), z6]; omega) (by rw [ofI (by omega), z6]; omega), ofI (by omega), ofI (by omega), z6]
    omega
  -- one set: column after column
  have key2 : ∀ (r12 : Int32 → Int32 → Int32 → Int32 → rf_m → Option rf_m) mu, 0 < mu → mu < 2 ^ n → ∀ r f j (M : rf_m) (acc : Int), j + r = n → r < f → dtF 258 m M → M.1 258 = m.1 258 → (∀ k, k < mu → wd (M.1 256) (6 * k) (dP (clM m col) n k)) → wd (M.1 256) (6 * mu) acc → acc + ex ((ixs mu n 0).length - 1) (dtn ((ixs mu n 0).length - 1)) ((ixs mu j 0).map (clM m col)) ((ixf mu.testBit (n - j) j).map (clM m col)) = dP (clM m col) n mu → ∃ M', g_X14_determinant__258_45 w r12 f (Int32.ofNat n) col (Int32.ofNat at_) (Int32.ofNat mu) (Int32.ofNat ((ixs mu n 0).length - 1)) (Int32.ofNat j) M = r12 (Int32.ofNat n) col (Int32.ofNat at_) (Int32.ofNat (mu + 1)) M' ∧ dtF 258 m M' ∧ M'.1 258 = m.1 258 ∧ ∀ k, k < mu + 1 → wd (M'.1 256) (6 * k) (dP (clM m col) n k) := by
    intro r12 mu m0 m1 r
    have lenr := ixs_len (mu := mu) n
    induction r with
    | zero =>
      intro f j M acc hj hf fM eC hk ha he
      obtain ⟨f, rfl⟩ : ∃ g, f = g + 1 := ⟨f - 1, by omega⟩
      have e : j = n := by omega
      subst e
      rw [Nat.sub_self] at he
      have he : acc + 0 = dP (clM m col) j mu := he
      rw [Int.add_zero] at he
      refine ⟨M, ?_, fM, eC, fun k h => ?_⟩
      · show g_X14_determinant__258_45_b w _ _ _ _ _ _ _ _ M = _
        unfold g_X14_determinant__258_45_b
        rw [if_pos (Int32.le_refl _), of_succ]
      · by_cases q : k = mu
        · rw [q, ← he]; exact ha
        · exact hk k (by omega)
    | succ r ih =>
      intro f j M acc hj hf fM eC hk ha he
      obtain ⟨f, rfl⟩ : ∃ g, f = g + 1 := ⟨f - 1, by omega⟩
      have g1 : ¬ Int32.ofNat n ≤ Int32.ofNat j := nle (by omega) (by omega)
      have hb := bt_sar (a := Int32.ofNat mu) (u := j) (by omega)
      rw [bt_nat (by omega)] at hb
      rw [show n - j = (n - (j + 1)) + 1 by omega] at he
      by_cases tb : mu.testBit j = true
      · -- the column is in the set
        have esn : ixs mu (j + 1) 0 = ixs mu j 0 ++ [j] := by rw [ixs_s, if_pos tb]
        have sp := ixs_sp (mu := mu) (n := n) (j := j) (by omega)
        rw [if_pos tb] at sp
        have ep : ixf mu.testBit (n - (j + 1)) (j + 1) = pst mu n j := by unfold pst; rw [show n - 1 - j = n - (j + 1) by omega]
        have lnn : (ixs mu n 0).length = (ixs mu j 0).length + 1 + (pst mu n j).length := by
          rw [sp, List.length_append, List.length_append, List.length_singleton]; omega
        rw [ixf_t tb, ep, List.map_cons, ex_s, List.length_map] at he
        have hrow : (ixs mu n 0).length - 1 < n := by omega
        have mlt : mu < 4294967296 := by omega
        have cl1 := clr_lt mlt tb
        have icl := ixs_clr (n := n) (j := j) mlt (by omega)
        have dPc : dP (clM m col) n (clr mu j) = dtn ((ixs mu n 0).length - 1) ((ixs mu j 0).map (clM m col) ++ (pst mu n j).map (clM m col)) := by
          unfold dP cls
          rw [icl, List.map_append, List.length_append, show (ixs mu j 0).length + (pst mu n j).length = (ixs mu n 0).length - 1 by omega]
        -- the number that stands there
        have v1 : ∃ v : Int32, v ≠ -2147483648 ∧ v.toInt = clM m col j ((ixs mu n 0).length - 1) ∧ g_X14_determinant__258_45 w r12 (f + 1) (Int32.ofNat n) col (Int32.ofNat at_) (Int32.ofNat mu) (Int32.ofNat ((ixs mu n 0).length - 1)) (Int32.ofNat j) M = g_X14_determinant__258_93 w r12 (g_X14_determinant__258_45 w r12 f) (Int32.ofNat n) col (Int32.ofNat at_) (Int32.ofNat mu) (Int32.ofNat ((ixs mu n 0).length - 1)) (Int32.ofNat j) v M := by
          have st : g_X14_determinant__258_45 w r12 (f + 1) (Int32.ofNat n) col (Int32.ofNat at_) (Int32.ofNat mu) (Int32.ofNat ((ixs mu n 0).length - 1)) (Int32.ofNat j) M = g_X14_determinant__258_45_b w r12 (g_X14_determinant__258_45 w r12 f) (Int32.ofNat n) col (Int32.ofNat at_) (Int32.ofNat mu) (Int32.ofNat ((ixs mu n 0).length - 1)) (Int32.ofNat j) M := rfl
          rw [st]
          unfold g_X14_determinant__258_45_b clM
          rw [if_neg g1, hb, if_pos tb, if_neg o1]
          by_cases c : Int32.ofNat j = col
          · rw [if_pos c, if_pos c, gof (n := (ixs mu n 0).length - 1) (by omega) (by decide), g_t, tn_of (n := (ixs mu n 0).length - 1) (by omega), fM.1 255 (by decide) (by decide) (by decide)]
            exact ⟨_, b255 _ hrow, rfl, rfl⟩
          · have e6 : 6 * Int32.ofNat ((ixs mu n 0).length - 1) + Int32.ofNat j = Int32.ofNat (6 * ((ixs mu n 0).length - 1) + j) := by rw [six _ (by omega)]; exact (Int32.ofNat_add _ _).symm
            rw [if_neg c, if_neg c, e6, gof (n := 6 * ((ixs mu n 0).length - 1) + j) (by omega) (by decide), g_t, tn_of (n := 6 * ((ixs mu n 0).length - 1) + j) (by omega), fM.1 254 (by decide) (by decide) (by decide)]
            exact ⟨_, b254 _ _ hrow (by omega), rfl, rfl⟩
        obtain ⟨v, vn, ve, vs⟩ := v1
        have nv : (-v).toInt = - v.toInt := by
          have rv := rngI v
          have : v.toInt ≠ -2147483648 := fun z => vn (i_eq.mpr z)
          rw [Int32.toInt_neg, bm32 (by omega) (by omega)]
        -- times and added
        have fin : ∀ s4 : Int32, s4.toInt = sg (pst mu n j).length * v.toInt → ∃ M', g_X14_determinant__258_152 w r12 (g_X14_determinant__258_45 w r12 f) (Int32.ofNat n) col (Int32.ofNat at_) (Int32.ofNat mu) (Int32.ofNat ((ixs mu n 0).length - 1)) (Int32.ofNat j) 0 (6 * ((Int32.ofNat mu) &&& (((1 : Int32) <<< (Int32.ofNat j &&& 31)) ^^^ ((-1))))) s4 M = r12 (Int32.ofNat n) col (Int32.ofNat at_) (Int32.ofNat (mu + 1)) M' ∧ dtF 258 m M' ∧ M'.1 258 = m.1 258 ∧ ∀ k, k < mu + 1 → wd (M'.1 256) (6 * k) (dP (clM m col) n k) := by
          intro s4 hs4
          have ec : (Int32.ofNat mu) &&& (((1 : Int32) <<< (Int32.ofNat j &&& 31)) ^^^ (-1)) = Int32.ofNat (clr mu j) := clr_r (by omega)
          obtain ⟨F1, t1, t2, t3⟩ := tm_257_256 (w := w) (m := M) (p := 0) (q := 6 * clr mu j) (by_ := s4) (by decide) (by omega) (hk _ cl1)
          obtain ⟨F2, a1, a2, a3⟩ := ad_256_257 (w := w) (m := stc M 257 F1) (p := 6 * mu) (q := 0) (by omega) (by decide) (by rw [stc_ne (by decide)]; exact ha) (by rw [stc_at]; exact t3)
          rw [stc_ne (by decide)] at a2
          rw [zo] at t1 a1
          unfold g_X14_determinant__258_152 g_X14_determinant__258_172
          rw [ec, six _ (by omega), t1, bv_sm, six _ (by omega), a1, bv_sm, of_succ]
          refine ih f (j + 1) (stc (stc M 257 F1) 256 F2) (acc + dP (clM m col) n (clr mu j) * s4.toInt) (by omega) (by omega) ⟨fun z h1 h2 h3 => by rw [stc_ne h1, stc_ne h2]; exact fM.1 z h1 h2 h3, fM.2⟩ (by rw [stc_ne (by decide), stc_ne (by decide)]; exact eC) (fun k h => by rw [stc_at]; exact fst_256 a2 (by omega) (hk k h)) (by rw [stc_at]; exact a3) ?_
          rw [esn, ep, List.map_append, dPc, hs4, ve, ← he]
          show _ + ex _ _ ((ixs mu j 0).map (clM m col) ++ [clM m col j]) _ = _
          generalize ex ((ixs mu n 0).length - 1) (dtn ((ixs mu n 0).length - 1)) ((ixs mu j 0).map (clM m col) ++ [clM m col j]) ((pst mu n j).map (clM m col)) = E
          generalize dtn ((ixs mu n 0).length - 1) ((ixs mu j 0).map (clM m col) ++ (pst mu n j).map (clM m col)) = D2
          generalize sg (pst mu n j).length = S
          generalize clM m col j ((ixs mu n 0).length - 1) = V
          grind
        have bl := pst_len (n := n) (by omega) m1 (show j < n by omega)
        have sh := sarI (v := mu) (k := j + 1) (by omega) (by omega)
        rw [vs]
        unfold g_X14_determinant__258_93
        rw [of_succ, sh, bits_r, b_sm, bl]
        have lp : (pst mu n j).length ≤ 6 := by omega
        by_cases od : (pst mu n j).length % 2 = 1
        · rw [if_pos ((and_1 (by omega)).mpr od)]
          unfold g_X14_determinant__258_116
          rw [if_neg o1]
          exact fin (-v) (by rw [nv, sg_par, if_pos od]; omega)
        · rw [if_neg (fun z => od ((and_1 (by omega)).mp z))]
          unfold g_X14_determinant__258_116
          rw [if_pos rfl]
          exact fin v (by rw [sg_par, if_neg od]; omega)
      · have es : ixs mu (j + 1) 0 = ixs mu j 0 := by rw [ixs_s, if_neg tb, List.append_nil]
        show ∃ M', g_X14_determinant__258_45_b w r12 (g_X14_determinant__258_45 w r12 f) _ _ _ _ _ _ M = _ ∧ _
        unfold g_X14_determinant__258_45_b g_X14_determinant__258_172
        rw [if_neg g1, hb, if_neg tb, if_pos rfl, of_succ]
        rw [ixf_n tb] at he
        exact ih f (j + 1) M acc (by omega) (by omega) fM eC hk ha (by rw [es]; exact he)
  -- set after set
  have key1 : ∀ r f mu (M : rf_m), mu + r = 2 ^ n → r < f → 0 < mu → dtF 258 m M → M.1 258 = m.1 258 → (∀ k, k < mu → wd (M.1 256) (6 * k) (dP (clM m col) n k)) → ∃ m', g_X14_determinant__258_12 w f (Int32.ofNat n) col (Int32.ofNat at_) (Int32.ofNat mu) M = some m' ∧ dtF 258 m m' ∧ wF at_ (m.1 258) (m'.1 258) ∧ wd (m'.1 258) at_ (dF n (clM m col)) := by
    intro r
    induction r with
    | zero =>
      intro f mu M hm hf m0 fM eC hk
      obtain ⟨f, rfl⟩ : ∃ g, f = g + 1 := ⟨f - 1, by omega⟩
      have e : mu = 2 ^ n := by omega
      have h1 := hk (2 ^ n - 1) (by omega)
      rw [full_cls] at h1
      obtain ⟨F, c1, c2, c3⟩ := cp_258_256 (w := w) (m := M) (p := at_) (q := 6 * (2 ^ n - 1)) hat (by omega) h1
      have pw := pw12 n (by omega)
      have s1 : Int32.ofNat (2 ^ n) - 1 = Int32.ofNat (2 ^ n - 1) := by
        obtain ⟨k, hk⟩ : ∃ k, 2 ^ n = k + 1 := ⟨2 ^ n - 1, by omega⟩
        rw [hk, ofm1']
        rfl
      refine ⟨stc M 258 F, ?_, ⟨fun z h1 h2 h3 => by rw [stc_ne h3]; exact fM.1 z h1 h2 h3, fM.2⟩, by rw [stc_at, ← eC]; exact c2, by rw [stc_at]; exact c3⟩
      show g_X14_determinant__258_12_b w _ _ _ _ _ M = _
      unfold g_X14_determinant__258_12_b
      rw [pw, e, if_pos (Int32.le_refl _), s1, six _ (by omega), c1, bv_sm]
    | succ r ih =>
      intro f mu M hm hf m0 fM eC hk
      obtain ⟨f, rfl⟩ : ∃ g, f = g + 1 := ⟨f - 1, by omega⟩
      have pw := pw12 n (by omega)
      have g1 : ¬ Int32.ofNat (2 ^ n) ≤ Int32.ofNat mu := nle (by omega) (by omega)
      obtain ⟨F, s1, s2, s3⟩ := st_256 (w := w) (m := M) (p := 6 * mu) (v := 0) (by omega)
      have z0 : (0 : Int64).toInt = 0 := rfl
      rw [z0] at s3
      have bl : (ixf (bt (Int32.ofNat mu)) 32 0).length = (ixs mu n 0).length := by rw [bt_ixs (by omega) (show mu < 2 ^ n by omega)]
      have lp : 0 < (ixs mu n 0).length := by
        obtain ⟨u, hu⟩ := Nat.exists_testBit_of_ne_zero (show mu ≠ 0 by omega)
        refine List.length_pos_of_mem (a := u) ?_
        rw [ixs_f]
        refine (ixf_ge _ _ _).mpr ⟨by omega, ?_, hu⟩
        refine Classical.byContradiction fun z => ?_
        have : mu.testBit u = false := Nat.testBit_lt_two_pow (Nat.lt_of_lt_of_le (show mu < 2 ^ n by omega) (Nat.pow_le_pow_right (by omega) (by omega)))
        rw [this] at hu
        cases hu
      have ll := ixs_len (mu := mu) n
      have r1 : Int32.ofNat (ixs mu n 0).length - 1 = Int32.ofNat ((ixs mu n 0).length - 1) := by
        obtain ⟨k, hk⟩ : ∃ k, (ixs mu n 0).length = k + 1 := ⟨(ixs mu n 0).length - 1, by omega⟩
        rw [hk, ofm1']
        rfl
      obtain ⟨M', k1, k2, k3, k4⟩ := key2 (g_X14_determinant__258_12 w f) mu m0 (by omega) n FU 0 (stc M 256 F) 0 (by omega) (by omega) ⟨fun z h1 h2 h3 => by rw [stc_ne h1]; exact fM.1 z h1 h2 h3, fM.2⟩ (by rw [stc_ne (by decide)]; exact eC) (fun k h => by rw [stc_at]; exact fst_256 s2 (by omega) (hk k h)) (by rw [stc_at]; exact s3) (by
        rw [Int.zero_add, Nat.sub_zero, ← ixs_f]
        unfold dP cls
        obtain ⟨k, hk⟩ : ∃ k, (ixs mu n 0).length = k + 1 := ⟨(ixs mu n 0).length - 1, by omega⟩
        rw [hk]
        rfl)
      obtain ⟨m', j1, j2⟩ := ih f (mu + 1) M' (by omega) (by omega) (by omega) k2 k3 k4
      refine ⟨m', ?_, j2⟩
      show g_X14_determinant__258_12_b w (g_X14_determinant__258_12 w f) _ _ _ _ M = _
      unfold g_X14_determinant__258_12_b
      rw [zo] at k1
      rw [pw, if_neg g1, six _ (by omega), s1, bv_sm, bits_r, b_sm, bl, r1, hF, k1, j1]
  obtain ⟨F, s1, s2, s3⟩ := st_256 (w := w) (m := m) (p := 0) (v := 1) (by decide)
  have z1 : (1 : Int64).toInt = 1 := rfl
  rw [z1] at s3
  have p1 := Nat.pow_pos (n := n) (show 0 < 2 by decide)
  obtain ⟨m', k1, k2⟩ := key1 (2 ^ n - 1) FU 1 (stc m 256 F) (by omega) (by omega) (by omega) ⟨fun z h1 h2 h3 => by rw [stc_ne h1], rfl⟩ (by rw [stc_ne (by decide)]) (fun k hk => by
    have : k = 0 := by omega
    subst this
    rw [stc_at]
    have e : dP (clM m col) n 0 = 1 := by
      have : ixs 0 n 0 = [] := by
        rw [ixs_f]
        refine List.eq_nil_iff_forall_not_mem.mpr (fun x hx => ?_)
        have := ((ixf_ge _ _ x).mp hx).2.2
        rw [Nat.zero_testBit] at this
        cases this
      unfold dP
      rw [this]
      rfl
    rw [e]
    exact s3)
  refine ⟨m', ?_, k2⟩
  unfold g_X14_determinant__258
  rw [zo] at s1
  rw [s1, bv_sm, hF]
  exact k1
theorem det_260 {w : rf_w} {m : rf_m} {n at_ : Nat} {col : Int32} (hn : n ≤ 6) (hat : at_ + 6 ≤ 6) (b255 : ∀ i, i < n → m.1 255 i ≠ -2147483648) (b254 : ∀ i j, i < n → j < n → m.1 254 (6 * i + j) ≠ -2147483648) : ∃ m', g_X14_determinant__260 w m (Int32.ofNat n) col (Int32.ofNat at_) = some m' ∧ dtF 260 m m' ∧ wF at_ (m.1 260) (m'.1 260) ∧ wd (m'.1 260) at_ (dF n (clM m col)) := by
  obtain ⟨FU, hF, hFb⟩ := fuel_ex
  have o1 : ¬ (1 : Int32) = 0 := by decide
  have p64 : 2 ^ n ≤ 2 ^ 6 := Nat.pow_le_pow_right (by omega) hn
  have zo : Int32.ofNat 0 = 0 := rfl
  have six : ∀ k, k ≤ 64 → 6 * Int32.ofNat k = Int32.ofNat (6 * k) := fun k hk => by
    have z6 : (6 : Int32).toInt = 6 := rfl
    rw [i_eq, mulI (by rw [ofI (by omega), z6]; omega) (by rw [ofI (by omega), z6]; omega), ofI (by omega), ofI (by omega), z6]
    omega
  -- one set: column after column
  have key2 : ∀ (r12 : Int32 → Int32 → Int32 → Int32 → rf_m → Option rf_m) mu, 0 < mu → mu < 2 ^ n → ∀ r f j (M : rf_m) (acc : Int), j + r = n → r < f → dtF 260 m M → M.1 260 = m.1 260 → (∀ k, k < mu → wd (M.1 256) (6 * k) (dP (clM m col) n k)) → wd (M.1 256) (6 * mu) acc → acc + ex ((ixs mu n 0).length - 1) (dtn ((ixs mu n 0).length - 1)) ((ixs mu j 0).map (clM m col)) ((ixf mu.testBit (n - j) j).map (clM m col)) = dP (clM m col) n mu → ∃ M', g_X14_determinant__260_45 w r12 f (Int32.ofNat n) col (Int32.ofNat at_) (Int32.ofNat mu) (Int32.ofNat ((ixs mu n 0).length - 1)) (Int32.ofNat j) M = r12 (Int32.ofNat n) col (Int32.ofNat at_) (Int32.ofNat (mu + 1)) M' ∧ dtF 260 m M' ∧ M'.1 260 = m.1 260 ∧ ∀ k, k < mu + 1 → wd (M'.1 256) (6 * k) (dP (clM m col) n k) := by
    intro r12 mu m0 m1 r
    have lenr := ixs_len (mu := mu) n
    induction r with
    | zero =>
      intro f j M acc hj hf fM eC hk ha he
      obtain ⟨f, rfl⟩ : ∃ g, f = g + 1 := ⟨f - 1, by omega⟩
      have e : j = n := by omega
      subst e
      rw [Nat.sub_self] at he
      have he : acc + 0 = dP (clM m col) j mu := he
      rw [Int.add_zero] at he
      refine ⟨M, ?_, fM, eC, fun k h => ?_⟩
      · show g_X14_determinant__260_45_b w _ _ _ _ _ _ _ _ M = _
        unfold g_X14_determinant__260_45_b
        rw [if_pos (Int32.le_refl _), of_succ]
      · by_cases q : k = mu
        · rw [q, ← he]; exact ha
        · exact hk k (by omega)
    | succ r ih =>
      intro f j M acc hj hf fM eC hk ha he
      obtain ⟨f, rfl⟩ : ∃ g, f = g + 1 := ⟨f - 1, by omega⟩
      have g1 : ¬ Int32.ofNat n ≤ Int32.ofNat j := nle (by omega) (by omega)
      have hb := bt_sar (a := Int32.ofNat mu) (u := j) (by omega)
      rw [bt_nat (by omega)] at hb
      rw [show n - j = (n - (j + 1)) + 1 by omega] at he
      by_cases tb : mu.testBit j = true
      · -- the column is in the set
        have esn : ixs mu (j + 1) 0 = ixs mu j 0 ++ [j] := by rw [ixs_s, if_pos tb]
        have sp := ixs_sp (mu := mu) (n := n) (j := j) (by omega)
        rw [if_pos tb] at sp
        have ep : ixf mu.testBit (n - (j + 1)) (j + 1) = pst mu n j := by unfold pst; rw [show n - 1 - j = n - (j + 1) by omega]
        have lnn : (ixs mu n 0).length = (ixs mu j 0).length + 1 + (pst mu n j).length := by
          rw [sp, List.length_append, List.length_append, List.length_singleton]; omega
        rw [ixf_t tb, ep, List.map_cons, ex_s, List.length_map] at he
        have hrow : (ixs mu n 0).length - 1 < n := by omega
        have mlt : mu < 4294967296 := by omega
        have cl1 := clr_lt mlt tb
        have icl := ixs_clr (n := n) (j := j) mlt (by omega)
        have dPc : dP (clM m col) n (clr mu j) = dtn ((ixs mu n 0).length - 1) ((ixs mu j 0).map (clM m col) ++ (pst mu n j).map (clM m col)) := by
          unfold dP cls
          rw [icl, List.map_append, List.length_append, show (ixs mu j 0).length + (pst mu n j).length = (ixs mu n 0).length - 1 by omega]
        -- the number that stands there
        have v1 : ∃ v : Int32, v ≠ -2147483648 ∧ v.toInt = clM m col j ((ixs mu n 0).length - 1) ∧ g_X14_determinant__260_45 w r12 (f + 1) (Int32.ofNat n) col (Int32.ofNat at_) (Int32.ofNat mu) (Int32.ofNat ((ixs mu n 0).length - 1)) (Int32.ofNat j) M = g_X14_determinant__260_93 w r12 (g_X14_determinant__260_45 w r12 f) (Int32.ofNat n) col (Int32.ofNat at_) (Int32.ofNat mu) (Int32.ofNat ((ixs mu n 0).length - 1)) (Int32.ofNat j) v M := by
          have st : g_X14_determinant__260_45 w r12 (f + 1) (Int32.ofNat n) col (Int32.ofNat at_) (Int32.ofNat mu) (Int32.ofNat ((ixs mu n 0).length - 1)) (Int32.ofNat j) M = g_X14_determinant__260_45_b w r12 (g_X14_determinant__260_45 w r12 f) (Int32.ofNat n) col (Int32.ofNat at_) (Int32.ofNat mu) (Int32.ofNat ((ixs mu n 0).length - 1)) (Int32.ofNat j) M := rfl
          rw [st]
          unfold g_X14_determinant__260_45_b clM
          rw [if_neg g1, hb, if_pos tb, if_neg o1]
          by_cases c : Int32.ofNat j = col
          · rw [if_pos c, if_pos c, gof (n := (ixs mu n 0).length - 1) (by omega) (by decide), g_t, tn_of (n := (ixs mu n 0).length - 1) (by omega), fM.1 255 (by decide) (by decide) (by decide)]
            exact ⟨_, b255 _ hrow, rfl, rfl⟩
          · have e6 : 6 * Int32.ofNat ((ixs mu n 0).length - 1) + Int32.ofNat j = Int32.ofNat (6 * ((ixs mu n 0).length - 1) + j) := by rw [six _ (by omega)]; exact (Int32.ofNat_add _ _).symm
            rw [if_neg c, if_neg c, e6, gof (n := 6 * ((ixs mu n 0).length - 1) + j) (by omega) (by decide), g_t, tn_of (n := 6 * ((ixs mu n 0).length - 1) + j) (by omega), fM.1 254 (by decide) (by decide) (by decide)]
            exact ⟨_, b254 _ _ hrow (by omega), rfl, rfl⟩
        obtain ⟨v, vn, ve, vs⟩ := v1
        have nv : (-v).toInt = - v.toInt := by
          have rv := rngI v
          have : v.toInt ≠ -2147483648 := fun z => vn (i_eq.mpr z)
          rw [Int32.toInt_neg, bm32 (by omega) (by omega)]
        -- times and added
        have fin : ∀ s4 : Int32, s4.toInt = sg (pst mu n j).length * v.toInt → ∃ M', g_X14_determinant__260_152 w r12 (g_X14_determinant__260_45 w r12 f) (Int32.ofNat n) col (Int32.ofNat at_) (Int32.ofNat mu) (Int32.ofNat ((ixs mu n 0).length - 1)) (Int32.ofNat j) 0 (6 * ((Int32.ofNat mu) &&& (((1 : Int32) <<< (Int32.ofNat j &&& 31)) ^^^ ((-1))))) s4 M = r12 (Int32.ofNat n) col (Int32.ofNat at_) (Int32.ofNat (mu + 1)) M' ∧ dtF 260 m M' ∧ M'.1 260 = m.1 260 ∧ ∀ k, k < mu + 1 → wd (M'.1 256) (6 * k) (dP (clM m col) n k) := by
          intro s4 hs4
          have ec : (Int32.ofNat mu) &&& (((1 : Int32) <<< (Int32.ofNat j &&& 31)) ^^^ (-1)) = Int32.ofNat (clr mu j) := clr_r (by omega)
          obtain ⟨F1, t1, t2, t3⟩ := tm_257_256 (w := w) (m := M) (p := 0) (q := 6 * clr mu j) (by_ := s4) (by decide) (by omega) (hk _ cl1)
          obtain ⟨F2, a1, a2, a3⟩ := ad_256_257 (w := w) (m := stc M 257 F1) (p := 6 * mu) (q := 0) (by omega) (by decide) (by rw [stc_ne (by decide)]; exact ha) (by rw [stc_at]; exact t3)
          rw [stc_ne (by decide)] at a2
          rw [zo] at t1 a1
          unfold g_X14_determinant__260_152 g_X14_determinant__260_172
          rw [ec, six _ (by omega), t1, bv_sm, six _ (by omega), a1, bv_sm, of_succ]
          refine ih f (j + 1) (stc (stc M 257 F1) 256 F2) (acc + dP (clM m col) n (clr mu j) * s4.toInt) (by omega) (by omega) ⟨fun z h1 h2 h3 => by rw [stc_ne h1, stc_ne h2]; exact fM.1 z h1 h2 h3, fM.2⟩ (by rw [stc_ne (by decide), stc_ne (by decide)]; exact eC) (fun k h => by rw [stc_at]; exact fst_256 a2 (by omega) (hk k h)) (by rw [stc_at]; exact a3) ?_
          rw [esn, ep, List.map_append, dPc, hs4, ve, ← he]
          show _ + ex _ _ ((ixs mu j 0).map (clM m col) ++ [clM m col j]) _ = _
          generalize ex ((ixs mu n 0).length - 1) (dtn ((ixs mu n 0).length - 1)) ((ixs mu j 0).map (clM m col) ++ [clM m col j]) ((pst mu n j).map (clM m col)) = E
          generalize dtn ((ixs mu n 0).length - 1) ((ixs mu j 0).map (clM m col) ++ (pst mu n j).map (clM m col)) = D2
          generalize sg (pst mu n j).length = S
          generalize clM m col j ((ixs mu n 0).length - 1) = V
          grind
        have bl := pst_len (n := n) (by omega) m1 (show j < n by omega)
        have sh := sarI (v := mu) (k := j + 1) (by omega) (by omega)
        rw [vs]
        unfold g_X14_determinant__260_93
        rw [of_succ, sh, bits_r, b_sm, bl]
        have lp : (pst mu n j).length ≤ 6 := by omega
        by_cases od : (pst mu n j).length % 2 = 1
        · rw [if_pos ((and_1 (by omega)).mpr od)]
          unfold g_X14_determinant__260_116
          rw [if_neg o1]
          exact fin (-v) (by rw [nv, sg_par, if_pos od]; omega)
        · rw [if_neg (fun z => od ((and_1 (by omega)).mp z))]
          unfold g_X14_determinant__260_116
          rw [if_pos rfl]
          exact fin v (by rw [sg_par, if_neg od]; omega)
      · have es : ixs mu (j + 1) 0 = ixs mu j 0 := by rw [ixs_s, if_neg tb, List.append_nil]
        show ∃ M', g_X14_determinant__260_45_b w r12 (g_X14_determinant__260_45 w r12 f) _ _ _ _ _ _ M = _ ∧ _
        unfold g_X14_determinant__260_45_b g_X14_determinant__260_172
        rw [if_neg g1, hb, if_neg tb, if_pos rfl, of_succ]
        rw [ixf_n tb] at he
        exact ih f (j + 1) M acc (by omega) (by omega) fM eC hk ha (by rw [es]; exact he)
  -- set after set
  have key1 : ∀ r f mu (M : rf_m), mu + r = 2 ^ n → r < f → 0 < mu → dtF 260 m M → M.1 260 = m.1 260 → (∀ k, k < mu → wd (M.1 256) (6 * k) (dP (clM m col) n k)) → ∃ m', g_X14_determinant__260_12 w f (Int32.ofNat n) col (Int32.ofNat at_) (Int32.ofNat mu) M = some m' ∧ dtF 260 m m' ∧ wF at_ (m.1 260) (m'.1 260) ∧ wd (m'.1 260) at_ (dF n (clM m col)) := by
    intro r
    induction r with
    | zero =>
      intro f mu M hm hf m0 fM eC hk
      obtain ⟨f, rfl⟩ : ∃ g, f = g + 1 := ⟨f - 1, by omega⟩
      have e : mu = 2 ^ n := by omega
      have h1 := hk (2 ^ n - 1) (by omega)
      rw [full_cls] at h1
      obtain ⟨F, c1, c2, c3⟩ := cp_260_256 (w := w) (m := M) (p := at_) (q := 6 * (2 ^ n - 1)) hat (by omega) h1
      have pw := pw12 n (by omega)
      have s1 : Int32.ofNat (2 ^ n) - 1 = Int32.ofNat (2 ^ n - 1) := by
        obtain ⟨k, hk⟩ : ∃ k, 2 ^ n = k + 1 := ⟨2 ^ n - 1, by omega⟩
        rw [hk, ofm1']
        rfl
      refine ⟨stc M 260 F, ?_, ⟨fun z h1 h2 h3 => by rw [stc_ne h3]; exact fM.1 z h1 h2 h3, fM.2⟩, by rw [stc_at, ← eC]; exact c2, by rw [stc_at]; exact c3⟩
      show g_X14_determinant__260_12_b w _ _ _ _ _ M = _
      unfold g_X14_determinant__260_12_b
      rw [pw, e, if_pos (Int32.le_refl _), s1, six _ (by omega), c1, bv_sm]
    | succ r ih =>
      intro f mu M hm hf m0 fM eC hk
      obtain ⟨f, rfl⟩ : ∃ g, f = g + 1 := ⟨f - 1, by omega⟩
      have pw := pw12 n (by omega)
      have g1 : ¬ Int32.ofNat (2 ^ n) ≤ Int32.ofNat mu := nle (by omega) (by omega)
      obtain ⟨F, s1, s2, s3⟩ := st_256 (w := w) (m := M) (p := 6 * mu) (v := 0) (by omega)
      have z0 : (0 : Int64).toInt = 0 := rfl
      rw [z0] at s3
      have bl : (ixf (bt (Int32.ofNat mu)) 32 0).length = (ixs mu n 0).length := by rw [bt_ixs (by omega) (show mu < 2 ^ n by omega)]
      have lp : 0 < (ixs mu n 0).length := by
        obtain ⟨u, hu⟩ := Nat.exists_testBit_of_ne_zero (show mu ≠ 0 by omega)
        refine List.length_pos_of_mem (a := u) ?_
        rw [ixs_f]
        refine (ixf_ge _ _ _).mpr ⟨by omega, ?_, hu⟩
        refine Classical.byContradiction fun z => ?_
        have : mu.testBit u = false := Nat.testBit_lt_two_pow (Nat.lt_of_lt_of_le (show mu < 2 ^ n by omega) (Nat.pow_le_pow_right (by omega) (by omega)))
        rw [this] at hu
        cases hu
      have ll := ixs_len (mu := mu) n
      have r1 : Int32.ofNat (ixs mu n 0).length - 1 = Int32.ofNat ((ixs mu n 0).length - 1) := by
        obtain ⟨k, hk⟩ : ∃ k, (ixs mu n 0).length = k + 1 := ⟨(ixs mu n 0).length - 1, by omega⟩
        rw [hk, ofm1']
        rfl
      obtain ⟨M', k1, k2, k3, k4⟩ := key2 (g_X14_determinant__260_12 w f) mu m0 (by omega) n FU 0 (stc M 256 F) 0 (by omega) (by omega) ⟨fun z h1 h2 h3 => by rw [stc_ne h1]; exact fM.1 z h1 h2 h3, fM.2⟩ (by rw [stc_ne (by decide)]; exact eC) (fun k h => by rw [stc_at]; exact fst_256 s2 (by omega) (hk k h)) (by rw [stc_at]; exact s3) (by
        rw [Int.zero_add, Nat.sub_zero, ← ixs_f]
        unfold dP cls
        obtain ⟨k, hk⟩ : ∃ k, (ixs mu n 0).length = k + 1 := ⟨(ixs mu n 0).length - 1, by omega⟩
        rw [hk]
        rfl)
      obtain ⟨m', j1, j2⟩ := ih f (mu + 1) M' (by omega) (by omega) (by omega) k2 k3 k4
      refine ⟨m', ?_, j2⟩
      show g_X14_determinant__260_12_b w (g_X14_determinant__260_12 w f) _ _ _ _ M = _
      unfold g_X14_determinant__260_12_b
      rw [zo] at k1
      rw [pw, if_neg g1, six _ (by omega), s1, bv_sm, bits_r, b_sm, bl, r1, hF, k1, j1]
  obtain ⟨F, s1, s2, s3⟩ := st_256 (w := w) (m := m) (p := 0) (v := 1) (by decide)
  have z1 : (1 : Int64).toInt = 1 := rfl
  rw [z1] at s3
  have p1 := Nat.pow_pos (n := n) (show 0 < 2 by decide)
  obtain ⟨m', k1, k2⟩ := key1 (2 ^ n - 1) FU 1 (stc m 256 F) (by omega) (by omega) (by omega) ⟨fun z h1 h2 h3 => by rw [stc_ne h1], rfl⟩ (by rw [stc_ne (by decide)]) (fun k hk => by
    have : k = 0 := by omega
    subst this
    rw [stc_at]
    have e : dP (clM m col) n 0 = 1 := by
      have : ixs 0 n 0 = [] := by
        rw [ixs_f]
        refine List.eq_nil_iff_forall_not_mem.mpr (fun x hx => ?_)
        have := ((ixf_ge _ _ x).mp hx).2.2
        rw [Nat.zero_testBit] at this
        cases this
      unfold dP
      rw [this]
      rfl
    rw [e]
    exact s3)
  refine ⟨m', ?_, k2⟩
  unfold g_X14_determinant__260
  rw [zo] at s1
  rw [s1, bv_sm, hF]
  exact k1
end PBRDet
