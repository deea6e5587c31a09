/-! rules: the reference's readers, their smallest steps -/
section PBRdr
theorem o_t {β : Type} {x : Nat} {k : Nat → Option β} : rf_o (some x) k = k x := rfl
theorem bx_l {β : Type} {m : rf_m} {k : rf_m → Option (β ⊕ rf_m)} : rf_bx (some (.inl m)) k = k m := rfl
theorem bx_r {β : Type} {m : rf_m} {k : rf_m → Option (β ⊕ rf_m)} : rf_bx (some (.inr m)) k = some (.inr m) := rfl
def dRp (x : Int32 × Int32) : Nat × Int := dR x.1 x.2
def RK (f : Nat → Int32) (n p : Nat) (M : rf_m) : Prop := M.1 206 48 = Int32.ofNat (tS f n p) ∧ (tkC f n p ≠ 1 → M.1 206 46 = Int32.ofNat (tkE f n p)) ∧ M.1 206 47 = srO (tkC f n p) ∧ (sgn (tkC f n p) → M.1 206 49 = Int32.ofNat (tkC f n p)) ∧ (tkC f n p = 3 → M.1 206 50 = tkV f n p) ∧ (99 ≤ tkC f n p → M.2 206 53 = pkW (lts f (tE f n (tS f n p) - tS f n p) (tS f n p)) 0)
def RI (c : Nat) (M : rf_m) (I : List (Int32 × Int32)) : Prop := M.1 c 3 = Int32.ofNat I.length ∧ ∀ i x, I[i]? = some x → M.1 (c + 1) i = x.1 ∧ M.1 (c + 2) i = x.2
/-- the reference has the token behind p before it -/
def RM (n : Nat) (f : Nat → Int32) (c : Nat) (M : rf_m) (p : Nat) (I : List (Int32 × Int32)) (o b : Nat) : Prop := M.1 206 45 = Int32.ofNat n ∧ (∀ k, M.1 234 k &&& 255 = f k) ∧ RK f n p M ∧ M.1 206 52 = Int32.ofNat o ∧ M.1 206 51 = Int32.ofNat b ∧ RI c M I
/-- what reading leaves as it was -/
def frK (c : Nat) (A M : rf_m) : Prop := (∀ z, z ≠ 206 → z ≠ 233 → z ≠ c → z ≠ c + 1 → z ≠ c + 2 → M.1 z = A.1 z) ∧ (∀ k, k < 46 ∨ 52 < k → M.1 206 k = A.1 206 k) ∧ (∀ k, k ≠ 3 → M.1 c k = A.1 c k) ∧ (∀ z k, ¬ (z = 206 ∧ k = 53) → M.2 z k = A.2 z k)
theorem frK_r {c : Nat} {A : rf_m} : frK c A A := ⟨fun _ _ _ _ _ _ => rfl, fun _ _ => rfl, fun _ _ => rfl, fun _ _ _ => rfl⟩
theorem frK_t {c : Nat} {A B M : rf_m} (h : frK c A B) (h' : frK c B M) : frK c A M := ⟨fun z a1 a2 a3 a4 a5 => (h'.1 z a1 a2 a3 a4 a5).trans (h.1 z a1 a2 a3 a4 a5), fun k a => (h'.2.1 k a).trans (h.2.1 k a), fun k a => (h'.2.2.1 k a).trans (h.2.2.1 k a), fun z k a => (h'.2.2.2 z k a).trans (h.2.2.2 z k a)⟩
def stopped (c : Nat) (A M : rf_m) (r : Option (Int32 × rf_m)) : Prop := ∃ kd pl, M.1 233 6 = Int32.ofNat kd ∧ M.1 233 7 = Int32.ofNat pl ∧ cfin r kd pl ∧ frK c A M
theorem rob_ne {w : rf_w} {c : Nat} (h : rob w c) : c ≠ 206 ∧ c ≠ 233 ∧ c ≠ 234 ∧ c + 1 ≠ 206 ∧ c + 1 ≠ 233 ∧ c + 1 ≠ 234 ∧ c + 2 ≠ 206 ∧ c + 2 ≠ 233 ∧ c + 2 ≠ 234 := by
  have := h.2.2.2.2.2
  omega
/-- only the object's count and rows have changed -/
def frP (c : Nat) (A M : rf_m) : Prop := (∀ z, z ≠ c → z ≠ c + 1 → z ≠ c + 2 → M.1 z = A.1 z) ∧ (∀ k, k ≠ 3 → M.1 c k = A.1 c k) ∧ M.2 = A.2
theorem frP_R {w : rf_w} {c : Nat} {A M : rf_m} (hr : rob w c) (h : frP c A M) : frK c A M := by
  obtain ⟨n1, n2, n3, n4, n5, n6, n7, n8, n9⟩ := rob_ne hr
  exact ⟨fun z _ _ a3 a4 a5 => h.1 z a3 a4 a5, fun k _ => by rw [h.1 206 (Ne.symm n1) (Ne.symm n4) (Ne.symm n7)], h.2.1, fun z k _ => by rw [h.2.2]⟩
theorem RK_P {w : rf_w} {f : Nat → Int32} {n p c : Nat} {A M : rf_m} (hr : rob w c) (h : frP c A M) (j : RK f n p A) : RK f n p M := by
  obtain ⟨n1, n2, n3, n4, n5, n6, n7, n8, n9⟩ := rob_ne hr
  unfold RK at *
  rw [h.1 206 (Ne.symm n1) (Ne.symm n4) (Ne.symm n7), h.2.2]
  exact j
theorem put_K {w : rf_w} {c : Nat} {M : rf_m} {I : List (Int32 × Int32)} {a v : Int32} (hr : rob w c) (h : RI c M I) (hl : I.length < 300) : ∃ M', g_X12_put w M c a v = some M' ∧ RI c M' (I ++ [(a, v)]) ∧ frP c M M' := by
  obtain ⟨r1, r2, r3, r4, r5, r6⟩ := hr
  obtain ⟨h1, h2⟩ := h
  unfold g_X12_put
  have n1 : c ≠ c + 1 := by omega
  have n2 : c ≠ c + 2 := by omega
  have e1 : (rf_i M (c + 1) I.length a).1 c 3 = Int32.ofNat I.length := by rw [rf_i_c, if_neg n1]; exact h1
  have e2 : (rf_i (rf_i M (c + 1) I.length a) (c + 2) I.length v).1 c 3 = Int32.ofNat I.length := by rw [rf_i_c, if_neg n2]; exact e1
  rw [r1, r2, r3, r4, r5, g_t, g_t, g_t, g_t, g_t, h1, gof hl (by decide), g_t, tn_of (by omega), e1, gof hl (by decide), g_t, tn_of (by omega), e2, of_succ]
  refine ⟨_, rfl, ⟨?_, fun i x hx => ?_⟩, fun z a1 a2 a3 => ?_, fun k hk => ?_, rfl⟩
  · rw [rf_i_c, if_pos rfl, pu_at, List.length_append]; rfl
  · rw [rf_i_c, if_neg (show c + 1 ≠ c by omega), rf_i_c, if_neg (show c + 1 ≠ c + 2 by omega), rf_i_c, if_pos rfl]
    rw [rf_i_c, if_neg (show c + 2 ≠ c by omega), rf_i_c, if_pos rfl, rf_i_c, if_neg (show c + 2 ≠ c + 1 by omega)]
    rw [List.getElem?_append] at hx
    by_cases q : i < I.length
    · rw [if_pos q] at hx
      rw [pu_ne (by omega), pu_ne (by omega)]
      exact h2 i x hx
    · rw [if_neg q] at hx
      have hz : i - I.length = 0 := by
        by_cases z : i - I.length = 0
        · exact z
        · obtain ⟨j, hj⟩ : ∃ j, i - I.length = j + 1 := ⟨i - I.length - 1, by omega⟩
          rw [hj] at hx
          cases hx
      rw [hz] at hx
      have ex : (a, v) = x := Option.some.inj hx
      rw [show i = I.length by omega, pu_at, pu_at, ← ex]
      exact ⟨rfl, rfl⟩
  · rw [rf_i_c, if_neg a1, rf_i_c, if_neg a3, rf_i_c, if_neg a2]
  · rw [rf_i_c, if_pos rfl, pu_ne hk, rf_i_c, if_neg n2, rf_i_c, if_neg n1]
theorem stop_r {w : rf_w} {f : Nat → Int32} {n p c kd : Nat} {M : rf_m} {x : Int32} {r : Option (Int32 × rf_m)} (hr : rob w c) (hx : x = Int32.ofNat kd) (h : RK f n p M) (hc : cfin r kd (tS f n p)) : ∃ M', g_X14_stop w M x = some M' ∧ stopped c M M' r := by
  obtain ⟨n1, n2, n3, n4, n5, n6, n7, n8, n9⟩ := rob_ne hr
  refine ⟨_, rfl, kd, tS f n p, ?_, ?_, hc, fun z a1 a2 a3 a4 a5 => ?_, fun k _ => ?_, fun k hk => ?_, fun z k _ => rfl⟩
  · rw [rf_i_c, if_pos rfl, pu_ne (by decide), rf_i_c, if_pos rfl, pu_at]; exact hx
  · rw [rf_i_c, if_pos rfl, pu_at, rf_i_c, if_neg (by decide)]; exact h.1
  · rw [rf_i_c, if_neg a2, rf_i_c, if_neg a2]
  · rw [rf_i_c, if_neg (by decide), rf_i_c, if_neg (by decide)]
  · rw [rf_i_c, if_neg n2, rf_i_c, if_neg n2]
theorem next_R {w : rf_w} {f : Nat → Int32} {n p c o b : Nat} {M : rf_m} {I : List (Int32 × Int32)} (hn : n ≤ 300) (hb : ∀ k, 0 ≤ (f k).toInt ∧ (f k).toInt ≤ 255) (hr : rob w c) (hp : p ≤ n) (h : RM n f c M p I o b) (h1 : tkC f n p ≠ 1) : ∃ M', g_X14_next w M = some M' ∧ RM n f c M' (tkE f n p) I o b ∧ frK c M M' ∧ (∀ z, z ≠ 206 → M'.1 z = M.1 z) := by
  obtain ⟨n1, n2, n3, n4, n5, n6, n7, n8, n9⟩ := rob_ne hr
  obtain ⟨a1, a2, a3, a4, a5, a6⟩ := h
  have e := tk_e (f := f) hp
  obtain ⟨M', k1, k2, k3, k4, k5, k6, k7, k8, k9, k10⟩ := next_r (w := w) hn e.2.2.2.1 a2 hb a1 (a3.2.1 h1)
  refine ⟨M', k1, ⟨(k3 45 (by omega)).trans a1, fun k => by rw [k2 234 (by decide)]; exact a2 k, ⟨k5, k6, k7, k8, k9, k10⟩, (k3 52 (by omega)).trans a4, (k3 51 (by omega)).trans a5, ?_⟩, ⟨fun z b1 _ _ _ _ => k2 z b1, fun k hk => k3 k (by omega), fun k _ => by rw [k2 c n1], k4⟩, k2⟩
  unfold RI at *
  rw [k2 c n1, k2 (c + 1) n4, k2 (c + 2) n7]
  exact a6
theorem RM_P {w : rf_w} {f : Nat → Int32} {n p c o b : Nat} {M M' : rf_m} {I I' : List (Int32 × Int32)} (hr : rob w c) (h : RM n f c M p I o b) (hp : frP c M M') (hi : RI c M' I') : RM n f c M' p I' o b := by
  obtain ⟨n1, n2, n3, n4, n5, n6, n7, n8, n9⟩ := rob_ne hr
  obtain ⟨a1, a2, a3, a4, a5, a6⟩ := h
  have e := hp.1 206 (Ne.symm n1) (Ne.symm n4) (Ne.symm n7)
  have e' := hp.1 234 (Ne.symm n3) (Ne.symm n6) (Ne.symm n9)
  refine ⟨by rw [e]; exact a1, fun k => by rw [e']; exact a2 k, RK_P hr hp a3, by rw [e]; exact a4, by rw [e]; exact a5, hi⟩
theorem rw_r {w : rf_w} {M : rf_m} {f : Nat → Int32} {n p i a : Nat} (hi : i < 16) (ha : sw a = true) (hB : rf_sB a = rf_sB (1000001 + i)) (h : RK f n p M) : g_X14_isWord w M a = some (bi (tkC f n p = 101 + i), M) := isW_r hi ha hB h.2.2.1 h.2.2.2.2.2
theorem rs_r {w : rf_w} {M : rf_m} {f : Nat → Int32} {n p c : Nat} (hc : sgn c) (h : RK f n p M) : g_X14_is w M (Int32.ofNat c) = some (bi (tkC f n p = c), M) := is_r hc h.2.2.1 h.2.2.2.1
theorem kept_r {w : rf_w} {M : rf_m} {f : Nat → Int32} {n p : Nat} (h : RK f n p M) : g_X14_isKept w M = some (bi (106 ≤ tkC f n p ∧ tkC f n p ≤ 109), M) := by
  have w6 : g_X14_isWord w M 1000017 = some (bi (tkC f n p = 106), M) := rw_r (i := 5) (by decide) (by decide) (by decide +kernel) h
  have w7 : g_X14_isWord w M 1000018 = some (bi (tkC f n p = 107), M) := rw_r (i := 6) (by decide) (by decide) (by decide +kernel) h
  have w8 : g_X14_isWord w M 1000019 = some (bi (tkC f n p = 108), M) := rw_r (i := 7) (by decide) (by decide) (by decide +kernel) h
  have w9 : g_X14_isWord w M 1000020 = some (bi (tkC f n p = 109), M) := rw_r (i := 8) (by decide) (by decide) (by decide +kernel) h
  unfold g_X14_isKept
  simp only [w6, w7, w8, w9, b_sm, bi_ite]
  generalize tkC f n p = t at *
  by_cases e : 106 ≤ t ∧ t ≤ 109
  · rw [bi_t e]
    rcases (show t = 106 ∨ t = 107 ∨ t = 108 ∨ t = 109 by omega) with rfl | rfl | rfl | rfl <;> rfl
  · rw [bi_f e, if_neg (by omega), if_neg (by omega), if_neg (by omega), if_neg (by omega)]
theorem name_r {w : rf_w} {M : rf_m} {f : Nat → Int32} {n p : Nat} (h : RK f n p M) : g_X14_nameHere w M = some (nmO (tkC f n p), M) := by
  have w10 : g_X14_isWord w M 1000026 = some (bi (tkC f n p = 110), M) := rw_r (i := 9) (by decide) (by decide) (by decide +kernel) h
  have w11 : g_X14_isWord w M 1000027 = some (bi (tkC f n p = 111), M) := rw_r (i := 10) (by decide) (by decide) (by decide +kernel) h
  have w12 : g_X14_isWord w M 1000028 = some (bi (tkC f n p = 112), M) := rw_r (i := 11) (by decide) (by decide) (by decide +kernel) h
  have w13 : g_X14_isWord w M 1000029 = some (bi (tkC f n p = 113), M) := rw_r (i := 12) (by decide) (by decide) (by decide +kernel) h
  have w14 : g_X14_isWord w M 1000030 = some (bi (tkC f n p = 114), M) := rw_r (i := 13) (by decide) (by decide) (by decide +kernel) h
  have w15 : g_X14_isWord w M 1000031 = some (bi (tkC f n p = 115), M) := rw_r (i := 14) (by decide) (by decide) (by decide +kernel) h
  have w16 : g_X14_isWord w M 1000032 = some (bi (tkC f n p = 116), M) := rw_r (i := 15) (by decide) (by decide) (by decide +kernel) h
  have r := tk_rng (f := f) (n := n) (p := p)
  unfold sgn at r
  unfold g_X14_nameHere
  simp only [w10, w11, w12, w13, w14, w15, w16, b_sm, bi_ite]
  generalize tkC f n p = t at *
  unfold nmO
  by_cases e : 110 ≤ t
  · rw [if_pos e]
    rcases (show t = 110 ∨ t = 111 ∨ t = 112 ∨ t = 113 ∨ t = 114 ∨ t = 115 ∨ t = 116 by omega) with rfl | rfl | rfl | rfl | rfl | rfl | rfl <;> rfl
  · rw [if_neg e, if_neg (by omega), if_neg (by omega), if_neg (by omega), if_neg (by omega), if_neg (by omega), if_neg (by omega), if_neg (by omega)]
theorem sr_3 {f : Nat → Int32} {n p : Nat} : srO (tkC f n p) = 3 ↔ tkC f n p = 3 := by
  have r := tk_rng (f := f) (n := n) (p := p)
  generalize tkC f n p = t at *
  unfold sgn at r
  unfold srO
  by_cases h0 : t = 0
  · rw [if_pos h0]; exact ⟨fun z => absurd z (by decide), fun z => by omega⟩
  by_cases h1 : t = 1
  · rw [if_neg h0, if_pos h1]; exact ⟨fun z => absurd z (by decide), fun z => by omega⟩
  by_cases h3 : t = 3
  · rw [if_neg h0, if_neg h1, if_pos h3]; exact ⟨fun _ => h3, fun _ => rfl⟩
  by_cases h9 : 99 ≤ t
  · rw [if_neg h0, if_neg h1, if_neg h3, if_pos h9]; exact ⟨fun z => absurd z (by decide), fun z => by omega⟩
  · rw [if_neg h0, if_neg h1, if_neg h3, if_neg h9]; exact ⟨fun z => absurd z (by decide), fun z => by omega⟩
theorem sr_2 {f : Nat → Int32} {n p : Nat} : srO (tkC f n p) = 2 ↔ 99 ≤ tkC f n p := by
  have r := tk_rng (f := f) (n := n) (p := p)
  generalize tkC f n p = t at *
  unfold sgn at r
  unfold srO
  by_cases h0 : t = 0
  · rw [if_pos h0]; exact ⟨fun z => absurd z (by decide), fun z => by omega⟩
  by_cases h1 : t = 1
  · rw [if_neg h0, if_pos h1]; exact ⟨fun z => absurd z (by decide), fun z => by omega⟩
  by_cases h3 : t = 3
  · rw [if_neg h0, if_neg h1, if_pos h3]; exact ⟨fun z => absurd z (by decide), fun z => by omega⟩
  by_cases h9 : 99 ≤ t
  · rw [if_neg h0, if_neg h1, if_neg h3, if_pos h9]; exact ⟨fun _ => h9, fun _ => rfl⟩
  · rw [if_neg h0, if_neg h1, if_neg h3, if_neg h9]; exact ⟨fun z => absurd z (by decide), fun z => absurd z h9⟩
theorem sr_1 {f : Nat → Int32} {n p : Nat} : srO (tkC f n p) = 1 ↔ tkC f n p = 0 := by
  have r := tk_rng (f := f) (n := n) (p := p)
  generalize tkC f n p = t at *
  unfold sgn at r
  unfold srO
  by_cases h0 : t = 0
  · rw [if_pos h0]; exact ⟨fun _ => h0, fun _ => rfl⟩
  by_cases h1 : t = 1
  · rw [if_neg h0, if_pos h1]; exact ⟨fun z => absurd z (by decide), fun z => by omega⟩
  by_cases h3 : t = 3
  · rw [if_neg h0, if_neg h1, if_pos h3]; exact ⟨fun z => absurd z (by decide), fun z => by omega⟩
  by_cases h9 : 99 ≤ t
  · rw [if_neg h0, if_neg h1, if_neg h3, if_pos h9]; exact ⟨fun z => absurd z (by decide), fun z => by omega⟩
  · rw [if_neg h0, if_neg h1, if_neg h3, if_neg h9]; exact ⟨fun z => absurd z (by decide), fun z => by omega⟩
theorem dgt_rng {b : Int32} (h : dgt b = true) : 48 ≤ b.toInt ∧ b.toInt ≤ 57 := by
  unfold dgt at h
  rw [Bool.and_eq_true, Bool.not_eq_true', Bool.not_eq_true', decide_eq_false_iff_not, decide_eq_false_iff_not, i_lt, i_lt] at h
  have e1 : (48 : Int32).toInt = 48 := rfl
  have e2 : (57 : Int32).toInt = 57 := rfl
  omega
theorem nl_rng {f : Nat → Int32} : ∀ k p (v : Int32) (B : Int), (∀ b, b ∈ lts f k p → dgt b = true) → 0 ≤ v.toInt → v.toInt < B → B * 10 ^ k ≤ 100000000 → 0 ≤ (nl f k p v).toInt ∧ (nl f k p v).toInt < 100000000 := by
  intro k
  induction k with
  | zero => intro p v B _ h0 h1 h2; rw [Int.pow_zero, Int.mul_one] at h2; exact ⟨h0, Int.lt_of_lt_of_le h1 h2⟩
  | succ k ih =>
    intro p v B hd h0 h1 h2
    have r0 := dgt_rng (hd (f p) (List.mem_cons_self ..))
    have p1 : (1 : Int) ≤ 10 ^ k := Int.pow_pos (by decide)
    have hB' : (B * 10) * 10 ^ k ≤ 100000000 := by
      have : B * 10 ^ (k + 1) = (B * 10) * 10 ^ k := by rw [Int.pow_succ, Int.mul_assoc, Int.mul_comm 10]
      rw [← this]; exact h2
    have hBs : B * 10 ≤ 100000000 := by
      have h : (B * 10) * 1 ≤ (B * 10) * 10 ^ k := Int.mul_le_mul_of_nonneg_left p1 (by omega)
      omega
    have e10 : (10 : Int32).toInt = 10 := rfl
    have e48 : (48 : Int32).toInt = 48 := rfl
    have m1 : (v * 10).toInt = v.toInt * 10 := by rw [mulI (by rw [e10]; omega) (by rw [e10]; omega), e10]
    have m2 : (v * 10 + f p).toInt = v.toInt * 10 + (f p).toInt := by rw [addI (by omega) (by omega), m1]
    have m3 : (v * 10 + f p - 48).toInt = v.toInt * 10 + (f p).toInt - 48 := by rw [subI (by omega) (by omega), m2, e48]
    exact ih (p + 1) _ (B * 10) (fun b hb => hd b (List.mem_cons_of_mem _ hb)) (by omega) (by omega) hB'
theorem tkV_rng {f : Nat → Int32} {n p : Nat} (h : tkC f n p = 3) : 0 ≤ (tkV f n p).toInt ∧ (tkV f n p).toInt < 100000000 := by
  have pw : ∀ k : Nat, k ≤ 7 → (1 : Int) * 10 ^ k ≤ 100000000 := by decide
  unfold tkC tC at h
  unfold tkV
  generalize tS f n p = s at *
  by_cases c : n ≤ s
  · rw [if_pos c] at h; cases h
  · rw [if_neg c] at h
    by_cases l : ltr (f s) = true
    · rw [if_pos l] at h
      split at h
      · have := wc_lo (L := lts f (tE f n s - s) s); omega
      · cases h
    · rw [if_neg l] at h
      by_cases d : dgt (f s) = true
      · rw [if_pos d] at h
        by_cases q : tE f n s - s ≤ 7
        · refine nl_rng _ _ 0 1 ?_ (by decide) (by decide) (pw _ q)
          have eE : tE f n s = rn (fun k => dgt (f k)) (n - s) s := by unfold tE; rw [if_neg c, if_neg l, if_pos d]
          rw [eE]
          exact rn_all (n - s) s
        · rw [if_neg q] at h; cases h
      · rw [if_neg d] at h
        split at h
        · rename_i g
          have := (isSg_n g).1
          unfold sgn at this
          omega
        · cases h
theorem cgo_b {w : rf_w} {n p : Nat} {f : Nat → Int32} {r : Option (Int32 × rf_m)} {st wt : List Int32} {s h o k b ac sp : Nat} (hg : cgo w n f r p st wt s h o k b ac sp) : o ≤ 30 ∧ k ≤ 8 ∧ b ≤ 8 ∧ p ≤ n := by
  obtain ⟨F, a, m, ca, ls, cn, cb, h9, hp, hF, ha, hr⟩ := hg
  exact ⟨cb.1, cb.2.1, cb.2.2.1, hp⟩
theorem whole_e {v : Int32} (h0 : 0 ≤ v.toInt) (h1 : v.toInt < 100000000) : eqv 1 [dC v] [dRp (0, v)] False := by
  have hD : dRp (0, v) = (0, v.toInt) := by
    show dR 0 v = _
    unfold dR
    rw [if_pos rfl]
  have hC : dC v = (0, v.toInt) := by
    unfold dC
    rw [if_pos (show 0 ≤ v by rw [i_le, i_0]; exact h0)]
  rw [hD, hC]
  exact eqv_whole h0 (by omega)
theorem name_e {t : Nat} (h1 : 110 ≤ t) (h2 : t ≤ 116) : eqv 1 [dC (-1 - nmO t)] [dRp (1, nmO t)] False := by
  have all : ∀ i : Nat, i < 7 → dC (-1 - Int32.ofNat i) = (1, (i : Int)) ∧ dR 1 (Int32.ofNat i) = (1, (i : Int)) := by decide
  obtain ⟨i, hi, rfl⟩ : ∃ i, i < 7 ∧ t = i + 110 := ⟨t - 110, by omega, by omega⟩
  have en : nmO (i + 110) = Int32.ofNat i := by unfold nmO; rw [if_pos (by omega), Nat.add_sub_cancel]
  obtain ⟨a1, a2⟩ := all i hi
  have hD : dRp (1, nmO (i + 110)) = (1, (i : Int)) := by rw [en]; exact a2
  rw [hD, en, a1]
  exact eqv_name (by omega) (by omega)
/-- an operand, both sides -/
theorem part_K {w : rf_w} {f : Nat → Int32} {n p c s h o k b ac sp : Nat} {M : rf_m} {I : List (Int32 × Int32)} {st wt : List Int32} {r : Option (Int32 × rf_m)} (hn : n ≤ 300) (hb : ∀ k, 0 ≤ (f k).toInt ∧ (f k).toInt ≤ 255) (hc : w.2.2 0 = some c) (hr : rob w c) (hM : RM n f c M p I o b) (hI : I.length ≤ p) (hg : cgo w n f r p st wt s h o k b ac sp) (hs : s = 3 ∨ (s = 2 ∧ tkC f n p ≠ 109 ∧ tkC f n p ≠ 40)) : (∃ M', g_X14_readPart w M = some (.inr M') ∧ stopped c M M' r) ∨ (∃ M' x y, g_X14_readPart w M = some (.inl M') ∧ RM n f c M' (tkE f n p) (I ++ [x]) (o + 1) b ∧ frK c M M' ∧ p + 1 ≤ tkE f n p ∧ cgo w n f r (tkE f n p) (st ++ [y]) wt 4 (if s = 2 then 1 else h) (o + 1) (if s = 2 then 0 else k) b ac sp ∧ eqv 1 [dC y] [dRp x] False) := by
  obtain ⟨b1, b2, b3, hp⟩ := cgo_b hg
  obtain ⟨g1, g2⟩ := go_op hn hb hg hs
  have hr' := hr
  obtain ⟨r1, r2, r3, r4, r5, r6⟩ := hr
  have rk := hM.2.2.1
  have e47 := rk.2.2.1
  have k3 : M.1 206 47 = 3 ↔ tkC f n p = 3 := by rw [e47]; exact sr_3
  have k2 : M.1 206 47 = 2 ↔ 99 ≤ tkC f n p := by rw [e47]; exact sr_2
  have rg := tk_rng (f := f) (n := n) (p := p)
  unfold sgn at rg
  have st1 : ∀ (x : Int32) (kd : Nat), x = Int32.ofNat kd → ¬ (opT (tkC f n p) ∧ o < 30) → kd = opF (tkC f n p) → ∃ M', rf_bv (g_X14_stop w M x) (fun m6 => some (Sum.inr m6)) = some (Sum.inr (α := rf_m) M') ∧ stopped c M M' r := by
    intro x kd hx hq hk
    obtain ⟨M', s1, s2⟩ := stop_r (r := r) hr' hx rk (by rw [hk]; exact g2 hq)
    rw [s1, bv_sm]
    exact ⟨M', rfl, s2⟩
  have e52 := hM.2.2.2.1
  -- behind the tests of form and name
  have f51 : opT (tkC f n p) → (∃ M', g_X14_readPart_51 w M = some (.inr M') ∧ stopped c M M' r) ∨ (∃ M' x y, g_X14_readPart_51 w M = some (.inl M') ∧ RM n f c M' (tkE f n p) (I ++ [x]) (o + 1) b ∧ frK c M M' ∧ p + 1 ≤ tkE f n p ∧ cgo w n f r (tkE f n p) (st ++ [y]) wt 4 (if s = 2 then 1 else h) (o + 1) (if s = 2 then 0 else k) b ac sp ∧ eqv 1 [dC y] [dRp x] False) := by
    intro ht
    have t0 : tkC f n p ≠ 0 ∧ tkC f n p ≠ 1 := by unfold opT at ht; omega
    have e1 := (tk_e (f := f) hp).2.2.2.2 t0.1
    have e1' := (tk_e (f := f) hp).2.2.2.1
    unfold g_X14_readPart_51
    by_cases o30 : o = 30
    · left
      rw [e52, if_pos (show Int32.ofNat o = 30 by rw [o30]; rfl)]
      exact st1 3 3 rfl (by omega) (by unfold opF; rw [if_pos (show tkC f n p = 3 ∨ 110 ≤ tkC f n p from ht)])
    · right
      have o29 : o < 30 := by omega
      rw [e52, if_neg (show ¬ Int32.ofNat o = 30 from fun z => o30 ((of_inj (b := 30) (by omega) (by decide)).mp z)), hc, o_t, r1, r2, r3, r4, r5, g_t, g_t, g_t, g_t, g_t, of_succ]
      -- the count of operands
      obtain ⟨n1, n2, n3, n4, n5, n6, n7, n8, n9⟩ := rob_ne hr'
      have hA : RM n f c (rf_i M 206 52 (Int32.ofNat (o + 1))) p I (o + 1) b := by
        obtain ⟨a1, a2, a3, a4, a5, a6⟩ := hM
        refine ⟨?_, fun k => ?_, ?_, ?_, ?_, ?_⟩
        · rw [rf_i_c, if_pos rfl, pu_ne (by decide)]; exact a1
        · rw [rf_i_c, if_neg (by decide)]; exact a2 k
        · unfold RK at *
          rw [rf_i_c, if_pos rfl, pu_ne (by decide), pu_ne (by decide), pu_ne (by decide), pu_ne (by decide), pu_ne (by decide)]
          exact a3
        · rw [rf_i_c, if_pos rfl, pu_at]
        · rw [rf_i_c, if_pos rfl, pu_ne (by decide)]; exact a5
        · unfold RI at *
          rw [rf_i_c, if_neg n1, rf_i_c, if_neg n4, rf_i_c, if_neg n7]
          exact a6
      have fA : frK c M (rf_i M 206 52 (Int32.ofNat (o + 1))) := ⟨fun z a1 _ _ _ _ => by rw [rf_i_c, if_neg a1], fun k hk => by rw [rf_i_c, if_pos rfl, pu_ne (by omega)], fun k _ => by rw [rf_i_c, if_neg n1], fun z k _ => rfl⟩
      generalize rf_i M 206 52 (Int32.ofNat (o + 1)) = A at *
      have a47 : A.1 206 47 = 3 ↔ tkC f n p = 3 := by rw [hA.2.2.1.2.2.1]; exact sr_3
      have fin : ∀ x1 x2 : Int32, eqv 1 [dC (opV f n p)] [dRp (x1, x2)] False → ∃ M' x y, (rf_bv (g_X12_put w A c x1 x2) fun m8 => rf_bv (g_X14_next w m8) fun m9 => some (Sum.inl (β := rf_m) m9)) = some (.inl M') ∧ RM n f c M' (tkE f n p) (I ++ [x]) (o + 1) b ∧ frK c M M' ∧ p + 1 ≤ tkE f n p ∧ cgo w n f r (tkE f n p) (st ++ [y]) wt 4 (if s = 2 then 1 else h) (o + 1) (if s = 2 then 0 else k) b ac sp ∧ eqv 1 [dC y] [dRp x] False := by
        intro x1 x2 hx
        obtain ⟨B, p1, p2, p3⟩ := put_K (a := x1) (v := x2) hr' hA.2.2.2.2.2 (by omega)
        have hB := RM_P hr' hA p3 p2
        obtain ⟨M', q1, q2, q3, q4⟩ := next_R hn hb hr' hp hB t0.2
        refine ⟨M', (x1, x2), opV f n p, ?_, q2, frK_t fA (frK_t (frP_R hr' p3) q3), e1, g1 ht o29, hx⟩
        rw [p1, bv_sm, q1, bv_sm]
      by_cases t3 : tkC f n p = 3
      · rw [if_pos (a47.mpr t3)]
        unfold g_X14_readPart_93
        rw [r1, r2, r3, r4, r5, g_t, g_t, g_t, g_t, g_t, if_pos (a47.mpr t3), hA.2.2.1.2.2.2.2.1 t3]
        have vr := tkV_rng t3
        refine fin 0 (tkV f n p) ?_
        have ev : opV f n p = tkV f n p := by unfold opV; rw [if_pos t3]
        rw [ev]
        exact whole_e vr.1 vr.2
      · have t9 : 110 ≤ tkC f n p := by unfold opT at ht; omega
        rw [if_neg (fun z => t3 (a47.mp z))]
        unfold g_X14_readPart_93
        rw [r1, r2, r3, r4, r5, g_t, g_t, g_t, g_t, g_t, if_neg (fun z => t3 (a47.mp z)), name_r hA.2.2.1, b_sm]
        refine fin 1 (nmO (tkC f n p)) ?_
        have ev : opV f n p = -1 - nmO (tkC f n p) := by unfold opV; rw [if_neg t3]
        rw [ev]
        exact name_e t9 (by omega)
  unfold g_X14_readPart g_X14_readPart_16
  by_cases t3 : tkC f n p = 3
  · rw [if_pos (k3.mpr t3), kept_r rk, b_sm, bi_f (by omega), if_pos rfl, if_neg (fun z => by have := k2.mp z; omega)]
    exact f51 (Or.inl t3)
  · rw [if_neg (fun z => t3 (k3.mp z))]
    by_cases t9 : 99 ≤ tkC f n p
    · rw [if_pos (k2.mpr t9), kept_r rk, b_sm]
      by_cases tj : 106 ≤ tkC f n p ∧ tkC f n p ≤ 109
      · rw [bi_t tj, if_neg (by decide)]
        exact Or.inl (st1 1 1 rfl (by unfold opT; omega) (by unfold opF; rw [if_neg (by omega), if_neg (by omega)]))
      · rw [bi_f tj, if_pos rfl, if_pos (k2.mpr t9), name_r rk, b_sm]
        by_cases tn : 110 ≤ tkC f n p
        · rw [if_neg]
          · exact f51 (Or.inr tn)
          · unfold nmO
            rw [if_pos tn]
            intro z
            have := congrArg Int32.toInt z
            rw [ofI (by omega)] at this
            have e : (-1 : Int32).toInt = -1 := rfl
            omega
        · rw [if_pos (show nmO (tkC f n p) = -1 by unfold nmO; rw [if_neg tn])]
          exact Or.inl (st1 2 2 rfl (by unfold opT; omega) (by unfold opF; rw [if_neg (by omega), if_pos (by omega)]))
    · rw [if_neg (fun z => t9 (k2.mp z))]
      exact Or.inl (st1 1 1 rfl (by unfold opT; omega) (by unfold opF; rw [if_neg (by omega), if_neg (by omega)]))
end PBRdr
