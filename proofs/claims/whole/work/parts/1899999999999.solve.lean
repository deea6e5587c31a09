/-! the class solves -/
section PBSolve
def colv (a : Nat → Nat → Int) (b : Nat → Int) (j : Nat) : Nat → Int := if j = 6 then b else a j
def Ent (a : Nat → Nat → Int) (b : Nat → Int) (k i j : Nat) : Int := if i < k then Xk a k i (colv a b j) else Yk a k i (colv a b j)
def mcl (i j : Nat) : Nat := 79 + 2 * (7 * i + j)
theorem mcl_ne {i j i' j' : Nat} (hj : j < 7) (hj' : j' < 7) (h : ¬ (i = i' ∧ j = j')) : mcl i j ≠ mcl i' j' := by unfold mcl; omega
theorem bC_mc {w : rf_w} {i j : Nat} (hi : i < 6) (hj : j < 7) : bC w (mcl i j) := bC_m (7 * i + j) (by omega)
theorem idx7 {i j : Nat} (hi : i < 6) (hj : j < 7) : Int32.ofNat i * 7 + Int32.ofNat j = Int32.ofNat (7 * i + j) := by
  have z7 : (7 : Int32).toInt = 7 := rfl
  have m1 := mulI (a := Int32.ofNat i) (b := 7) (by rw [ofI (by omega), z7]; omega) (by rw [ofI (by omega), z7]; omega)
  rw [ofI (by omega), z7] at m1
  rw [i_eq, addI (by rw [m1, ofI (by omega)]; omega) (by rw [m1, ofI (by omega)]; omega), m1, ofI (by omega), ofI (by omega)]
  omega
def inN (n j : Nat) : Prop := j < n ∨ j = 6
/-- the matrix stands there -/
def matS (m : rf_m) (n : Nat) (E : Nat → Nat → Int) : Prop := ∀ i j, i < n → inN n j → bg m (mcl i j) (E i j)
def slF (m m' : rf_m) : Prop := (∀ z, (z < 65 ∨ 162 < z) → m'.1 z = m.1 z) ∧ ∀ z, (z < 65 ∨ 162 < z) → m'.2 z = m.2 z
theorem slF_refl {m : rf_m} : slF m m := ⟨fun _ _ => rfl, fun _ _ => rfl⟩
theorem slF_trans {a b c : rf_m} (h : slF a b) (k : slF b c) : slF a c := ⟨fun z hz => (k.1 z hz).trans (h.1 z hz), fun z hz => (k.2 z hz).trans (h.2 z hz)⟩
theorem slF_b {a : Nat} {m m' : rf_m} (h : bF a m m') (ha : 65 ≤ a ∧ a ≤ 161) : slF m m' := ⟨fun z hz => h.1 z (by omega), fun z hz => h.2 z (by omega)⟩
theorem slF_q {a r s : Nat} {m m' : rf_m} (h : qF a r s m m') (ha : 65 ≤ a ∧ a ≤ 161) (hr : 65 ≤ r ∧ r ≤ 161) (hs : 65 ≤ s ∧ s ≤ 161) : slF m m' := ⟨fun z hz => h.1 z (by omega) (by omega) (by omega), fun z hz => h.2 z (by omega) (by omega) (by omega)⟩
/-- an entry, new -/
def newE (k i : Nat) (E : Nat → Nat → Int) (D : Int) (j : Nat) (N : Int) : Prop := E k k * E i j - E i k * E k j = N * D
/-- one row is eliminated -/
theorem elim_c {w : rf_w} {m : rf_m} {n k i : Nat} {E : Nat → Nat → Int} {N : Nat → Int} {D : Int} (hn : n ≤ 6) (hk : k < n) (hi : i < n) (ik : i ≠ k) (h55 : m.1 55 8 = Int32.ofNat n) (hE : matS m n E) (hD : bg m 65 D) (D0 : D ≠ 0) (bE : ∀ i j, i < n → inN n j → mg (E i j) < 42535295865117307932921825928971026432) (hN : ∀ j, inN n j → newE k i E D j (N j)) : ∃ m', g_X0_eliminate w m (Int32.ofNat i) (Int32.ofNat k) (mcl k k) = some m' ∧ slF m m' ∧ matS m' n (fun r j => if r = i then N j else E r j) ∧ bg m' 65 D := by
  obtain ⟨FU, hF, hFb⟩ := fuel_ex
  have o10 : ¬ (1 : Int32) = 0 := by decide
  have p5 := pB5
  have p9 := pB9
  have bck := bC_mc (w := w) (i := k) (j := k) (by omega) (by omega)
  have inA : ∀ q, q < n → inN n q := fun q h => Or.inl h
  have key : ∀ r f j (M : rf_m), j + r = 7 → r < f → slF m M → bg M 65 D → bg M 71 (E i k) → (∀ r' j', r' < n → inN n j' → bg M (mcl r' j') (if r' = i ∧ j' < j then N j' else E r' j')) → ∃ m', g_X0_eliminate_21 w f (Int32.ofNat i) (Int32.ofNat k) (mcl k k) (Int32.ofNat j) M = some m' ∧ slF m m' ∧ matS m' n (fun r j => if r = i then N j else E r j) ∧ bg m' 65 D := by
    intro r
    induction r with
    | zero =>
      intro f j M hj hf fM hD h71 hS
      obtain ⟨f, rfl⟩ : ∃ g, f = g + 1 := ⟨f - 1, by omega⟩
      have e : j = 7 := by omega
      subst e
      refine ⟨M, ?_, fM, fun r' j' hr hj' => ?_, hD⟩
      · show g_X0_eliminate_21_b w _ _ _ _ _ M = _
        unfold g_X0_eliminate_21_b
        have z : (7 : Int32) ≤ Int32.ofNat 7 := by decide
        rw [bC_g bck, if_pos z]
      · have h := hS r' j' hr hj'
        have : (r' = i ∧ j' < 7) ↔ r' = i := ⟨fun q => q.1, fun q => ⟨q, by rcases hj' with h | h <;> omega⟩⟩
        show bg M (mcl r' j') (if r' = i then N j' else E r' j')
        by_cases q : r' = i
        · rw [if_pos q]; rw [if_pos (this.mpr q)] at h; exact h
        · rw [if_neg q]; rw [if_neg (fun z => q (this.mp z))] at h; exact h
    | succ r ih =>
      intro f j M hj hf fM hD h71 hS
      obtain ⟨f, rfl⟩ : ∃ g, f = g + 1 := ⟨f - 1, by omega⟩
      have z7 : ¬ (7 : Int32) ≤ Int32.ofNat j := nle (R := 7) (by omega) (by decide)
      have e55 : M.1 55 8 = Int32.ofNat n := by rw [fM.1 55 (by decide)]; exact h55
      have st : g_X0_eliminate_21 w (f + 1) (Int32.ofNat i) (Int32.ofNat k) (mcl k k) (Int32.ofNat j) M = g_X0_eliminate_21_b w (g_X0_eliminate_21 w f) (Int32.ofNat i) (Int32.ofNat k) (mcl k k) (Int32.ofNat j) M := rfl
      by_cases hin : inN n j
      · have j7 : j < 7 := by omega
        have bij := bC_mc (w := w) (i := i) (j := j) (by omega) j7
        have bkj := bC_mc (w := w) (i := k) (j := j) (by omega) j7
        have h1 := hS i j hi hin
        rw [if_neg (by omega)] at h1
        have h2 := hS k j hk hin
        rw [if_neg (fun z => ik z.1.symm)] at h2
        have h3 := hS k k hk (inA k hk)
        rw [if_neg (fun z => ik z.1.symm)] at h3
        have b1 := bE i j hi hin
        have b2 := bE k j hk hin
        have b3 := bE k k hk (inA k hk)
        have b4 := bE i k hi (inA k hk)
        have m0 := fun x => mg_nn x
        obtain ⟨M1, s1, s2, s3⟩ := setProduct_c (w := w) (m := M) (a := 67) (b := mcl k k) (c := mcl i j) (p := 5) (q := 5) bC_67 bck bij (by unfold mcl; omega) (by unfold mcl; omega) h3 h1 (by omega) (by omega) (by decide)
        obtain ⟨M2, t1, t2, t3⟩ := setProduct_c (w := w) (m := M1) (a := 69) (b := 71) (c := mcl k j) (p := 5) (q := 5) bC_69 bC_71 bkj (by decide) (by unfold mcl; omega) (bg_F h71 s2 (by decide)) (bg_F h2 s2 (by unfold mcl; omega)) (by omega) (by omega) (by decide)
        have q1 : mg (E k k * E i j) ≤ 42535295865117307932921825928971026432 * 42535295865117307932921825928971026432 := by rw [mgm]; exact Int.mul_le_mul (by omega) (by omega) (m0 _) (by omega)
        have q2 : mg (E i k * E k j) ≤ 42535295865117307932921825928971026432 * 42535295865117307932921825928971026432 := by rw [mgm]; exact Int.mul_le_mul (by omega) (by omega) (m0 _) (by omega)
        obtain ⟨M3, u1, u2, u3⟩ := addSigned_c (w := w) (m := M2) (a := 67) (b := 69) (less := 1) bC_67 bC_69 (by decide) (Or.inr rfl) (bg_F s3 t2 (by decide)) t3 (by omega) (by omega)
        rw [if_neg o10, hN j hin] at u3
        have q3 : mg (N j * D) < pB 9 := by
          have e := hN j hin
          unfold newE at e
          rw [← e]
          have := mg_add (E k k * E i j) (-(E i k * E k j))
          have mn : mg (-(E i k * E k j)) = mg (E i k * E k j) := by unfold mg; split <;> split <;> omega
          rw [mn] at this
          have ee : E k k * E i j + -(E i k * E k j) = E k k * E i j - E i k * E k j := by omega
          rw [ee] at this
          omega
        have hD3 : bg M3 65 D := bg_F (bg_F (bg_F hD s2 (by decide)) t2 (by decide)) u2 (by decide)
        obtain ⟨M4, v1, v2, v3, v4⟩ := setQuotient_c (w := w) (m := M3) (a := mcl i j) (b := 67) (c := 65) (r := 75) (s := 77) bij bC_67 bC_65 bC_75 bC_77 (by unfold mcl; omega) (by unfold mcl; omega) (by decide) (by unfold mcl; omega) (by unfold mcl; omega) (by decide) (by decide) (by decide) (by decide) u3 hD3 q3 D0
        rw [qV_ex D0] at v3
        have mcr : ∀ i j, i < n → inN n j → 79 ≤ mcl i j ∧ mcl i j ≤ 161 := fun i j h1 h2 => by
          unfold mcl
          rcases h2 with h | h <;> omega
        have rij := mcr i j hi hin
        obtain ⟨m', k1, k2⟩ := ih f (j + 1) M4 (by omega) (by omega) (slF_trans fM (slF_trans (slF_b s2 (by decide)) (slF_trans (slF_b t2 (by decide)) (slF_trans (slF_b u2 (by decide)) (slF_q v2 (by omega) (by decide) (by decide)))))) (bg_q hD3 v2 (by unfold mcl; omega) (by decide) (by decide)) (bg_q (bg_F (bg_F (bg_F h71 s2 (by decide)) t2 (by decide)) u2 (by decide)) v2 (by unfold mcl; omega) (by decide) (by decide)) (fun r' j' hr hj' => by
          have rr := mcr r' j' hr hj'
          have j7' : j' < 7 := by rcases hj' with h | h <;> omega
          by_cases q : r' = i ∧ j' = j
          · rw [q.1, q.2, if_pos ⟨rfl, by omega⟩]
            exact v3
          · have h := hS r' j' hr hj'
            have e : (r' = i ∧ j' < j + 1) ↔ (r' = i ∧ j' < j) := ⟨fun z => ⟨z.1, by have : ¬ j' = j := fun e => q ⟨z.1, e⟩; omega⟩, fun z => ⟨z.1, by omega⟩⟩
            have h' : bg M (mcl r' j') (if r' = i ∧ j' < j + 1 then N j' else E r' j') := by
              by_cases z : r' = i ∧ j' < j
              · rw [if_pos z] at h; rw [if_pos (e.mpr z)]; exact h
              · rw [if_neg z] at h; rw [if_neg (fun y => z (e.mp y))]; exact h
            exact bg_q (bg_F (bg_F (bg_F h' s2 (by omega)) t2 (by omega)) u2 (by omega)) v2 (mcl_ne j7' j7 q) (by omega) (by omega))
        refine ⟨m', ?_, k2⟩
        have e44 : g_X0_eliminate_44 w (g_X0_eliminate_21 w f) (Int32.ofNat i) (Int32.ofNat k) (mcl k k) (Int32.ofNat j) M = some m' := by
          unfold g_X0_eliminate_44 g_X0_eliminate_124
          rw [bC_g bck, idx7 (by omega) j7, gof (n := 7 * i + j) (by omega) (by decide), g_t, tn_of (n := 7 * i + j) (by omega), Rt_61 (7 * i + j) (by omega)]
          show rf_g (rf_isO w (mcl i j) 1) (rf_g (rf_isR w (mcl i j) 2 (mcl i j + 1)) (rf_g (rf_isA w (mcl i j + 1) .long 10) (rf_bv (g_X1_setProduct w M 67 (mcl k k) (mcl i j)) _))) = _
          rw [bC_g bij, s1, bv_sm, idx7 (by omega) j7, gof (n := 7 * k + j) (by omega) (by decide), g_t, tn_of (n := 7 * k + j) (by omega), Rt_61 (7 * k + j) (by omega)]
          show rf_g (rf_isO w (mcl k j) 1) (rf_g (rf_isR w (mcl k j) 2 (mcl k j + 1)) (rf_g (rf_isA w (mcl k j + 1) .long 10) (rf_bv (g_X1_setProduct w M1 69 71 (mcl k j)) _))) = _
          rw [bC_g bkj, t1, bv_sm, u1, bv_sm]
          show rf_bv (g_X1_setQuotient w M3 (mcl i j) 67 65 75 77) _ = _
          rw [v1, bv_sm, bC_g bck, of_succ]
          exact k1
        rw [st]
        unfold g_X0_eliminate_21_b
        rw [bC_g bck, if_neg z7, e55]
        by_cases q : j < n
        · rw [if_pos ((of_lt (by omega) (by omega)).mpr q)]
          exact e44
        · have q6 : j = 6 := by rcases hin with h | h; exact absurd h q; exact h
          have q6' : Int32.ofNat j = 6 := by rw [q6]; rfl
          rw [if_neg (fun z => q ((of_lt (by omega) (by omega)).mp z)), if_pos q6']
          exact e44
      · have nj : ¬ j < n := fun z => hin (Or.inl z)
        have n6 : ¬ j = 6 := fun z => hin (Or.inr z)
        have n6' : ¬ Int32.ofNat j = 6 := fun z => n6 ((of_inj (b := 6) (by omega) (by omega)).mp z)
        rw [st]
        unfold g_X0_eliminate_21_b g_X0_eliminate_124
        rw [bC_g bck, if_neg z7, e55, if_neg (fun z => nj ((of_lt (by omega) (by omega)).mp z)), if_neg n6', bC_g bck, of_succ]
        refine ih f (j + 1) M (by omega) (by omega) fM hD h71 (fun r' j' hr hj' => ?_)
        have h := hS r' j' hr hj'
        have e : (r' = i ∧ j' < j + 1) ↔ (r' = i ∧ j' < j) := ⟨fun z => ⟨z.1, by have : ¬ j' = j := fun e => hin (e ▸ hj'); omega⟩, fun z => ⟨z.1, by omega⟩⟩
        by_cases z : r' = i ∧ j' < j
        · rw [if_pos z] at h; rw [if_pos (e.mpr z)]; exact h
        · rw [if_neg z] at h; rw [if_neg (fun y => z (e.mp y))]; exact h
  have bik := bC_mc (w := w) (i := i) (j := k) (by omega) (by omega)
  obtain ⟨M1, c1, c2, c3⟩ := copyFrom_c (w := w) (m := m) (a := 71) (b := mcl i k) bC_71 bik (by unfold mcl; omega) (hE i k hi (inA k hk))
  obtain ⟨m', k1, k2⟩ := key 7 FU 0 M1 (by omega) (by omega) (slF_b c2 (by decide)) (bg_F hD c2 (by decide)) c3 (fun r' j' hr hj' => by
    rw [if_neg (by omega)]
    exact bg_F (hE r' j' hr hj') c2 (by unfold mcl; omega))
  refine ⟨m', ?_, k2⟩
  unfold g_X0_eliminate
  have zo : Int32.ofNat 0 = 0 := rfl
  rw [zo] at k1
  rw [bC_g bck, idx7 (by omega) (by omega), gof (n := 7 * i + k) (by omega) (by decide), g_t, tn_of (n := 7 * i + k) (by omega), Rt_61 (7 * i + k) (by omega)]
  show rf_g (rf_isO w (mcl i k) 1) (rf_g (rf_isR w (mcl i k) 2 (mcl i k + 1)) (rf_g (rf_isA w (mcl i k + 1) .long 10) (rf_bv (g_X1_copyFrom w m 71 (mcl i k)) _))) = _
  rw [bC_g bik, c1, bv_sm, hF, k1]
theorem solve_c {w : rf_w} {m : rf_m} {n N0 : Nat} {a : Nat → Nat → Int} {b : Nat → Int} {s : Nat → Int} {v : Nat → Nat → Int} (hn : n ≤ 6) (h55 : m.1 55 8 = Int32.ofNat n) (hE : matS m n (Ent a b 0)) (hD : bg m 65 1) (bE : ∀ k i j, k ≤ n → i < n → inN n j → mg (Ent a b k i j) < 42535295865117307932921825928971026432) (ha : ∀ i j, a j i = sm N0 (fun t => s t * (v t i * v t j))) (hs : ∀ t, t < N0 → 0 ≤ s t) : ∃ m', slF m m' ∧ ((g_X0_solve_14 w rf_fuel 0 m = some (0, m') ∧ dF n a = 0) ∨ (g_X0_solve_14 w rf_fuel 0 m = some (1, m') ∧ 0 < dF n a ∧ matS m' n (Ent a b n) ∧ bg m' 65 (dF n a))) := by
  obtain ⟨FU, hF, hFb⟩ := fuel_ex
  have inA : ∀ q, q < n → inN n q := fun q h => Or.inl h
  have cva : ∀ k, k < n → colv a b k = a k := fun k hk => if_neg (by omega)
  -- one pivot: row after row
  have key2 : ∀ (r14 : Int32 → rf_m → Option (Int32 × rf_m)) k, k < n → 0 < Dk a k → Dk a (k + 1) ≠ 0 → (∀ j, inN n j → Cr a k (colv a b j)) → ∀ r f i (M : rf_m), i + r = n → r < f → slF m M → bg M 65 (Dk a k) → matS M n (fun r' j => if r' < i ∧ r' ≠ k then Ent a b (k + 1) r' j else Ent a b k r' j) → ∃ M', g_X0_solve_45 w r14 f (Int32.ofNat k) (mcl k k) (Int32.ofNat i) M = r14 (Int32.ofNat (k + 1)) M' ∧ slF m M' ∧ bg M' 65 (Dk a (k + 1)) ∧ matS M' n (Ent a b (k + 1)) := by
    intro r14 k hk d0 d1 hC r
    have bck := bC_mc (w := w) (i := k) (j := k) (by omega) (by omega)
    have ekk : ∀ j, Ent a b k k j = Ent a b (k + 1) k j := fun j => by
      unfold Ent
      rw [if_neg (by omega), if_pos (by omega), Xk_k]
    have pk : Ent a b k k k = Dk a (k + 1) := by
      unfold Ent
      rw [if_neg (by omega), cva k hk, Dk_s]
    induction r with
    | zero =>
      intro f i M hi hf fM hD hS
      obtain ⟨f, rfl⟩ : ∃ g, f = g + 1 := ⟨f - 1, by omega⟩
      have e : i = n := by omega
      subst e
      have e55 : M.1 55 8 = Int32.ofNat i := by rw [fM.1 55 (by decide)]; exact h55
      have hkk := hS k k hk (inA k hk)
      simp only [ne_eq, not_true_eq_false, and_false, if_false] at hkk
      rw [pk] at hkk
      obtain ⟨M1, c1, c2, c3⟩ := copyFrom_c (w := w) (m := M) (a := 65) (b := mcl k k) bC_65 bck (by unfold mcl; omega) hkk
      refine ⟨M1, ?_, slF_trans fM (slF_b c2 (by decide)), c3, fun r' j hr hj => bg_F ?_ c2 (by unfold mcl; omega)⟩
      · show g_X0_solve_45_b w _ _ _ _ _ M = _
        unfold g_X0_solve_45_b
        rw [bC_g bck, e55, if_pos (Int32.le_refl _), c1, bv_sm, of_succ]
      · have h := hS r' j hr hj
        by_cases q : r' = k
        · rw [q] at h ⊢
          simp only [ne_eq, not_true_eq_false, and_false, if_false] at h
          rw [← ekk j]; exact h
        · simp only at h
          rw [if_pos ⟨hr, q⟩] at h
          exact h
    | succ r ih =>
      intro f i M hi hf fM hD hS
      obtain ⟨f, rfl⟩ : ∃ g, f = g + 1 := ⟨f - 1, by omega⟩
      have e55 : M.1 55 8 = Int32.ofNat n := by rw [fM.1 55 (by decide)]; exact h55
      have g1 : ¬ Int32.ofNat n ≤ Int32.ofNat i := nle (by omega) (by omega)
      have st : g_X0_solve_45 w r14 (f + 1) (Int32.ofNat k) (mcl k k) (Int32.ofNat i) M = g_X0_solve_45_b w r14 (g_X0_solve_45 w r14 f) (Int32.ofNat k) (mcl k k) (Int32.ofNat i) M := rfl
      by_cases ik : i = k
      · have ik' : Int32.ofNat i = Int32.ofNat k := by rw [ik]
        rw [st]
        unfold g_X0_solve_45_b g_X0_solve_65
        rw [bC_g bck, e55, if_neg g1, if_pos ik', bC_g bck, of_succ]
        refine ih f (i + 1) M (by omega) (by omega) fM hD (fun r' j hr hj => ?_)
        have h := hS r' j hr hj
        simp only at h ⊢
        have e : (r' < i + 1 ∧ r' ≠ k) ↔ (r' < i ∧ r' ≠ k) := by omega
        by_cases z : r' < i ∧ r' ≠ k
        · rw [if_pos z] at h; rw [if_pos (e.mpr z)]; exact h
        · rw [if_neg z] at h; rw [if_neg (fun y => z (e.mp y))]; exact h
      · have ik' : ¬ Int32.ofNat i = Int32.ofNat k := fun z => ik ((of_inj (by omega) (by omega)).mp z)
        have il : i < n := by omega
        have mx : ∀ r' j, r' < n → inN n j → mg ((fun r' j => if r' < i ∧ r' ≠ k then Ent a b (k + 1) r' j else Ent a b k r' j) r' j) < 42535295865117307932921825928971026432 := fun r' j hr hj => by
          show mg (if r' < i ∧ r' ≠ k then Ent a b (k + 1) r' j else Ent a b k r' j) < _
          split
          · exact bE (k + 1) r' j (by omega) hr hj
          · exact bE k r' j (by omega) hr hj
        have kz : ¬ (k < i ∧ k ≠ k) := fun z => z.2 rfl
        have iz : ¬ (i < i ∧ i ≠ k) := fun z => by omega
        obtain ⟨M1, c1, c2, c3, c4⟩ := elim_c (w := w) (m := M) (n := n) (k := k) (i := i) (E := fun r' j => if r' < i ∧ r' ≠ k then Ent a b (k + 1) r' j else Ent a b k r' j) (N := fun j => Ent a b (k + 1) i j) (D := Dk a k) hn hk il ik e55 hS hD (by omega) mx (fun j hj => by
          unfold newE
          show (if k < i ∧ k ≠ k then Ent a b (k + 1) k k else Ent a b k k k) * (if i < i ∧ i ≠ k then Ent a b (k + 1) i j else Ent a b k i j) - (if i < i ∧ i ≠ k then Ent a b (k + 1) i k else Ent a b k i k) * (if k < i ∧ k ≠ k then Ent a b (k + 1) k j else Ent a b k k j) = _
          rw [if_neg kz, if_neg iz, if_neg iz, if_neg kz, pk]
          have hck := hC k (inA k hk)
          rw [cva k hk] at hck
          obtain ⟨e1, e2, e3, e4⟩ := el_step (hC j hj) hck (by omega) d1
          show _ = Ent a b (k + 1) i j * Dk a k
          unfold Ent
          rw [cva k hk, if_neg (show ¬ k < k by omega)]
          by_cases q : i < k
          · rw [if_pos q, if_pos q, if_pos (show i < k + 1 by omega), Int.mul_comm _ (Dk a k), e1 i q]
          · rw [if_neg q, if_neg q, if_neg (show ¬ i < k + 1 by omega), Int.mul_comm _ (Dk a k), e4 i])
        rw [st]
        unfold g_X0_solve_45_b g_X0_solve_65
        rw [bC_g bck, e55, if_neg g1, if_neg ik', c1, bv_sm, bC_g bck, of_succ]
        refine ih f (i + 1) M1 (by omega) (by omega) (slF_trans fM c2) c4 (fun r' j hr hj => ?_)
        have h := c3 r' j hr hj
        simp only at h ⊢
        by_cases q : r' = i
        · rw [if_pos q] at h
          rw [if_pos ⟨by omega, by omega⟩, q]
          rw [q] at h
          exact h
        · rw [if_neg q] at h
          have e : (r' < i + 1 ∧ r' ≠ k) ↔ (r' < i ∧ r' ≠ k) := by omega
          by_cases z : r' < i ∧ r' ≠ k
          · rw [if_pos z] at h; rw [if_pos (e.mpr z)]; exact h
          · rw [if_neg z] at h; rw [if_neg (fun y => z (e.mp y))]; exact h
  -- pivot after pivot
  have key1 : ∀ r f k (M : rf_m), k + r = n → r < f → slF m M → bg M 65 (Dk a k) → 0 < Dk a k → (∀ j, inN n j → Cr a k (colv a b j)) → matS M n (Ent a b k) → ∃ m', slF m m' ∧ ((g_X0_solve_14 w f (Int32.ofNat k) M = some (0, m') ∧ dF n a = 0) ∨ (g_X0_solve_14 w f (Int32.ofNat k) M = some (1, m') ∧ 0 < dF n a ∧ matS m' n (Ent a b n) ∧ bg m' 65 (dF n a))) := by
    intro r
    induction r with
    | zero =>
      intro f k M hk hf fM hD d0 hC hS
      obtain ⟨f, rfl⟩ : ∃ g, f = g + 1 := ⟨f - 1, by omega⟩
      have e : k = n := by omega
      subst e
      have e55 : M.1 55 8 = Int32.ofNat k := by rw [fM.1 55 (by decide)]; exact h55
      refine ⟨M, fM, Or.inr ⟨?_, d0, hS, hD⟩⟩
      show g_X0_solve_14_b w _ _ M = _
      unfold g_X0_solve_14_b
      rw [e55, if_pos (Int32.le_refl _)]
    | succ r ih =>
      intro f k M hk hf fM hD d0 hC hS
      obtain ⟨f, rfl⟩ : ∃ g, f = g + 1 := ⟨f - 1, by omega⟩
      have kl : k < n := by omega
      have e55 : M.1 55 8 = Int32.ofNat n := by rw [fM.1 55 (by decide)]; exact h55
      have g1 : ¬ Int32.ofNat n ≤ Int32.ofNat k := nle (by omega) (by omega)
      have bck := bC_mc (w := w) (i := k) (j := k) (by omega) (by omega)
      have pk : Ent a b k k k = Dk a (k + 1) := by
        unfold Ent
        rw [if_neg (by omega), cva k kl, Dk_s]
      have hkk := hS k k kl (inA k kl)
      rw [pk] at hkk
      have hck := hC k (inA k kl)
      rw [cva k kl] at hck
      have gr := gram ha hs hck d0
      have st : g_X0_solve_14 w (f + 1) (Int32.ofNat k) M = (if (M.1 (mcl k k) 0) = 0 then some (0, M) else g_X0_solve_45 w (g_X0_solve_14 w f) rf_fuel (Int32.ofNat k) (mcl k k) 0 M) := by
        show g_X0_solve_14_b w (g_X0_solve_14 w f) _ M = _
        unfold g_X0_solve_14_b
        rw [e55, if_neg g1, idx7 (by omega) (by omega), gof (n := 7 * k + k) (by omega) (by decide), g_t, tn_of (n := 7 * k + k) (by omega), Rt_61 (7 * k + k) (by omega)]
        show rf_g (rf_isO w (mcl k k) 1) (rf_g (rf_isR w (mcl k k) 2 (mcl k k + 1)) (rf_g (rf_isA w (mcl k k + 1) .long 10) _)) = _
        rw [bC_g bck]
        rfl
      have sz : M.1 (mcl k k) 0 = 0 ↔ Dk a (k + 1) = 0 := by
        obtain ⟨nn, h1, h2, h3⟩ := bg_mg hkk
        have z := bgs_0 h1
        rw [← h2] at z
        have n10 := h1.1
        have mz : mg (Dk a (k + 1)) = 0 ↔ Dk a (k + 1) = 0 := by unfold mg; split <;> omega
        rw [h1.2.1, ← mz, ← z]
        exact ⟨fun q => (of_inj (b := 0) (by omega) (by omega)).mp q, fun q => by rw [q]; rfl⟩
      by_cases q : Dk a (k + 1) = 0
      · exact ⟨M, fM, Or.inl ⟨by rw [st, if_pos (sz.mpr q)], gr.2 q n kl⟩⟩
      · obtain ⟨M', c1, c2, c3, c4⟩ := key2 (g_X0_solve_14 w f) k kl d0 q hC n FU 0 M (by omega) (by omega) fM hD (fun r' j hr hj => by
          show bg M (mcl r' j) (if r' < 0 ∧ r' ≠ k then Ent a b (k + 1) r' j else Ent a b k r' j)
          rw [if_neg (by omega)]
          exact hS r' j hr hj)
        have zo : Int32.ofNat 0 = 0 := rfl
        rw [zo] at c1
        have eq : g_X0_solve_14 w (f + 1) (Int32.ofNat k) M = g_X0_solve_14 w f (Int32.ofNat (k + 1)) M' := by rw [st, if_neg (fun z => q (sz.mp z)), hF, c1]
        rw [eq]
        exact ih f (k + 1) M' (by omega) (by omega) c2 c3 (by have := gr.1; omega) (fun j hj => (el_step (hC j hj) hck (by omega) q).2.2.1) c4
  have := key1 n FU 0 m (by omega) (by omega) slF_refl hD (by rw [Dk_0]; decide) (fun j _ => Cr_0) hE
  rw [← hF] at this
  exact this
end PBSolve
