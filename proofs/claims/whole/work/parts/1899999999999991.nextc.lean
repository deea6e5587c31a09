/-! tokens: the next one, both sides -/
section PBTokT
theorem rf_i_self {m : rf_m} {c k : Nat} {x : Int32} (h : m.1 c k = x) : rf_i m c k x = m := by
  refine Prod.ext ?_ rfl
  funext a
  rw [rf_i_c]
  by_cases e : a = c
  · rw [if_pos e, e]
    funext b
    by_cases e2 : b = k
    · rw [e2, pu_at, h]
    · rw [pu_ne e2]
  · rw [if_neg e]
theorem rf_i_i {m : rf_m} {c k : Nat} {x y : Int32} : rf_i (rf_i m c k x) c k y = rf_i m c k y := by
  refine Prod.ext ?_ rfl
  funext a b
  show (if a = c ∧ b = k then y else if a = c ∧ b = k then x else m.1 a b) = if a = c ∧ b = k then y else m.1 a b
  by_cases h : a = c ∧ b = k
  · rw [if_pos h, if_pos h]
  · rw [if_neg h, if_neg h, if_neg h]
def wcode (L : List Int32) : Nat := match (List.range 16).find? (fun i => decide (L = rf_sB (1000001 + i))) with
  | some i => 101 + i
  | none => 99
theorem wc_lo {L : List Int32} : 99 ≤ wcode L ∧ wcode L ≤ 116 := by
  unfold wcode
  cases h : (List.range 16).find? (fun i => decide (L = rf_sB (1000001 + i))) with
  | none => exact ⟨by decide, by decide⟩
  | some i =>
    have := List.mem_range.mp (List.mem_of_find?_eq_some h)
    exact ⟨by show 99 ≤ 101 + i; omega, by show 101 + i ≤ 116; omega⟩
theorem wc_lit : ∀ i, i < 16 → wcode (rf_sB (1000001 + i)) = 101 + i := by decide +kernel
theorem wc_iff {L : List Int32} {i : Nat} (hi : i < 16) : wcode L = 101 + i ↔ L = rf_sB (1000001 + i) := by
  constructor
  · unfold wcode
    cases h : (List.range 16).find? (fun i => decide (L = rf_sB (1000001 + i))) with
    | none => intro e; have e' : 99 = 101 + i := e; omega
    | some j =>
      intro e
      have e' : 101 + j = 101 + i := e
      have : j = i := by omega
      subst this
      have z : decide (L = rf_sB (1000001 + j)) = true := List.find?_some (p := fun i => decide (L = rf_sB (1000001 + i))) h
      exact of_decide_eq_true z
  · intro e
    rw [e]
    exact wc_lit i hi
def spc (b : Int32) : Bool := decide (b = 32)
def isSg (b : Int32) : Bool := decide (b = 60) || decide (b = 62) || decide (b = 61) || decide (b = 43) || decide (b = 45) || decide (b = 42) || decide (b = 40) || decide (b = 41)
/-- where the token behind p starts, ends, and what it is: 0 the end, 1 bad, 3 a whole, a sign's byte, 99 and more a word -/
def tS (f : Nat → Int32) (n p : Nat) : Nat := rn (fun k => spc (f k)) (n - p) p
def tE (f : Nat → Int32) (n s : Nat) : Nat := if n ≤ s then s else if ltr (f s) = true then rn (fun k => ltr (f k)) (n - s) s else if dgt (f s) = true then rn (fun k => dgt (f k)) (n - s) s else s + 1
def tC (f : Nat → Int32) (n s : Nat) : Nat := if n ≤ s then 0 else if ltr (f s) = true then (if tE f n s - s ≤ 8 then wcode (lts f (tE f n s - s) s) else 1) else if dgt (f s) = true then (if tE f n s - s ≤ 7 then 3 else 1) else if isSg (f s) = true then (f s).toNatClampNeg else 1
def kdO (t : Nat) : Int32 := if 99 ≤ t then 2 else Int32.ofNat t
def srO (t : Nat) : Int32 := if t = 0 then 1 else if t = 1 then 0 else if t = 3 then 3 else if 99 ≤ t then 2 else 4
def sgn (t : Nat) : Prop := t = 60 ∨ t = 62 ∨ t = 61 ∨ t = 43 ∨ t = 45 ∨ t = 42 ∨ t = 40 ∨ t = 41
theorem isSg_n {b : Int32} (h : isSg b = true) : sgn b.toNatClampNeg ∧ b = Int32.ofNat b.toNatClampNeg := by
  unfold isSg at h
  simp only [Bool.or_eq_true, decide_eq_true_eq] at h
  unfold sgn
  rcases h with ((((((h | h) | h) | h) | h) | h) | h) | h <;> subst h <;> decide
theorem tC_rng {f : Nat → Int32} {n s : Nat} : tC f n s = 0 ∨ tC f n s = 1 ∨ tC f n s = 3 ∨ sgn (tC f n s) ∨ (99 ≤ tC f n s ∧ tC f n s ≤ 116) := by
  unfold tC
  split
  · exact Or.inl rfl
  · split
    · split
      · exact Or.inr (Or.inr (Or.inr (Or.inr wc_lo)))
      · exact Or.inr (Or.inl rfl)
    · split
      · split
        · exact Or.inr (Or.inr (Or.inl rfl))
        · exact Or.inr (Or.inl rfl)
      · split
        · rename_i h
          exact Or.inr (Or.inr (Or.inr (Or.inl (isSg_n h).1)))
        · exact Or.inr (Or.inl rfl)
theorem tS_rng {f : Nat → Int32} {n p : Nat} (h : p ≤ n) : p ≤ tS f n p ∧ tS f n p ≤ n := by
  have := rn_rng (P := fun k => spc (f k)) (n - p) p
  unfold tS
  omega
theorem rn_first {P : Nat → Bool} {r p : Nat} (hr : 0 < r) (h : P p = true) : p + 1 ≤ rn P r p := by
  obtain ⟨k, rfl⟩ : ∃ k, r = k + 1 := ⟨r - 1, by omega⟩
  show p + 1 ≤ if P p = true then rn P k (p + 1) else p
  rw [if_pos h]
  exact (rn_rng k (p + 1)).1
theorem tE_rng {f : Nat → Int32} {n s : Nat} (h : s ≤ n) : s ≤ tE f n s ∧ tE f n s ≤ n ∧ (tC f n s ≠ 0 → s + 1 ≤ tE f n s ∧ s < n) := by
  have r1 := rn_rng (P := fun k => ltr (f k)) (n - s) s
  have r2 := rn_rng (P := fun k => dgt (f k)) (n - s) s
  by_cases c : n ≤ s
  · unfold tE tC; rw [if_pos c, if_pos c]; exact ⟨Nat.le_refl _, h, fun z => absurd rfl z⟩
  · unfold tE
    rw [if_neg c]
    by_cases l : ltr (f s) = true
    · rw [if_pos l]
      have := rn_first (P := fun k => ltr (f k)) (r := n - s) (p := s) (by omega) l
      exact ⟨by omega, by omega, fun _ => ⟨this, by omega⟩⟩
    · rw [if_neg l]
      by_cases d : dgt (f s) = true
      · rw [if_pos d]
        have := rn_first (P := fun k => dgt (f k)) (r := n - s) (p := s) (by omega) d
        exact ⟨by omega, by omega, fun _ => ⟨this, by omega⟩⟩
      · rw [if_neg d]; exact ⟨by omega, by omega, fun _ => ⟨by omega, by omega⟩⟩
/-- a word's letters -/
theorem tC_word {f : Nat → Int32} {n s : Nat} (h : 99 ≤ tC f n s) : tC f n s = wcode (lts f (tE f n s - s) s) ∧ tE f n s - s ≤ 8 ∧ (∀ b, b ∈ lts f (tE f n s - s) s → ltr b = true) ∧ s < n := by
  unfold tC at h ⊢
  by_cases c : n ≤ s
  · rw [if_pos c] at h; omega
  · rw [if_neg c] at h ⊢
    by_cases l : ltr (f s) = true
    · rw [if_pos l] at h ⊢
      by_cases q : tE f n s - s ≤ 8
      · rw [if_pos q] at h ⊢
        refine ⟨rfl, q, ?_, by omega⟩
        have : tE f n s = rn (fun k => ltr (f k)) (n - s) s := by unfold tE; rw [if_neg c, if_pos l]
        rw [this]
        exact rn_all (n - s) s
      · rw [if_neg q] at h; omega
    · rw [if_neg l] at h
      by_cases d : dgt (f s) = true
      · rw [if_pos d] at h
        split at h <;> omega
      · rw [if_neg d] at h
        by_cases g : isSg (f s) = true
        · rw [if_pos g] at h
          have := (isSg_n g).1
          unfold sgn at this
          omega
        · rw [if_neg g] at h; omega
theorem of_sub {a b : Nat} (h : b ≤ a) : Int32.ofNat a - Int32.ofNat b = Int32.ofNat (a - b) := by
  have e : Int32.ofNat a = Int32.ofNat (a - b) + Int32.ofNat b := by rw [← Int32.ofNat_add, Nat.sub_add_cancel h]
  rw [e]
  exact Int32.add_sub_cancel _ _
theorem nle' {a b : Nat} (h : b ≤ a) (ha : a < 2147483648) : ¬ Int32.ofNat a < Int32.ofNat b := by rw [of_lt ha (by omega)]; omega
theorem spaces_c {w : rf_w} {n : Nat} (hn : n ≤ 300) : ∀ r F p (m : rf_m), p + r = n → r < F → m.1 14 7 = Int32.ofNat n → m.1 14 8 = Int32.ofNat p → g_X8_next_8 w F m = g_X8_next_46 w (rf_i m 14 8 (Int32.ofNat (rn (fun k => spc (m.1 15 k)) r p))) := by
  intro r
  induction r with
  | zero =>
    intro F p m hp hF h7 h8
    obtain ⟨F, rfl⟩ : ∃ g, F = g + 1 := ⟨F - 1, by omega⟩
    show g_X8_next_8_b w _ m = _
    unfold g_X8_next_8_b
    rw [h7, h8, show n = p by omega, if_pos (Int32.le_refl _)]
    show _ = g_X8_next_46 w (rf_i m 14 8 (Int32.ofNat p))
    rw [rf_i_self h8]
  | succ r ih =>
    intro F p m hp hF h7 h8
    obtain ⟨F, rfl⟩ : ∃ g, F = g + 1 := ⟨F - 1, by omega⟩
    have er : rn (fun k => spc (m.1 15 k)) (r + 1) p = if spc (m.1 15 p) = true then rn (fun k => spc (m.1 15 k)) r (p + 1) else p := rfl
    have st : g_X8_next_8 w (F + 1) m = g_X8_next_8_b w (g_X8_next_8 w F) m := rfl
    rw [st, er]
    unfold g_X8_next_8_b
    rw [h7, h8, if_neg (nle (show p < n by omega) (by omega)), gof (by omega) (by decide), g_t, tn_of (by omega)]
    by_cases q : m.1 15 p = 32
    · rw [if_pos q, if_pos (show spc (m.1 15 p) = true from decide_eq_true q), of_succ]
      rw [ih F (p + 1) (rf_i m 14 8 (Int32.ofNat (p + 1))) (by omega) (by omega) (by rw [rf_i_c, if_pos rfl, pu_ne (by decide)]; exact h7) (by rw [rf_i_c, if_pos rfl, pu_at]), rf_i_i]
      rw [rf_i_c, if_neg (by decide)]
    · rw [if_neg q, if_neg (show ¬ spc (m.1 15 p) = true from fun z => q (of_decide_eq_true z)), rf_i_self h8]
theorem sB0 : rf_sB 1000000 = [60, 62, 61, 43, 45, 42, 40, 41] := by decide +kernel
theorem u16 : ∀ k, k < 256 → (Int32.toUInt32 (Int32.ofNat k) % 65536).toInt32 = Int32.ofNat k := by
  intro k hk
  have e : Int32.toUInt32 (Int32.ofNat k) = UInt32.ofNat k := rfl
  rw [e]
  have : UInt32.ofNat k % 65536 = UInt32.ofNat k := by
    rw [← UInt32.toNat_inj, UInt32.toNat_mod, UInt32.toNat_ofNat_of_lt' (by show k < 4294967296; omega)]
    exact Nat.mod_eq_of_lt (by show k < 65536; omega)
  rw [this]
  rfl
theorem vi_sm {β : Type} {x : Int32} {k : Int32 → Option β} : rf_vi x k = k x := rfl
theorem isSg_ex {b x : Int32} (hx' : ∀ c, c ∈ [(60 : Int32), 62, 61, 43, 45, 42, 40, 41] → (x = c ↔ b = c)) : isSg b = true ↔ ∃ i, i < 8 ∧ [(60 : Int32), 62, 61, 43, 45, 42, 40, 41].getD i 0 = x := by
  have hin : ∀ i, i < 8 → [(60 : Int32), 62, 61, 43, 45, 42, 40, 41].getD i 0 ∈ [(60 : Int32), 62, 61, 43, 45, 42, 40, 41] := by decide
  constructor
  · intro h
    unfold isSg at h
    simp only [Bool.or_eq_true, decide_eq_true_eq] at h
    rcases h with ((((((h | h) | h) | h) | h) | h) | h) | h
    · exact ⟨0, by decide, ((hx' 60 (by decide)).mpr h).symm⟩
    · exact ⟨1, by decide, ((hx' 62 (by decide)).mpr h).symm⟩
    · exact ⟨2, by decide, ((hx' 61 (by decide)).mpr h).symm⟩
    · exact ⟨3, by decide, ((hx' 43 (by decide)).mpr h).symm⟩
    · exact ⟨4, by decide, ((hx' 45 (by decide)).mpr h).symm⟩
    · exact ⟨5, by decide, ((hx' 42 (by decide)).mpr h).symm⟩
    · exact ⟨6, by decide, ((hx' 40 (by decide)).mpr h).symm⟩
    · exact ⟨7, by decide, ((hx' 41 (by decide)).mpr h).symm⟩
  · rintro ⟨i, hi, e⟩
    have hb : b = _ := (hx' _ (hin i hi)).mp e.symm
    have all : ∀ i, i < 8 → isSg ([(60 : Int32), 62, 61, 43, 45, 42, 40, 41].getD i 0) = true := by decide
    rw [hb]
    exact all i hi
theorem index_k {w : rf_w} {m : rf_m} {a : Nat} {b x : Int32} {L : List Int32} {F : Nat} (hF : 8 < F) (hS : rf_isS a = true) (hL : rf_sB a = L) (h8 : L.length = 8) (his : isSg b = true ↔ ∃ i, i < 8 ∧ L.getD i 0 = x) : ∃ v, g_J1_indexOfChar_4cfef_7 w F a 8 x 0 m = some (v, m) ∧ (v < 0 ↔ ¬ isSg b = true) := by
  have stp : ∀ n i, i < 8 → g_J1_indexOfChar_4cfef_7 w (n + 1) a 8 x (Int32.ofNat i) m = if L.getD i 0 = x then some (Int32.ofNat i, m) else g_J1_indexOfChar_4cfef_7 w n a 8 x (Int32.ofNat (i + 1)) m := by
    intro n i hi
    have st : g_J1_indexOfChar_4cfef_7 w (n + 1) a 8 x (Int32.ofNat i) m = g_J1_indexOfChar_4cfef_7_b w (g_J1_indexOfChar_4cfef_7 w n) a 8 x (Int32.ofNat i) m := rfl
    rw [st]
    unfold g_J1_indexOfChar_4cfef_7_b
    have n8 : ¬ (8 : Int32) ≤ Int32.ofNat i := nle (R := 8) hi (by decide)
    rw [hS, g_t, if_neg n8, hL, h8, gof (n := i) (N := 8) hi (by decide), g_t, tn_of (by omega), of_succ]
  rcases first_or (fun j => L.getD j 0 = x) 8 with z | ⟨j, z1, z2, z3⟩
  · refine ⟨-1, find_none (F := fun n i => g_J1_indexOfChar_4cfef_7 w n a 8 x i m) (P := fun j => L.getD j 0 = x) (R := 8) (fun n => ?_) (fun n i hi hP => ?_) F 0 (by omega) (by omega) (fun j _ hj => z j hj), ?_⟩
    · show g_J1_indexOfChar_4cfef_7_b w (g_J1_indexOfChar_4cfef_7 w n) a 8 x 8 m = _
      unfold g_J1_indexOfChar_4cfef_7_b
      rw [hS, g_t, if_pos (Int32.le_refl _)]
    · show g_J1_indexOfChar_4cfef_7 w (n + 1) a 8 x (Int32.ofNat i) m = _
      rw [stp n i hi, if_neg hP]
    · constructor
      · intro _ h
        obtain ⟨i, hi, e⟩ := his.mp h
        exact z i hi e
      · intro _; decide
  · refine ⟨Int32.ofNat j, find_some (F := fun n i => g_J1_indexOfChar_4cfef_7 w n a 8 x i m) (P := fun j => L.getD j 0 = x) (R := 8) (f := fun j => some (Int32.ofNat j, m)) (fun n i hi hP => ?_) (fun n i hi hP => ?_) F 0 j (by omega) z1 (by omega) z2 (fun k _ hk => z3 k hk), ?_⟩
    · show g_J1_indexOfChar_4cfef_7 w (n + 1) a 8 x (Int32.ofNat i) m = _
      rw [stp n i hi, if_pos hP]
    · show g_J1_indexOfChar_4cfef_7 w (n + 1) a 8 x (Int32.ofNat i) m = _
      rw [stp n i hi, if_neg hP]
    · constructor
      · intro h; rw [i_lt, i_0, ofI (by omega)] at h; omega
      · intro h; exact absurd (his.mpr ⟨j, z1, z2⟩) h
theorem index_j {w : rf_w} {m : rf_m} {a : Nat} {x v : Int32} {L : List Int32} (hS : rf_isS a = true) (hL : rf_sB a = L) (h8 : L.length = 8) (n0 : ¬ x < 0) (n1 : ¬ 255 < x) (hv : g_J1_indexOfChar_4cfef_7 w rf_fuel a 8 ((Int32.toInt8 x).toInt32) 0 m = some (v, m)) : g_J0_indexOf_0f7a4 w m a x = some (v, m) := by
  have l0 : g_J0_length_8abf5 w m a = some (8, m) := by
    unfold g_J0_length_8abf5 g_J0_coder_7d493
    rw [hS, g_t, g_t, b_sm, hL, h8]
    rfl
  have c0 : g_J1_canEncode_9a6ad w m x = some (1, m) := by
    unfold g_J1_canEncode_9a6ad
    rw [if_neg n0, if_neg n1]
  have m0 : g_max w m 0 0 = some (0, m) := by unfold g_max; rw [if_neg (by decide)]
  have m1 : g_min w m 8 (Int32.ofNat L.length) = some (8, m) := by unfold g_min; rw [h8, if_neg (by decide)]
  have o1 : ¬ (1 : Int32) = 0 := by decide
  have o8 : (0 : Int32) < 8 := by decide
  unfold g_J0_indexOf_0f7a4 g_J0_indexOf_7cf53 g_J0_isLatin1_aae02 g_J1_indexOf_4cfef g_J1_indexOfChar_4cfef
  simp only [hS, hL, g_t, b_sm, if_neg o1, l0, c0, m0, m1, if_pos o8, vi_sm, hv]
theorem index_c {w : rf_w} {m : rf_m} {b : Int32} (h0 : 0 ≤ b.toInt) (h1 : b.toInt ≤ 255) : ∃ v, g_J0_indexOf_0f7a4 w m 1000000 ((Int32.toUInt32 b % 65536).toInt32) = some (v, m) ∧ (v < 0 ↔ ¬ isSg b = true) := by
  obtain ⟨k, hk, e⟩ : ∃ k, k < 256 ∧ b = Int32.ofNat k := ⟨b.toNatClampNeg, by have := tn_toInt (x := b) (by rw [i_le, i_0]; exact h0); omega, (of_tn (by rw [i_le, i_0]; exact h0)).symm⟩
  have hx : ∀ k, k < 256 → ∀ c, c ∈ [(60 : Int32), 62, 61, 43, 45, 42, 40, 41] → ((Int32.toInt8 (Int32.ofNat k)).toInt32 = c ↔ Int32.ofNat k = c) := by decide +kernel
  have hS : rf_isS 1000000 = true := by decide
  have hx' := hx k hk
  have hu := u16 k hk
  have n0 : ¬ b < 0 := by rw [i_lt, i_0]; omega
  have n1 : ¬ 255 < b := by rw [i_lt]; have : (255 : Int32).toInt = 255 := rfl; omega
  rw [← e] at hx' hu
  rw [hu]
  obtain ⟨F, hF, hF8⟩ : ∃ F, rf_fuel = F ∧ 8 < F := ⟨rf_fuel, rfl, by unfold rf_fuel; decide⟩
  obtain ⟨v, v1, v2⟩ := index_k (w := w) (m := m) (x := (Int32.toInt8 b).toInt32) hF8 hS sB0 rfl (isSg_ex hx')
  rw [← hF] at v1
  exact ⟨v, index_j hS sB0 rfl n0 n1 v1, v2⟩
theorem next_c {w : rf_w} {m : rf_m} {n p : Nat} {f : Nat → Int32} (hn : n ≤ 300) (hp : p ≤ n) (hf : m.1 15 = f) (hb : ∀ k, 0 ≤ (f k).toInt ∧ (f k).toInt ≤ 255) (h7 : m.1 14 7 = Int32.ofNat n) (h9 : m.1 14 9 = Int32.ofNat p) : ∃ M, g_X8_next w m = some M ∧ M.2 = m.2 ∧ (∀ z, z ≠ 14 → M.1 z = m.1 z) ∧ (∀ k, k ≠ 8 → k ≠ 9 → k ≠ 10 → k ≠ 11 → M.1 14 k = m.1 14 k) ∧ M.1 14 8 = Int32.ofNat (tS f n p) ∧ M.1 14 9 = Int32.ofNat (tE f n (tS f n p)) ∧ M.1 14 10 = kdO (tC f n (tS f n p)) ∧ (tC f n (tS f n p) = 3 → M.1 14 11 = nl f (tE f n (tS f n p) - tS f n p) (tS f n p) 0) := by
  have hS := tS_rng (f := f) hp
  have hE := tE_rng (f := f) hS.2
  unfold g_X8_next
  rw [h9, spaces_c hn (n - p) rf_fuel p _ (by omega) (by unfold rf_fuel; omega) (by rw [rf_i_c, if_pos rfl, pu_ne (by decide)]; exact h7) (by rw [rf_i_c, if_pos rfl, pu_at]), rf_i_i]
  rw [show (rf_i m 14 8 (Int32.ofNat p)).1 15 = f by rw [rf_i_c, if_neg (by decide)]; exact hf]
  rw [show rn (fun k => spc (f k)) (n - p) p = tS f n p from rfl]
  generalize tS f n p = s at *
  have hm : ∀ k x y, (rf_i (rf_i m 14 8 x) 14 9 y).1 14 k = if k = 9 then y else if k = 8 then x else m.1 14 k := by
    intro k x y
    rw [rf_i_c, if_pos rfl, rf_i_c, if_pos rfl]
    rfl
  have hz : ∀ z x y, z ≠ 14 → (rf_i (rf_i m 14 8 x) 14 9 y).1 z = m.1 z := by
    intro z x y q
    rw [rf_i_c, if_neg q, rf_i_c, if_neg q]
  have e8 : (rf_i m 14 8 (Int32.ofNat s)).1 14 8 = Int32.ofNat s := by rw [rf_i_c, if_pos rfl, pu_at]
  unfold g_X8_next_46
  rw [e8]
  generalize hA : rf_i (rf_i m 14 8 (Int32.ofNat s)) 14 9 (Int32.ofNat s) = A
  have a8 : A.1 14 8 = Int32.ofNat s := by rw [← hA, hm]; rfl
  have a9 : A.1 14 9 = Int32.ofNat s := by rw [← hA, hm]; rfl
  have a7 : A.1 14 7 = Int32.ofNat n := by rw [← hA, hm]; exact h7
  have a15 : A.1 15 = f := by rw [← hA, hz 15 _ _ (by decide)]; exact hf
  have az : ∀ z, z ≠ 14 → A.1 z = m.1 z := fun z q => by rw [← hA, hz z _ _ q]
  have ak : ∀ k, k ≠ 8 → k ≠ 9 → A.1 14 k = m.1 14 k := fun k q1 q2 => by rw [← hA, hm, if_neg q2, if_neg q1]
  have a2 : A.2 = m.2 := by rw [← hA]; rfl
  have o1 : ¬ (1 : Int32) = 0 := by decide
  clear hA hm hz e8
  rw [a8, a7]
  by_cases c : n ≤ s
  · rw [if_neg (nle' (by omega) (by omega))]
    have eC : tC f n s = 0 := by unfold tC; rw [if_pos c]
    have eE : tE f n s = s := by unfold tE; rw [if_pos c]
    refine ⟨_, rfl, a2, fun z q => by rw [rf_i_c, if_neg q]; exact az z q, fun k q1 q2 q3 q4 => by rw [rf_i_c, if_pos rfl, pu_ne q3]; exact ak k q1 q2, ?_, ?_, ?_, fun q => by rw [eC] at q; cases q⟩
    · rw [rf_i_c, if_pos rfl, pu_ne (by decide)]; exact a8
    · rw [rf_i_c, if_pos rfl, pu_ne (by decide), eE]; exact a9
    · rw [rf_i_c, if_pos rfl, pu_at, eC]; rfl
  · have sl : s < n := by omega
    rw [if_pos ((of_lt (by omega) (by omega)).mpr sl), gof (by omega) (by decide), g_t, tn_of (by omega), a15, isLetter_c, b_sm]
    by_cases l : ltr (f s) = true
    · rw [if_pos l, if_neg o1]
      unfold g_X8_takeWord
      obtain ⟨M, k1, k2, k3, k4⟩ := takeWord_c (w := w) hn (n - s) rf_fuel s A (by omega) (by unfold rf_fuel; omega) a7 a9
      rw [a15] at k4
      have eE : rn (fun k => ltr (f k)) (n - s) s = tE f n s := by unfold tE; rw [if_neg c, if_pos l]
      rw [eE] at k4
      have m8 : M.1 14 8 = Int32.ofNat s := by rw [k4, pu_ne (by decide)]; exact a8
      have m9 : M.1 14 9 = Int32.ofNat (tE f n s) := by rw [k4, pu_at]
      have eC : tC f n s = if tE f n s - s ≤ 8 then wcode (lts f (tE f n s - s) s) else 1 := by unfold tC; rw [if_neg c, if_pos l]
      rw [k1]
      unfold g_X8_takeWord_39
      rw [m8, m9, of_sub hE.1]
      have e3 : tC f n s ≠ 3 := by
        rw [eC]
        split
        · have := wc_lo (L := lts f (tE f n s - s) s); omega
        · decide
      have fin : ∀ x, x = kdO (tC f n s) → ∃ M', some (rf_i M 14 10 x) = some M' ∧ M'.2 = m.2 ∧ (∀ z, z ≠ 14 → M'.1 z = m.1 z) ∧ (∀ k, k ≠ 8 → k ≠ 9 → k ≠ 10 → k ≠ 11 → M'.1 14 k = m.1 14 k) ∧ M'.1 14 8 = Int32.ofNat s ∧ M'.1 14 9 = Int32.ofNat (tE f n s) ∧ M'.1 14 10 = kdO (tC f n s) ∧ (tC f n s = 3 → M'.1 14 11 = nl f (tE f n s - s) s 0) := by
        intro x hx
        refine ⟨_, rfl, k2.trans a2, fun z q => by rw [rf_i_c, if_neg q, k3 z q]; exact az z q, fun k q1 q2 q3 q4 => by rw [rf_i_c, if_pos rfl, pu_ne q3, k4, pu_ne q2]; exact ak k q1 q2, ?_, ?_, ?_, fun q => absurd q e3⟩
        · rw [rf_i_c, if_pos rfl, pu_ne (by decide)]; exact m8
        · rw [rf_i_c, if_pos rfl, pu_ne (by decide)]; exact m9
        · rw [rf_i_c, if_pos rfl, pu_at]; exact hx
      by_cases q : tE f n s - s ≤ 8
      · rw [if_neg (show ¬ (8 : Int32) < Int32.ofNat (tE f n s - s) from fun z => by rw [show (8 : Int32) = Int32.ofNat 8 from rfl, of_lt (by omega) (by omega)] at z; omega)]
        exact fin 2 (by rw [eC, if_pos q]; unfold kdO; rw [if_pos wc_lo.1])
      · rw [if_pos (show (8 : Int32) < Int32.ofNat (tE f n s - s) by rw [show (8 : Int32) = Int32.ofNat 8 from rfl, of_lt (by omega) (by omega)]; omega)]
        exact fin 1 (by rw [eC, if_neg q]; rfl)
    · rw [if_neg l, if_pos rfl, a8, gof (by omega) (by decide), g_t, tn_of (by omega), a15, isDigit_c, b_sm]
      by_cases d : dgt (f s) = true
      · rw [if_pos d, if_neg o1]
        unfold g_X8_takeWhole
        obtain ⟨M, k1, k2, k3, k4⟩ := takeWhole_c (w := w) hn (n - s) rf_fuel s (rf_i A 14 11 0) (by omega) (by unfold rf_fuel; omega) (by rw [rf_i_c, if_pos rfl, pu_ne (by decide)]; exact a7) (by rw [rf_i_c, if_pos rfl, pu_ne (by decide)]; exact a9)
        have b15 : (rf_i A 14 11 0).1 15 = f := by rw [rf_i_c, if_neg (by decide)]; exact a15
        have b14 : (rf_i A 14 11 0).1 14 = pu (A.1 14) 11 0 := by rw [rf_i_c, if_pos rfl]
        rw [b15, b14, pu_at] at k4
        have eE : rn (fun k => dgt (f k)) (n - s) s = tE f n s := by unfold tE; rw [if_neg c, if_neg l, if_pos d]
        rw [eE] at k4
        have m8 : M.1 14 8 = Int32.ofNat s := by rw [k4, pu_ne (by decide), pu_ne (by decide), pu_ne (by decide)]; exact a8
        have m9 : M.1 14 9 = Int32.ofNat (tE f n s) := by rw [k4, pu_ne (by decide), pu_at]
        have m11 : M.1 14 11 = nl f (tE f n s - s) s 0 := by rw [k4, pu_at]
        have eC : tC f n s = if tE f n s - s ≤ 7 then 3 else 1 := by unfold tC; rw [if_neg c, if_neg l, if_pos d]
        rw [k1]
        unfold g_X8_takeWhole_68
        rw [m8, m9, of_sub hE.1]
        have fin : ∀ x, x = kdO (tC f n s) → ∃ M', some (rf_i M 14 10 x) = some M' ∧ M'.2 = m.2 ∧ (∀ z, z ≠ 14 → M'.1 z = m.1 z) ∧ (∀ k, k ≠ 8 → k ≠ 9 → k ≠ 10 → k ≠ 11 → M'.1 14 k = m.1 14 k) ∧ M'.1 14 8 = Int32.ofNat s ∧ M'.1 14 9 = Int32.ofNat (tE f n s) ∧ M'.1 14 10 = kdO (tC f n s) ∧ (tC f n s = 3 → M'.1 14 11 = nl f (tE f n s - s) s 0) := by
          intro x hx
          refine ⟨_, rfl, k2.trans a2, fun z q => by rw [rf_i_c, if_neg q, k3 z q, rf_i_c, if_neg q]; exact az z q, fun k q1 q2 q3 q4 => by rw [rf_i_c, if_pos rfl, pu_ne q3, k4, pu_ne q4, pu_ne q2, pu_ne q4]; exact ak k q1 q2, ?_, ?_, ?_, fun _ => ?_⟩
          · rw [rf_i_c, if_pos rfl, pu_ne (by decide)]; exact m8
          · rw [rf_i_c, if_pos rfl, pu_ne (by decide)]; exact m9
          · rw [rf_i_c, if_pos rfl, pu_at]; exact hx
          · rw [rf_i_c, if_pos rfl, pu_ne (by decide)]; exact m11
        by_cases q : tE f n s - s ≤ 7
        · rw [if_neg (show ¬ (7 : Int32) < Int32.ofNat (tE f n s - s) from fun z => by rw [show (7 : Int32) = Int32.ofNat 7 from rfl, of_lt (by omega) (by omega)] at z; omega)]
          exact fin 3 (by rw [eC, if_pos q]; rfl)
        · rw [if_pos (show (7 : Int32) < Int32.ofNat (tE f n s - s) by rw [show (7 : Int32) = Int32.ofNat 7 from rfl, of_lt (by omega) (by omega)]; omega)]
          exact fin 1 (by rw [eC, if_neg q]; rfl)
      · rw [if_neg d, if_pos rfl, a8, of_succ]
        have eE : tE f n s = s + 1 := by unfold tE; rw [if_neg c, if_neg l, if_neg d]
        have eC : tC f n s = if isSg (f s) = true then (f s).toNatClampNeg else 1 := by unfold tC; rw [if_neg c, if_neg l, if_neg d]
        have e3 : tC f n s ≠ 3 := by
          rw [eC]
          split
          · rename_i z
            have := (isSg_n z).1
            unfold sgn at this
            omega
          · decide
        generalize hB : rf_i A 14 9 (Int32.ofNat (s + 1)) = B
        have b8 : B.1 14 8 = Int32.ofNat s := by rw [← hB, rf_i_c, if_pos rfl, pu_ne (by decide)]; exact a8
        have b9 : B.1 14 9 = Int32.ofNat (tE f n s) := by rw [← hB, rf_i_c, if_pos rfl, pu_at, eE]
        have b15 : B.1 15 = f := by rw [← hB, rf_i_c, if_neg (by decide)]; exact a15
        have bz : ∀ z, z ≠ 14 → B.1 z = m.1 z := fun z q => by rw [← hB, rf_i_c, if_neg q]; exact az z q
        have bk : ∀ k, k ≠ 8 → k ≠ 9 → B.1 14 k = m.1 14 k := fun k q1 q2 => by rw [← hB, rf_i_c, if_pos rfl, pu_ne q2]; exact ak k q1 q2
        have b2 : B.2 = m.2 := by rw [← hB]; exact a2
        have fin : ∀ x, x = kdO (tC f n s) → ∃ M', some (rf_i B 14 10 x) = some M' ∧ M'.2 = m.2 ∧ (∀ z, z ≠ 14 → M'.1 z = m.1 z) ∧ (∀ k, k ≠ 8 → k ≠ 9 → k ≠ 10 → k ≠ 11 → M'.1 14 k = m.1 14 k) ∧ M'.1 14 8 = Int32.ofNat s ∧ M'.1 14 9 = Int32.ofNat (tE f n s) ∧ M'.1 14 10 = kdO (tC f n s) ∧ (tC f n s = 3 → M'.1 14 11 = nl f (tE f n s - s) s 0) := by
          intro x hx
          refine ⟨_, rfl, b2, fun z q => by rw [rf_i_c, if_neg q]; exact bz z q, fun k q1 q2 q3 q4 => by rw [rf_i_c, if_pos rfl, pu_ne q3]; exact bk k q1 q2, ?_, ?_, ?_, fun q => absurd q e3⟩
          · rw [rf_i_c, if_pos rfl, pu_ne (by decide)]; exact b8
          · rw [rf_i_c, if_pos rfl, pu_ne (by decide)]; exact b9
          · rw [rf_i_c, if_pos rfl, pu_at]; exact hx
        obtain ⟨v, v1, v2⟩ := index_c (w := w) (m := B) (hb s).1 (hb s).2
        rw [b8, gof (by omega) (by decide), g_t, tn_of (by omega), b15, v1, b_sm]
        by_cases g : isSg (f s) = true
        · rw [if_neg (fun z => (v2.mp z) g), b8, gof (by omega) (by decide), g_t, tn_of (by omega), b15]
          refine fin _ ?_
          rw [eC, if_pos g]
          obtain ⟨g1, g2⟩ := isSg_n g
          unfold kdO
          rw [if_neg (by unfold sgn at g1; omega)]
          exact g2
        · rw [if_pos (v2.mpr g)]
          exact fin 1 (by rw [eC, if_neg g]; rfl)
end PBTokT
