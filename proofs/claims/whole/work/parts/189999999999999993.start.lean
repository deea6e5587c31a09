/-! the whole at the start, and the law -/
section PBStart
def isI (u : rf_U) : Bool := match u with
  | (_, _, .inl _) => true
  | (_, _, .inr _) => false
theorem li_fl : ∀ (us : List rf_U) (a b : Nat), rf_li (us.filter isI) a b = rf_li us a b := by
  intro us
  induction us with
  | nil => intro a b; rfl
  | cons u t ih =>
    intro a b
    obtain ⟨k, i, x⟩ := u
    cases x with
    | inl x =>
      have e : List.filter isI ((k, i, .inl x) :: t) = (k, i, .inl x) :: List.filter isI t := rfl
      rw [e]
      show (bif (Nat.beq a k && Nat.beq b i) then x else rf_li (List.filter isI t) a b) = (bif (Nat.beq a k && Nat.beq b i) then x else rf_li t a b)
      rw [ih]
    | inr x =>
      have e : List.filter isI ((k, i, .inr x) :: t) = List.filter isI t := rfl
      rw [e, ih]
      rfl
set_option maxRecDepth 100000 in
theorem us_i : rf_us.filter isI = [(206, 110, .inl (-1)), (206, 56, .inl 11), (206, 2, .inl (-1)), (175, 3, .inl (-1)), (175, 2, .inl (-1)), (41, 2, .inl 11)] := rfl
theorem m0_i (a b : Nat) : rf_m0.1 a b = rf_li [(206, 110, .inl (-1)), (206, 56, .inl 11), (206, 2, .inl (-1)), (175, 3, .inl (-1)), (175, 2, .inl (-1)), (41, 2, .inl 11)] a b := by
  rw [← us_i]
  exact (li_fl rf_us a b).symm
theorem beq_f {a b : Nat} (h : a ≠ b) : Nat.beq a b = false := by
  cases q : Nat.beq a b with
  | false => rfl
  | true => exact absurd (Nat.eq_of_beq_eq_true q) h
theorem m0_z (a : Nat) (h1 : a ≠ 206) (h2 : a ≠ 175) (h3 : a ≠ 41) : rf_m0.1 a = fun _ => 0 := by
  funext b
  rw [m0_i]
  simp only [rf_li, beq_f h1, beq_f h2, beq_f h3, Bool.false_and, cond_false]
theorem m0_6 (b : Nat) (h1 : b ≠ 110) (h2 : b ≠ 56) (h3 : b ≠ 2) : rf_m0.1 206 b = 0 := by
  rw [m0_i]
  simp only [rf_li, beq_f h1, beq_f h2, beq_f h3, beq_f (show (206 : Nat) ≠ 175 by decide), beq_f (show (206 : Nat) ≠ 41 by decide), Bool.false_and, Bool.and_false, cond_false]
theorem m0_v : rf_m0.1 206 110 = -1 ∧ rf_m0.1 206 56 = 11 ∧ rf_m0.1 206 2 = -1 ∧ rf_m0.1 175 3 = -1 ∧ rf_m0.1 175 2 = -1 ∧ rf_m0.1 41 2 = 11 ∧ rf_m0.1 175 1 = 0 ∧ rf_m0.1 41 1 = 0 ∧ rf_m0.1 41 3 = 0 := by
  simp only [m0_i]
  decide
set_option maxRecDepth 100000 in
theorem m0_l : rf_m0.2 55 0 = rf_m0.2 206 89 := by decide +kernel
theorem t0 : (0 : Int32).toNatClampNeg = 0 := rfl
theorem iz {b : Int32} (h : 0 ≤ b) : iv 0 b 0 := ⟨Int32.le_refl 0, h⟩
theorem rob230 : rob rf_w0 230 := ⟨by decide +kernel, by decide +kernel, by decide +kernel, by decide +kernel, by decide +kernel, Or.inl rfl⟩
theorem al225 : ∃ len, rf_al rf_w0 225 = some len ∧ len ≤ 3072 ∧ len % 3 = 0 ∧ 3 ≤ len := by
  cases h : rf_al rf_w0 225 with
  | none => exact absurd h (by decide +kernel)
  | some n =>
    refine ⟨n, rfl, ?_⟩
    have all : ∀ n, rf_al rf_w0 225 = some n → n = (rf_al rf_w0 225).getD 0 := fun n hn => by rw [hn]; rfl
    have := all n h
    rw [this]
    decide +kernel
theorem JJ_0 : JJ 0 rf_w0 rf_m0 := by
  obtain ⟨v1, v2, v3, v4, v5, v6, v7, v8, v9⟩ := m0_v
  have Z := m0_z
  have S := m0_6
  obtain ⟨len, l1, l2, l3, l4⟩ := al225
  have e1 : rf_w0.2.2 1 = some 225 := rfl
  have e0 : rf_w0.2.2 0 = some 230 := rfl
  have ang : JAng rf_m0 := by
    unfold JAng
    rw [Z 26 (by decide) (by decide) (by decide), S 16 (by decide) (by decide) (by decide), Z 28 (by decide) (by decide) (by decide), Z 29 (by decide) (by decide) (by decide), Z 30 (by decide) (by decide) (by decide), Z 217 (by decide) (by decide) (by decide), Z 218 (by decide) (by decide) (by decide), Z 219 (by decide) (by decide) (by decide)]
    exact ⟨rfl, iz (by decide), rfl, rfl, rfl, fun i hi => absurd hi (Nat.not_lt_zero i)⟩
  have mark : JMark rf_m0 := by
    unfold JMark
    rw [Z 1 (by decide) (by decide) (by decide), S 4 (by decide) (by decide) (by decide), Z 4 (by decide) (by decide) (by decide), Z 209 (by decide) (by decide) (by decide), Z 5 (by decide) (by decide) (by decide), Z 214 (by decide) (by decide) (by decide)]
    exact ⟨rfl, iz (by decide), rfl, fun i => iz (by decide), rfl⟩
  have rdl0 : ∀ a, rdl rf_m0 a = [] := fun a => by
    unfold rdl
    rw [S 17 (by decide) (by decide) (by decide), t0]
    rfl
  have read : JRead rf_m0 := by
    unfold JRead
    rw [Z 26 (by decide) (by decide) (by decide), S 17 (by decide) (by decide) (by decide)]
    refine ⟨rfl, iz (by decide), fun r hr => absurd hr (Nat.not_lt_zero r), fun a _ => ?_⟩
    rw [rdl0, Z 34 (by decide) (by decide) (by decide)]
    exact ⟨rfl, by decide, fun i h => absurd h (Nat.not_lt_zero i)⟩
  have str : JStr 0 rf_w0 rf_m0 := by
    refine ⟨225, len, e1, l1, Or.inl rfl, l2, ?_⟩
    rw [Z 26 (by decide) (by decide) (by decide), S 18 (by decide) (by decide) (by decide), S 17 (by decide) (by decide) (by decide), t0]
    exact ⟨rfl, Int32.le_refl 0, Nat.le_refl 0, Nat.zero_le _, fun s hs => absurd hs (Nat.not_lt_zero s), fun r hr => absurd hr (Nat.not_lt_zero r)⟩
  have rul : JRule rf_w0 rf_m0 := by
    unfold JRule
    rw [Z 13 (by decide) (by decide) (by decide), S 39 (by decide) (by decide) (by decide), t0]
    exact ⟨rfl, iz (by decide), fun r hr => absurd hr (Nat.not_lt_zero r)⟩
  have day : JDay rf_m0 := by
    unfold JDay
    rw [Z 224 (by decide) (by decide) (by decide), S 5 (by decide) (by decide) (by decide)]
    exact ⟨fun i => iz (by decide), by decide⟩
  refine ⟨?_, ?_, ?_, ?_, ?_, ?_, ?_, ?_, ?_, ?_, ?_, ?_, ?_, ?_, ?_, ?_, ?_, ?_, ?_, ⟨by decide, read, str, rul, ang, mark, day⟩, ?_, ?_, ?_⟩
  · unfold JD
    rw [Z 0 (by decide) (by decide) (by decide), S 5 (by decide) (by decide) (by decide)]
    exact ⟨rfl, iz (by decide)⟩
  · unfold JT
    rw [Z 0 (by decide) (by decide) (by decide), S 1 (by decide) (by decide) (by decide), S 3 (by decide) (by decide) (by decide), v3]
    exact ⟨rfl, rfl, (if_neg (by decide)).symm⟩
  · unfold JCell
    rw [Z 2 (by decide) (by decide) (by decide), Z 207 (by decide) (by decide) (by decide), Z 3 (by decide) (by decide) (by decide), Z 208 (by decide) (by decide) (by decide)]
    exact ⟨rfl, fun i => iz (by decide), rfl, fun i => iz (by decide)⟩
  · unfold JTow
    rw [Z 1 (by decide) (by decide) (by decide), Z 8 (by decide) (by decide) (by decide), Z 210 (by decide) (by decide) (by decide), t0]
    exact ⟨Int32.le_refl 0, Nat.le_refl 0, fun i => iz (by decide), fun k d _ _ => rfl⟩
  · unfold JHaze
    rw [Z 1 (by decide) (by decide) (by decide), S 6 (by decide) (by decide) (by decide), Z 10 (by decide) (by decide) (by decide), Z 213 (by decide) (by decide) (by decide), Z 211 (by decide) (by decide) (by decide), Z 212 (by decide) (by decide) (by decide), Z 9 (by decide) (by decide) (by decide)]
    exact ⟨rfl, iz (by decide), rfl, fun i => iz (by decide), fun i => iz (by decide), fun i => iz (by decide), fun i => show (0 : Int32) = 0 * 24 + 0 by decide⟩
  · unfold JMass
    rw [Z 1 (by decide) (by decide) (by decide), S 137 (by decide) (by decide) (by decide), Z 11 (by decide) (by decide) (by decide), Z 301 (by decide) (by decide) (by decide), Z 12 (by decide) (by decide) (by decide), Z 302 (by decide) (by decide) (by decide)]
    exact ⟨rfl, iz (by decide), rfl, fun i => iz (by decide), rfl, fun i => iz (by decide)⟩
  · unfold JParty
    rw [Z 26 (by decide) (by decide) (by decide), S 15 (by decide) (by decide) (by decide), Z 27 (by decide) (by decide) (by decide), Z 215 (by decide) (by decide) (by decide)]
    exact ⟨rfl, iz (by decide), rfl⟩
  · unfold JBase
    rw [v8, S 55 (by decide) (by decide) (by decide), v6, v2, Z 44 (by decide) (by decide) (by decide), Z 238 (by decide) (by decide) (by decide), Z 42 (by decide) (by decide) (by decide), Z 239 (by decide) (by decide) (by decide), Z 45 (by decide) (by decide) (by decide), Z 240 (by decide) (by decide) (by decide), Z 46 (by decide) (by decide) (by decide), Z 241 (by decide) (by decide) (by decide), Z 47 (by decide) (by decide) (by decide), Z 242 (by decide) (by decide) (by decide)]
    exact ⟨rfl, iz (by decide), rfl, ⟨by decide, by decide⟩, rfl, rfl, rfl, rfl, rfl, fun i => iz (by decide), fun i hi => absurd hi (Nat.not_lt_zero i), fun i j _ hj => absurd hj (Nat.not_lt_zero j)⟩
  · unfold JArc
    rw [v9, S 138 (by decide) (by decide) (by decide), Z 48 (by decide) (by decide) (by decide), Z 303 (by decide) (by decide) (by decide), Z 49 (by decide) (by decide) (by decide), Z 304 (by decide) (by decide) (by decide)]
    exact ⟨rfl, iz (by decide), rfl, fun i => iz (by decide), rfl, fun i => iz (by decide)⟩
  · unfold JSight
    rw [Z 193 (by decide) (by decide) (by decide), S 126 (by decide) (by decide) (by decide), Z 194 (by decide) (by decide) (by decide), Z 289 (by decide) (by decide) (by decide), Z 195 (by decide) (by decide) (by decide), Z 290 (by decide) (by decide) (by decide), Z 196 (by decide) (by decide) (by decide), Z 291 (by decide) (by decide) (by decide)]
    exact ⟨rfl, iz (by decide), rfl, rfl, rfl, fun i => iz (by decide), fun i hi => absurd hi (Nat.not_lt_zero i)⟩
  · unfold JLevel
    rw [Z 193 (by decide) (by decide) (by decide), S 136 (by decide) (by decide) (by decide), Z 202 (by decide) (by decide) (by decide), Z 298 (by decide) (by decide) (by decide), Z 203 (by decide) (by decide) (by decide), Z 299 (by decide) (by decide) (by decide), Z 204 (by decide) (by decide) (by decide), Z 300 (by decide) (by decide) (by decide)]
    exact ⟨rfl, iz (by decide), rfl, rfl, rfl, fun i => ⟨show (-1000000 : Int32) ≤ 0 by decide, show (0 : Int32) ≤ 1000000 by decide⟩⟩
  · unfold JNet
    rw [Z 50 (by decide) (by decide) (by decide), S 64 (by decide) (by decide) (by decide), S 65 (by decide) (by decide) (by decide), Z 51 (by decide) (by decide) (by decide), Z 243 (by decide) (by decide) (by decide), Z 52 (by decide) (by decide) (by decide), Z 244 (by decide) (by decide) (by decide), Z 53 (by decide) (by decide) (by decide), Z 245 (by decide) (by decide) (by decide), Z 54 (by decide) (by decide) (by decide), Z 246 (by decide) (by decide) (by decide)]
    exact ⟨rfl, iz (by decide), rfl, iz (by decide), rfl, rfl, rfl, rfl, Int32.le_refl 0, fun i => iz (by decide), fun i => iz (by decide), fun t ht => absurd ht (Nat.not_lt_zero t), fun r i hr => absurd hr (Nat.not_lt_zero r)⟩
  · unfold JFeed
    rw [Z 13 (by decide) (by decide) (by decide), S 44 (by decide) (by decide) (by decide), Z 15 (by decide) (by decide) (by decide), Z 234 (by decide) (by decide) (by decide)]
    exact ⟨rfl, iz (by decide), fun i => show (0 : Int32) = 0 &&& 255 by decide⟩
  · exact Or.inl ⟨v1, v7, v5, v4⟩
  · unfold JGuilt
    rw [S 117 (by decide) (by decide) (by decide), Z 184 (by decide) (by decide) (by decide), S 118 (by decide) (by decide) (by decide)]
    exact ⟨iz (by decide), rfl, rfl, fun i hi => absurd hi (Nat.not_lt_zero i)⟩
  · exact m0_l
  · exact Or.inl ⟨S 88 (by decide) (by decide) (by decide), fun a _ => by rw [Z 58 (by decide) (by decide) (by decide)]⟩
  · intro a _
    rw [Z 57 (by decide) (by decide) (by decide)]
    exact ⟨show 0 ≤ (0 : Int32).toInt by decide, show (0 : Int32).toInt ≤ 2520 by decide⟩
  · refine ⟨[], by decide, ?_, ?_, trivial, trivial, (fun x hx => nomatch hx), List.nodup_nil⟩
    · rw [Z 184 (by decide) (by decide) (by decide)]; rfl
    · rw [S 116 (by decide) (by decide) (by decide)]; rfl
  · refine ⟨fun a ha => ?_, fun _ a ha => ?_⟩
    · rw [S 16 (by decide) (by decide) (by decide)] at ha; exact absurd ha (Nat.not_lt_zero a)
    · rw [S 16 (by decide) (by decide) (by decide)] at ha; exact absurd ha (Nat.not_lt_zero a)
  · have ix0 : ∀ i, ix (rf_m0.1 206 39).toNatClampNeg i → i = 0 := fun i hi => by
      rw [S 39 (by decide) (by decide) (by decide), t0] at hi
      unfold ix at hi
      omega
    have w1 : rf_w0.1 = 306 := rfl
    refine ⟨by rw [w1]; decide, by rw [w1]; decide, fun l hl => ?_, fun i hi => ?_, fun i j k k' hi hj hij => ?_⟩
    · have e : l = 225 := by rw [e1] at hl; exact (Option.some.inj hl).symm
      subst e
      refine ⟨by rw [w1]; decide, fun n hn => ?_⟩
      rw [l1] at hn
      have e : len = n := Option.some.inj hn
      subst e
      exact ⟨l3, l4⟩
    · rw [ix0 i hi]
      refine ⟨230, e0, rob230, by rw [w1]; decide, fun l hl => ?_⟩
      have e : l = 225 := by rw [e1] at hl; exact (Option.some.inj hl).symm
      exact Or.inl (by omega)
    · exact absurd ((ix0 i hi).trans (ix0 j hj).symm) hij
  · intro l hl i hi
    rw [S 18 (by decide) (by decide) (by decide), t0] at hi
    exact absurd hi (Nat.not_lt_zero i)
theorem JJ_m {a b : Nat} {w : rf_w} {m : rf_m} (j : JJ a w m) (hab : a ≤ b) (hb : b ≤ 512) : JJ b w m := by
  obtain ⟨jD, jt, jcell, jtow, jhaze, jmass, jparty, jbase, jarc, jsight, jlevel, jnet, jfeed, jtell, jguilt, jcost, jadj, jwt, jsus, J, jc, jw, jl⟩ := j
  exact ⟨jD, jt, jcell, JTow_m jtow hab, jhaze, jmass, jparty, jbase, jarc, jsight, jlevel, jnet, jfeed, jtell, jguilt, jcost, jadj, jwt, jsus, cnt_m J hab hb, jc, jw_m jw hab, jl⟩
theorem law_st {c : Nat} {w : rf_w} {m : rf_m} {y : Nat → Int32} (hc : c < 512) (j : JJ c w m) : wp (lawStep w m y) (fun r => JJ (c + 1) r.1 r.2) := by
  unfold lawStep
  by_cases h0 : y 0 &&& 63 = 0
  · rw [if_pos h0]; exact st_0 hc j
  rw [if_neg h0]
  by_cases h1 : y 0 &&& 63 = 1
  · rw [if_pos h1]; exact st_1 hc j
  rw [if_neg h1]
  by_cases h2 : y 0 &&& 63 = 2
  · rw [if_pos h2]; exact st_2 hc j
  rw [if_neg h2]
  by_cases h3 : y 0 &&& 63 = 3
  · rw [if_pos h3]; exact st_3 hc j
  rw [if_neg h3]
  by_cases h4 : y 0 &&& 63 = 4
  · rw [if_pos h4]; exact st_4 hc j
  rw [if_neg h4]
  by_cases h5 : y 0 &&& 63 = 5
  · rw [if_pos h5]; exact st_5 hc j
  rw [if_neg h5]
  by_cases h6 : y 0 &&& 63 = 6
  · rw [if_pos h6]; exact st_6 hc j
  rw [if_neg h6]
  by_cases h7 : y 0 &&& 63 = 7
  · rw [if_pos h7]; exact st_7 hc j
  rw [if_neg h7]
  by_cases h8 : y 0 &&& 63 = 8
  · rw [if_pos h8]; exact st_8 hc j
  rw [if_neg h8]
  by_cases h9 : y 0 &&& 63 = 9
  · rw [if_pos h9]; exact st_9 hc j
  rw [if_neg h9]
  by_cases h10 : y 0 &&& 63 = 10
  · rw [if_pos h10]; exact st_10 hc j
  rw [if_neg h10]
  by_cases h11 : y 0 &&& 63 = 11
  · rw [if_pos h11]; exact st_11 hc j
  rw [if_neg h11]
  by_cases h12 : y 0 &&& 63 = 12
  · rw [if_pos h12]; exact st_12 hc j
  rw [if_neg h12]
  by_cases h13 : y 0 &&& 63 = 13
  · rw [if_pos h13]; exact st_13 hc j
  rw [if_neg h13]
  by_cases h14 : y 0 &&& 63 = 14
  · rw [if_pos h14]; exact st_14 hc j
  rw [if_neg h14]
  by_cases h15 : y 0 &&& 63 = 15
  · rw [if_pos h15]; exact st_15 hc j
  rw [if_neg h15]
  by_cases h16 : y 0 &&& 63 = 16
  · rw [if_pos h16]; exact st_16 hc j
  rw [if_neg h16]
  by_cases h17 : y 0 &&& 63 = 17
  · rw [if_pos h17]; exact st_17 hc j
  rw [if_neg h17]
  by_cases h18 : y 0 &&& 63 = 18
  · rw [if_pos h18]; exact st_18 hc j
  rw [if_neg h18]
  by_cases h19 : y 0 &&& 63 = 19
  · rw [if_pos h19]; exact st_19 hc j
  rw [if_neg h19]
  by_cases h20 : y 0 &&& 63 = 20
  · rw [if_pos h20]; exact st_20 hc j
  rw [if_neg h20]
  by_cases h21 : y 0 &&& 63 = 21
  · rw [if_pos h21]; exact st_21 hc j
  rw [if_neg h21]
  by_cases h22 : y 0 &&& 63 = 22
  · rw [if_pos h22]; exact st_22 hc j
  rw [if_neg h22]
  by_cases h23 : y 0 &&& 63 = 23
  · rw [if_pos h23]; exact st_23 hc j
  rw [if_neg h23]
  by_cases h24 : y 0 &&& 63 = 24
  · rw [if_pos h24]; exact st_24 hc j
  rw [if_neg h24]
  by_cases h25 : y 0 &&& 63 = 25
  · rw [if_pos h25]; exact st_25 hc j
  rw [if_neg h25]
  by_cases h26 : y 0 &&& 63 = 26
  · rw [if_pos h26]; exact st_26 hc j
  rw [if_neg h26]
  by_cases h27 : y 0 &&& 63 = 27
  · rw [if_pos h27]; exact st_27 hc j
  rw [if_neg h27]
  by_cases h28 : y 0 &&& 63 = 28
  · rw [if_pos h28]; exact st_28 hc j
  rw [if_neg h28]
  by_cases h29 : y 0 &&& 63 = 29
  · rw [if_pos h29]; exact st_29 hc j
  rw [if_neg h29]
  by_cases h30 : y 0 &&& 63 = 30
  · rw [if_pos h30]; exact st_30 hc j
  rw [if_neg h30]
  by_cases h31 : y 0 &&& 63 = 31
  · rw [if_pos h31]; exact st_31 hc j
  rw [if_neg h31]
  by_cases h32 : y 0 &&& 63 = 32
  · rw [if_pos h32]; exact st_32 hc j
  rw [if_neg h32]
  by_cases h33 : y 0 &&& 63 = 33
  · rw [if_pos h33]; exact st_33 hc j
  rw [if_neg h33]
  by_cases h34 : y 0 &&& 63 = 34
  · rw [if_pos h34]; exact st_34 hc j
  rw [if_neg h34]
  by_cases h35 : y 0 &&& 63 = 35
  · rw [if_pos h35]; exact st_35 hc j
  rw [if_neg h35]
  by_cases h36 : y 0 &&& 63 = 36
  · rw [if_pos h36]; exact st_36 hc j
  rw [if_neg h36]
  by_cases h37 : y 0 &&& 63 = 37
  · rw [if_pos h37]; exact st_37 hc j
  rw [if_neg h37]
  by_cases h38 : y 0 &&& 63 = 38
  · rw [if_pos h38]; exact st_38 hc j
  rw [if_neg h38]
  by_cases h39 : y 0 &&& 63 = 39
  · rw [if_pos h39]; exact st_39 hc j
  rw [if_neg h39]
  by_cases h40 : y 0 &&& 63 = 40
  · rw [if_pos h40]; exact st_40 hc j
  rw [if_neg h40]
  by_cases h41 : y 0 &&& 63 = 41
  · rw [if_pos h41]; exact st_41 hc j
  rw [if_neg h41]
  by_cases h42 : y 0 &&& 63 = 42
  · rw [if_pos h42]; exact st_42 hc j
  rw [if_neg h42]
  by_cases h43 : y 0 &&& 63 = 43
  · rw [if_pos h43]; exact st_43 hc j
  rw [if_neg h43]
  by_cases h44 : y 0 &&& 63 = 44
  · rw [if_pos h44]; exact st_44 hc j
  rw [if_neg h44]
  by_cases h45 : y 0 &&& 63 = 45
  · rw [if_pos h45]; exact st_45 hc j
  rw [if_neg h45]
  by_cases h46 : y 0 &&& 63 = 46
  · rw [if_pos h46]; exact st_46 hc j
  rw [if_neg h46]
  by_cases h47 : y 0 &&& 63 = 47
  · rw [if_pos h47]; exact st_47 hc j
  rw [if_neg h47]
  by_cases h48 : y 0 &&& 63 = 48
  · rw [if_pos h48]; exact st_48 hc j
  rw [if_neg h48]
  by_cases h49 : y 0 &&& 63 = 49
  · rw [if_pos h49]; exact st_49 hc j
  rw [if_neg h49]
  by_cases h50 : y 0 &&& 63 = 50
  · rw [if_pos h50]; exact st_50 hc j
  rw [if_neg h50]
  by_cases h51 : y 0 &&& 63 = 51
  · rw [if_pos h51]; exact st_51 hc j
  rw [if_neg h51]
  by_cases h52 : y 0 &&& 63 = 52
  · rw [if_pos h52]; exact st_52 hc j
  rw [if_neg h52]
  by_cases h53 : y 0 &&& 63 = 53
  · rw [if_pos h53]; exact st_53 hc j
  rw [if_neg h53]
  by_cases h54 : y 0 &&& 63 = 54
  · rw [if_pos h54]; exact st_54 hc j
  rw [if_neg h54]
  by_cases h55 : y 0 &&& 63 = 55
  · rw [if_pos h55]; exact st_55 hc j
  rw [if_neg h55]
  by_cases h56 : y 0 &&& 63 = 56
  · rw [if_pos h56]; exact st_56 hc j
  rw [if_neg h56]
  rw [wp_some]
  exact JJ_m j (by omega) (by omega)
theorem law_run (xs : Nat → Int32) : ∀ n i c (w : rf_w) (m : rf_m), c + n ≤ 512 → JJ c w m → ∃ r, lawRun xs n i w m = some r := by
  intro n
  induction n with
  | zero => intro i c w m _ _; exact ⟨(w, m), rfl⟩
  | succ n ih =>
    intro i c w m hn j
    obtain ⟨r, e, jr⟩ := law_st (y := fun j => xs (10 * i + j)) (show c < 512 by omega) j
    obtain ⟨r', e'⟩ := ih (i + 1) (c + 1) r.1 r.2 (by omega) jr
    refine ⟨r', ?_⟩
    show (match lawStep w m (fun j => xs (10 * i + j)) with
      | none => none
      | some q => lawRun xs n (i + 1) q.1 q.2) = some r'
    rw [e]
    exact e'
end PBStart
