/-! the law's start: what the constructors leave, and what is known at the entry (written by wip/tool/gen_start.py) -/
section RFStart
def rf_Mz : rf_M := (fun _ _ => 0, fun _ _ => 0, fun _ _ => none)
abbrev rf_U : Type := Nat × Nat × (Int32 ⊕ Int64 ⊕ Nat)
/-- a log of writes, the last one first -/
def rf_lg : List rf_U → rf_M
  | [] => rf_Mz
  | (k, i, .inl x) :: us => rf_uI (rf_lg us) k i x
  | (k, i, .inr (.inl x)) :: us => rf_uL (rf_lg us) k i x
  | (k, i, .inr (.inr j)) :: us => rf_uR (rf_lg us) k i (some j)
def rf_lk : List rf_U → Nat → Nat → Option Nat
  | [], _, _ => none
  | (_, _, .inl _) :: us, a, b => rf_lk us a b
  | (_, _, .inr (.inl _)) :: us, a, b => rf_lk us a b
  | (k, i, .inr (.inr j)) :: us, a, b => bif (Nat.beq a k && Nat.beq b i) then some j else rf_lk us a b
def rf_li : List rf_U → Nat → Nat → Int32
  | [], _, _ => 0
  | (k, i, .inl x) :: us, a, b => bif (Nat.beq a k && Nat.beq b i) then x else rf_li us a b
  | (_, _, .inr _) :: us, a, b => rf_li us a b
def rf_ll : List rf_U → Nat → Nat → Int64
  | [], _, _ => 0
  | (_, _, .inl _) :: us, a, b => rf_ll us a b
  | (k, i, .inr (.inl x)) :: us, a, b => bif (Nat.beq a k && Nat.beq b i) then x else rf_ll us a b
  | (_, _, .inr (.inr _)) :: us, a, b => rf_ll us a b
theorem rf_bf {a b : Nat} (h : a ≠ b) : Nat.beq a b = false := by
  cases e : Nat.beq a b with
  | false => rfl
  | true => exact absurd (Nat.eq_of_beq_eq_true e) h
theorem rf_bq {α : Type} {a k b i : Nat} {x y : α} : (if a = k ∧ b = i then x else y) = bif (Nat.beq a k && Nat.beq b i) then x else y := by
  by_cases h1 : a = k
  · by_cases h2 : b = i
    · subst h1; subst h2; simp
    · have e : Nat.beq b i = false := rf_bf h2
      rw [if_neg (fun h => h2 h.2), e, Bool.and_false]; rfl
  · have e : Nat.beq a k = false := rf_bf h1
    rw [if_neg (fun h => h1 h.1), e, Bool.false_and]; rfl
theorem rf_lg_r (us : List rf_U) (a b : Nat) : (rf_lg us).2.2 a b = rf_lk us a b := by
  induction us with
  | nil => rfl
  | cons u us ih =>
    obtain ⟨k, i, x | x | j⟩ := u
    · exact ih
    · exact ih
    · show (if a = k ∧ b = i then some j else (rf_lg us).2.2 a b) = bif (Nat.beq a k && Nat.beq b i) then some j else rf_lk us a b
      rw [ih, rf_bq]
theorem rf_lg_i (us : List rf_U) (a b : Nat) : (rf_lg us).1 a b = rf_li us a b := by
  induction us with
  | nil => rfl
  | cons u us ih =>
    obtain ⟨k, i, x | x | j⟩ := u
    · show (if a = k ∧ b = i then x else (rf_lg us).1 a b) = bif (Nat.beq a k && Nat.beq b i) then x else rf_li us a b
      rw [ih, rf_bq]
    · exact ih
    · exact ih
theorem rf_lg_l (us : List rf_U) (a b : Nat) : (rf_lg us).2.1 a b = rf_ll us a b := by
  induction us with
  | nil => rfl
  | cons u us ih =>
    obtain ⟨k, i, x | x | j⟩ := u
    · exact ih
    · show (if a = k ∧ b = i then x else (rf_lg us).2.1 a b) = bif (Nat.beq a k && Nat.beq b i) then x else rf_ll us a b
      rw [ih, rf_bq]
    · exact ih
/-- what stands in one cell -/
def rf_lf (a : Nat) : List rf_U → List (Nat × Nat)
  | [] => []
  | (_, _, .inl _) :: us => rf_lf a us
  | (_, _, .inr (.inl _)) :: us => rf_lf a us
  | (k, i, .inr (.inr j)) :: us => bif Nat.beq a k then (i, j) :: rf_lf a us else rf_lf a us
def rf_l1 : List (Nat × Nat) → Nat → Option Nat
  | [], _ => none
  | (i, j) :: us, b => bif Nat.beq b i then some j else rf_l1 us b
theorem rf_lk_f (us : List rf_U) (a b : Nat) : rf_lk us a b = rf_l1 (rf_lf a us) b := by
  induction us with
  | nil => rfl
  | cons u us ih =>
    obtain ⟨k, i, x | x | j⟩ := u
    · exact ih
    · exact ih
    · show (bif (Nat.beq a k && Nat.beq b i) then some j else rf_lk us a b) = rf_l1 (bif Nat.beq a k then (i, j) :: rf_lf a us else rf_lf a us) b
      cases Nat.beq a k
      · exact ih
      · show (bif Nat.beq b i then some j else rf_lk us a b) = bif Nat.beq b i then some j else rf_l1 (rf_lf a us) b
        rw [ih]
theorem rf_l1_none {l : List (Nat × Nat)} {n b : Nat} (h : l.all (fun q => Nat.ble (q.1 + 1) n) = true) (hb : n ≤ b) : rf_l1 l b = none := by
  induction l with
  | nil => rfl
  | cons q l ih =>
    obtain ⟨i, j⟩ := q
    rw [List.all_cons, Bool.and_eq_true] at h
    have h1 := Nat.le_of_ble_eq_true h.1
    have e : Nat.beq b i = false := rf_bf (by dsimp at h1; omega)
    show (bif Nat.beq b i then some j else rf_l1 l b) = none
    rw [e]
    exact ih h.2
def rf_us0 : List rf_U := [(206, 147, .inr (.inr 304)), (206, 146, .inr (.inr 303)), (206, 145, .inr (.inr 302)), (206, 144, .inr (.inr 301)), (206, 143, .inr (.inr 300)), (206, 142, .inr (.inr 299)), (206, 141, .inr (.inr 298)), (206, 135, .inr (.inr 297)), (206, 134, .inr (.inr 296)), (206, 133, .inr (.inr 295)), (206, 132, .inr (.inr 294)), (206, 131, .inr (.inr 293)), (206, 130, .inr (.inr 292)), (206, 129, .inr (.inr 291)), (206, 128, .inr (.inr 290)), (206, 127, .inr (.inr 289)), (206, 125, .inr (.inr 288)), (206, 124, .inr (.inr 287)), (206, 123, .inr (.inr 286)), (206, 122, .inr (.inr 285)), (206, 121, .inr (.inr 284)), (206, 120, .inr (.inr 283)), (206, 119, .inr (.inr 282)), (206, 115, .inr (.inr 281)), (206, 114, .inr (.inr 280)), (206, 113, .inr (.inr 279)), (206, 110, .inl (-1)), (206, 103, .inr (.inr 278)), (206, 102, .inr (.inr 277)), (206, 101, .inr (.inr 276))]
def rf_us1 : List rf_U := [(206, 100, .inr (.inr 275)), (206, 99, .inr (.inr 274)), (206, 98, .inr (.inr 273)), (206, 97, .inr (.inr 272)), (206, 96, .inr (.inr 271)), (206, 95, .inr (.inr 270)), (206, 94, .inr (.inr 269)), (206, 93, .inr (.inr 268)), (206, 92, .inr (.inr 267)), (206, 91, .inr (.inr 266)), (206, 90, .inr (.inr 265)), (206, 89, .inr (.inl (-9223372036854775808))), (206, 87, .inr (.inr 264)), (206, 86, .inr (.inr 263)), (206, 85, .inr (.inr 262)), (206, 84, .inr (.inr 261)), (206, 83, .inr (.inr 260)), (206, 82, .inr (.inr 259)), (206, 81, .inr (.inr 258)), (206, 80, .inr (.inr 257)), (206, 79, .inr (.inr 256)), (206, 78, .inr (.inr 255)), (206, 77, .inr (.inr 254)), (206, 76, .inr (.inr 253)), (206, 75, .inr (.inr 252)), (206, 74, .inr (.inr 251)), (206, 73, .inr (.inr 250)), (206, 72, .inr (.inr 249)), (206, 71, .inr (.inr 248)), (206, 70, .inr (.inr 247))]
def rf_us2 : List rf_U := [(206, 69, .inr (.inr 246)), (206, 68, .inr (.inr 245)), (206, 67, .inr (.inr 244)), (206, 66, .inr (.inr 243)), (206, 63, .inr (.inr 242)), (206, 62, .inr (.inr 241)), (206, 61, .inr (.inr 240)), (206, 60, .inr (.inr 239)), (206, 59, .inr (.inr 238)), (206, 58, .inr (.inr 237)), (206, 57, .inr (.inr 236)), (206, 56, .inl (11)), (206, 54, .inr (.inr 235)), (206, 43, .inr (.inr 234)), (206, 42, .inr (.inr 233)), (206, 41, .inr (.inr 230)), (230, 6, .inr (.inr 232)), (230, 5, .inr (.inr 231)), (206, 40, .inr (.inr 229)), (206, 32, .inr (.inr 228)), (206, 31, .inr (.inr 227)), (206, 30, .inr (.inr 226)), (206, 29, .inr (.inr 225)), (206, 28, .inr (.inr 224)), (206, 27, .inr (.inr 223)), (206, 26, .inr (.inr 222)), (206, 25, .inr (.inr 221)), (206, 24, .inr (.inr 220)), (206, 23, .inr (.inr 219)), (206, 22, .inr (.inr 218))]
def rf_us3 : List rf_U := [(206, 21, .inr (.inr 217)), (206, 20, .inr (.inr 216)), (206, 19, .inr (.inr 215)), (206, 14, .inr (.inr 214)), (206, 13, .inr (.inr 213)), (206, 12, .inr (.inr 212)), (206, 11, .inr (.inr 211)), (206, 10, .inr (.inr 210)), (206, 9, .inr (.inr 209)), (206, 8, .inr (.inr 208)), (206, 7, .inr (.inr 207)), (206, 2, .inl (-1)), (0, 9, .inr (.inr 205)), (0, 8, .inr (.inr 193)), (193, 2, .inr (.inr 26)), (193, 14, .inr (.inr 204)), (193, 13, .inr (.inr 203)), (193, 12, .inr (.inr 202)), (193, 10, .inr (.inr 201)), (193, 9, .inr (.inr 200)), (193, 8, .inr (.inr 199)), (193, 7, .inr (.inr 198)), (193, 6, .inr (.inr 197)), (193, 5, .inr (.inr 196)), (193, 4, .inr (.inr 195)), (193, 3, .inr (.inr 194)), (0, 7, .inr (.inr 184)), (184, 5, .inr (.inr 50)), (184, 4, .inr (.inr 26)), (184, 13, .inr (.inr 192))]
def rf_us4 : List rf_U := [(184, 12, .inr (.inr 191)), (184, 11, .inr (.inr 190)), (184, 10, .inr (.inr 189)), (184, 9, .inr (.inr 188)), (184, 7, .inr (.inr 187)), (184, 6, .inr (.inr 186)), (184, 0, .inr (.inr 185)), (0, 6, .inr (.inr 175)), (175, 6, .inr (.inr 41)), (175, 5, .inr (.inr 50)), (175, 4, .inr (.inr 26)), (175, 19, .inr (.inr 183)), (175, 14, .inr (.inr 182)), (175, 13, .inr (.inr 181)), (175, 11, .inr (.inr 180)), (175, 10, .inr (.inr 179)), (175, 9, .inr (.inr 178)), (175, 7, .inr (.inr 177)), (175, 3, .inl (-1)), (175, 2, .inl (-1)), (175, 0, .inr (.inr 176)), (0, 5, .inr (.inr 55)), (62, 5, .inr (.inr 173)), (173, 2, .inr (.inr 174)), (62, 4, .inr (.inr 171)), (171, 2, .inr (.inr 172)), (62, 3, .inr (.inr 169)), (169, 2, .inr (.inr 170)), (62, 2, .inr (.inr 167)), (167, 2, .inr (.inr 168))]
def rf_us5 : List rf_U := [(62, 1, .inr (.inr 165)), (165, 2, .inr (.inr 166)), (62, 0, .inr (.inr 163)), (163, 2, .inr (.inr 164)), (61, 41, .inr (.inr 161)), (161, 2, .inr (.inr 162)), (61, 40, .inr (.inr 159)), (159, 2, .inr (.inr 160)), (61, 39, .inr (.inr 157)), (157, 2, .inr (.inr 158)), (61, 38, .inr (.inr 155)), (155, 2, .inr (.inr 156)), (61, 37, .inr (.inr 153)), (153, 2, .inr (.inr 154)), (61, 36, .inr (.inr 151)), (151, 2, .inr (.inr 152)), (61, 35, .inr (.inr 149)), (149, 2, .inr (.inr 150)), (61, 34, .inr (.inr 147)), (147, 2, .inr (.inr 148)), (61, 33, .inr (.inr 145)), (145, 2, .inr (.inr 146)), (61, 32, .inr (.inr 143)), (143, 2, .inr (.inr 144)), (61, 31, .inr (.inr 141)), (141, 2, .inr (.inr 142)), (61, 30, .inr (.inr 139)), (139, 2, .inr (.inr 140)), (61, 29, .inr (.inr 137)), (137, 2, .inr (.inr 138))]
def rf_us6 : List rf_U := [(61, 28, .inr (.inr 135)), (135, 2, .inr (.inr 136)), (61, 27, .inr (.inr 133)), (133, 2, .inr (.inr 134)), (61, 26, .inr (.inr 131)), (131, 2, .inr (.inr 132)), (61, 25, .inr (.inr 129)), (129, 2, .inr (.inr 130)), (61, 24, .inr (.inr 127)), (127, 2, .inr (.inr 128)), (61, 23, .inr (.inr 125)), (125, 2, .inr (.inr 126)), (61, 22, .inr (.inr 123)), (123, 2, .inr (.inr 124)), (61, 21, .inr (.inr 121)), (121, 2, .inr (.inr 122)), (61, 20, .inr (.inr 119)), (119, 2, .inr (.inr 120)), (61, 19, .inr (.inr 117)), (117, 2, .inr (.inr 118)), (61, 18, .inr (.inr 115)), (115, 2, .inr (.inr 116)), (61, 17, .inr (.inr 113)), (113, 2, .inr (.inr 114)), (61, 16, .inr (.inr 111)), (111, 2, .inr (.inr 112)), (61, 15, .inr (.inr 109)), (109, 2, .inr (.inr 110)), (61, 14, .inr (.inr 107)), (107, 2, .inr (.inr 108))]
def rf_us7 : List rf_U := [(61, 13, .inr (.inr 105)), (105, 2, .inr (.inr 106)), (61, 12, .inr (.inr 103)), (103, 2, .inr (.inr 104)), (61, 11, .inr (.inr 101)), (101, 2, .inr (.inr 102)), (61, 10, .inr (.inr 99)), (99, 2, .inr (.inr 100)), (61, 9, .inr (.inr 97)), (97, 2, .inr (.inr 98)), (61, 8, .inr (.inr 95)), (95, 2, .inr (.inr 96)), (61, 7, .inr (.inr 93)), (93, 2, .inr (.inr 94)), (61, 6, .inr (.inr 91)), (91, 2, .inr (.inr 92)), (61, 5, .inr (.inr 89)), (89, 2, .inr (.inr 90)), (61, 4, .inr (.inr 87)), (87, 2, .inr (.inr 88)), (61, 3, .inr (.inr 85)), (85, 2, .inr (.inr 86)), (61, 2, .inr (.inr 83)), (83, 2, .inr (.inr 84)), (61, 1, .inr (.inr 81)), (81, 2, .inr (.inr 82)), (61, 0, .inr (.inr 79)), (79, 2, .inr (.inr 80)), (55, 2, .inr (.inr 50)), (55, 1, .inr (.inr 26))]
def rf_us8 : List rf_U := [(55, 18, .inr (.inr 77)), (77, 2, .inr (.inr 78)), (55, 17, .inr (.inr 75)), (75, 2, .inr (.inr 76)), (55, 16, .inr (.inr 73)), (73, 2, .inr (.inr 74)), (55, 15, .inr (.inr 71)), (71, 2, .inr (.inr 72)), (55, 14, .inr (.inr 69)), (69, 2, .inr (.inr 70)), (55, 13, .inr (.inr 67)), (67, 2, .inr (.inr 68)), (55, 12, .inr (.inr 65)), (65, 2, .inr (.inr 66)), (55, 11, .inr (.inr 63)), (63, 2, .inr (.inr 64)), (55, 10, .inr (.inr 62)), (55, 9, .inr (.inr 61)), (55, 7, .inr (.inr 60)), (55, 6, .inr (.inr 59)), (55, 5, .inr (.inr 58)), (55, 4, .inr (.inr 57)), (55, 3, .inr (.inr 56)), (55, 0, .inr (.inl (-9223372036854775808))), (0, 4, .inr (.inr 50)), (50, 2, .inr (.inr 26)), (50, 6, .inr (.inr 54)), (50, 5, .inr (.inr 53)), (50, 4, .inr (.inr 52)), (50, 3, .inr (.inr 51))]
def rf_us9 : List rf_U := [(0, 3, .inr (.inr 41)), (41, 10, .inr (.inr 49)), (41, 9, .inr (.inr 48)), (41, 8, .inr (.inr 47)), (41, 7, .inr (.inr 46)), (41, 6, .inr (.inr 45)), (41, 5, .inr (.inr 44)), (41, 4, .inr (.inr 43)), (41, 2, .inl (11)), (41, 0, .inr (.inr 42)), (0, 2, .inr (.inr 26)), (26, 8, .inr (.inr 13)), (26, 18, .inr (.inr 40)), (26, 16, .inr (.inr 39)), (26, 15, .inr (.inr 38)), (26, 14, .inr (.inr 37)), (26, 13, .inr (.inr 36)), (26, 12, .inr (.inr 35)), (26, 11, .inr (.inr 34)), (26, 10, .inr (.inr 33)), (26, 9, .inr (.inr 32)), (26, 4, .inr (.inr 31)), (26, 3, .inr (.inr 30)), (26, 2, .inr (.inr 29)), (26, 1, .inr (.inr 28)), (26, 0, .inr (.inr 27)), (0, 1, .inr (.inr 13)), (13, 10, .inr (.inr 25)), (13, 9, .inr (.inr 24)), (13, 8, .inr (.inr 23))]
def rf_us10 : List rf_U := [(13, 7, .inr (.inr 22)), (13, 6, .inr (.inr 21)), (13, 5, .inr (.inr 20)), (13, 4, .inr (.inr 19)), (13, 1, .inr (.inr 18)), (13, 0, .inr (.inr 14)), (14, 17, .inr (.inr 17)), (14, 1, .inr (.inr 16)), (14, 0, .inr (.inr 15)), (0, 0, .inr (.inr 1)), (1, 14, .inr (.inr 12)), (1, 13, .inr (.inr 11)), (1, 11, .inr (.inr 10)), (1, 10, .inr (.inr 9)), (1, 8, .inr (.inr 8)), (1, 7, .inr (.inr 7)), (1, 6, .inr (.inr 6)), (1, 3, .inr (.inr 5)), (1, 2, .inr (.inr 4)), (1, 1, .inr (.inr 3)), (1, 0, .inr (.inr 2))]
def rf_us : List rf_U := rf_us0 ++ (rf_us1 ++ (rf_us2 ++ (rf_us3 ++ (rf_us4 ++ (rf_us5 ++ (rf_us6 ++ (rf_us7 ++ (rf_us8 ++ (rf_us9 ++ (rf_us10))))))))))
def rf_M0 : rf_M := mi_X14_init_207 (mi_X11_init_1 rf_Mz)
set_option maxRecDepth 100000 in
theorem rf_M0_lg : rf_M0 = rf_lg rf_us := rfl
/-- the fresh memory -/
def rf_m0 : rf_m := (rf_li rf_us, rf_ll rf_us)
def rf_lok (k : Nat) : Bool := (rf_lf k rf_us).all (fun q => Nat.ble (q.1 + 1) 148) && (List.range 148).all (fun i => decide (rf_Rt rf_w0 k i = rf_l1 (rf_lf k rf_us) i))
set_option maxRecDepth 100000 in
theorem rf_lok0 : (List.range 34).all (fun k => rf_lok (0 + k)) = true := by decide +kernel
set_option maxRecDepth 100000 in
theorem rf_lok34 : (List.range 34).all (fun k => rf_lok (34 + k)) = true := by decide +kernel
set_option maxRecDepth 100000 in
theorem rf_lok68 : (List.range 34).all (fun k => rf_lok (68 + k)) = true := by decide +kernel
set_option maxRecDepth 100000 in
theorem rf_lok102 : (List.range 34).all (fun k => rf_lok (102 + k)) = true := by decide +kernel
set_option maxRecDepth 100000 in
theorem rf_lok136 : (List.range 34).all (fun k => rf_lok (136 + k)) = true := by decide +kernel
set_option maxRecDepth 100000 in
theorem rf_lok170 : (List.range 34).all (fun k => rf_lok (170 + k)) = true := by decide +kernel
set_option maxRecDepth 100000 in
theorem rf_lok204 : (List.range 34).all (fun k => rf_lok (204 + k)) = true := by decide +kernel
set_option maxRecDepth 100000 in
theorem rf_lok238 : (List.range 34).all (fun k => rf_lok (238 + k)) = true := by decide +kernel
set_option maxRecDepth 100000 in
theorem rf_lok272 : (List.range 34).all (fun k => rf_lok (272 + k)) = true := by decide +kernel
theorem rf_lok_all {k : Nat} (h : k < 306) : rf_lok k = true := by
  by_cases h0 : k < 34
  · have h9 := List.all_eq_true.mp rf_lok0 (k - 0) (List.mem_range.mpr (by omega))
    rw [show 0 + (k - 0) = k by omega] at h9
    exact h9
  by_cases h34 : k < 68
  · have h9 := List.all_eq_true.mp rf_lok34 (k - 34) (List.mem_range.mpr (by omega))
    rw [show 34 + (k - 34) = k by omega] at h9
    exact h9
  by_cases h68 : k < 102
  · have h9 := List.all_eq_true.mp rf_lok68 (k - 68) (List.mem_range.mpr (by omega))
    rw [show 68 + (k - 68) = k by omega] at h9
    exact h9
  by_cases h102 : k < 136
  · have h9 := List.all_eq_true.mp rf_lok102 (k - 102) (List.mem_range.mpr (by omega))
    rw [show 102 + (k - 102) = k by omega] at h9
    exact h9
  by_cases h136 : k < 170
  · have h9 := List.all_eq_true.mp rf_lok136 (k - 136) (List.mem_range.mpr (by omega))
    rw [show 136 + (k - 136) = k by omega] at h9
    exact h9
  by_cases h170 : k < 204
  · have h9 := List.all_eq_true.mp rf_lok170 (k - 170) (List.mem_range.mpr (by omega))
    rw [show 170 + (k - 170) = k by omega] at h9
    exact h9
  by_cases h204 : k < 238
  · have h9 := List.all_eq_true.mp rf_lok204 (k - 204) (List.mem_range.mpr (by omega))
    rw [show 204 + (k - 204) = k by omega] at h9
    exact h9
  by_cases h238 : k < 272
  · have h9 := List.all_eq_true.mp rf_lok238 (k - 238) (List.mem_range.mpr (by omega))
    rw [show 238 + (k - 238) = k by omega] at h9
    exact h9
  have h9 := List.all_eq_true.mp rf_lok272 (k - 272) (List.mem_range.mpr (by omega))
  rw [show 272 + (k - 272) = k by omega] at h9
  exact h9
theorem rf_Rt_big {k i : Nat} (hk : k < 306) (hi : 148 ≤ i) : rf_Rt rf_w0 k i = none := by
  obtain ⟨z, rfl⟩ : ∃ z, i = z + 148 := ⟨i - 148, by omega⟩
  by_cases h6 : k = 206
  · subst h6; rfl
  · by_cases h9 : k = 229
    · subst h9; rfl
    · exact (rf_RPs k hk h6 h9).2 rf_w0 z
theorem rf_M0_ag : rf_Ag 306 rf_M0 (rf_MM rf_w0 rf_m0) := by
  intro k hk i
  rw [rf_M0_lg, rf_lg_i, rf_lg_l, rf_lg_r, rf_lk_f]
  refine ⟨rfl, rfl, ?_⟩
  have h := rf_lok_all hk
  unfold rf_lok at h
  rw [Bool.and_eq_true] at h
  show rf_Rt rf_w0 k i = _
  by_cases hi : i < 148
  · exact of_decide_eq_true (List.all_eq_true.mp h.2 i (List.mem_range.mpr hi))
  · rw [rf_l1_none h.1 (by omega)]
    exact rf_Rt_big hk (by omega)
/-! the words at the entry -/
def rf_nw : List Cond := flatC (Cond.and given_1 narrow_1)
def rf_stW (own : String) (k : Nat) (bs : List Int32) : List Cond := .exactly (.string own k) "java/lang/String" :: .eq (.field (.string own k) "java/lang/String" "coder" "B") (.int 0) :: .arrayOf (.field (.string own k) "java/lang/String" "value" "[B") .byte :: .eq (.length (.field (.string own k) "java/lang/String" "value" "[B")) (.int (Int32.ofNat bs.length)) :: (List.range bs.length).map (fun j => .eq (.elem (.field (.string own k) "java/lang/String" "value" "[B") (.int (Int32.ofNat j))) (.int (bs.getD j 0)))
def rf_sp : List Nat := [75, 87, 97, 107, 116, 125, 134, 140, 147, 153, 160, 167, 175, 184, 193, 203, 211, 217, 224, 232, 239, 247, 258, 269, 279, 289, 299, 307, 316, 326, 336, 347, 356]
def rf_sW (i : Nat) : List Cond := match rf_str[i]? with
  | some q => rf_stW (rf_own q.1) q.2.1 (rf_sb.getD i [])
  | none => []
set_option maxRecDepth 100000 in
theorem rf_sWok : (List.range 33).all (fun i => decide (rf_sW i = ((rf_nw.drop (rf_sp.getD i 0)).take (rf_sW i).length))) = true := by decide +kernel
theorem rf_sW_in {i : Nat} (hi : i < 33) : ∀ w ∈ rf_sW i, w ∈ rf_nw := by
  intro w hw
  have h := of_decide_eq_true (List.all_eq_true.mp rf_sWok i (List.mem_range.mpr hi))
  rw [h] at hw
  exact List.mem_of_mem_drop (List.mem_of_mem_take hw)
set_option maxRecDepth 20000 in
theorem rf_sref : ∀ q ∈ rf_str, Cond.stringRef (rf_own q.1) q.2.1 q.2.2 ∈ lw_tbl := List.forall_mem_cons.mpr ⟨wi_e 5 44 rfl, List.forall_mem_cons.mpr ⟨wi_e 5 139 rfl, List.forall_mem_cons.mpr ⟨wi_e 5 165 rfl, List.forall_mem_cons.mpr ⟨wi_e 5 166 rfl, List.forall_mem_cons.mpr ⟨wi_e 5 167 rfl, List.forall_mem_cons.mpr ⟨wi_e 5 168 rfl, List.forall_mem_cons.mpr ⟨wi_e 5 173 rfl, List.forall_mem_cons.mpr ⟨wi_e 5 174 rfl, List.forall_mem_cons.mpr ⟨wi_e 5 175 rfl, List.forall_mem_cons.mpr ⟨wi_e 5 176 rfl, List.forall_mem_cons.mpr ⟨wi_e 5 209 rfl, List.forall_mem_cons.mpr ⟨wi_e 5 210 rfl, List.forall_mem_cons.mpr ⟨wi_e 5 211 rfl, List.forall_mem_cons.mpr ⟨wi_e 5 212 rfl, List.forall_mem_cons.mpr ⟨wi_e 5 213 rfl, List.forall_mem_cons.mpr ⟨wi_e 5 214 rfl, List.forall_mem_cons.mpr ⟨wi_e 5 215 rfl, List.forall_mem_cons.mpr ⟨wi_e 12 88 rfl, List.forall_mem_cons.mpr ⟨wi_e 12 98 rfl, List.forall_mem_cons.mpr ⟨wi_e 12 99 rfl, List.forall_mem_cons.mpr ⟨wi_e 12 100 rfl, List.forall_mem_cons.mpr ⟨wi_e 12 105 rfl, List.forall_mem_cons.mpr ⟨wi_e 12 106 rfl, List.forall_mem_cons.mpr ⟨wi_e 12 107 rfl, List.forall_mem_cons.mpr ⟨wi_e 12 108 rfl, List.forall_mem_cons.mpr ⟨wi_e 12 109 rfl, List.forall_mem_cons.mpr ⟨wi_e 12 126 rfl, List.forall_mem_cons.mpr ⟨wi_e 12 127 rfl, List.forall_mem_cons.mpr ⟨wi_e 12 128 rfl, List.forall_mem_cons.mpr ⟨wi_e 12 129 rfl, List.forall_mem_cons.mpr ⟨wi_e 12 130 rfl, List.forall_mem_cons.mpr ⟨wi_e 12 131 rfl, List.forall_mem_cons.mpr ⟨wi_e 12 132 rfl, fun _ h => absurd h List.not_mem_nil⟩⟩⟩⟩⟩⟩⟩⟩⟩⟩⟩⟩⟩⟩⟩⟩⟩⟩⟩⟩⟩⟩⟩⟩⟩⟩⟩⟩⟩⟩⟩⟩⟩
theorem rf_sblen : ∀ i, i < 33 → (rf_sb.getD i []).length < 2 ^ 31 := by decide
theorem rf_strOf {args : Array Value} {s : State} {A : Nat → Prop} (hA : ∀ a : Nat, a < s.heap.size → ¬ A a) (hts : ∀ w ∈ lw_tbl, w.before args s = true) (hs : ∀ w ∈ rf_nw, w.before args s = true) (i : Nat) : ∃ t : Nat × Nat, ∀ q, rf_str[i]? = some q → vk_R (rf_own q.1) q.2.1 q.2.2 t.1 s ∧ va_O "java/lang/String" t.1 A s s.heap ∧ va_OF "java/lang/String" "coder" "B" (.int 0) t.1 A s s.heap ∧ va_OF "java/lang/String" "value" "[B" (.ref t.2) t.1 A s s.heap ∧ va_T .byte t.2 (rf_sb.getD i []).length (fun j => .int ((rf_sb.getD i []).getD j 0)) A s s.heap := by
  cases hz : rf_str[i]? with
  | none => exact ⟨(0, 0), fun q h => by cases h⟩
  | some z =>
    have hi : i < 33 := (List.getElem?_eq_some_iff.mp hz).1
    have hw : ∀ w ∈ rf_stW (rf_own z.1) z.2.1 (rf_sb.getD i []), w.before args s = true := fun w hw => hs w (rf_sW_in hi w (by unfold rf_sW; rw [hz]; exact hw))
    obtain ⟨a, c, cA, kA, q1, q2, q3, q4, q5, q6, -⟩ := Cond.exactly_spec (args := args) (first := s) (o := none) (s := s) (idx := []) (t := .string (rf_own z.1) z.2.1) (cls := "java/lang/String") (hw _ List.mem_cons_self)
    obtain ⟨t, ht, hT⟩ := va_Tof (ty := .byte) (f := fun j => .int ((rf_sb.getD i []).getD j 0)) (A := A) (rf_sblen i hi) (hw _ (List.mem_cons_of_mem _ (List.mem_cons_of_mem _ List.mem_cons_self))) (va_eqt (hw _ (List.mem_cons_of_mem _ (List.mem_cons_of_mem _ (List.mem_cons_of_mem _ List.mem_cons_self))))) (fun j hj => va_eqt (hw _ (List.mem_cons_of_mem _ (List.mem_cons_of_mem _ (List.mem_cons_of_mem _ (List.mem_cons_of_mem _ (List.mem_map.mpr ⟨j, List.mem_range.mpr hj, rfl⟩))))))) hA
    refine ⟨(a, t), fun q hq => ?_⟩
    obtain rfl := Option.some.inj hq
    exact ⟨vk_R.of (hts _ (rf_sref z (List.mem_of_getElem? hz))) q1, ⟨cA, q3, q5, by rw [q6]; exact q2, hA a (Array.getElem?_eq_some_iff.mp q3).1⟩, vk_OFof q1 (va_eqt (hw _ (List.mem_cons_of_mem _ List.mem_cons_self))) hA, vk_OFof q1 ht hA, hT⟩
set_option maxRecDepth 20000 in
theorem rf_NFw : ∀ e ∈ rf_NF 14, Cond.fieldLinkNest (rf_own 14) e.1 (rf_T e.2.1 e.2.2.1).1 (rf_T e.2.1 e.2.2.1).2.1 (rf_T e.2.1 e.2.2.1).2.2.1 (rf_own e.2.2.2) ∈ lw_tbl := List.forall_mem_cons.mpr ⟨wi_e 9 94 rfl, List.forall_mem_cons.mpr ⟨wi_e 9 140 rfl, List.forall_mem_cons.mpr ⟨wi_e 9 141 rfl, List.forall_mem_cons.mpr ⟨wi_e 9 98 rfl, List.forall_mem_cons.mpr ⟨wi_e 9 99 rfl, List.forall_mem_cons.mpr ⟨wi_e 9 95 rfl, List.forall_mem_cons.mpr ⟨wi_e 9 96 rfl, List.forall_mem_cons.mpr ⟨wi_e 9 101 rfl, List.forall_mem_cons.mpr ⟨wi_e 9 103 rfl, fun _ h => absurd h List.not_mem_nil⟩⟩⟩⟩⟩⟩⟩⟩⟩
set_option maxRecDepth 20000 in
theorem rf_NMw : ∀ e ∈ rf_NM, Cond.methodLinkNest (rf_own e.1) e.2.1 e.2.2.1 (rf_own e.2.2.2) ∈ lw_tbl := List.forall_mem_cons.mpr ⟨wi_e 1 42 rfl, List.forall_mem_cons.mpr ⟨wi_e 1 101 rfl, List.forall_mem_cons.mpr ⟨wi_e 1 107 rfl, List.forall_mem_cons.mpr ⟨wi_e 2 63 rfl, List.forall_mem_cons.mpr ⟨wi_e 2 151 rfl, List.forall_mem_cons.mpr ⟨wi_e 6 65 rfl, List.forall_mem_cons.mpr ⟨wi_e 6 152 rfl, List.forall_mem_cons.mpr ⟨wi_e 7 190 rfl, List.forall_mem_cons.mpr ⟨wi_e 7 196 rfl, List.forall_mem_cons.mpr ⟨wi_e 8 29 rfl, List.forall_mem_cons.mpr ⟨wi_e 9 90 rfl, fun _ h => absurd h List.not_mem_nil⟩⟩⟩⟩⟩⟩⟩⟩⟩⟩⟩
theorem rf_Nof {args : Array Value} {s : State} (hts : ∀ w ∈ lw_tbl, w.before args s = true) : rf_N s := by
  refine ⟨fun o e he => ?_, fun e he => ?_⟩
  · have h14 : ∀ e ∈ rf_NF 14, va_Nw (.fieldLinkNest (rf_own 14) e.1 (rf_T e.2.1 e.2.2.1).1 (rf_T e.2.1 e.2.2.1).2.1 (rf_T e.2.1 e.2.2.1).2.2.1 (rf_own e.2.2.2)) s := fun e he => hts _ (rf_NFw e he)
    by_cases ho : o = 14
    · subst ho
      exact h14 e he
    · unfold rf_NF at he
      split at he
      · exact absurd rfl ho
      · cases he
  · exact hts _ (rf_NMw e he)
theorem rf_Dof {args : Array Value} {s : State} {m : MethodId} (hts : ∀ w ∈ lw_tbl, w.before args s = true) : ∀ c : Nat, ∃ (cC : ClassId) (iS : Nat → Nat), ∀ q, vwCl[c]? = some q → u_Kn s q.1 q.2.1 q.2.2 cC iS
  | 0 => by
    obtain ⟨cC, iS, h⟩ := u_known (C := RX0) (T := TX0) (N := 19) (n := 19) hts wi_wsX00 (hts _ (rf_WS_in _ (rf_mem 1 (by decide +kernel))))
    exact ⟨cC, iS, fun q hq => by obtain rfl := Option.some.inj hq; exact h⟩
  | 1 => by
    obtain ⟨cC, iS, h⟩ := u_known (C := RX1) (T := TX1) (N := 3) (n := 3) hts wi_wsX10 (hts _ (rf_WS_in _ (rf_mem 5 (by decide +kernel))))
    exact ⟨cC, iS, fun q hq => by obtain rfl := Option.some.inj hq; exact h⟩
  | 2 => by
    obtain ⟨cC, iS, h⟩ := u_known (C := RX2) (T := TX2) (N := 14) (n := 14) hts wi_wsX20 (hts _ (rf_WS_in _ (rf_mem 1 (by decide +kernel))))
    exact ⟨cC, iS, fun q hq => by obtain rfl := Option.some.inj hq; exact h⟩
  | 3 => by
    obtain ⟨cC, iS, h⟩ := u_known (C := RX3) (T := TX3) (N := 20) (n := 20) hts wi_wsX30 (hts _ (rf_WS_in _ (rf_mem 0 (by decide +kernel))))
    exact ⟨cC, iS, fun q hq => by obtain rfl := Option.some.inj hq; exact h⟩
  | 4 => by
    obtain ⟨cC, iS, h⟩ := u_known (C := RX4) (T := TX4) (N := 20) (n := 20) hts wi_wsX40 (hts _ (rf_WS_in _ (rf_mem 1 (by decide +kernel))))
    exact ⟨cC, iS, fun q hq => by obtain rfl := Option.some.inj hq; exact h⟩
  | 5 => by
    obtain ⟨cC, iS, h⟩ := u_known (C := RX5) (T := TX5) (N := 15) (n := 15) hts wi_wsX50 (hts _ (rf_WS_in _ (rf_mem 0 (by decide +kernel))))
    exact ⟨cC, iS, fun q hq => by obtain rfl := Option.some.inj hq; exact h⟩
  | 6 => by
    obtain ⟨cC, iS, h⟩ := u_known (C := RX6) (T := TX6) (N := 11) (n := 11) hts wi_wsX60 (hts _ (rf_WS_in _ (rf_mem 1 (by decide +kernel))))
    exact ⟨cC, iS, fun q hq => by obtain rfl := Option.some.inj hq; exact h⟩
  | 7 => by
    obtain ⟨cC, iS, h⟩ := u_known (C := RX7) (T := TX7) (N := 8) (n := 8) hts wi_wsX70 (hts _ (rf_WS_in _ (rf_mem 1 (by decide +kernel))))
    exact ⟨cC, iS, fun q hq => by obtain rfl := Option.some.inj hq; exact h⟩
  | 8 => by
    obtain ⟨cC, iS, h⟩ := u_known (C := RX8) (T := TX8) (N := 19) (n := 19) hts wi_wsX80 (hts _ (rf_WS_in _ (rf_mem 2 (by decide +kernel))))
    exact ⟨cC, iS, fun q hq => by obtain rfl := Option.some.inj hq; exact h⟩
  | 9 => by
    obtain ⟨cC, iS, h⟩ := u_known (C := RX9) (T := TX9) (N := 11) (n := 11) hts wi_wsX90 (hts _ (rf_WS_in _ (rf_mem 0 (by decide +kernel))))
    exact ⟨cC, iS, fun q hq => by obtain rfl := Option.some.inj hq; exact h⟩
  | 10 => by
    obtain ⟨cC, iS, h⟩ := u_known (C := RX10) (T := TX10) (N := 15) (n := 15) hts wi_wsX100 (hts _ (rf_WS_in _ (rf_mem 1 (by decide +kernel))))
    exact ⟨cC, iS, fun q hq => by obtain rfl := Option.some.inj hq; exact h⟩
  | 11 => by
    obtain ⟨cC, iS, h⟩ := u_known (C := RX11) (T := TX11) (N := 14) (n := 14) hts wi_wsX110 (hts _ (rf_WS_in _ (rf_mem 0 (by decide +kernel))))
    exact ⟨cC, iS, fun q hq => by obtain rfl := Option.some.inj hq; exact h⟩
  | 12 => by
    obtain ⟨cC, iS, h⟩ := u_known (C := RX12) (T := TX12) (N := 7) (n := 7) hts wi_wsX120 (hts _ (rf_WS_in _ (rf_mem 9 (by decide +kernel))))
    exact ⟨cC, iS, fun q hq => by obtain rfl := Option.some.inj hq; exact h⟩
  | 13 => by
    obtain ⟨cC, iS, h⟩ := u_known (C := RX13) (T := TX13) (N := 8) (n := 8) hts wi_wsX130 (hts _ (rf_WS_in _ (rf_mem 9 (by decide +kernel))))
    exact ⟨cC, iS, fun q hq => by obtain rfl := Option.some.inj hq; exact h⟩
  | 14 => by
    obtain ⟨cC, iS, h⟩ := u_known (C := RX14) (T := TX14) (N := 148) (n := 148) hts wi_wsX140 (hts _ (rf_WS_in _ (rf_mem 0 (by decide +kernel))))
    exact ⟨cC, iS, fun q hq => by obtain rfl := Option.some.inj hq; exact h⟩
  | _ + 15 => ⟨m.cls, fun _ => 0, fun q hq => by cases hq⟩
theorem rf_zq {C n d : String} {A : Nat → Prop} {s : State} {H : Heap} (h : va_Zq C n d A s H) : ∃ t : Nat, va_Z C n d .null A s H ∨ va_Z C n d (.ref t) A s H := by
  rcases h with h | ⟨t, h⟩
  · exact ⟨0, Or.inl h⟩
  · exact ⟨t, Or.inr h⟩
def rf_adf (b t1 t2 t3 : Nat) (F : Nat → Nat × Nat) (k : Nat) : Nat := if k = 3000000 then b else if k = 3000001 then t1 else if k = 3000002 then t2 else if k = 3000003 then t3 else if 2000000 ≤ k then (F (k - 2000000)).2 else (F (k - 1000000)).1
theorem rf_adf_1 {b t1 t2 t3 : Nat} {F : Nat → Nat × Nat} {i : Nat} (hi : i < 33) : rf_adf b t1 t2 t3 F (1000000 + i) = (F i).1 := by
  unfold rf_adf
  rw [if_neg (by omega), if_neg (by omega), if_neg (by omega), if_neg (by omega), if_neg (by omega), Nat.add_sub_cancel_left]
theorem rf_adf_2 {b t1 t2 t3 : Nat} {F : Nat → Nat × Nat} {i : Nat} (hi : i < 33) : rf_adf b t1 t2 t3 F (2000000 + i) = (F i).2 := by
  unfold rf_adf
  rw [if_neg (by omega), if_neg (by omega), if_neg (by omega), if_neg (by omega), if_pos (by omega), Nat.add_sub_cancel_left]
theorem rf_start_ctx {p : Program} {s : State} {m : MethodId} {meth : Method} {c : Code} {b L : Nat} {xs : Nat → Int32} (C0 : lw_At p s m meth c b L xs) : ∃ (D : va_G) (ad : Nat → Nat), ad 3000000 = b ∧ va_K D vwCl [] s ∧ rf_X ad (fun q => s.heap.size ≤ q) s s.heap ∧ rf_AO ad (fun q => s.heap.size ≤ q) s s.heap ∧ rf_Nx (fun q => s.heap.size ≤ q) s s.heap := by
  obtain ⟨hx, hb, hret, hml, hown, hts, hX, hbl, hlk, hgv⟩ := C0
  have hs : ∀ w ∈ rf_nw, w.before #[Value.ref b] s = true := flat_of_before _ hgv
  have hA : ∀ a : Nat, a < s.heap.size → ¬ (s.heap.size ≤ a) := fun a h => Nat.not_le.mpr h
  have hk := rf_Dof (m := m) hts
  have hF := rf_strOf (A := fun q => s.heap.size ≤ q) hA hts hs
  obtain ⟨t1, z1⟩ := rf_zq (va_Zqof (A := fun q => s.heap.size ≤ q) (hts _ (wi_e 5 97 rfl)) (hts _ (wi_e 1 27 rfl)) (hs _ (List.mem_of_getElem? (i := 5) (by decide +kernel))) hA)
  have u2 := vq_Zqof (A := fun q => s.heap.size ≤ q) (hts _ (wi_e 9 39 rfl)) (hts _ (wi_e 1 15 rfl)) (hs _ (List.mem_of_getElem? (i := 9) (by decide +kernel))) hA
  have u3 := vq_Zqof (A := fun q => s.heap.size ≤ q) (hts _ (wi_e 9 41 rfl)) (hts _ (wi_e 1 15 rfl)) (hs _ (List.mem_of_getElem? (i := 10) (by decide +kernel))) hA
  obtain ⟨t2, z2⟩ := rf_zq u2.1
  obtain ⟨t3, z3⟩ := rf_zq u3.1
  have zc := va_Zof (A := fun q => s.heap.size ≤ q) (hts _ (wi_e 5 58 rfl)) (hts _ (wi_e 1 24 rfl)) (va_eqt (z := 1) (hs _ (List.mem_of_getElem? (i := 4) (by decide +kernel)))) hA
  refine ⟨(fun c => (hk c).choose, fun c => (hk c).choose_spec.choose), rf_adf b t1 t2 t3 (fun i => (hF i).choose), rfl, ⟨fun c q hq => (hk c).choose_spec.choose_spec q hq, fun k q h => by cases h⟩, ⟨⟨rf_Nof hts, zc, z1⟩, fun i q hq => ?_⟩, ⟨hts _ (wi_e 2 149 rfl), hts _ (wi_e 9 88 rfl), z2, z3⟩, ⟨u2, u3, fun w hw a => ?_⟩⟩
  · have hi : i < 33 := (List.getElem?_eq_some_iff.mp hq).1
    have h := (hF i).choose_spec q hq
    rw [rf_adf_1 hi, rf_adf_2 hi]
    exact h
  · rcases rf_exbi w hw with e | e | e | e
    · rw [e]; exact rf_cast_w (s := s) (U := s) (hts _ (wi_e 9 14 rfl)) (Vm.Alike.refl _)
    · rw [e]; exact rf_decl_w (s := s) (U := s) (hts _ (wi_e 9 15 rfl)) (Vm.Alike.refl _)
    · rw [e]; exact rf_decl_w (s := s) (U := s) (hts _ (wi_e 9 17 rfl)) (Vm.Alike.refl _)
    · rw [e]; exact rf_decl_w (s := s) (U := s) (hts _ (wi_e 9 19 rfl)) (Vm.Alike.refl _)
theorem rf_shn306 : rf_shn 306 = rf_sh rf_w0 := rfl
theorem rf_w0_ok : rf_wok rf_w0 := by
  refine ⟨⟨Nat.le_refl _, by decide⟩, fun k hk => ⟨fun h => (by cases h), fun h => ?_⟩, fun i j h => ?_, fun k hk h => (by cases h)⟩
  · have h : k < 306 := h
    omega
  · have h : (bif Nat.beq i 0 then some 230 else bif Nat.beq i 1 then some 225 else none) = some j := h
    show j < 306
    cases h0 : Nat.beq i 0 with
    | true => rw [h0] at h; simp only [cond_true, Option.some.injEq] at h; omega
    | false =>
      rw [h0] at h
      cases h1 : Nat.beq i 1 with
      | true => rw [h1] at h; simp only [cond_true, cond_false, Option.some.injEq] at h; omega
      | false => rw [h1] at h; cases h
theorem rf_Mz_F : rf_F 0 rf_Mz := ⟨fun k i j h => (by cases h), fun k i _ => ⟨rfl, rfl, rfl⟩⟩
theorem rf_M0_F {M : rf_M} (hF : rf_F 207 M) : rf_F 305 (mi_X14_init_207 M) := (fj_X14_init_207_12 (fj_X14_init_207_11 (fj_X14_init_207_10 (fj_X14_init_207_9 (fj_X14_init_207_8 (fj_X14_init_207_7 (fj_X14_init_207_6 (fj_X14_init_207_5 (fj_X14_init_207_4 (fj_X14_init_207_3 (fj_X14_init_207_2 (fj_X14_init_207_1 (fj_X14_init_207_0 hF)))))))))))))
theorem rf_law0 {b L : Nat} {xs : Nat → Int32} (hL : L ≤ 5120) {r : rf_w × rf_m} (hrun : lawRun xs (L / 10) 0 rf_w0 rf_m0 = some r) {K0 : rf_K} (B : rf_B 32 code 7 300 601024 7293034 0 K0 0 K0) (hLK : ∀ K, rf_Ext K0 K 0 → rf_LK b L xs K ∧ rf_LQ b K) : rf_V 7 (rf_shn 0) K0 0 0 0 ([(0, .ref 3000000)], [], rf_Mz) := by
  have hF := rf_Mz_F
  refine rf_bnew (idx := 8) B hF (by decide) 11 rfl (by decide) (by decide +kernel) rfl rfl (rf_mem 0 (by decide +kernel)) (rf_mem 0 (by decide +kernel)) (rf_mem 0 (by decide +kernel)) (by decide) (by decide) (by decide +kernel) (fun K B hF => ?_)
  refine rf_seg B.1 [(.dup, 1)] (pc' := 4) (S' := ([(0, .ref 3000000)], [.ref 0, .ref 0], rf_Mz)) (by decide +kernel) rfl trivial ?_
  refine rf_bcall (idx := 15) B j_X11_init (As := []) (rest := [.ref 0]) mwi_X11_init (ci_X11_init_1 hF) (by decide) (by decide) (rf_mem 0 (by decide +kernel)) rfl rfl (Nat.le_of_ble_eq_true rfl) rfl rfl (by decide) (by decide) (by decide +kernel) (fun K B => ?_)
  have hF := fi_X11_init_1 hF
  refine rf_seg B.1 [(.astore 1, 1)] (pc' := 8) (S' := ([(1, .ref 0), (0, .ref 3000000)], [], mi_X11_init_1 rf_Mz)) (by decide +kernel) rfl trivial ?_
  refine rf_bnew (idx := 16) B hF (by decide) 14 rfl (by decide) (by decide +kernel) rfl rfl (rf_mem 0 (by decide +kernel)) (rf_mem 0 (by decide +kernel)) (rf_mem 0 (by decide +kernel)) (by decide) (by decide) (by decide +kernel) (fun K B hF => ?_)
  refine rf_seg B.1 [(.dup, 1)] (pc' := 12) (S' := ([(1, .ref 0), (0, .ref 3000000)], [.ref 206, .ref 206], mi_X11_init_1 rf_Mz)) (by decide +kernel) rfl trivial ?_
  refine rf_bcall (idx := 18) B j_X14_init (As := []) (rest := [.ref 206]) mwi_X14_init (ci_X14_init_207 hF) (by decide) (by decide) (rf_mem 8 (by decide +kernel)) rfl rfl (Nat.le_of_ble_eq_true rfl) rfl rfl (by decide) (by decide) (by decide +kernel) (fun K B => ?_)
  have hF := rf_M0_F hF
  refine rf_seg B.1 [(.astore 2, 1), (.iconst 1, 1)] (pc' := 17) (S' := ([(2, .ref 206), (1, .ref 0), (0, .ref 3000000)], [.int 1], rf_M0)) (by decide +kernel) rfl trivial ?_
  refine rf_bnewa B hF (by decide) .long 1 rfl .long rfl (Or.inr (Or.inl rfl)) (by decide) rfl (by decide) rfl rfl (rf_mem 0 (by decide +kernel)) (by decide) (by decide) (by decide +kernel) (fun K B hF => ?_)
  refine rf_seg B.1 [(.astore 3, 1), (.iconst 0, 1), (.istore 4, 2)] (pc' := 23) (S' := ([(4, .int 0), (3, .ref 305), (2, .ref 206), (1, .ref 0), (0, .ref 3000000)], [], rf_M0)) (by decide +kernel) rfl trivial ?_
  refine rf_few [4, 3, 2, 1, 0] rfl ?_
  refine rf_V_ag rf_M0_ag ?_
  have hK := hLK K B.2.2.2.2.1
  have BL : rf_LB b L xs 601024 7293034 rf_w0 K := ⟨⟨rf_shn306 ▸ B.1, B.2.2.1, B.2.2.2.1⟩, rf_w0_ok, hK.1, hK.2⟩
  exact law_loop hL (L / 10) 0 rf_w0 rf_m0 K _ _ r (by omega) (by omega) (by show 0 + 1 + 205 + 1 + 98 + 1 + 3 * (L / 10) ≤ 601024; omega) (by show 0 + 14 + 31645 + 148 + 322040 + 1 + 3072 * (L / 10) ≤ 7293034; omega) BL hrun
/-- from the entry, for every script of at most 5120 ints, the law comes to its end with true, if its calls' functions say so -/
theorem rf_whole_start {p : Program} {e : Env} {s : State} {m : MethodId} {below : List Frame} {meth : Method} {c : Code} (l : Launch) {b L : Nat} {xs : Nat → Int32} (hst : l.stackTraces = false) (hL : L ≤ 5120) {r : rf_w × rf_m} (hrun : lawRun xs (L / 10) 0 rf_w0 rf_m0 = some r) (C0 : lw_At p s m meth c b L xs) : W p l e room_1 s m #[Value.ref b] below meth c s.heap [] 0 0 (lw_Z below #[Value.ref b] s) (entryFrame m ([Value.ref b] : List Value).toArray 7) := by
  obtain ⟨D, ad, h1, h2, h3, h4, h5⟩ := rf_start_ctx C0
  obtain ⟨hx, hb, hret, hml, hown, hts, hX, hbl, hlk, hgv⟩ := C0
  have hA : ∀ q, s.heap.size ≤ q ↔ rf_A ad 0 s.heap.size q := fun q => ⟨fun h => Or.inr h, fun h => by
    rcases h with ⟨k, hk, -⟩ | h
    · exact absurd hk (Nat.not_lt_zero k)
    · exact h⟩
  have hV := rf_law0 (b := b) hL hrun (K0 := (p, l, e, room_1, s, m, #[Value.ref b], below, meth, c, D, ad, fun _ => m.cls, fun q => s.heap.size ≤ q, lw_Z below #[Value.ref b] s))
    ⟨⟨hx, hb, hml, hown, fun w hw => hts w (rf_WS_in w hw), h2, fun k t n h => absurd (rf_shn_of h).1 (Nat.not_lt_zero k), hA, hlk, h3, by decide, by decide, rf_shn_wf 0⟩, Or.inl rfl, h4, ⟨Nat.le_refl _, Nat.le_refl _⟩, rf_Ext_refl _ _, Nat.le_refl _⟩
    (by
      rintro K ⟨ad', cad', rfl, hag⟩
      exact ⟨⟨(hag 3000000 (Or.inr (by decide))).1.trans h1, hX, hbl, ⟨fun h => Nat.not_le.mpr hbl h, fun q h => h⟩, hst, h5⟩, rfl, rfl, hret, s, s.drawn, rfl, Drawn.sameBut.refl s.drawn lw_cs, rfl⟩)
  have hl := lv_entry ([Value.ref 3000000].map (rf_cv ad)) (n := 7) (by show 1 ≤ 7; decide)
  rw [rf_lc_args] at hl
  have e1 : ([Value.ref 3000000].map (rf_cv ad)) = [Value.ref b] := by
    show [Value.ref (ad 3000000)] = _
    rw [h1]
  rw [e1] at hl
  rw [lg_entry_eq]
  exact hV s.heap [] _ (fun k q h => by have h : ([] : va_W)[k]? = some q := h; simp at h) ⟨fun i j p q h => by have h : ([] : va_W)[i]? = some p := h; simp at h, fun k q h => by have h : ([] : va_W)[k]? = some q := h; simp at h⟩ va_S.rf hl
end RFStart
