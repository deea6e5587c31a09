/-! the constructor of GreatArcModel$Stop: RuntimeException, Exception, Throwable with four arguments -/
section RFP
variable {o nL d : Nat} {cc : ByteArray} {sh : rf_Sh} {cells slots pc : Nat} {K : rf_K} {lv : rf_L} {st : List Value} {M : rf_M}
/-- a field of references is written, by a reference or by null -/
theorem rf_pr (C : rf_Ctx o cc nL d sh K) (ci f : Nat) {a : Nat} (x : Option Nat) {v : Value} (hv : v = va_rf x) (ha : rf_at sh a = some (.inr ci)) (hk : rf_kd (rf_ft ci f) = 2) (hfin : (rf_T ci f).2.2.2 = false) {idx : Nat} (hlnk : (rf_FL o).any (fun e => e.1 == idx && e.2.1 == ci && e.2.2.1 == f) = true) (hd : decode cc pc = .ok (.putfield idx, 3))
    (k : rf_V nL sh K cells slots (pc + 3) (lv, st, rf_uR M a f x)) : rf_V nL sh K cells slots pc (lv, v :: .ref a :: st, M) := by
  subst hv
  obtain ⟨p, l, e, R, s, m, args, below, meth, c, D, ad, cad, A, Q⟩ := K
  obtain ⟨hx, hb, hml, hown, hts, hK, hT0, hA, hlk, hXs, hdf, hdl, hwf⟩ := C
  intro H locs ls hPw hD hS hl
  obtain ⟨h15, hf, hlk0⟩ := rf_FL_of hlnk
  have hnar : narrow (rf_ft ci f) (rf_cv ad (va_rf x)) = rf_cv ad (va_rf x) := by cases x <;> cases rf_ft ci f <;> rfl
  have hfit : fits (rf_ft ci f) (rf_cv ad (va_rf x)) = true := by
    cases x <;> cases h : rf_ft ci f <;> rw [h] at hk <;> first | rfl | (exact absurd hk (by decide))
  have e : (rf_ws ad cad sh M).set a (ad a, .inr (ci, ((List.range (rf_fn ci)).map (fun i => rf_cv ad (rf_rd M (rf_ft ci i) a i))).set f (rf_cv ad (va_rf x)))) = rf_ws ad cad sh (rf_uR M a f x) := rf_ws_set hwf ha (rf_cell_put (v := rf_cv ad (va_rf x)) (by rw [rf_rd_uR hk]) (fun i hi => rf_rd_uR_ne hi)) rf_uR_ne
  exact va_put (C := rf_R ci) (T := rf_T ci) (N := rf_fn ci) (ty := rf_ft ci f) hx hb hts (rf_wsin ci h15) (rf_ft ci) (rf_tyok ci h15) (rf_nmok ci h15) hown hK hPw hD hS a (rf_ws_at hwf ha) (rf_cl ci h15) f hf (hts _ hlk0) (fun _ h => h) hfin (rf_tyok ci h15 f hf) (v := rf_cv ad (va_rf x)) hnar hfit (by simpa using hf) hd (fun H1 locs1 g1 g2 g3 => k H1 locs1 ls (e ▸ g1) (e ▸ g2) g3 hl)
theorem rf_aldn (C : rf_Ctx o cc nL d sh K) {n : Fin 4} {i : Nat} (hi : (n : Nat) = i) (hg : rf_get lv i = some .null) (hd : decode cc pc = .ok (.aload_n n, 1)) (k : rf_V nL sh K cells slots (pc + 1) (lv, .null :: st, M)) : rf_V nL sh K cells slots pc (lv, st, M) := by
  subst hi
  obtain ⟨p, l, e, R, s, m, args, below, meth, c, D, ad, cad, A, Q⟩ := K
  obtain ⟨hexec, hb, hml, hown, hts, hK, hT0, hA, hlk, hXs, hdf, hdl, hwf⟩ := C
  intro H locs ls hPw hD hS hl
  have hl0 : ls[(n : Nat)]? = some (.val .null) := rf_get_has hl hg
  have k9 : W p l e R s m args below meth c H locs cells slots Q (F0 m (pc + 1) ls (.null :: st.map (rf_cv ad))) := k H locs ls hPw hD hS hl
  show W p l e R s m args below meth c H locs cells slots Q (F0 m pc ls (st.map (rf_cv ad)))
  intro T hT X
  obtain ⟨t, a, b⟩ := k9 T hT X
  refine ⟨t, ?_, b⟩
  jvm_step X.here [X.here.top, hexec, hb, hd, hl0, Value.isRef]
  exact a
def rf_Kz (K : rf_K) (kk : Nat) (C0 nm ds : String) : Prop := match K with
  | (_, _, _, _, s, _, _, _, _, _, _, ad, _, A, _) => rf_Zr ad kk C0 nm ds A s s.heap
theorem rf_gz (C : rf_Ctx o cc nL d sh K) (kk : Nat) {C0 nm ds : String} (hz : rf_Kz K kk C0 nm ds) {idx : Nat} (hlink : Cond.fieldLink (rf_own o) idx C0 nm ds ∈ rf_WS) (hd : decode cc pc = .ok (.getstatic idx, 3)) (k : ∀ x : Option Nat, rf_V nL sh K cells slots (pc + 3) (lv, va_rf x :: st, M)) : rf_V nL sh K cells slots pc (lv, st, M) := by
  obtain ⟨p, l, e, R, s, m, args, below, meth, c, D, ad, cad, A, Q⟩ := K
  obtain ⟨hx, hb, hml, hown, hts, hK, hT, hA, hlk, hXs, hdf, hdl, hwf⟩ := C
  intro H locs ls hPw hD hS hl
  rcases hz with hz | hz
  · exact va_gets hx hb hz hS hown (hts _ hlink) (fun _ h => h) hd (k none H locs ls hPw hD hS hl)
  · exact va_gets hx hb hz hS hown (hts _ hlink) (fun _ h => h) hd (k (some kk) H locs ls hPw hD hS hl)
theorem rf_stop_eq {M : rf_M} {a : Nat} {x y : Option Nat} (hz : ∀ f, M.2.2 a f = none) : rf_uR (rf_uR (rf_uR (rf_uR (rf_uR (rf_uR (rf_uR M a 0 (some a)) a 1 x) a 2 y) a 1 none) a 3 none) a 0 none) a 2 none = M := by
  obtain ⟨I, L, R⟩ := M
  have hz : ∀ f, R a f = none := hz
  show ((I, L, _) : rf_M) = (I, L, R)
  congr 2
  funext p q
  by_cases hp : p = a
  · subst hp
    simp only [rf_uR, true_and]
    by_cases h2 : q = 2
    · simp [h2, hz]
    · by_cases h0 : q = 0
      · simp [h0, hz]
      · by_cases h3 : q = 3
        · simp [h3, hz]
        · by_cases h1 : q = 1
          · simp [h1, hz]
          · simp [h0, h1, h2, h3]
  · simp [rf_uR, hp]
def yT4 : MethodName := ⟨"java/lang/Throwable", "<init>", "(Ljava/lang/String;Ljava/lang/Throwable;ZZ)V"⟩
def yE4 : MethodName := ⟨"java/lang/Exception", "<init>", "(Ljava/lang/String;Ljava/lang/Throwable;ZZ)V"⟩
def yR4 : MethodName := ⟨"java/lang/RuntimeException", "<init>", "(Ljava/lang/String;Ljava/lang/Throwable;ZZ)V"⟩
abbrev j_T4 : rf_J := (33, yT4, prog_32_method_5_code, 5, none)
abbrev j_E4 : rf_J := (34, yE4, prog_21_method_5_code, 5, none)
abbrev j_R4 : rf_J := (35, yR4, prog_27_method_5_code, 5, none)
abbrev j_X13_init : rf_J := (13, yX13_init, cX13_init, 1, none)
theorem mwi_T4 : rf_mi j_T4 4 := ⟨⟨rf_mem 116 (by decide +kernel), rf_mem 114 (by decide +kernel), rf_mem 116 (by decide +kernel)⟩, by decide +kernel, by decide, rfl, rfl⟩
theorem mwi_E4 : rf_mi j_E4 4 := ⟨⟨rf_mem 116 (by decide +kernel), rf_mem 114 (by decide +kernel), rf_mem 116 (by decide +kernel)⟩, by decide +kernel, by decide, rfl, rfl⟩
theorem mwi_R4 : rf_mi j_R4 4 := ⟨⟨rf_mem 116 (by decide +kernel), rf_mem 114 (by decide +kernel), rf_mem 116 (by decide +kernel)⟩, by decide +kernel, by decide, rfl, rfl⟩
theorem ci_T4 {n a : Nat} {M : rf_M} (ha : rf_at (rf_shn n) a = some (.inr 13)) (hz : ∀ f, M.2.2 a f = none) : rf_ConA j_T4 2 0 0 n [.ref a, .null, .null, .int 0, .int 0] M n M := by
  refine rf_conA j_T4 2 0 0 n n ⟨by decide +kernel, rfl, rfl, Nat.le_of_ble_eq_true rfl⟩ (fun K B hE => ?_) rfl
  show rf_V 5 (rf_shn n) K 0 0 0 ([(0, .ref a), (1, .null), (2, .null), (3, .int 0), (4, .int 0)], [], M)
  have z1 : rf_Kz K 3000002 "java/lang/Throwable" "UNASSIGNED_STACK" "[Ljava/lang/StackTraceElement;" := by
    have h := B.2.2.1
    obtain ⟨p, l, e, R, s, m, args, below, meth, c, D, ad, cad, A, Q⟩ := K
    exact h.2.2.1
  have z2 : rf_Kz K 3000003 "java/lang/Throwable" "SUPPRESSED_SENTINEL" "Ljava/util/List;" := by
    have h := B.2.2.1
    obtain ⟨p, l, e, R, s, m, args, below, meth, c, D, ad, cad, A, Q⟩ := K
    exact h.2.2.2
  refine rf_seg B.1 [(.aload 0, 1)] (pc' := 1) (S' := ([(0, .ref a), (1, .null), (2, .null), (3, .int 0), (4, .int 0)], [.ref a], M)) (by decide +kernel) rfl trivial ?_
  refine rf_oinit (idx := 1) B.1 (by decide) (rf_mem 115 (by decide +kernel)) (rf_mem 0 (by decide +kernel)) (rf_mem 0 (by decide +kernel)) (Nat.le_of_ble_eq_true rfl) (by decide +kernel) ?_
  refine rf_seg B.1 [(.aload 0, 1), (.aload 0, 1)] (pc' := 6) (S' := ([(0, .ref a), (1, .null), (2, .null), (3, .int 0), (4, .int 0)], [.ref a, .ref a], M)) (by decide +kernel) rfl trivial ?_
  refine rf_pr (idx := 7) B.1 13 0 (some a) rfl ha rfl rfl (by decide +kernel) (by decide +kernel) ?_
  refine rf_seg B.1 [(.aload 0, 1)] (pc' := 10) (S' := ([(0, .ref a), (1, .null), (2, .null), (3, .int 0), (4, .int 0)], [.ref a], rf_uR M a 0 (some a))) (by decide +kernel) rfl trivial ?_
  refine rf_gz (idx := 13) B.1 3000002 z1 (rf_mem 115 (by decide +kernel)) (by decide +kernel) (fun x => ?_)
  refine rf_pr (idx := 17) B.1 13 1 x rfl ha rfl rfl (by decide +kernel) (by decide +kernel) ?_
  refine rf_seg B.1 [(.aload 0, 1)] (pc' := 17) (S' := ([(0, .ref a), (1, .null), (2, .null), (3, .int 0), (4, .int 0)], [.ref a], rf_uR (rf_uR M a 0 (some a)) a 1 x)) (by decide +kernel) rfl trivial ?_
  refine rf_gz (idx := 20) B.1 3000003 z2 (rf_mem 115 (by decide +kernel)) (by decide +kernel) (fun y => ?_)
  refine rf_pr (idx := 24) B.1 13 2 y rfl ha rfl rfl (by decide +kernel) (by decide +kernel) ?_
  refine rf_seg B.1 [(.iload 4, 2)] (pc' := 25) (S' := ([(0, .ref a), (1, .null), (2, .null), (3, .int 0), (4, .int 0)], [.int 0], rf_uR (rf_uR (rf_uR M a 0 (some a)) a 1 x) a 2 y)) (by decide +kernel) rfl trivial ?_
  refine rf_if_eq B.1 11 36 (by decide +kernel) (fun _ => ?_) (fun hc => absurd rfl hc)
  refine rf_seg B.1 [(.aload 0, 1), (.aconst_null, 1)] (pc' := 38) (S' := ([(0, .ref a), (1, .null), (2, .null), (3, .int 0), (4, .int 0)], [.null, .ref a], rf_uR (rf_uR (rf_uR M a 0 (some a)) a 1 x) a 2 y)) (by decide +kernel) rfl trivial ?_
  refine rf_pr (idx := 17) B.1 13 1 none rfl ha rfl rfl (by decide +kernel) (by decide +kernel) ?_
  refine rf_seg B.1 [(.aload 0, 1)] (pc' := 42) (S' := ([(0, .ref a), (1, .null), (2, .null), (3, .int 0), (4, .int 0)], [.ref a], rf_uR (rf_uR (rf_uR (rf_uR M a 0 (some a)) a 1 x) a 2 y) a 1 none)) (by decide +kernel) rfl trivial ?_
  refine rf_aldn (n := 1) B.1 rfl rfl (by decide +kernel) ?_
  refine rf_pr (idx := 31) B.1 13 3 none rfl ha rfl rfl (by decide +kernel) (by decide +kernel) ?_
  refine rf_seg B.1 [(.aload 0, 1)] (pc' := 47) (S' := ([(0, .ref a), (1, .null), (2, .null), (3, .int 0), (4, .int 0)], [.ref a], rf_uR (rf_uR (rf_uR (rf_uR (rf_uR M a 0 (some a)) a 1 x) a 2 y) a 1 none) a 3 none)) (by decide +kernel) rfl trivial ?_
  refine rf_aldn (n := 2) B.1 rfl rfl (by decide +kernel) ?_
  refine rf_pr (idx := 7) B.1 13 0 none rfl ha rfl rfl (by decide +kernel) (by decide +kernel) ?_
  refine rf_seg B.1 [(.iload 3, 1)] (pc' := 52) (S' := ([(0, .ref a), (1, .null), (2, .null), (3, .int 0), (4, .int 0)], [.int 0], rf_uR (rf_uR (rf_uR (rf_uR (rf_uR (rf_uR M a 0 (some a)) a 1 x) a 2 y) a 1 none) a 3 none) a 0 none)) (by decide +kernel) rfl trivial ?_
  refine rf_if_ne B.1 8 60 (by decide +kernel) (fun hc => absurd rfl hc) (fun _ => ?_)
  refine rf_seg B.1 [(.aload 0, 1), (.aconst_null, 1)] (pc' := 57) (S' := ([(0, .ref a), (1, .null), (2, .null), (3, .int 0), (4, .int 0)], [.null, .ref a], rf_uR (rf_uR (rf_uR (rf_uR (rf_uR (rf_uR M a 0 (some a)) a 1 x) a 2 y) a 1 none) a 3 none) a 0 none)) (by decide +kernel) rfl trivial ?_
  refine rf_pr (idx := 24) B.1 13 2 none rfl ha rfl rfl (by decide +kernel) (by decide +kernel) ?_
  rw [rf_stop_eq hz]
  exact rf_vretA B hE (by decide +kernel)
theorem ci_E4 {n a : Nat} {M : rf_M} (hn : a < n) (ha : rf_at (rf_shn n) a = some (.inr 13)) (hz : ∀ f, M.2.2 a f = none) : rf_ConA j_E4 3 0 0 n [.ref a, .null, .null, .int 0, .int 0] M n M := by
  refine rf_conA j_E4 3 0 0 n n ⟨by decide +kernel, rfl, rfl, Nat.le_of_ble_eq_true rfl⟩ (fun K B hE => ?_) rfl
  have hbr : rf_br n (.ref a) = true := by simp only [rf_br, Nat.ble_eq_true_of_le (show a + 1 ≤ n from hn), Bool.true_or]
  show rf_V 5 (rf_shn n) K 0 0 0 ([(0, .ref a), (1, .null), (2, .null), (3, .int 0), (4, .int 0)], [], M)
  refine rf_seg B.1 [(.aload 0, 1)] (pc' := 1) (S' := ([(0, .ref a), (1, .null), (2, .null), (3, .int 0), (4, .int 0)], [.ref a], M)) (by decide +kernel) rfl trivial ?_
  refine rf_aldn (n := 1) B.1 rfl rfl (by decide +kernel) ?_
  refine rf_aldn (n := 2) B.1 rfl rfl (by decide +kernel) ?_
  refine rf_seg B.1 [(.iload 3, 1), (.iload 4, 2)] (pc' := 6) (S' := ([(0, .ref a), (1, .null), (2, .null), (3, .int 0), (4, .int 0)], [.int 0, .int 0, .null, .null, .ref a], M)) (by decide +kernel) rfl trivial ?_
  refine rf_bcall (idx := 16) B j_T4 (As := [.null, .null, .int 0, .int 0]) (rest := []) mwi_T4 (ci_T4 ha hz) (by decide) (Nat.le_refl _) (rf_mem 116 (by decide +kernel)) rfl rfl (Nat.le_of_ble_eq_true rfl) (by simp [hbr]; exact ⟨rfl, rfl⟩) rfl (by decide) (by decide) (by decide +kernel) (fun K B => ?_)
  exact rf_vretA B hE (by decide +kernel)
theorem ci_R4 {n a : Nat} {M : rf_M} (hn : a < n) (ha : rf_at (rf_shn n) a = some (.inr 13)) (hz : ∀ f, M.2.2 a f = none) : rf_ConA j_R4 4 0 0 n [.ref a, .null, .null, .int 0, .int 0] M n M := by
  refine rf_conA j_R4 4 0 0 n n ⟨by decide +kernel, rfl, rfl, Nat.le_of_ble_eq_true rfl⟩ (fun K B hE => ?_) rfl
  have hbr : rf_br n (.ref a) = true := by simp only [rf_br, Nat.ble_eq_true_of_le (show a + 1 ≤ n from hn), Bool.true_or]
  show rf_V 5 (rf_shn n) K 0 0 0 ([(0, .ref a), (1, .null), (2, .null), (3, .int 0), (4, .int 0)], [], M)
  refine rf_seg B.1 [(.aload 0, 1)] (pc' := 1) (S' := ([(0, .ref a), (1, .null), (2, .null), (3, .int 0), (4, .int 0)], [.ref a], M)) (by decide +kernel) rfl trivial ?_
  refine rf_aldn (n := 1) B.1 rfl rfl (by decide +kernel) ?_
  refine rf_aldn (n := 2) B.1 rfl rfl (by decide +kernel) ?_
  refine rf_seg B.1 [(.iload 3, 1), (.iload 4, 2)] (pc' := 6) (S' := ([(0, .ref a), (1, .null), (2, .null), (3, .int 0), (4, .int 0)], [.int 0, .int 0, .null, .null, .ref a], M)) (by decide +kernel) rfl trivial ?_
  refine rf_bcall (idx := 16) B j_E4 (As := [.null, .null, .int 0, .int 0]) (rest := []) mwi_E4 (ci_E4 hn ha hz) (by decide) (Nat.le_refl _) (rf_mem 116 (by decide +kernel)) rfl rfl (Nat.le_of_ble_eq_true rfl) (by simp [hbr]; exact ⟨rfl, rfl⟩) rfl (by decide) (by decide) (by decide +kernel) (fun K B => ?_)
  exact rf_vretA B hE (by decide +kernel)
theorem mwi_X13_init : rf_mi j_X13_init 0 := ⟨⟨rf_mem 13 (by decide +kernel), rf_mem 9 (by decide +kernel), rf_mem 13 (by decide +kernel)⟩, by decide +kernel, by decide, rfl, rfl⟩
theorem ci_X13_init {n a : Nat} {M : rf_M} (hn : a < n) (ha : rf_at (rf_shn n) a = some (.inr 13)) (hz : ∀ f, M.2.2 a f = none) : rf_ConA j_X13_init 5 0 0 n [.ref a] M n M := by
  refine rf_conA j_X13_init 5 0 0 n n ⟨by decide +kernel, rfl, rfl, Nat.le_of_ble_eq_true rfl⟩ (fun K B hE => ?_) rfl
  have hbr : rf_br n (.ref a) = true := by simp only [rf_br, Nat.ble_eq_true_of_le (show a + 1 ≤ n from hn), Bool.true_or]
  show rf_V 1 (rf_shn n) K 0 0 0 ([(0, .ref a)], [], M)
  refine rf_seg B.1 [(.aload 0, 1), (.aconst_null, 1), (.aconst_null, 1), (.iconst 0, 1), (.iconst 0, 1)] (pc' := 5) (S' := ([(0, .ref a)], [.int 0, .int 0, .null, .null, .ref a], M)) (by decide +kernel) rfl trivial ?_
  refine rf_bcall (idx := 1) B j_R4 (As := [.null, .null, .int 0, .int 0]) (rest := []) mwi_R4 (ci_R4 hn ha hz) (by decide) (Nat.le_refl _) (rf_mem 116 (by decide +kernel)) rfl rfl (Nat.le_of_ble_eq_true rfl) (by simp [hbr]) rfl (by decide) (by decide) (by decide +kernel) (fun K B => ?_)
  exact rf_vretA B hE (by decide +kernel)
end RFP
