/-! constructors (written by wip/tool/gen_init.py) -/
abbrev j_X14_init : rf_J := (14, yX14_init, cX14_init, 1, none)
theorem mwi_X14_init : rf_mi j_X14_init 0 := ⟨⟨(rf_mem 8 (by decide +kernel)), (rf_mem 0 (by decide +kernel)), (rf_memi 8 14 rfl)⟩, by decide +kernel, by decide, rfl, rfl⟩
def mj_X14_init_207_0 (M : rf_M) : rf_M := rf_uR (rf_uR (rf_uR (rf_uR (rf_uR (rf_uR (rf_uR (rf_uR (rf_uI M 206 2 (-1)) 206 7 (some 207)) 206 8 (some 208)) 206 9 (some 209)) 206 10 (some 210)) 206 11 (some 211)) 206 12 (some 212)) 206 13 (some 213)) 206 14 (some 214)
theorem fj_X14_init_207_0 {M : rf_M} (hF : rf_F 207 M) : rf_F 215 (mj_X14_init_207_0 M) := by
  have hF := rf_F_uI (k := 206) (i := 2) (x := (-1)) hF (by decide)
  have hF := rf_F_succ hF
  have hF := rf_F_uR (k := 206) (i := 7) (j := 207) hF (by decide) (by decide)
  have hF := rf_F_succ hF
  have hF := rf_F_uR (k := 206) (i := 8) (j := 208) hF (by decide) (by decide)
  have hF := rf_F_succ hF
  have hF := rf_F_uR (k := 206) (i := 9) (j := 209) hF (by decide) (by decide)
  have hF := rf_F_succ hF
  have hF := rf_F_uR (k := 206) (i := 10) (j := 210) hF (by decide) (by decide)
  have hF := rf_F_succ hF
  have hF := rf_F_uR (k := 206) (i := 11) (j := 211) hF (by decide) (by decide)
  have hF := rf_F_succ hF
  have hF := rf_F_uR (k := 206) (i := 12) (j := 212) hF (by decide) (by decide)
  have hF := rf_F_succ hF
  have hF := rf_F_uR (k := 206) (i := 13) (j := 213) hF (by decide) (by decide)
  have hF := rf_F_succ hF
  have hF := rf_F_uR (k := 206) (i := 14) (j := 214) hF (by decide) (by decide)
  exact hF
theorem sj_X14_init_207_0 {K0 K : rf_K} {M : rf_M} (B : rf_B 14 cX14_init 1 6 98 322040 207 K0 207 K) (hF : rf_F 207 M) (k : ∀ K', rf_B 14 cX14_init 1 6 98 322040 207 K0 215 K' → rf_F 215 (mj_X14_init_207_0 M) → rf_V 1 (rf_shn 215) K' 8 302708 78 ([(0, .ref 206)], [], mj_X14_init_207_0 M)) : rf_V 1 (rf_shn 207) K 0 0 0 ([(0, .ref 206)], [], M) := by
  refine rf_seg B.1 [(.aload 0, 1)] (pc' := 1) (S' := ([(0, .ref 206)], [.ref 206], M)) (by decide +kernel) rfl trivial ?_
  refine rf_oinit (idx := 1) B.1 (by decide) (rf_mem 8 (by decide +kernel)) (rf_mem 0 (by decide +kernel)) (rf_mem 0 (by decide +kernel)) (Nat.le_of_ble_eq_true rfl) (by decide +kernel) ?_
  refine rf_seg B.1 [(.aload 0, 1), (.iconst (-1), 1), (.multianewarray 14 2, 3)] (pc' := 9) (S' := ([(0, .ref 206)], [], rf_uI M 206 2 (-1))) (by decide +kernel) rfl trivial ?_
  have hF := rf_F_uI (k := 206) (i := 2) (x := (-1)) hF (by decide)
  refine rf_seg B.1 [(.aload 0, 1), (.iconst 1024, 3)] (pc' := 13) (S' := ([(0, .ref 206)], [.int 1024, .ref 206], rf_uI M 206 2 (-1))) (by decide +kernel) rfl trivial ?_
  refine rf_bnewa B hF (by decide) .int 1024 rfl .int rfl (by decide) (by decide) (by decide +kernel) (by decide) rfl rfl (rf_mem 2 (by decide +kernel)) (by decide) (by decide) (by decide +kernel) (fun K B hF => ?_)
  show rf_V 1 (rf_shn 208) K 1 1024 15 ([(0, .ref 206)], [.ref 207, .ref 206], rf_uI M 206 2 (-1))
  refine rf_bputr (idx := 13) B hF 14 7 rfl rfl rfl (by decide) (by decide +kernel) (by decide +kernel) (fun hF => ?_)
  show rf_V 1 (rf_shn 208) K 1 1024 18 ([(0, .ref 206)], [], rf_uR (rf_uI M 206 2 (-1)) 206 7 (some 207))
  refine rf_seg B.1 [(.aload 0, 1), (.iconst 1024, 3)] (pc' := 22) (S' := ([(0, .ref 206)], [.int 1024, .ref 206], rf_uR (rf_uI M 206 2 (-1)) 206 7 (some 207))) (by decide +kernel) rfl trivial ?_
  refine rf_bnewa B hF (by decide) .int 1024 rfl .int rfl (by decide) (by decide) (by decide +kernel) (by decide) rfl rfl (rf_mem 2 (by decide +kernel)) (by decide) (by decide) (by decide +kernel) (fun K B hF => ?_)
  show rf_V 1 (rf_shn 209) K 2 2048 24 ([(0, .ref 206)], [.ref 208, .ref 206], rf_uR (rf_uI M 206 2 (-1)) 206 7 (some 207))
  refine rf_bputr (idx := 17) B hF 14 8 rfl rfl rfl (by decide) (by decide +kernel) (by decide +kernel) (fun hF => ?_)
  show rf_V 1 (rf_shn 209) K 2 2048 27 ([(0, .ref 206)], [], rf_uR (rf_uR (rf_uI M 206 2 (-1)) 206 7 (some 207)) 206 8 (some 208))
  refine rf_seg B.1 [(.aload 0, 1), (.iconst 30, 2)] (pc' := 30) (S' := ([(0, .ref 206)], [.int 30, .ref 206], rf_uR (rf_uR (rf_uI M 206 2 (-1)) 206 7 (some 207)) 206 8 (some 208))) (by decide +kernel) rfl trivial ?_
  refine rf_bnewa B hF (by decide) .int 30 rfl .int rfl (by decide) (by decide) (by decide +kernel) (by decide) rfl rfl (rf_mem 2 (by decide +kernel)) (by decide) (by decide) (by decide +kernel) (fun K B hF => ?_)
  show rf_V 1 (rf_shn 210) K 3 2078 32 ([(0, .ref 206)], [.ref 209, .ref 206], rf_uR (rf_uR (rf_uI M 206 2 (-1)) 206 7 (some 207)) 206 8 (some 208))
  refine rf_bputr (idx := 20) B hF 14 9 rfl rfl rfl (by decide) (by decide +kernel) (by decide +kernel) (fun hF => ?_)
  show rf_V 1 (rf_shn 210) K 3 2078 35 ([(0, .ref 206)], [], rf_uR (rf_uR (rf_uR (rf_uI M 206 2 (-1)) 206 7 (some 207)) 206 8 (some 208)) 206 9 (some 209))
  refine rf_seg B.1 [(.aload 0, 1), (.iconst 300000, 2)] (pc' := 38) (S' := ([(0, .ref 206)], [.int 300000, .ref 206], rf_uR (rf_uR (rf_uR (rf_uI M 206 2 (-1)) 206 7 (some 207)) 206 8 (some 208)) 206 9 (some 209))) (by decide +kernel) rfl trivial ?_
  refine rf_bnewa B hF (by decide) .int 300000 rfl .int rfl (by decide) (by decide) (by decide +kernel) (by decide) rfl rfl (rf_mem 2 (by decide +kernel)) (by decide) (by decide) (by decide +kernel) (fun K B hF => ?_)
  show rf_V 1 (rf_shn 211) K 4 302078 40 ([(0, .ref 206)], [.ref 210, .ref 206], rf_uR (rf_uR (rf_uR (rf_uI M 206 2 (-1)) 206 7 (some 207)) 206 8 (some 208)) 206 9 (some 209))
  refine rf_bputr (idx := 24) B hF 14 10 rfl rfl rfl (by decide) (by decide +kernel) (by decide +kernel) (fun hF => ?_)
  show rf_V 1 (rf_shn 211) K 4 302078 43 ([(0, .ref 206)], [], rf_uR (rf_uR (rf_uR (rf_uR (rf_uI M 206 2 (-1)) 206 7 (some 207)) 206 8 (some 208)) 206 9 (some 209)) 206 10 (some 210))
  refine rf_seg B.1 [(.aload 0, 1), (.iconst 200, 3)] (pc' := 47) (S' := ([(0, .ref 206)], [.int 200, .ref 206], rf_uR (rf_uR (rf_uR (rf_uR (rf_uI M 206 2 (-1)) 206 7 (some 207)) 206 8 (some 208)) 206 9 (some 209)) 206 10 (some 210))) (by decide +kernel) rfl trivial ?_
  refine rf_bnewa B hF (by decide) .int 200 rfl .int rfl (by decide) (by decide) (by decide +kernel) (by decide) rfl rfl (rf_mem 2 (by decide +kernel)) (by decide) (by decide) (by decide +kernel) (fun K B hF => ?_)
  show rf_V 1 (rf_shn 212) K 5 302278 49 ([(0, .ref 206)], [.ref 211, .ref 206], rf_uR (rf_uR (rf_uR (rf_uR (rf_uI M 206 2 (-1)) 206 7 (some 207)) 206 8 (some 208)) 206 9 (some 209)) 206 10 (some 210))
  refine rf_bputr (idx := 27) B hF 14 11 rfl rfl rfl (by decide) (by decide +kernel) (by decide +kernel) (fun hF => ?_)
  show rf_V 1 (rf_shn 212) K 5 302278 52 ([(0, .ref 206)], [], rf_uR (rf_uR (rf_uR (rf_uR (rf_uR (rf_uI M 206 2 (-1)) 206 7 (some 207)) 206 8 (some 208)) 206 9 (some 209)) 206 10 (some 210)) 206 11 (some 211))
  refine rf_seg B.1 [(.aload 0, 1), (.iconst 200, 3)] (pc' := 56) (S' := ([(0, .ref 206)], [.int 200, .ref 206], rf_uR (rf_uR (rf_uR (rf_uR (rf_uR (rf_uI M 206 2 (-1)) 206 7 (some 207)) 206 8 (some 208)) 206 9 (some 209)) 206 10 (some 210)) 206 11 (some 211))) (by decide +kernel) rfl trivial ?_
  refine rf_bnewa B hF (by decide) .int 200 rfl .int rfl (by decide) (by decide) (by decide +kernel) (by decide) rfl rfl (rf_mem 2 (by decide +kernel)) (by decide) (by decide) (by decide +kernel) (fun K B hF => ?_)
  show rf_V 1 (rf_shn 213) K 6 302478 58 ([(0, .ref 206)], [.ref 212, .ref 206], rf_uR (rf_uR (rf_uR (rf_uR (rf_uR (rf_uI M 206 2 (-1)) 206 7 (some 207)) 206 8 (some 208)) 206 9 (some 209)) 206 10 (some 210)) 206 11 (some 211))
  refine rf_bputr (idx := 30) B hF 14 12 rfl rfl rfl (by decide) (by decide +kernel) (by decide +kernel) (fun hF => ?_)
  show rf_V 1 (rf_shn 213) K 6 302478 61 ([(0, .ref 206)], [], rf_uR (rf_uR (rf_uR (rf_uR (rf_uR (rf_uR (rf_uI M 206 2 (-1)) 206 7 (some 207)) 206 8 (some 208)) 206 9 (some 209)) 206 10 (some 210)) 206 11 (some 211)) 206 12 (some 212))
  refine rf_seg B.1 [(.aload 0, 1), (.iconst 200, 3)] (pc' := 65) (S' := ([(0, .ref 206)], [.int 200, .ref 206], rf_uR (rf_uR (rf_uR (rf_uR (rf_uR (rf_uR (rf_uI M 206 2 (-1)) 206 7 (some 207)) 206 8 (some 208)) 206 9 (some 209)) 206 10 (some 210)) 206 11 (some 211)) 206 12 (some 212))) (by decide +kernel) rfl trivial ?_
  refine rf_bnewa B hF (by decide) .int 200 rfl .int rfl (by decide) (by decide) (by decide +kernel) (by decide) rfl rfl (rf_mem 2 (by decide +kernel)) (by decide) (by decide) (by decide +kernel) (fun K B hF => ?_)
  show rf_V 1 (rf_shn 214) K 7 302678 67 ([(0, .ref 206)], [.ref 213, .ref 206], rf_uR (rf_uR (rf_uR (rf_uR (rf_uR (rf_uR (rf_uI M 206 2 (-1)) 206 7 (some 207)) 206 8 (some 208)) 206 9 (some 209)) 206 10 (some 210)) 206 11 (some 211)) 206 12 (some 212))
  refine rf_bputr (idx := 33) B hF 14 13 rfl rfl rfl (by decide) (by decide +kernel) (by decide +kernel) (fun hF => ?_)
  show rf_V 1 (rf_shn 214) K 7 302678 70 ([(0, .ref 206)], [], rf_uR (rf_uR (rf_uR (rf_uR (rf_uR (rf_uR (rf_uR (rf_uI M 206 2 (-1)) 206 7 (some 207)) 206 8 (some 208)) 206 9 (some 209)) 206 10 (some 210)) 206 11 (some 211)) 206 12 (some 212)) 206 13 (some 213))
  refine rf_seg B.1 [(.aload 0, 1), (.iconst 30, 2)] (pc' := 73) (S' := ([(0, .ref 206)], [.int 30, .ref 206], rf_uR (rf_uR (rf_uR (rf_uR (rf_uR (rf_uR (rf_uR (rf_uI M 206 2 (-1)) 206 7 (some 207)) 206 8 (some 208)) 206 9 (some 209)) 206 10 (some 210)) 206 11 (some 211)) 206 12 (some 212)) 206 13 (some 213))) (by decide +kernel) rfl trivial ?_
  refine rf_bnewa B hF (by decide) .boolean 30 rfl .boolean rfl (by decide) (by decide) (by decide +kernel) (by decide) rfl rfl (rf_mem 2 (by decide +kernel)) (by decide) (by decide) (by decide +kernel) (fun K B hF => ?_)
  show rf_V 1 (rf_shn 215) K 8 302708 75 ([(0, .ref 206)], [.ref 214, .ref 206], rf_uR (rf_uR (rf_uR (rf_uR (rf_uR (rf_uR (rf_uR (rf_uI M 206 2 (-1)) 206 7 (some 207)) 206 8 (some 208)) 206 9 (some 209)) 206 10 (some 210)) 206 11 (some 211)) 206 12 (some 212)) 206 13 (some 213))
  refine rf_bputr (idx := 36) B hF 14 14 rfl rfl rfl (by decide) (by decide +kernel) (by decide +kernel) (fun hF => ?_)
  show rf_V 1 (rf_shn 215) K 8 302708 78 ([(0, .ref 206)], [], rf_uR (rf_uR (rf_uR (rf_uR (rf_uR (rf_uR (rf_uR (rf_uR (rf_uI M 206 2 (-1)) 206 7 (some 207)) 206 8 (some 208)) 206 9 (some 209)) 206 10 (some 210)) 206 11 (some 211)) 206 12 (some 212)) 206 13 (some 213)) 206 14 (some 214))
  exact k K B hF
def mj_X14_init_207_1 (M : rf_M) : rf_M := rf_uR (rf_uR (rf_uR (rf_uR (rf_uR (rf_uR (rf_uR (rf_uR M 206 19 (some 215)) 206 20 (some 216)) 206 21 (some 217)) 206 22 (some 218)) 206 23 (some 219)) 206 24 (some 220)) 206 25 (some 221)) 206 26 (some 222)
theorem fj_X14_init_207_1 {M : rf_M} (hF : rf_F 215 M) : rf_F 223 (mj_X14_init_207_1 M) := by
  have hF := rf_F_succ hF
  have hF := rf_F_uR (k := 206) (i := 19) (j := 215) hF (by decide) (by decide)
  have hF := rf_F_succ hF
  have hF := rf_F_uR (k := 206) (i := 20) (j := 216) hF (by decide) (by decide)
  have hF := rf_F_succ hF
  have hF := rf_F_uR (k := 206) (i := 21) (j := 217) hF (by decide) (by decide)
  have hF := rf_F_succ hF
  have hF := rf_F_uR (k := 206) (i := 22) (j := 218) hF (by decide) (by decide)
  have hF := rf_F_succ hF
  have hF := rf_F_uR (k := 206) (i := 23) (j := 219) hF (by decide) (by decide)
  have hF := rf_F_succ hF
  have hF := rf_F_uR (k := 206) (i := 24) (j := 220) hF (by decide) (by decide)
  have hF := rf_F_succ hF
  have hF := rf_F_uR (k := 206) (i := 25) (j := 221) hF (by decide) (by decide)
  have hF := rf_F_succ hF
  have hF := rf_F_uR (k := 206) (i := 26) (j := 222) hF (by decide) (by decide)
  exact hF
theorem sj_X14_init_207_1 {K0 K : rf_K} {M : rf_M} (B : rf_B 14 cX14_init 1 6 98 322040 207 K0 215 K) (hF : rf_F 215 M) (k : ∀ K', rf_B 14 cX14_init 1 6 98 322040 207 K0 223 K' → rf_F 223 (mj_X14_init_207_1 M) → rf_V 1 (rf_shn 223) K' 16 307756 146 ([(0, .ref 206)], [], mj_X14_init_207_1 M)) : rf_V 1 (rf_shn 215) K 8 302708 78 ([(0, .ref 206)], [], M) := by
  refine rf_seg B.1 [(.aload 0, 1), (.iconst 8, 2)] (pc' := 81) (S' := ([(0, .ref 206)], [.int 8, .ref 206], M)) (by decide +kernel) rfl trivial ?_
  refine rf_bnewa B hF (by decide) .boolean 8 rfl .boolean rfl (by decide) (by decide) (by decide +kernel) (by decide) rfl rfl (rf_mem 2 (by decide +kernel)) (by decide) (by decide) (by decide +kernel) (fun K B hF => ?_)
  show rf_V 1 (rf_shn 216) K 9 302716 83 ([(0, .ref 206)], [.ref 215, .ref 206], M)
  refine rf_bputr (idx := 40) B hF 14 19 rfl rfl rfl (by decide) (by decide +kernel) (by decide +kernel) (fun hF => ?_)
  show rf_V 1 (rf_shn 216) K 9 302716 86 ([(0, .ref 206)], [], rf_uR M 206 19 (some 215))
  refine rf_seg B.1 [(.aload 0, 1), (.iconst 1200, 3)] (pc' := 90) (S' := ([(0, .ref 206)], [.int 1200, .ref 206], rf_uR M 206 19 (some 215))) (by decide +kernel) rfl trivial ?_
  refine rf_bnewa B hF (by decide) .boolean 1200 rfl .boolean rfl (by decide) (by decide) (by decide +kernel) (by decide) rfl rfl (rf_mem 2 (by decide +kernel)) (by decide) (by decide) (by decide +kernel) (fun K B hF => ?_)
  show rf_V 1 (rf_shn 217) K 10 303916 92 ([(0, .ref 206)], [.ref 216, .ref 206], rf_uR M 206 19 (some 215))
  refine rf_bputr (idx := 43) B hF 14 20 rfl rfl rfl (by decide) (by decide +kernel) (by decide +kernel) (fun hF => ?_)
  show rf_V 1 (rf_shn 217) K 10 303916 95 ([(0, .ref 206)], [], rf_uR (rf_uR M 206 19 (some 215)) 206 20 (some 216))
  refine rf_seg B.1 [(.aload 0, 1), (.iconst 80, 2)] (pc' := 98) (S' := ([(0, .ref 206)], [.int 80, .ref 206], rf_uR (rf_uR M 206 19 (some 215)) 206 20 (some 216))) (by decide +kernel) rfl trivial ?_
  refine rf_bnewa B hF (by decide) .int 80 rfl .int rfl (by decide) (by decide) (by decide +kernel) (by decide) rfl rfl (rf_mem 2 (by decide +kernel)) (by decide) (by decide) (by decide +kernel) (fun K B hF => ?_)
  show rf_V 1 (rf_shn 218) K 11 303996 100 ([(0, .ref 206)], [.ref 217, .ref 206], rf_uR (rf_uR M 206 19 (some 215)) 206 20 (some 216))
  refine rf_bputr (idx := 46) B hF 14 21 rfl rfl rfl (by decide) (by decide +kernel) (by decide +kernel) (fun hF => ?_)
  show rf_V 1 (rf_shn 218) K 11 303996 103 ([(0, .ref 206)], [], rf_uR (rf_uR (rf_uR M 206 19 (some 215)) 206 20 (some 216)) 206 21 (some 217))
  refine rf_seg B.1 [(.aload 0, 1), (.iconst 80, 2)] (pc' := 106) (S' := ([(0, .ref 206)], [.int 80, .ref 206], rf_uR (rf_uR (rf_uR M 206 19 (some 215)) 206 20 (some 216)) 206 21 (some 217))) (by decide +kernel) rfl trivial ?_
  refine rf_bnewa B hF (by decide) .int 80 rfl .int rfl (by decide) (by decide) (by decide +kernel) (by decide) rfl rfl (rf_mem 2 (by decide +kernel)) (by decide) (by decide) (by decide +kernel) (fun K B hF => ?_)
  show rf_V 1 (rf_shn 219) K 12 304076 108 ([(0, .ref 206)], [.ref 218, .ref 206], rf_uR (rf_uR (rf_uR M 206 19 (some 215)) 206 20 (some 216)) 206 21 (some 217))
  refine rf_bputr (idx := 49) B hF 14 22 rfl rfl rfl (by decide) (by decide +kernel) (by decide +kernel) (fun hF => ?_)
  show rf_V 1 (rf_shn 219) K 12 304076 111 ([(0, .ref 206)], [], rf_uR (rf_uR (rf_uR (rf_uR M 206 19 (some 215)) 206 20 (some 216)) 206 21 (some 217)) 206 22 (some 218))
  refine rf_seg B.1 [(.aload 0, 1), (.iconst 80, 2)] (pc' := 114) (S' := ([(0, .ref 206)], [.int 80, .ref 206], rf_uR (rf_uR (rf_uR (rf_uR M 206 19 (some 215)) 206 20 (some 216)) 206 21 (some 217)) 206 22 (some 218))) (by decide +kernel) rfl trivial ?_
  refine rf_bnewa B hF (by decide) .int 80 rfl .int rfl (by decide) (by decide) (by decide +kernel) (by decide) rfl rfl (rf_mem 2 (by decide +kernel)) (by decide) (by decide) (by decide +kernel) (fun K B hF => ?_)
  show rf_V 1 (rf_shn 220) K 13 304156 116 ([(0, .ref 206)], [.ref 219, .ref 206], rf_uR (rf_uR (rf_uR (rf_uR M 206 19 (some 215)) 206 20 (some 216)) 206 21 (some 217)) 206 22 (some 218))
  refine rf_bputr (idx := 52) B hF 14 23 rfl rfl rfl (by decide) (by decide +kernel) (by decide +kernel) (fun hF => ?_)
  show rf_V 1 (rf_shn 220) K 13 304156 119 ([(0, .ref 206)], [], rf_uR (rf_uR (rf_uR (rf_uR (rf_uR M 206 19 (some 215)) 206 20 (some 216)) 206 21 (some 217)) 206 22 (some 218)) 206 23 (some 219))
  refine rf_seg B.1 [(.aload 0, 1), (.iconst 1200, 3)] (pc' := 123) (S' := ([(0, .ref 206)], [.int 1200, .ref 206], rf_uR (rf_uR (rf_uR (rf_uR (rf_uR M 206 19 (some 215)) 206 20 (some 216)) 206 21 (some 217)) 206 22 (some 218)) 206 23 (some 219))) (by decide +kernel) rfl trivial ?_
  refine rf_bnewa B hF (by decide) .int 1200 rfl .int rfl (by decide) (by decide) (by decide +kernel) (by decide) rfl rfl (rf_mem 2 (by decide +kernel)) (by decide) (by decide) (by decide +kernel) (fun K B hF => ?_)
  show rf_V 1 (rf_shn 221) K 14 305356 125 ([(0, .ref 206)], [.ref 220, .ref 206], rf_uR (rf_uR (rf_uR (rf_uR (rf_uR M 206 19 (some 215)) 206 20 (some 216)) 206 21 (some 217)) 206 22 (some 218)) 206 23 (some 219))
  refine rf_bputr (idx := 55) B hF 14 24 rfl rfl rfl (by decide) (by decide +kernel) (by decide +kernel) (fun hF => ?_)
  show rf_V 1 (rf_shn 221) K 14 305356 128 ([(0, .ref 206)], [], rf_uR (rf_uR (rf_uR (rf_uR (rf_uR (rf_uR M 206 19 (some 215)) 206 20 (some 216)) 206 21 (some 217)) 206 22 (some 218)) 206 23 (some 219)) 206 24 (some 220))
  refine rf_seg B.1 [(.aload 0, 1), (.iconst 1200, 3)] (pc' := 132) (S' := ([(0, .ref 206)], [.int 1200, .ref 206], rf_uR (rf_uR (rf_uR (rf_uR (rf_uR (rf_uR M 206 19 (some 215)) 206 20 (some 216)) 206 21 (some 217)) 206 22 (some 218)) 206 23 (some 219)) 206 24 (some 220))) (by decide +kernel) rfl trivial ?_
  refine rf_bnewa B hF (by decide) .int 1200 rfl .int rfl (by decide) (by decide) (by decide +kernel) (by decide) rfl rfl (rf_mem 2 (by decide +kernel)) (by decide) (by decide) (by decide +kernel) (fun K B hF => ?_)
  show rf_V 1 (rf_shn 222) K 15 306556 134 ([(0, .ref 206)], [.ref 221, .ref 206], rf_uR (rf_uR (rf_uR (rf_uR (rf_uR (rf_uR M 206 19 (some 215)) 206 20 (some 216)) 206 21 (some 217)) 206 22 (some 218)) 206 23 (some 219)) 206 24 (some 220))
  refine rf_bputr (idx := 58) B hF 14 25 rfl rfl rfl (by decide) (by decide +kernel) (by decide +kernel) (fun hF => ?_)
  show rf_V 1 (rf_shn 222) K 15 306556 137 ([(0, .ref 206)], [], rf_uR (rf_uR (rf_uR (rf_uR (rf_uR (rf_uR (rf_uR M 206 19 (some 215)) 206 20 (some 216)) 206 21 (some 217)) 206 22 (some 218)) 206 23 (some 219)) 206 24 (some 220)) 206 25 (some 221))
  refine rf_seg B.1 [(.aload 0, 1), (.iconst 1200, 3)] (pc' := 141) (S' := ([(0, .ref 206)], [.int 1200, .ref 206], rf_uR (rf_uR (rf_uR (rf_uR (rf_uR (rf_uR (rf_uR M 206 19 (some 215)) 206 20 (some 216)) 206 21 (some 217)) 206 22 (some 218)) 206 23 (some 219)) 206 24 (some 220)) 206 25 (some 221))) (by decide +kernel) rfl trivial ?_
  refine rf_bnewa B hF (by decide) .int 1200 rfl .int rfl (by decide) (by decide) (by decide +kernel) (by decide) rfl rfl (rf_mem 2 (by decide +kernel)) (by decide) (by decide) (by decide +kernel) (fun K B hF => ?_)
  show rf_V 1 (rf_shn 223) K 16 307756 143 ([(0, .ref 206)], [.ref 222, .ref 206], rf_uR (rf_uR (rf_uR (rf_uR (rf_uR (rf_uR (rf_uR M 206 19 (some 215)) 206 20 (some 216)) 206 21 (some 217)) 206 22 (some 218)) 206 23 (some 219)) 206 24 (some 220)) 206 25 (some 221))
  refine rf_bputr (idx := 61) B hF 14 26 rfl rfl rfl (by decide) (by decide +kernel) (by decide +kernel) (fun hF => ?_)
  show rf_V 1 (rf_shn 223) K 16 307756 146 ([(0, .ref 206)], [], rf_uR (rf_uR (rf_uR (rf_uR (rf_uR (rf_uR (rf_uR (rf_uR M 206 19 (some 215)) 206 20 (some 216)) 206 21 (some 217)) 206 22 (some 218)) 206 23 (some 219)) 206 24 (some 220)) 206 25 (some 221)) 206 26 (some 222))
  exact k K B hF
abbrev j_X12_init : rf_J := (12, yX12_init, cX12_init, 1, none)
theorem mwi_X12_init : rf_mi j_X12_init 0 := ⟨⟨(rf_mem 13 (by decide +kernel)), (rf_mem 9 (by decide +kernel)), (rf_mem 13 (by decide +kernel))⟩, by decide +kernel, by decide, rfl, rfl⟩
def mi_X12_init_231 (M : rf_M) : rf_M := rf_uR (rf_uR M 230 5 (some 231)) 230 6 (some 232)
theorem fi_X12_init_231 {M : rf_M} (hF : rf_F 231 M) : rf_F 233 (mi_X12_init_231 M) := by
  have hF := rf_F_succ hF
  have hF := rf_F_uR (k := 230) (i := 5) (j := 231) hF (by decide) (by decide)
  have hF := rf_F_succ hF
  have hF := rf_F_uR (k := 230) (i := 6) (j := 232) hF (by decide) (by decide)
  exact hF
theorem ci_X12_init_231 {M : rf_M} (hF : rf_F 231 M) : rf_ConA j_X12_init 1 2 600 231 [.ref 230] M 233 (mi_X12_init_231 M) := by
  refine rf_conA j_X12_init 1 2 600 231 233 ⟨by decide +kernel, rfl, rfl, Nat.le_of_ble_eq_true rfl⟩ (fun K B hE => ?_) rfl
  unfold mi_X12_init_231 at hE
  show rf_V 1 (rf_shn 231) K 0 0 0 ([(0, .ref 230)], [], M)
  refine rf_seg B.1 [(.aload 0, 1)] (pc' := 1) (S' := ([(0, .ref 230)], [.ref 230], M)) (by decide +kernel) rfl trivial ?_
  refine rf_oinit (idx := 3) B.1 (by decide) (rf_mem 13 (by decide +kernel)) (rf_mem 0 (by decide +kernel)) (rf_mem 0 (by decide +kernel)) (Nat.le_of_ble_eq_true rfl) (by decide +kernel) ?_
  refine rf_seg B.1 [(.aload 0, 1), (.iconst 300, 3)] (pc' := 8) (S' := ([(0, .ref 230)], [.int 300, .ref 230], M)) (by decide +kernel) rfl trivial ?_
  refine rf_bnewa B hF (by decide) .int 300 rfl .int rfl (by decide) (by decide) (by decide +kernel) (by decide) rfl rfl (rf_mem 2 (by decide +kernel)) (by decide) (by decide) (by decide +kernel) (fun K B hF => ?_)
  show rf_V 1 (rf_shn 232) K 1 300 10 ([(0, .ref 230)], [.ref 231, .ref 230], M)
  refine rf_bputr (idx := 9) B hF 12 5 rfl rfl rfl (by decide) (by decide +kernel) (by decide +kernel) (fun hF => ?_)
  show rf_V 1 (rf_shn 232) K 1 300 13 ([(0, .ref 230)], [], rf_uR M 230 5 (some 231))
  refine rf_seg B.1 [(.aload 0, 1), (.iconst 300, 3)] (pc' := 17) (S' := ([(0, .ref 230)], [.int 300, .ref 230], rf_uR M 230 5 (some 231))) (by decide +kernel) rfl trivial ?_
  refine rf_bnewa B hF (by decide) .int 300 rfl .int rfl (by decide) (by decide) (by decide +kernel) (by decide) rfl rfl (rf_mem 2 (by decide +kernel)) (by decide) (by decide) (by decide +kernel) (fun K B hF => ?_)
  show rf_V 1 (rf_shn 233) K 2 600 19 ([(0, .ref 230)], [.ref 232, .ref 230], rf_uR M 230 5 (some 231))
  refine rf_bputr (idx := 15) B hF 12 6 rfl rfl rfl (by decide) (by decide +kernel) (by decide +kernel) (fun hF => ?_)
  show rf_V 1 (rf_shn 233) K 2 600 22 ([(0, .ref 230)], [], rf_uR (rf_uR M 230 5 (some 231)) 230 6 (some 232))
  exact rf_vretA B hE (by decide +kernel)
def mj_X14_init_207_2 (M : rf_M) : rf_M := rf_uR (mi_X12_init_231 (rf_uR (rf_uR (rf_uR (rf_uR (rf_uR (rf_uR (rf_uR M 206 27 (some 223)) 206 28 (some 224)) 206 29 (some 225)) 206 30 (some 226)) 206 31 (some 227)) 206 32 (some 228)) 206 40 (some 229))) 206 41 (some 230)
theorem fj_X14_init_207_2 {M : rf_M} (hF : rf_F 223 M) : rf_F 233 (mj_X14_init_207_2 M) := by
  have hF := rf_F_succ hF
  have hF := rf_F_uR (k := 206) (i := 27) (j := 223) hF (by decide) (by decide)
  have hF := rf_F_succ hF
  have hF := rf_F_uR (k := 206) (i := 28) (j := 224) hF (by decide) (by decide)
  have hF := rf_F_succ hF
  have hF := rf_F_uR (k := 206) (i := 29) (j := 225) hF (by decide) (by decide)
  have hF := rf_F_succ hF
  have hF := rf_F_uR (k := 206) (i := 30) (j := 226) hF (by decide) (by decide)
  have hF := rf_F_succ hF
  have hF := rf_F_uR (k := 206) (i := 31) (j := 227) hF (by decide) (by decide)
  have hF := rf_F_succ hF
  have hF := rf_F_uR (k := 206) (i := 32) (j := 228) hF (by decide) (by decide)
  have hF := rf_F_succ hF
  have hF := rf_F_uR (k := 206) (i := 40) (j := 229) hF (by decide) (by decide)
  have hF := rf_F_succ hF
  have hF := fi_X12_init_231 hF
  have hF := rf_F_uR (k := 206) (i := 41) (j := 230) hF (by decide) (by decide)
  exact hF
theorem sj_X14_init_207_2 {K0 K : rf_K} {M : rf_M} (B : rf_B 14 cX14_init 1 6 98 322040 207 K0 223 K) (hF : rf_F 223 M) (k : ∀ K', rf_B 14 cX14_init 1 6 98 322040 207 K0 233 K' → rf_F 233 (mj_X14_init_207_2 M) → rf_V 1 (rf_shn 233) K' 26 311026 217 ([(0, .ref 206)], [], mj_X14_init_207_2 M)) : rf_V 1 (rf_shn 223) K 16 307756 146 ([(0, .ref 206)], [], M) := by
  refine rf_seg B.1 [(.aload 0, 1), (.iconst 1200, 3)] (pc' := 150) (S' := ([(0, .ref 206)], [.int 1200, .ref 206], M)) (by decide +kernel) rfl trivial ?_
  refine rf_bnewa B hF (by decide) .int 1200 rfl .int rfl (by decide) (by decide) (by decide +kernel) (by decide) rfl rfl (rf_mem 2 (by decide +kernel)) (by decide) (by decide) (by decide +kernel) (fun K B hF => ?_)
  show rf_V 1 (rf_shn 224) K 17 308956 152 ([(0, .ref 206)], [.ref 223, .ref 206], M)
  refine rf_bputr (idx := 64) B hF 14 27 rfl rfl rfl (by decide) (by decide +kernel) (by decide +kernel) (fun hF => ?_)
  show rf_V 1 (rf_shn 224) K 17 308956 155 ([(0, .ref 206)], [], rf_uR M 206 27 (some 223))
  refine rf_seg B.1 [(.aload 0, 1), (.iconst 1200, 3)] (pc' := 159) (S' := ([(0, .ref 206)], [.int 1200, .ref 206], rf_uR M 206 27 (some 223))) (by decide +kernel) rfl trivial ?_
  refine rf_bnewa B hF (by decide) .int 1200 rfl .int rfl (by decide) (by decide) (by decide +kernel) (by decide) rfl rfl (rf_mem 2 (by decide +kernel)) (by decide) (by decide) (by decide +kernel) (fun K B hF => ?_)
  show rf_V 1 (rf_shn 225) K 18 310156 161 ([(0, .ref 206)], [.ref 224, .ref 206], rf_uR M 206 27 (some 223))
  refine rf_bputr (idx := 67) B hF 14 28 rfl rfl rfl (by decide) (by decide +kernel) (by decide +kernel) (fun hF => ?_)
  show rf_V 1 (rf_shn 225) K 18 310156 164 ([(0, .ref 206)], [], rf_uR (rf_uR M 206 27 (some 223)) 206 28 (some 224))
  refine rf_seg B.1 [(.aload 0, 1), (.iconst 192, 3)] (pc' := 168) (S' := ([(0, .ref 206)], [.int 192, .ref 206], rf_uR (rf_uR M 206 27 (some 223)) 206 28 (some 224))) (by decide +kernel) rfl trivial ?_
  refine rf_bnewa B hF (by decide) .int 192 rfl .int rfl (by decide) (by decide) (by decide +kernel) (by decide) rfl rfl (rf_mem 2 (by decide +kernel)) (by decide) (by decide) (by decide +kernel) (fun K B hF => ?_)
  show rf_V 1 (rf_shn 226) K 19 310348 170 ([(0, .ref 206)], [.ref 225, .ref 206], rf_uR (rf_uR M 206 27 (some 223)) 206 28 (some 224))
  refine rf_bputr (idx := 70) B hF 14 29 rfl rfl rfl (by decide) (by decide +kernel) (by decide +kernel) (fun hF => ?_)
  show rf_V 1 (rf_shn 226) K 19 310348 173 ([(0, .ref 206)], [], rf_uR (rf_uR (rf_uR M 206 27 (some 223)) 206 28 (some 224)) 206 29 (some 225))
  refine rf_seg B.1 [(.aload 0, 1), (.iconst 20, 2)] (pc' := 176) (S' := ([(0, .ref 206)], [.int 20, .ref 206], rf_uR (rf_uR (rf_uR M 206 27 (some 223)) 206 28 (some 224)) 206 29 (some 225))) (by decide +kernel) rfl trivial ?_
  refine rf_bnewa B hF (by decide) .int 20 rfl .int rfl (by decide) (by decide) (by decide +kernel) (by decide) rfl rfl (rf_mem 2 (by decide +kernel)) (by decide) (by decide) (by decide +kernel) (fun K B hF => ?_)
  show rf_V 1 (rf_shn 227) K 20 310368 178 ([(0, .ref 206)], [.ref 226, .ref 206], rf_uR (rf_uR (rf_uR M 206 27 (some 223)) 206 28 (some 224)) 206 29 (some 225))
  refine rf_bputr (idx := 73) B hF 14 30 rfl rfl rfl (by decide) (by decide +kernel) (by decide +kernel) (fun hF => ?_)
  show rf_V 1 (rf_shn 227) K 20 310368 181 ([(0, .ref 206)], [], rf_uR (rf_uR (rf_uR (rf_uR M 206 27 (some 223)) 206 28 (some 224)) 206 29 (some 225)) 206 30 (some 226))
  refine rf_seg B.1 [(.aload 0, 1), (.iconst 20, 2)] (pc' := 184) (S' := ([(0, .ref 206)], [.int 20, .ref 206], rf_uR (rf_uR (rf_uR (rf_uR M 206 27 (some 223)) 206 28 (some 224)) 206 29 (some 225)) 206 30 (some 226))) (by decide +kernel) rfl trivial ?_
  refine rf_bnewa B hF (by decide) .int 20 rfl .int rfl (by decide) (by decide) (by decide +kernel) (by decide) rfl rfl (rf_mem 2 (by decide +kernel)) (by decide) (by decide) (by decide +kernel) (fun K B hF => ?_)
  show rf_V 1 (rf_shn 228) K 21 310388 186 ([(0, .ref 206)], [.ref 227, .ref 206], rf_uR (rf_uR (rf_uR (rf_uR M 206 27 (some 223)) 206 28 (some 224)) 206 29 (some 225)) 206 30 (some 226))
  refine rf_bputr (idx := 76) B hF 14 31 rfl rfl rfl (by decide) (by decide +kernel) (by decide +kernel) (fun hF => ?_)
  show rf_V 1 (rf_shn 228) K 21 310388 189 ([(0, .ref 206)], [], rf_uR (rf_uR (rf_uR (rf_uR (rf_uR M 206 27 (some 223)) 206 28 (some 224)) 206 29 (some 225)) 206 30 (some 226)) 206 31 (some 227))
  refine rf_seg B.1 [(.aload 0, 1), (.iconst 7, 2)] (pc' := 192) (S' := ([(0, .ref 206)], [.int 7, .ref 206], rf_uR (rf_uR (rf_uR (rf_uR (rf_uR M 206 27 (some 223)) 206 28 (some 224)) 206 29 (some 225)) 206 30 (some 226)) 206 31 (some 227))) (by decide +kernel) rfl trivial ?_
  refine rf_bnewa B hF (by decide) .int 7 rfl .int rfl (by decide) (by decide) (by decide +kernel) (by decide) rfl rfl (rf_mem 2 (by decide +kernel)) (by decide) (by decide) (by decide +kernel) (fun K B hF => ?_)
  show rf_V 1 (rf_shn 229) K 22 310395 194 ([(0, .ref 206)], [.ref 228, .ref 206], rf_uR (rf_uR (rf_uR (rf_uR (rf_uR M 206 27 (some 223)) 206 28 (some 224)) 206 29 (some 225)) 206 30 (some 226)) 206 31 (some 227))
  refine rf_bputr (idx := 79) B hF 14 32 rfl rfl rfl (by decide) (by decide +kernel) (by decide +kernel) (fun hF => ?_)
  show rf_V 1 (rf_shn 229) K 22 310395 197 ([(0, .ref 206)], [], rf_uR (rf_uR (rf_uR (rf_uR (rf_uR (rf_uR M 206 27 (some 223)) 206 28 (some 224)) 206 29 (some 225)) 206 30 (some 226)) 206 31 (some 227)) 206 32 (some 228))
  refine rf_seg B.1 [(.aload 0, 1), (.iconst 24, 2)] (pc' := 200) (S' := ([(0, .ref 206)], [.int 24, .ref 206], rf_uR (rf_uR (rf_uR (rf_uR (rf_uR (rf_uR M 206 27 (some 223)) 206 28 (some 224)) 206 29 (some 225)) 206 30 (some 226)) 206 31 (some 227)) 206 32 (some 228))) (by decide +kernel) rfl trivial ?_
  refine rf_bnewq (idx := 82) B hF (by decide) "GreatArcModel$Rule" 24 rfl (by decide) (by decide +kernel) (by decide) rfl rfl (rf_mem 9 (by decide +kernel)) (by decide) (by decide) (by decide) (by decide +kernel) (fun K B hF => ?_)
  show rf_V 1 (rf_shn 230) K 23 310419 203 ([(0, .ref 206)], [.ref 229, .ref 206], rf_uR (rf_uR (rf_uR (rf_uR (rf_uR (rf_uR M 206 27 (some 223)) 206 28 (some 224)) 206 29 (some 225)) 206 30 (some 226)) 206 31 (some 227)) 206 32 (some 228))
  refine rf_bputr (idx := 84) B hF 14 40 rfl rfl rfl (by decide) (by decide +kernel) (by decide +kernel) (fun hF => ?_)
  show rf_V 1 (rf_shn 230) K 23 310419 206 ([(0, .ref 206)], [], rf_uR (rf_uR (rf_uR (rf_uR (rf_uR (rf_uR (rf_uR M 206 27 (some 223)) 206 28 (some 224)) 206 29 (some 225)) 206 30 (some 226)) 206 31 (some 227)) 206 32 (some 228)) 206 40 (some 229))
  refine rf_seg B.1 [(.aload 0, 1)] (pc' := 207) (S' := ([(0, .ref 206)], [.ref 206], rf_uR (rf_uR (rf_uR (rf_uR (rf_uR (rf_uR (rf_uR M 206 27 (some 223)) 206 28 (some 224)) 206 29 (some 225)) 206 30 (some 226)) 206 31 (some 227)) 206 32 (some 228)) 206 40 (some 229))) (by decide +kernel) rfl trivial ?_
  refine rf_bnew (idx := 82) B hF (by decide) 12 rfl (by decide) (by decide +kernel) rfl rfl (rf_mem 9 (by decide +kernel)) (rf_mem 9 (by decide +kernel)) (rf_mem 9 (by decide +kernel)) (by decide) (by decide) (by decide +kernel) (fun K B hF => ?_)
  show rf_V 1 (rf_shn 231) K 24 310426 210 ([(0, .ref 206)], [.ref 230, .ref 206], rf_uR (rf_uR (rf_uR (rf_uR (rf_uR (rf_uR (rf_uR M 206 27 (some 223)) 206 28 (some 224)) 206 29 (some 225)) 206 30 (some 226)) 206 31 (some 227)) 206 32 (some 228)) 206 40 (some 229))
  refine rf_seg B.1 [(.dup, 1)] (pc' := 211) (S' := ([(0, .ref 206)], [.ref 230, .ref 230, .ref 206], rf_uR (rf_uR (rf_uR (rf_uR (rf_uR (rf_uR (rf_uR M 206 27 (some 223)) 206 28 (some 224)) 206 29 (some 225)) 206 30 (some 226)) 206 31 (some 227)) 206 32 (some 228)) 206 40 (some 229))) (by decide +kernel) rfl trivial ?_
  refine rf_bcallN (idx := 88) B j_X12_init (ho := 14) (As := []) (rest := [.ref 230, .ref 206]) mwi_X12_init (ci_X12_init_231 hF) (by decide) (by decide) (by decide +kernel) rfl rfl (Nat.le_of_ble_eq_true rfl) rfl rfl (by decide) (by decide) (by decide +kernel) (fun K B => ?_)
  have hF := fi_X12_init_231 hF
  show rf_V 1 (rf_shn 233) K 26 311026 214 ([(0, .ref 206)], [.ref 230, .ref 206], mi_X12_init_231 (rf_uR (rf_uR (rf_uR (rf_uR (rf_uR (rf_uR (rf_uR M 206 27 (some 223)) 206 28 (some 224)) 206 29 (some 225)) 206 30 (some 226)) 206 31 (some 227)) 206 32 (some 228)) 206 40 (some 229)))
  refine rf_bputr (idx := 89) B hF 14 41 rfl rfl rfl (by decide) (by decide +kernel) (by decide +kernel) (fun hF => ?_)
  show rf_V 1 (rf_shn 233) K 26 311026 217 ([(0, .ref 206)], [], rf_uR (mi_X12_init_231 (rf_uR (rf_uR (rf_uR (rf_uR (rf_uR (rf_uR (rf_uR M 206 27 (some 223)) 206 28 (some 224)) 206 29 (some 225)) 206 30 (some 226)) 206 31 (some 227)) 206 32 (some 228)) 206 40 (some 229))) 206 41 (some 230))
  exact k K B hF
def mj_X14_init_207_3 (M : rf_M) : rf_M := rf_uR (rf_uR (rf_uR (rf_uR (rf_uI (rf_uR (rf_uR (rf_uR M 206 42 (some 233)) 206 43 (some 234)) 206 54 (some 235)) 206 56 11) 206 57 (some 236)) 206 58 (some 237)) 206 59 (some 238)) 206 60 (some 239)
theorem fj_X14_init_207_3 {M : rf_M} (hF : rf_F 233 M) : rf_F 240 (mj_X14_init_207_3 M) := by
  have hF := rf_F_succ hF
  have hF := rf_F_uR (k := 206) (i := 42) (j := 233) hF (by decide) (by decide)
  have hF := rf_F_succ hF
  have hF := rf_F_uR (k := 206) (i := 43) (j := 234) hF (by decide) (by decide)
  have hF := rf_F_succ hF
  have hF := rf_F_uR (k := 206) (i := 54) (j := 235) hF (by decide) (by decide)
  have hF := rf_F_uI (k := 206) (i := 56) (x := 11) hF (by decide)
  have hF := rf_F_succ hF
  have hF := rf_F_uR (k := 206) (i := 57) (j := 236) hF (by decide) (by decide)
  have hF := rf_F_succ hF
  have hF := rf_F_uR (k := 206) (i := 58) (j := 237) hF (by decide) (by decide)
  have hF := rf_F_succ hF
  have hF := rf_F_uR (k := 206) (i := 59) (j := 238) hF (by decide) (by decide)
  have hF := rf_F_succ hF
  have hF := rf_F_uR (k := 206) (i := 60) (j := 239) hF (by decide) (by decide)
  exact hF
theorem sj_X14_init_207_3 {K0 K : rf_K} {M : rf_M} (B : rf_B 14 cX14_init 1 6 98 322040 207 K0 233 K) (hF : rf_F 233 M) (k : ∀ K', rf_B 14 cX14_init 1 6 98 322040 207 K0 240 K' → rf_F 240 (mj_X14_init_207_3 M) → rf_V 1 (rf_shn 240) K' 33 311658 284 ([(0, .ref 206)], [], mj_X14_init_207_3 M)) : rf_V 1 (rf_shn 233) K 26 311026 217 ([(0, .ref 206)], [], M) := by
  refine rf_seg B.1 [(.aload 0, 1)] (pc' := 218) (S' := ([(0, .ref 206)], [.ref 206], M)) (by decide +kernel) rfl trivial ?_
  have hstop := fun f => (hF.2 233 f (Nat.le_refl _)).2.2
  refine rf_bnew (idx := 93) B hF (by decide) 13 rfl (by decide) (by decide +kernel) rfl rfl (rf_mem 9 (by decide +kernel)) (rf_mem 9 (by decide +kernel)) (rf_mem 9 (by decide +kernel)) (by decide) (by decide) (by decide +kernel) (fun K B hF => ?_)
  show rf_V 1 (rf_shn 234) K 27 311034 221 ([(0, .ref 206)], [.ref 233, .ref 206], M)
  refine rf_seg B.1 [(.dup, 1)] (pc' := 222) (S' := ([(0, .ref 206)], [.ref 233, .ref 233, .ref 206], M)) (by decide +kernel) rfl trivial ?_
  refine rf_bcall (idx := 95) B j_X13_init (As := []) (rest := [.ref 233, .ref 206]) mwi_X13_init (ci_X13_init (by decide) rfl hstop) (by decide) (by decide) (rf_mem 13 (by decide +kernel)) rfl rfl (Nat.le_of_ble_eq_true rfl) rfl rfl (by decide) (by decide) (by decide +kernel) (fun K B => ?_)
  show rf_V 1 (rf_shn 234) K 27 311034 225 ([(0, .ref 206)], [.ref 233, .ref 206], M)
  refine rf_bputr (idx := 96) B hF 14 42 rfl rfl rfl (by decide) (by decide +kernel) (by decide +kernel) (fun hF => ?_)
  show rf_V 1 (rf_shn 234) K 27 311034 228 ([(0, .ref 206)], [], rf_uR M 206 42 (some 233))
  refine rf_seg B.1 [(.aload 0, 1), (.iconst 300, 3)] (pc' := 232) (S' := ([(0, .ref 206)], [.int 300, .ref 206], rf_uR M 206 42 (some 233))) (by decide +kernel) rfl trivial ?_
  refine rf_bnewa B hF (by decide) .byte 300 rfl .byte rfl (by decide) (by decide) (by decide +kernel) (by decide) rfl rfl (rf_mem 10 (by decide +kernel)) (by decide) (by decide) (by decide +kernel) (fun K B hF => ?_)
  show rf_V 1 (rf_shn 235) K 28 311334 234 ([(0, .ref 206)], [.ref 234, .ref 206], rf_uR M 206 42 (some 233))
  refine rf_bputr (idx := 100) B hF 14 43 rfl rfl rfl (by decide) (by decide +kernel) (by decide +kernel) (fun hF => ?_)
  show rf_V 1 (rf_shn 235) K 28 311334 237 ([(0, .ref 206)], [], rf_uR (rf_uR M 206 42 (some 233)) 206 43 (some 234))
  refine rf_seg B.1 [(.aload 0, 1), (.iconst 300, 3)] (pc' := 241) (S' := ([(0, .ref 206)], [.int 300, .ref 206], rf_uR (rf_uR M 206 42 (some 233)) 206 43 (some 234))) (by decide +kernel) rfl trivial ?_
  refine rf_bnewa B hF (by decide) .int 300 rfl .int rfl (by decide) (by decide) (by decide +kernel) (by decide) rfl rfl (rf_mem 2 (by decide +kernel)) (by decide) (by decide) (by decide +kernel) (fun K B hF => ?_)
  show rf_V 1 (rf_shn 236) K 29 311634 243 ([(0, .ref 206)], [.ref 235, .ref 206], rf_uR (rf_uR M 206 42 (some 233)) 206 43 (some 234))
  refine rf_bputr (idx := 104) B hF 14 54 rfl rfl rfl (by decide) (by decide +kernel) (by decide +kernel) (fun hF => ?_)
  show rf_V 1 (rf_shn 236) K 29 311634 246 ([(0, .ref 206)], [], rf_uR (rf_uR (rf_uR M 206 42 (some 233)) 206 43 (some 234)) 206 54 (some 235))
  refine rf_seg B.1 [(.aload 0, 1), (.iconst 11, 2), (.multianewarray 14 56, 3)] (pc' := 252) (S' := ([(0, .ref 206)], [], rf_uI (rf_uR (rf_uR (rf_uR M 206 42 (some 233)) 206 43 (some 234)) 206 54 (some 235)) 206 56 11)) (by decide +kernel) rfl trivial ?_
  have hF := rf_F_uI (k := 206) (i := 56) (x := 11) hF (by decide)
  refine rf_seg B.1 [(.aload 0, 1), (.iconst 6, 2)] (pc' := 255) (S' := ([(0, .ref 206)], [.int 6, .ref 206], rf_uI (rf_uR (rf_uR (rf_uR M 206 42 (some 233)) 206 43 (some 234)) 206 54 (some 235)) 206 56 11)) (by decide +kernel) rfl trivial ?_
  refine rf_bnewa B hF (by decide) .int 6 rfl .int rfl (by decide) (by decide) (by decide +kernel) (by decide) rfl rfl (rf_mem 2 (by decide +kernel)) (by decide) (by decide) (by decide +kernel) (fun K B hF => ?_)
  show rf_V 1 (rf_shn 237) K 30 311640 257 ([(0, .ref 206)], [.ref 236, .ref 206], rf_uI (rf_uR (rf_uR (rf_uR M 206 42 (some 233)) 206 43 (some 234)) 206 54 (some 235)) 206 56 11)
  refine rf_bputr (idx := 110) B hF 14 57 rfl rfl rfl (by decide) (by decide +kernel) (by decide +kernel) (fun hF => ?_)
  show rf_V 1 (rf_shn 237) K 30 311640 260 ([(0, .ref 206)], [], rf_uR (rf_uI (rf_uR (rf_uR (rf_uR M 206 42 (some 233)) 206 43 (some 234)) 206 54 (some 235)) 206 56 11) 206 57 (some 236))
  refine rf_seg B.1 [(.aload 0, 1), (.iconst 6, 2)] (pc' := 263) (S' := ([(0, .ref 206)], [.int 6, .ref 206], rf_uR (rf_uI (rf_uR (rf_uR (rf_uR M 206 42 (some 233)) 206 43 (some 234)) 206 54 (some 235)) 206 56 11) 206 57 (some 236))) (by decide +kernel) rfl trivial ?_
  refine rf_bnewa B hF (by decide) .int 6 rfl .int rfl (by decide) (by decide) (by decide +kernel) (by decide) rfl rfl (rf_mem 2 (by decide +kernel)) (by decide) (by decide) (by decide +kernel) (fun K B hF => ?_)
  show rf_V 1 (rf_shn 238) K 31 311646 265 ([(0, .ref 206)], [.ref 237, .ref 206], rf_uR (rf_uI (rf_uR (rf_uR (rf_uR M 206 42 (some 233)) 206 43 (some 234)) 206 54 (some 235)) 206 56 11) 206 57 (some 236))
  refine rf_bputr (idx := 113) B hF 14 58 rfl rfl rfl (by decide) (by decide +kernel) (by decide +kernel) (fun hF => ?_)
  show rf_V 1 (rf_shn 238) K 31 311646 268 ([(0, .ref 206)], [], rf_uR (rf_uR (rf_uI (rf_uR (rf_uR (rf_uR M 206 42 (some 233)) 206 43 (some 234)) 206 54 (some 235)) 206 56 11) 206 57 (some 236)) 206 58 (some 237))
  refine rf_seg B.1 [(.aload 0, 1), (.iconst 6, 2)] (pc' := 271) (S' := ([(0, .ref 206)], [.int 6, .ref 206], rf_uR (rf_uR (rf_uI (rf_uR (rf_uR (rf_uR M 206 42 (some 233)) 206 43 (some 234)) 206 54 (some 235)) 206 56 11) 206 57 (some 236)) 206 58 (some 237))) (by decide +kernel) rfl trivial ?_
  refine rf_bnewa B hF (by decide) .int 6 rfl .int rfl (by decide) (by decide) (by decide +kernel) (by decide) rfl rfl (rf_mem 2 (by decide +kernel)) (by decide) (by decide) (by decide +kernel) (fun K B hF => ?_)
  show rf_V 1 (rf_shn 239) K 32 311652 273 ([(0, .ref 206)], [.ref 238, .ref 206], rf_uR (rf_uR (rf_uI (rf_uR (rf_uR (rf_uR M 206 42 (some 233)) 206 43 (some 234)) 206 54 (some 235)) 206 56 11) 206 57 (some 236)) 206 58 (some 237))
  refine rf_bputr (idx := 116) B hF 14 59 rfl rfl rfl (by decide) (by decide +kernel) (by decide +kernel) (fun hF => ?_)
  show rf_V 1 (rf_shn 239) K 32 311652 276 ([(0, .ref 206)], [], rf_uR (rf_uR (rf_uR (rf_uI (rf_uR (rf_uR (rf_uR M 206 42 (some 233)) 206 43 (some 234)) 206 54 (some 235)) 206 56 11) 206 57 (some 236)) 206 58 (some 237)) 206 59 (some 238))
  refine rf_seg B.1 [(.aload 0, 1), (.iconst 6, 2)] (pc' := 279) (S' := ([(0, .ref 206)], [.int 6, .ref 206], rf_uR (rf_uR (rf_uR (rf_uI (rf_uR (rf_uR (rf_uR M 206 42 (some 233)) 206 43 (some 234)) 206 54 (some 235)) 206 56 11) 206 57 (some 236)) 206 58 (some 237)) 206 59 (some 238))) (by decide +kernel) rfl trivial ?_
  refine rf_bnewa B hF (by decide) .int 6 rfl .int rfl (by decide) (by decide) (by decide +kernel) (by decide) rfl rfl (rf_mem 2 (by decide +kernel)) (by decide) (by decide) (by decide +kernel) (fun K B hF => ?_)
  show rf_V 1 (rf_shn 240) K 33 311658 281 ([(0, .ref 206)], [.ref 239, .ref 206], rf_uR (rf_uR (rf_uR (rf_uI (rf_uR (rf_uR (rf_uR M 206 42 (some 233)) 206 43 (some 234)) 206 54 (some 235)) 206 56 11) 206 57 (some 236)) 206 58 (some 237)) 206 59 (some 238))
  refine rf_bputr (idx := 119) B hF 14 60 rfl rfl rfl (by decide) (by decide +kernel) (by decide +kernel) (fun hF => ?_)
  show rf_V 1 (rf_shn 240) K 33 311658 284 ([(0, .ref 206)], [], rf_uR (rf_uR (rf_uR (rf_uR (rf_uI (rf_uR (rf_uR (rf_uR M 206 42 (some 233)) 206 43 (some 234)) 206 54 (some 235)) 206 56 11) 206 57 (some 236)) 206 58 (some 237)) 206 59 (some 238)) 206 60 (some 239))
  exact k K B hF
def mj_X14_init_207_4 (M : rf_M) : rf_M := rf_uR (rf_uR (rf_uR (rf_uR (rf_uR (rf_uR (rf_uR (rf_uR M 206 61 (some 240)) 206 62 (some 241)) 206 63 (some 242)) 206 66 (some 243)) 206 67 (some 244)) 206 68 (some 245)) 206 69 (some 246)) 206 70 (some 247)
theorem fj_X14_init_207_4 {M : rf_M} (hF : rf_F 240 M) : rf_F 248 (mj_X14_init_207_4 M) := by
  have hF := rf_F_succ hF
  have hF := rf_F_uR (k := 206) (i := 61) (j := 240) hF (by decide) (by decide)
  have hF := rf_F_succ hF
  have hF := rf_F_uR (k := 206) (i := 62) (j := 241) hF (by decide) (by decide)
  have hF := rf_F_succ hF
  have hF := rf_F_uR (k := 206) (i := 63) (j := 242) hF (by decide) (by decide)
  have hF := rf_F_succ hF
  have hF := rf_F_uR (k := 206) (i := 66) (j := 243) hF (by decide) (by decide)
  have hF := rf_F_succ hF
  have hF := rf_F_uR (k := 206) (i := 67) (j := 244) hF (by decide) (by decide)
  have hF := rf_F_succ hF
  have hF := rf_F_uR (k := 206) (i := 68) (j := 245) hF (by decide) (by decide)
  have hF := rf_F_succ hF
  have hF := rf_F_uR (k := 206) (i := 69) (j := 246) hF (by decide) (by decide)
  have hF := rf_F_succ hF
  have hF := rf_F_uR (k := 206) (i := 70) (j := 247) hF (by decide) (by decide)
  exact hF
theorem sj_X14_init_207_4 {K0 K : rf_K} {M : rf_M} (B : rf_B 14 cX14_init 1 6 98 322040 207 K0 240 K) (hF : rf_F 240 M) (k : ∀ K', rf_B 14 cX14_init 1 6 98 322040 207 K0 248 K' → rf_F 248 (mj_X14_init_207_4 M) → rf_V 1 (rf_shn 248) K' 41 312588 351 ([(0, .ref 206)], [], mj_X14_init_207_4 M)) : rf_V 1 (rf_shn 240) K 33 311658 284 ([(0, .ref 206)], [], M) := by
  refine rf_seg B.1 [(.aload 0, 1), (.iconst 240, 3)] (pc' := 288) (S' := ([(0, .ref 206)], [.int 240, .ref 206], M)) (by decide +kernel) rfl trivial ?_
  refine rf_bnewa B hF (by decide) .int 240 rfl .int rfl (by decide) (by decide) (by decide +kernel) (by decide) rfl rfl (rf_mem 2 (by decide +kernel)) (by decide) (by decide) (by decide +kernel) (fun K B hF => ?_)
  show rf_V 1 (rf_shn 241) K 34 311898 290 ([(0, .ref 206)], [.ref 240, .ref 206], M)
  refine rf_bputr (idx := 122) B hF 14 61 rfl rfl rfl (by decide) (by decide +kernel) (by decide +kernel) (fun hF => ?_)
  show rf_V 1 (rf_shn 241) K 34 311898 293 ([(0, .ref 206)], [], rf_uR M 206 61 (some 240))
  refine rf_seg B.1 [(.aload 0, 1), (.iconst 240, 3)] (pc' := 297) (S' := ([(0, .ref 206)], [.int 240, .ref 206], rf_uR M 206 61 (some 240))) (by decide +kernel) rfl trivial ?_
  refine rf_bnewa B hF (by decide) .int 240 rfl .int rfl (by decide) (by decide) (by decide +kernel) (by decide) rfl rfl (rf_mem 2 (by decide +kernel)) (by decide) (by decide) (by decide +kernel) (fun K B hF => ?_)
  show rf_V 1 (rf_shn 242) K 35 312138 299 ([(0, .ref 206)], [.ref 241, .ref 206], rf_uR M 206 61 (some 240))
  refine rf_bputr (idx := 125) B hF 14 62 rfl rfl rfl (by decide) (by decide +kernel) (by decide +kernel) (fun hF => ?_)
  show rf_V 1 (rf_shn 242) K 35 312138 302 ([(0, .ref 206)], [], rf_uR (rf_uR M 206 61 (some 240)) 206 62 (some 241))
  refine rf_seg B.1 [(.aload 0, 1), (.iconst 240, 3)] (pc' := 306) (S' := ([(0, .ref 206)], [.int 240, .ref 206], rf_uR (rf_uR M 206 61 (some 240)) 206 62 (some 241))) (by decide +kernel) rfl trivial ?_
  refine rf_bnewa B hF (by decide) .int 240 rfl .int rfl (by decide) (by decide) (by decide +kernel) (by decide) rfl rfl (rf_mem 2 (by decide +kernel)) (by decide) (by decide) (by decide +kernel) (fun K B hF => ?_)
  show rf_V 1 (rf_shn 243) K 36 312378 308 ([(0, .ref 206)], [.ref 242, .ref 206], rf_uR (rf_uR M 206 61 (some 240)) 206 62 (some 241))
  refine rf_bputr (idx := 128) B hF 14 63 rfl rfl rfl (by decide) (by decide +kernel) (by decide +kernel) (fun hF => ?_)
  show rf_V 1 (rf_shn 243) K 36 312378 311 ([(0, .ref 206)], [], rf_uR (rf_uR (rf_uR M 206 61 (some 240)) 206 62 (some 241)) 206 63 (some 242))
  refine rf_seg B.1 [(.aload 0, 1), (.iconst 90, 2)] (pc' := 314) (S' := ([(0, .ref 206)], [.int 90, .ref 206], rf_uR (rf_uR (rf_uR M 206 61 (some 240)) 206 62 (some 241)) 206 63 (some 242))) (by decide +kernel) rfl trivial ?_
  refine rf_bnewa B hF (by decide) .int 90 rfl .int rfl (by decide) (by decide) (by decide +kernel) (by decide) rfl rfl (rf_mem 2 (by decide +kernel)) (by decide) (by decide) (by decide +kernel) (fun K B hF => ?_)
  show rf_V 1 (rf_shn 244) K 37 312468 316 ([(0, .ref 206)], [.ref 243, .ref 206], rf_uR (rf_uR (rf_uR M 206 61 (some 240)) 206 62 (some 241)) 206 63 (some 242))
  refine rf_bputr (idx := 131) B hF 14 66 rfl rfl rfl (by decide) (by decide +kernel) (by decide +kernel) (fun hF => ?_)
  show rf_V 1 (rf_shn 244) K 37 312468 319 ([(0, .ref 206)], [], rf_uR (rf_uR (rf_uR (rf_uR M 206 61 (some 240)) 206 62 (some 241)) 206 63 (some 242)) 206 66 (some 243))
  refine rf_seg B.1 [(.aload 0, 1), (.iconst 30, 2)] (pc' := 322) (S' := ([(0, .ref 206)], [.int 30, .ref 206], rf_uR (rf_uR (rf_uR (rf_uR M 206 61 (some 240)) 206 62 (some 241)) 206 63 (some 242)) 206 66 (some 243))) (by decide +kernel) rfl trivial ?_
  refine rf_bnewa B hF (by decide) .int 30 rfl .int rfl (by decide) (by decide) (by decide +kernel) (by decide) rfl rfl (rf_mem 2 (by decide +kernel)) (by decide) (by decide) (by decide +kernel) (fun K B hF => ?_)
  show rf_V 1 (rf_shn 245) K 38 312498 324 ([(0, .ref 206)], [.ref 244, .ref 206], rf_uR (rf_uR (rf_uR (rf_uR M 206 61 (some 240)) 206 62 (some 241)) 206 63 (some 242)) 206 66 (some 243))
  refine rf_bputr (idx := 134) B hF 14 67 rfl rfl rfl (by decide) (by decide +kernel) (by decide +kernel) (fun hF => ?_)
  show rf_V 1 (rf_shn 245) K 38 312498 327 ([(0, .ref 206)], [], rf_uR (rf_uR (rf_uR (rf_uR (rf_uR M 206 61 (some 240)) 206 62 (some 241)) 206 63 (some 242)) 206 66 (some 243)) 206 67 (some 244))
  refine rf_seg B.1 [(.aload 0, 1), (.iconst 72, 2)] (pc' := 330) (S' := ([(0, .ref 206)], [.int 72, .ref 206], rf_uR (rf_uR (rf_uR (rf_uR (rf_uR M 206 61 (some 240)) 206 62 (some 241)) 206 63 (some 242)) 206 66 (some 243)) 206 67 (some 244))) (by decide +kernel) rfl trivial ?_
  refine rf_bnewa B hF (by decide) .int 72 rfl .int rfl (by decide) (by decide) (by decide +kernel) (by decide) rfl rfl (rf_mem 2 (by decide +kernel)) (by decide) (by decide) (by decide +kernel) (fun K B hF => ?_)
  show rf_V 1 (rf_shn 246) K 39 312570 332 ([(0, .ref 206)], [.ref 245, .ref 206], rf_uR (rf_uR (rf_uR (rf_uR (rf_uR M 206 61 (some 240)) 206 62 (some 241)) 206 63 (some 242)) 206 66 (some 243)) 206 67 (some 244))
  refine rf_bputr (idx := 137) B hF 14 68 rfl rfl rfl (by decide) (by decide +kernel) (by decide +kernel) (fun hF => ?_)
  show rf_V 1 (rf_shn 246) K 39 312570 335 ([(0, .ref 206)], [], rf_uR (rf_uR (rf_uR (rf_uR (rf_uR (rf_uR M 206 61 (some 240)) 206 62 (some 241)) 206 63 (some 242)) 206 66 (some 243)) 206 67 (some 244)) 206 68 (some 245))
  refine rf_seg B.1 [(.aload 0, 1), (.iconst 12, 2)] (pc' := 338) (S' := ([(0, .ref 206)], [.int 12, .ref 206], rf_uR (rf_uR (rf_uR (rf_uR (rf_uR (rf_uR M 206 61 (some 240)) 206 62 (some 241)) 206 63 (some 242)) 206 66 (some 243)) 206 67 (some 244)) 206 68 (some 245))) (by decide +kernel) rfl trivial ?_
  refine rf_bnewa B hF (by decide) .int 12 rfl .int rfl (by decide) (by decide) (by decide +kernel) (by decide) rfl rfl (rf_mem 2 (by decide +kernel)) (by decide) (by decide) (by decide +kernel) (fun K B hF => ?_)
  show rf_V 1 (rf_shn 247) K 40 312582 340 ([(0, .ref 206)], [.ref 246, .ref 206], rf_uR (rf_uR (rf_uR (rf_uR (rf_uR (rf_uR M 206 61 (some 240)) 206 62 (some 241)) 206 63 (some 242)) 206 66 (some 243)) 206 67 (some 244)) 206 68 (some 245))
  refine rf_bputr (idx := 140) B hF 14 69 rfl rfl rfl (by decide) (by decide +kernel) (by decide +kernel) (fun hF => ?_)
  show rf_V 1 (rf_shn 247) K 40 312582 343 ([(0, .ref 206)], [], rf_uR (rf_uR (rf_uR (rf_uR (rf_uR (rf_uR (rf_uR M 206 61 (some 240)) 206 62 (some 241)) 206 63 (some 242)) 206 66 (some 243)) 206 67 (some 244)) 206 68 (some 245)) 206 69 (some 246))
  refine rf_seg B.1 [(.aload 0, 1), (.iconst 6, 2)] (pc' := 346) (S' := ([(0, .ref 206)], [.int 6, .ref 206], rf_uR (rf_uR (rf_uR (rf_uR (rf_uR (rf_uR (rf_uR M 206 61 (some 240)) 206 62 (some 241)) 206 63 (some 242)) 206 66 (some 243)) 206 67 (some 244)) 206 68 (some 245)) 206 69 (some 246))) (by decide +kernel) rfl trivial ?_
  refine rf_bnewa B hF (by decide) .int 6 rfl .int rfl (by decide) (by decide) (by decide +kernel) (by decide) rfl rfl (rf_mem 2 (by decide +kernel)) (by decide) (by decide) (by decide +kernel) (fun K B hF => ?_)
  show rf_V 1 (rf_shn 248) K 41 312588 348 ([(0, .ref 206)], [.ref 247, .ref 206], rf_uR (rf_uR (rf_uR (rf_uR (rf_uR (rf_uR (rf_uR M 206 61 (some 240)) 206 62 (some 241)) 206 63 (some 242)) 206 66 (some 243)) 206 67 (some 244)) 206 68 (some 245)) 206 69 (some 246))
  refine rf_bputr (idx := 143) B hF 14 70 rfl rfl rfl (by decide) (by decide +kernel) (by decide +kernel) (fun hF => ?_)
  show rf_V 1 (rf_shn 248) K 41 312588 351 ([(0, .ref 206)], [], rf_uR (rf_uR (rf_uR (rf_uR (rf_uR (rf_uR (rf_uR (rf_uR M 206 61 (some 240)) 206 62 (some 241)) 206 63 (some 242)) 206 66 (some 243)) 206 67 (some 244)) 206 68 (some 245)) 206 69 (some 246)) 206 70 (some 247))
  exact k K B hF
def mj_X14_init_207_5 (M : rf_M) : rf_M := rf_uR (rf_uR (rf_uR (rf_uR (rf_uR (rf_uR (rf_uR (rf_uR M 206 71 (some 248)) 206 72 (some 249)) 206 73 (some 250)) 206 74 (some 251)) 206 75 (some 252)) 206 76 (some 253)) 206 77 (some 254)) 206 78 (some 255)
theorem fj_X14_init_207_5 {M : rf_M} (hF : rf_F 248 M) : rf_F 256 (mj_X14_init_207_5 M) := by
  have hF := rf_F_succ hF
  have hF := rf_F_uR (k := 206) (i := 71) (j := 248) hF (by decide) (by decide)
  have hF := rf_F_succ hF
  have hF := rf_F_uR (k := 206) (i := 72) (j := 249) hF (by decide) (by decide)
  have hF := rf_F_succ hF
  have hF := rf_F_uR (k := 206) (i := 73) (j := 250) hF (by decide) (by decide)
  have hF := rf_F_succ hF
  have hF := rf_F_uR (k := 206) (i := 74) (j := 251) hF (by decide) (by decide)
  have hF := rf_F_succ hF
  have hF := rf_F_uR (k := 206) (i := 75) (j := 252) hF (by decide) (by decide)
  have hF := rf_F_succ hF
  have hF := rf_F_uR (k := 206) (i := 76) (j := 253) hF (by decide) (by decide)
  have hF := rf_F_succ hF
  have hF := rf_F_uR (k := 206) (i := 77) (j := 254) hF (by decide) (by decide)
  have hF := rf_F_succ hF
  have hF := rf_F_uR (k := 206) (i := 78) (j := 255) hF (by decide) (by decide)
  exact hF
theorem sj_X14_init_207_5 {K0 K : rf_K} {M : rf_M} (B : rf_B 14 cX14_init 1 6 98 322040 207 K0 248 K) (hF : rf_F 248 M) (k : ∀ K', rf_B 14 cX14_init 1 6 98 322040 207 K0 256 K' → rf_F 256 (mj_X14_init_207_5 M) → rf_V 1 (rf_shn 256) K' 49 312740 415 ([(0, .ref 206)], [], mj_X14_init_207_5 M)) : rf_V 1 (rf_shn 248) K 41 312588 351 ([(0, .ref 206)], [], M) := by
  refine rf_seg B.1 [(.aload 0, 1), (.iconst 80, 2)] (pc' := 354) (S' := ([(0, .ref 206)], [.int 80, .ref 206], M)) (by decide +kernel) rfl trivial ?_
  refine rf_bnewa B hF (by decide) .int 80 rfl .int rfl (by decide) (by decide) (by decide +kernel) (by decide) rfl rfl (rf_mem 2 (by decide +kernel)) (by decide) (by decide) (by decide +kernel) (fun K B hF => ?_)
  show rf_V 1 (rf_shn 249) K 42 312668 356 ([(0, .ref 206)], [.ref 248, .ref 206], M)
  refine rf_bputr (idx := 146) B hF 14 71 rfl rfl rfl (by decide) (by decide +kernel) (by decide +kernel) (fun hF => ?_)
  show rf_V 1 (rf_shn 249) K 42 312668 359 ([(0, .ref 206)], [], rf_uR M 206 71 (some 248))
  refine rf_seg B.1 [(.aload 0, 1), (.iconst 6, 2)] (pc' := 362) (S' := ([(0, .ref 206)], [.int 6, .ref 206], rf_uR M 206 71 (some 248))) (by decide +kernel) rfl trivial ?_
  refine rf_bnewa B hF (by decide) .int 6 rfl .int rfl (by decide) (by decide) (by decide +kernel) (by decide) rfl rfl (rf_mem 2 (by decide +kernel)) (by decide) (by decide) (by decide +kernel) (fun K B hF => ?_)
  show rf_V 1 (rf_shn 250) K 43 312674 364 ([(0, .ref 206)], [.ref 249, .ref 206], rf_uR M 206 71 (some 248))
  refine rf_bputr (idx := 149) B hF 14 72 rfl rfl rfl (by decide) (by decide +kernel) (by decide +kernel) (fun hF => ?_)
  show rf_V 1 (rf_shn 250) K 43 312674 367 ([(0, .ref 206)], [], rf_uR (rf_uR M 206 71 (some 248)) 206 72 (some 249))
  refine rf_seg B.1 [(.aload 0, 1), (.iconst 6, 2)] (pc' := 370) (S' := ([(0, .ref 206)], [.int 6, .ref 206], rf_uR (rf_uR M 206 71 (some 248)) 206 72 (some 249))) (by decide +kernel) rfl trivial ?_
  refine rf_bnewa B hF (by decide) .int 6 rfl .int rfl (by decide) (by decide) (by decide +kernel) (by decide) rfl rfl (rf_mem 2 (by decide +kernel)) (by decide) (by decide) (by decide +kernel) (fun K B hF => ?_)
  show rf_V 1 (rf_shn 251) K 44 312680 372 ([(0, .ref 206)], [.ref 250, .ref 206], rf_uR (rf_uR M 206 71 (some 248)) 206 72 (some 249))
  refine rf_bputr (idx := 152) B hF 14 73 rfl rfl rfl (by decide) (by decide +kernel) (by decide +kernel) (fun hF => ?_)
  show rf_V 1 (rf_shn 251) K 44 312680 375 ([(0, .ref 206)], [], rf_uR (rf_uR (rf_uR M 206 71 (some 248)) 206 72 (some 249)) 206 73 (some 250))
  refine rf_seg B.1 [(.aload 0, 1), (.iconst 6, 2)] (pc' := 378) (S' := ([(0, .ref 206)], [.int 6, .ref 206], rf_uR (rf_uR (rf_uR M 206 71 (some 248)) 206 72 (some 249)) 206 73 (some 250))) (by decide +kernel) rfl trivial ?_
  refine rf_bnewa B hF (by decide) .int 6 rfl .int rfl (by decide) (by decide) (by decide +kernel) (by decide) rfl rfl (rf_mem 2 (by decide +kernel)) (by decide) (by decide) (by decide +kernel) (fun K B hF => ?_)
  show rf_V 1 (rf_shn 252) K 45 312686 380 ([(0, .ref 206)], [.ref 251, .ref 206], rf_uR (rf_uR (rf_uR M 206 71 (some 248)) 206 72 (some 249)) 206 73 (some 250))
  refine rf_bputr (idx := 155) B hF 14 74 rfl rfl rfl (by decide) (by decide +kernel) (by decide +kernel) (fun hF => ?_)
  show rf_V 1 (rf_shn 252) K 45 312686 383 ([(0, .ref 206)], [], rf_uR (rf_uR (rf_uR (rf_uR M 206 71 (some 248)) 206 72 (some 249)) 206 73 (some 250)) 206 74 (some 251))
  refine rf_seg B.1 [(.aload 0, 1), (.iconst 6, 2)] (pc' := 386) (S' := ([(0, .ref 206)], [.int 6, .ref 206], rf_uR (rf_uR (rf_uR (rf_uR M 206 71 (some 248)) 206 72 (some 249)) 206 73 (some 250)) 206 74 (some 251))) (by decide +kernel) rfl trivial ?_
  refine rf_bnewa B hF (by decide) .int 6 rfl .int rfl (by decide) (by decide) (by decide +kernel) (by decide) rfl rfl (rf_mem 2 (by decide +kernel)) (by decide) (by decide) (by decide +kernel) (fun K B hF => ?_)
  show rf_V 1 (rf_shn 253) K 46 312692 388 ([(0, .ref 206)], [.ref 252, .ref 206], rf_uR (rf_uR (rf_uR (rf_uR M 206 71 (some 248)) 206 72 (some 249)) 206 73 (some 250)) 206 74 (some 251))
  refine rf_bputr (idx := 158) B hF 14 75 rfl rfl rfl (by decide) (by decide +kernel) (by decide +kernel) (fun hF => ?_)
  show rf_V 1 (rf_shn 253) K 46 312692 391 ([(0, .ref 206)], [], rf_uR (rf_uR (rf_uR (rf_uR (rf_uR M 206 71 (some 248)) 206 72 (some 249)) 206 73 (some 250)) 206 74 (some 251)) 206 75 (some 252))
  refine rf_seg B.1 [(.aload 0, 1), (.iconst 6, 2)] (pc' := 394) (S' := ([(0, .ref 206)], [.int 6, .ref 206], rf_uR (rf_uR (rf_uR (rf_uR (rf_uR M 206 71 (some 248)) 206 72 (some 249)) 206 73 (some 250)) 206 74 (some 251)) 206 75 (some 252))) (by decide +kernel) rfl trivial ?_
  refine rf_bnewa B hF (by decide) .int 6 rfl .int rfl (by decide) (by decide) (by decide +kernel) (by decide) rfl rfl (rf_mem 2 (by decide +kernel)) (by decide) (by decide) (by decide +kernel) (fun K B hF => ?_)
  show rf_V 1 (rf_shn 254) K 47 312698 396 ([(0, .ref 206)], [.ref 253, .ref 206], rf_uR (rf_uR (rf_uR (rf_uR (rf_uR M 206 71 (some 248)) 206 72 (some 249)) 206 73 (some 250)) 206 74 (some 251)) 206 75 (some 252))
  refine rf_bputr (idx := 161) B hF 14 76 rfl rfl rfl (by decide) (by decide +kernel) (by decide +kernel) (fun hF => ?_)
  show rf_V 1 (rf_shn 254) K 47 312698 399 ([(0, .ref 206)], [], rf_uR (rf_uR (rf_uR (rf_uR (rf_uR (rf_uR M 206 71 (some 248)) 206 72 (some 249)) 206 73 (some 250)) 206 74 (some 251)) 206 75 (some 252)) 206 76 (some 253))
  refine rf_seg B.1 [(.aload 0, 1), (.iconst 36, 2)] (pc' := 402) (S' := ([(0, .ref 206)], [.int 36, .ref 206], rf_uR (rf_uR (rf_uR (rf_uR (rf_uR (rf_uR M 206 71 (some 248)) 206 72 (some 249)) 206 73 (some 250)) 206 74 (some 251)) 206 75 (some 252)) 206 76 (some 253))) (by decide +kernel) rfl trivial ?_
  refine rf_bnewa B hF (by decide) .int 36 rfl .int rfl (by decide) (by decide) (by decide +kernel) (by decide) rfl rfl (rf_mem 2 (by decide +kernel)) (by decide) (by decide) (by decide +kernel) (fun K B hF => ?_)
  show rf_V 1 (rf_shn 255) K 48 312734 404 ([(0, .ref 206)], [.ref 254, .ref 206], rf_uR (rf_uR (rf_uR (rf_uR (rf_uR (rf_uR M 206 71 (some 248)) 206 72 (some 249)) 206 73 (some 250)) 206 74 (some 251)) 206 75 (some 252)) 206 76 (some 253))
  refine rf_bputr (idx := 164) B hF 14 77 rfl rfl rfl (by decide) (by decide +kernel) (by decide +kernel) (fun hF => ?_)
  show rf_V 1 (rf_shn 255) K 48 312734 407 ([(0, .ref 206)], [], rf_uR (rf_uR (rf_uR (rf_uR (rf_uR (rf_uR (rf_uR M 206 71 (some 248)) 206 72 (some 249)) 206 73 (some 250)) 206 74 (some 251)) 206 75 (some 252)) 206 76 (some 253)) 206 77 (some 254))
  refine rf_seg B.1 [(.aload 0, 1), (.iconst 6, 2)] (pc' := 410) (S' := ([(0, .ref 206)], [.int 6, .ref 206], rf_uR (rf_uR (rf_uR (rf_uR (rf_uR (rf_uR (rf_uR M 206 71 (some 248)) 206 72 (some 249)) 206 73 (some 250)) 206 74 (some 251)) 206 75 (some 252)) 206 76 (some 253)) 206 77 (some 254))) (by decide +kernel) rfl trivial ?_
  refine rf_bnewa B hF (by decide) .int 6 rfl .int rfl (by decide) (by decide) (by decide +kernel) (by decide) rfl rfl (rf_mem 2 (by decide +kernel)) (by decide) (by decide) (by decide +kernel) (fun K B hF => ?_)
  show rf_V 1 (rf_shn 256) K 49 312740 412 ([(0, .ref 206)], [.ref 255, .ref 206], rf_uR (rf_uR (rf_uR (rf_uR (rf_uR (rf_uR (rf_uR M 206 71 (some 248)) 206 72 (some 249)) 206 73 (some 250)) 206 74 (some 251)) 206 75 (some 252)) 206 76 (some 253)) 206 77 (some 254))
  refine rf_bputr (idx := 167) B hF 14 78 rfl rfl rfl (by decide) (by decide +kernel) (by decide +kernel) (fun hF => ?_)
  show rf_V 1 (rf_shn 256) K 49 312740 415 ([(0, .ref 206)], [], rf_uR (rf_uR (rf_uR (rf_uR (rf_uR (rf_uR (rf_uR (rf_uR M 206 71 (some 248)) 206 72 (some 249)) 206 73 (some 250)) 206 74 (some 251)) 206 75 (some 252)) 206 76 (some 253)) 206 77 (some 254)) 206 78 (some 255))
  exact k K B hF
def mj_X14_init_207_6 (M : rf_M) : rf_M := rf_uR (rf_uR (rf_uR (rf_uR (rf_uR (rf_uR (rf_uR (rf_uR M 206 79 (some 256)) 206 80 (some 257)) 206 81 (some 258)) 206 82 (some 259)) 206 83 (some 260)) 206 84 (some 261)) 206 85 (some 262)) 206 86 (some 263)
theorem fj_X14_init_207_6 {M : rf_M} (hF : rf_F 256 M) : rf_F 264 (mj_X14_init_207_6 M) := by
  have hF := rf_F_succ hF
  have hF := rf_F_uR (k := 206) (i := 79) (j := 256) hF (by decide) (by decide)
  have hF := rf_F_succ hF
  have hF := rf_F_uR (k := 206) (i := 80) (j := 257) hF (by decide) (by decide)
  have hF := rf_F_succ hF
  have hF := rf_F_uR (k := 206) (i := 81) (j := 258) hF (by decide) (by decide)
  have hF := rf_F_succ hF
  have hF := rf_F_uR (k := 206) (i := 82) (j := 259) hF (by decide) (by decide)
  have hF := rf_F_succ hF
  have hF := rf_F_uR (k := 206) (i := 83) (j := 260) hF (by decide) (by decide)
  have hF := rf_F_succ hF
  have hF := rf_F_uR (k := 206) (i := 84) (j := 261) hF (by decide) (by decide)
  have hF := rf_F_succ hF
  have hF := rf_F_uR (k := 206) (i := 85) (j := 262) hF (by decide) (by decide)
  have hF := rf_F_succ hF
  have hF := rf_F_uR (k := 206) (i := 86) (j := 263) hF (by decide) (by decide)
  exact hF
theorem sj_X14_init_207_6 {K0 K : rf_K} {M : rf_M} (B : rf_B 14 cX14_init 1 6 98 322040 207 K0 256 K) (hF : rf_F 256 M) (k : ∀ K', rf_B 14 cX14_init 1 6 98 322040 207 K0 264 K' → rf_F 264 (mj_X14_init_207_6 M) → rf_V 1 (rf_shn 264) K' 57 313270 480 ([(0, .ref 206)], [], mj_X14_init_207_6 M)) : rf_V 1 (rf_shn 256) K 49 312740 415 ([(0, .ref 206)], [], M) := by
  refine rf_seg B.1 [(.aload 0, 1), (.iconst 384, 3)] (pc' := 419) (S' := ([(0, .ref 206)], [.int 384, .ref 206], M)) (by decide +kernel) rfl trivial ?_
  refine rf_bnewa B hF (by decide) .int 384 rfl .int rfl (by decide) (by decide) (by decide +kernel) (by decide) rfl rfl (rf_mem 2 (by decide +kernel)) (by decide) (by decide) (by decide +kernel) (fun K B hF => ?_)
  show rf_V 1 (rf_shn 257) K 50 313124 421 ([(0, .ref 206)], [.ref 256, .ref 206], M)
  refine rf_bputr (idx := 170) B hF 14 79 rfl rfl rfl (by decide) (by decide +kernel) (by decide +kernel) (fun hF => ?_)
  show rf_V 1 (rf_shn 257) K 50 313124 424 ([(0, .ref 206)], [], rf_uR M 206 79 (some 256))
  refine rf_seg B.1 [(.aload 0, 1), (.iconst 6, 2)] (pc' := 427) (S' := ([(0, .ref 206)], [.int 6, .ref 206], rf_uR M 206 79 (some 256))) (by decide +kernel) rfl trivial ?_
  refine rf_bnewa B hF (by decide) .int 6 rfl .int rfl (by decide) (by decide) (by decide +kernel) (by decide) rfl rfl (rf_mem 2 (by decide +kernel)) (by decide) (by decide) (by decide +kernel) (fun K B hF => ?_)
  show rf_V 1 (rf_shn 258) K 51 313130 429 ([(0, .ref 206)], [.ref 257, .ref 206], rf_uR M 206 79 (some 256))
  refine rf_bputr (idx := 173) B hF 14 80 rfl rfl rfl (by decide) (by decide +kernel) (by decide +kernel) (fun hF => ?_)
  show rf_V 1 (rf_shn 258) K 51 313130 432 ([(0, .ref 206)], [], rf_uR (rf_uR M 206 79 (some 256)) 206 80 (some 257))
  refine rf_seg B.1 [(.aload 0, 1), (.iconst 36, 2)] (pc' := 435) (S' := ([(0, .ref 206)], [.int 36, .ref 206], rf_uR (rf_uR M 206 79 (some 256)) 206 80 (some 257))) (by decide +kernel) rfl trivial ?_
  refine rf_bnewa B hF (by decide) .int 36 rfl .int rfl (by decide) (by decide) (by decide +kernel) (by decide) rfl rfl (rf_mem 2 (by decide +kernel)) (by decide) (by decide) (by decide +kernel) (fun K B hF => ?_)
  show rf_V 1 (rf_shn 259) K 52 313166 437 ([(0, .ref 206)], [.ref 258, .ref 206], rf_uR (rf_uR M 206 79 (some 256)) 206 80 (some 257))
  refine rf_bputr (idx := 176) B hF 14 81 rfl rfl rfl (by decide) (by decide +kernel) (by decide +kernel) (fun hF => ?_)
  show rf_V 1 (rf_shn 259) K 52 313166 440 ([(0, .ref 206)], [], rf_uR (rf_uR (rf_uR M 206 79 (some 256)) 206 80 (some 257)) 206 81 (some 258))
  refine rf_seg B.1 [(.aload 0, 1), (.iconst 6, 2)] (pc' := 443) (S' := ([(0, .ref 206)], [.int 6, .ref 206], rf_uR (rf_uR (rf_uR M 206 79 (some 256)) 206 80 (some 257)) 206 81 (some 258))) (by decide +kernel) rfl trivial ?_
  refine rf_bnewa B hF (by decide) .int 6 rfl .int rfl (by decide) (by decide) (by decide +kernel) (by decide) rfl rfl (rf_mem 2 (by decide +kernel)) (by decide) (by decide) (by decide +kernel) (fun K B hF => ?_)
  show rf_V 1 (rf_shn 260) K 53 313172 445 ([(0, .ref 206)], [.ref 259, .ref 206], rf_uR (rf_uR (rf_uR M 206 79 (some 256)) 206 80 (some 257)) 206 81 (some 258))
  refine rf_bputr (idx := 179) B hF 14 82 rfl rfl rfl (by decide) (by decide +kernel) (by decide +kernel) (fun hF => ?_)
  show rf_V 1 (rf_shn 260) K 53 313172 448 ([(0, .ref 206)], [], rf_uR (rf_uR (rf_uR (rf_uR M 206 79 (some 256)) 206 80 (some 257)) 206 81 (some 258)) 206 82 (some 259))
  refine rf_seg B.1 [(.aload 0, 1), (.iconst 6, 2)] (pc' := 451) (S' := ([(0, .ref 206)], [.int 6, .ref 206], rf_uR (rf_uR (rf_uR (rf_uR M 206 79 (some 256)) 206 80 (some 257)) 206 81 (some 258)) 206 82 (some 259))) (by decide +kernel) rfl trivial ?_
  refine rf_bnewa B hF (by decide) .int 6 rfl .int rfl (by decide) (by decide) (by decide +kernel) (by decide) rfl rfl (rf_mem 2 (by decide +kernel)) (by decide) (by decide) (by decide +kernel) (fun K B hF => ?_)
  show rf_V 1 (rf_shn 261) K 54 313178 453 ([(0, .ref 206)], [.ref 260, .ref 206], rf_uR (rf_uR (rf_uR (rf_uR M 206 79 (some 256)) 206 80 (some 257)) 206 81 (some 258)) 206 82 (some 259))
  refine rf_bputr (idx := 182) B hF 14 83 rfl rfl rfl (by decide) (by decide +kernel) (by decide +kernel) (fun hF => ?_)
  show rf_V 1 (rf_shn 261) K 54 313178 456 ([(0, .ref 206)], [], rf_uR (rf_uR (rf_uR (rf_uR (rf_uR M 206 79 (some 256)) 206 80 (some 257)) 206 81 (some 258)) 206 82 (some 259)) 206 83 (some 260))
  refine rf_seg B.1 [(.aload 0, 1), (.iconst 6, 2)] (pc' := 459) (S' := ([(0, .ref 206)], [.int 6, .ref 206], rf_uR (rf_uR (rf_uR (rf_uR (rf_uR M 206 79 (some 256)) 206 80 (some 257)) 206 81 (some 258)) 206 82 (some 259)) 206 83 (some 260))) (by decide +kernel) rfl trivial ?_
  refine rf_bnewa B hF (by decide) .int 6 rfl .int rfl (by decide) (by decide) (by decide +kernel) (by decide) rfl rfl (rf_mem 2 (by decide +kernel)) (by decide) (by decide) (by decide +kernel) (fun K B hF => ?_)
  show rf_V 1 (rf_shn 262) K 55 313184 461 ([(0, .ref 206)], [.ref 261, .ref 206], rf_uR (rf_uR (rf_uR (rf_uR (rf_uR M 206 79 (some 256)) 206 80 (some 257)) 206 81 (some 258)) 206 82 (some 259)) 206 83 (some 260))
  refine rf_bputr (idx := 185) B hF 14 84 rfl rfl rfl (by decide) (by decide +kernel) (by decide +kernel) (fun hF => ?_)
  show rf_V 1 (rf_shn 262) K 55 313184 464 ([(0, .ref 206)], [], rf_uR (rf_uR (rf_uR (rf_uR (rf_uR (rf_uR M 206 79 (some 256)) 206 80 (some 257)) 206 81 (some 258)) 206 82 (some 259)) 206 83 (some 260)) 206 84 (some 261))
  refine rf_seg B.1 [(.aload 0, 1), (.iconst 6, 2)] (pc' := 467) (S' := ([(0, .ref 206)], [.int 6, .ref 206], rf_uR (rf_uR (rf_uR (rf_uR (rf_uR (rf_uR M 206 79 (some 256)) 206 80 (some 257)) 206 81 (some 258)) 206 82 (some 259)) 206 83 (some 260)) 206 84 (some 261))) (by decide +kernel) rfl trivial ?_
  refine rf_bnewa B hF (by decide) .boolean 6 rfl .boolean rfl (by decide) (by decide) (by decide +kernel) (by decide) rfl rfl (rf_mem 2 (by decide +kernel)) (by decide) (by decide) (by decide +kernel) (fun K B hF => ?_)
  show rf_V 1 (rf_shn 263) K 56 313190 469 ([(0, .ref 206)], [.ref 262, .ref 206], rf_uR (rf_uR (rf_uR (rf_uR (rf_uR (rf_uR M 206 79 (some 256)) 206 80 (some 257)) 206 81 (some 258)) 206 82 (some 259)) 206 83 (some 260)) 206 84 (some 261))
  refine rf_bputr (idx := 188) B hF 14 85 rfl rfl rfl (by decide) (by decide +kernel) (by decide +kernel) (fun hF => ?_)
  show rf_V 1 (rf_shn 263) K 56 313190 472 ([(0, .ref 206)], [], rf_uR (rf_uR (rf_uR (rf_uR (rf_uR (rf_uR (rf_uR M 206 79 (some 256)) 206 80 (some 257)) 206 81 (some 258)) 206 82 (some 259)) 206 83 (some 260)) 206 84 (some 261)) 206 85 (some 262))
  refine rf_seg B.1 [(.aload 0, 1), (.iconst 80, 2)] (pc' := 475) (S' := ([(0, .ref 206)], [.int 80, .ref 206], rf_uR (rf_uR (rf_uR (rf_uR (rf_uR (rf_uR (rf_uR M 206 79 (some 256)) 206 80 (some 257)) 206 81 (some 258)) 206 82 (some 259)) 206 83 (some 260)) 206 84 (some 261)) 206 85 (some 262))) (by decide +kernel) rfl trivial ?_
  refine rf_bnewa B hF (by decide) .boolean 80 rfl .boolean rfl (by decide) (by decide) (by decide +kernel) (by decide) rfl rfl (rf_mem 2 (by decide +kernel)) (by decide) (by decide) (by decide +kernel) (fun K B hF => ?_)
  show rf_V 1 (rf_shn 264) K 57 313270 477 ([(0, .ref 206)], [.ref 263, .ref 206], rf_uR (rf_uR (rf_uR (rf_uR (rf_uR (rf_uR (rf_uR M 206 79 (some 256)) 206 80 (some 257)) 206 81 (some 258)) 206 82 (some 259)) 206 83 (some 260)) 206 84 (some 261)) 206 85 (some 262))
  refine rf_bputr (idx := 191) B hF 14 86 rfl rfl rfl (by decide) (by decide +kernel) (by decide +kernel) (fun hF => ?_)
  show rf_V 1 (rf_shn 264) K 57 313270 480 ([(0, .ref 206)], [], rf_uR (rf_uR (rf_uR (rf_uR (rf_uR (rf_uR (rf_uR (rf_uR M 206 79 (some 256)) 206 80 (some 257)) 206 81 (some 258)) 206 82 (some 259)) 206 83 (some 260)) 206 84 (some 261)) 206 85 (some 262)) 206 86 (some 263))
  exact k K B hF
def mj_X14_init_207_7 (M : rf_M) : rf_M := rf_uR (rf_uR (rf_uR (rf_uR (rf_uR (rf_uR (rf_uR (rf_uL (rf_uR M 206 87 (some 264)) 206 89 (-9223372036854775808)) 206 90 (some 265)) 206 91 (some 266)) 206 92 (some 267)) 206 93 (some 268)) 206 94 (some 269)) 206 95 (some 270)) 206 96 (some 271)
theorem fj_X14_init_207_7 {M : rf_M} (hF : rf_F 264 M) : rf_F 272 (mj_X14_init_207_7 M) := by
  have hF := rf_F_succ hF
  have hF := rf_F_uR (k := 206) (i := 87) (j := 264) hF (by decide) (by decide)
  have hF := rf_F_uL (k := 206) (i := 89) (x := (-9223372036854775808)) hF (by decide)
  have hF := rf_F_succ hF
  have hF := rf_F_uR (k := 206) (i := 90) (j := 265) hF (by decide) (by decide)
  have hF := rf_F_succ hF
  have hF := rf_F_uR (k := 206) (i := 91) (j := 266) hF (by decide) (by decide)
  have hF := rf_F_succ hF
  have hF := rf_F_uR (k := 206) (i := 92) (j := 267) hF (by decide) (by decide)
  have hF := rf_F_succ hF
  have hF := rf_F_uR (k := 206) (i := 93) (j := 268) hF (by decide) (by decide)
  have hF := rf_F_succ hF
  have hF := rf_F_uR (k := 206) (i := 94) (j := 269) hF (by decide) (by decide)
  have hF := rf_F_succ hF
  have hF := rf_F_uR (k := 206) (i := 95) (j := 270) hF (by decide) (by decide)
  have hF := rf_F_succ hF
  have hF := rf_F_uR (k := 206) (i := 96) (j := 271) hF (by decide) (by decide)
  exact hF
theorem sj_X14_init_207_7 {K0 K : rf_K} {M : rf_M} (B : rf_B 14 cX14_init 1 6 98 322040 207 K0 264 K) (hF : rf_F 264 M) (k : ∀ K', rf_B 14 cX14_init 1 6 98 322040 207 K0 272 K' → rf_F 272 (mj_X14_init_207_7 M) → rf_V 1 (rf_shn 272) K' 65 314112 552 ([(0, .ref 206)], [], mj_X14_init_207_7 M)) : rf_V 1 (rf_shn 264) K 57 313270 480 ([(0, .ref 206)], [], M) := by
  refine rf_seg B.1 [(.aload 0, 1), (.iconst 480, 3)] (pc' := 484) (S' := ([(0, .ref 206)], [.int 480, .ref 206], M)) (by decide +kernel) rfl trivial ?_
  refine rf_bnewa B hF (by decide) .int 480 rfl .int rfl (by decide) (by decide) (by decide +kernel) (by decide) rfl rfl (rf_mem 2 (by decide +kernel)) (by decide) (by decide) (by decide +kernel) (fun K B hF => ?_)
  show rf_V 1 (rf_shn 265) K 58 313750 486 ([(0, .ref 206)], [.ref 264, .ref 206], M)
  refine rf_bputr (idx := 194) B hF 14 87 rfl rfl rfl (by decide) (by decide +kernel) (by decide +kernel) (fun hF => ?_)
  show rf_V 1 (rf_shn 265) K 58 313750 489 ([(0, .ref 206)], [], rf_uR M 206 87 (some 264))
  refine rf_seg B.1 [(.aload 0, 1), (.goto_w (-9223372036854775808), 3), (.multianewarray 14 89, 3)] (pc' := 496) (S' := ([(0, .ref 206)], [], rf_uL (rf_uR M 206 87 (some 264)) 206 89 (-9223372036854775808))) (by decide +kernel) rfl trivial ?_
  have hF := rf_F_uL (k := 206) (i := 89) (x := (-9223372036854775808)) hF (by decide)
  refine rf_seg B.1 [(.aload 0, 1), (.iconst 80, 2)] (pc' := 499) (S' := ([(0, .ref 206)], [.int 80, .ref 206], rf_uL (rf_uR M 206 87 (some 264)) 206 89 (-9223372036854775808))) (by decide +kernel) rfl trivial ?_
  refine rf_bnewa B hF (by decide) .int 80 rfl .int rfl (by decide) (by decide) (by decide +kernel) (by decide) rfl rfl (rf_mem 2 (by decide +kernel)) (by decide) (by decide) (by decide +kernel) (fun K B hF => ?_)
  show rf_V 1 (rf_shn 266) K 59 313830 501 ([(0, .ref 206)], [.ref 265, .ref 206], rf_uL (rf_uR M 206 87 (some 264)) 206 89 (-9223372036854775808))
  refine rf_bputr (idx := 205) B hF 14 90 rfl rfl rfl (by decide) (by decide +kernel) (by decide +kernel) (fun hF => ?_)
  show rf_V 1 (rf_shn 266) K 59 313830 504 ([(0, .ref 206)], [], rf_uR (rf_uL (rf_uR M 206 87 (some 264)) 206 89 (-9223372036854775808)) 206 90 (some 265))
  refine rf_seg B.1 [(.aload 0, 1), (.iconst 6, 2)] (pc' := 507) (S' := ([(0, .ref 206)], [.int 6, .ref 206], rf_uR (rf_uL (rf_uR M 206 87 (some 264)) 206 89 (-9223372036854775808)) 206 90 (some 265))) (by decide +kernel) rfl trivial ?_
  refine rf_bnewa B hF (by decide) .int 6 rfl .int rfl (by decide) (by decide) (by decide +kernel) (by decide) rfl rfl (rf_mem 2 (by decide +kernel)) (by decide) (by decide) (by decide +kernel) (fun K B hF => ?_)
  show rf_V 1 (rf_shn 267) K 60 313836 509 ([(0, .ref 206)], [.ref 266, .ref 206], rf_uR (rf_uL (rf_uR M 206 87 (some 264)) 206 89 (-9223372036854775808)) 206 90 (some 265))
  refine rf_bputr (idx := 208) B hF 14 91 rfl rfl rfl (by decide) (by decide +kernel) (by decide +kernel) (fun hF => ?_)
  show rf_V 1 (rf_shn 267) K 60 313836 512 ([(0, .ref 206)], [], rf_uR (rf_uR (rf_uL (rf_uR M 206 87 (some 264)) 206 89 (-9223372036854775808)) 206 90 (some 265)) 206 91 (some 266))
  refine rf_seg B.1 [(.aload 0, 1), (.iconst 6, 2)] (pc' := 515) (S' := ([(0, .ref 206)], [.int 6, .ref 206], rf_uR (rf_uR (rf_uL (rf_uR M 206 87 (some 264)) 206 89 (-9223372036854775808)) 206 90 (some 265)) 206 91 (some 266))) (by decide +kernel) rfl trivial ?_
  refine rf_bnewa B hF (by decide) .int 6 rfl .int rfl (by decide) (by decide) (by decide +kernel) (by decide) rfl rfl (rf_mem 2 (by decide +kernel)) (by decide) (by decide) (by decide +kernel) (fun K B hF => ?_)
  show rf_V 1 (rf_shn 268) K 61 313842 517 ([(0, .ref 206)], [.ref 267, .ref 206], rf_uR (rf_uR (rf_uL (rf_uR M 206 87 (some 264)) 206 89 (-9223372036854775808)) 206 90 (some 265)) 206 91 (some 266))
  refine rf_bputr (idx := 211) B hF 14 92 rfl rfl rfl (by decide) (by decide +kernel) (by decide +kernel) (fun hF => ?_)
  show rf_V 1 (rf_shn 268) K 61 313842 520 ([(0, .ref 206)], [], rf_uR (rf_uR (rf_uR (rf_uL (rf_uR M 206 87 (some 264)) 206 89 (-9223372036854775808)) 206 90 (some 265)) 206 91 (some 266)) 206 92 (some 267))
  refine rf_seg B.1 [(.aload 0, 1), (.iconst 80, 2)] (pc' := 523) (S' := ([(0, .ref 206)], [.int 80, .ref 206], rf_uR (rf_uR (rf_uR (rf_uL (rf_uR M 206 87 (some 264)) 206 89 (-9223372036854775808)) 206 90 (some 265)) 206 91 (some 266)) 206 92 (some 267))) (by decide +kernel) rfl trivial ?_
  refine rf_bnewa B hF (by decide) .int 80 rfl .int rfl (by decide) (by decide) (by decide +kernel) (by decide) rfl rfl (rf_mem 2 (by decide +kernel)) (by decide) (by decide) (by decide +kernel) (fun K B hF => ?_)
  show rf_V 1 (rf_shn 269) K 62 313922 525 ([(0, .ref 206)], [.ref 268, .ref 206], rf_uR (rf_uR (rf_uR (rf_uL (rf_uR M 206 87 (some 264)) 206 89 (-9223372036854775808)) 206 90 (some 265)) 206 91 (some 266)) 206 92 (some 267))
  refine rf_bputr (idx := 214) B hF 14 93 rfl rfl rfl (by decide) (by decide +kernel) (by decide +kernel) (fun hF => ?_)
  show rf_V 1 (rf_shn 269) K 62 313922 528 ([(0, .ref 206)], [], rf_uR (rf_uR (rf_uR (rf_uR (rf_uL (rf_uR M 206 87 (some 264)) 206 89 (-9223372036854775808)) 206 90 (some 265)) 206 91 (some 266)) 206 92 (some 267)) 206 93 (some 268))
  refine rf_seg B.1 [(.aload 0, 1), (.iconst 80, 2)] (pc' := 531) (S' := ([(0, .ref 206)], [.int 80, .ref 206], rf_uR (rf_uR (rf_uR (rf_uR (rf_uL (rf_uR M 206 87 (some 264)) 206 89 (-9223372036854775808)) 206 90 (some 265)) 206 91 (some 266)) 206 92 (some 267)) 206 93 (some 268))) (by decide +kernel) rfl trivial ?_
  refine rf_bnewa B hF (by decide) .int 80 rfl .int rfl (by decide) (by decide) (by decide +kernel) (by decide) rfl rfl (rf_mem 2 (by decide +kernel)) (by decide) (by decide) (by decide +kernel) (fun K B hF => ?_)
  show rf_V 1 (rf_shn 270) K 63 314002 533 ([(0, .ref 206)], [.ref 269, .ref 206], rf_uR (rf_uR (rf_uR (rf_uR (rf_uL (rf_uR M 206 87 (some 264)) 206 89 (-9223372036854775808)) 206 90 (some 265)) 206 91 (some 266)) 206 92 (some 267)) 206 93 (some 268))
  refine rf_bputr (idx := 217) B hF 14 94 rfl rfl rfl (by decide) (by decide +kernel) (by decide +kernel) (fun hF => ?_)
  show rf_V 1 (rf_shn 270) K 63 314002 536 ([(0, .ref 206)], [], rf_uR (rf_uR (rf_uR (rf_uR (rf_uR (rf_uL (rf_uR M 206 87 (some 264)) 206 89 (-9223372036854775808)) 206 90 (some 265)) 206 91 (some 266)) 206 92 (some 267)) 206 93 (some 268)) 206 94 (some 269))
  refine rf_seg B.1 [(.aload 0, 1), (.iconst 80, 2)] (pc' := 539) (S' := ([(0, .ref 206)], [.int 80, .ref 206], rf_uR (rf_uR (rf_uR (rf_uR (rf_uR (rf_uL (rf_uR M 206 87 (some 264)) 206 89 (-9223372036854775808)) 206 90 (some 265)) 206 91 (some 266)) 206 92 (some 267)) 206 93 (some 268)) 206 94 (some 269))) (by decide +kernel) rfl trivial ?_
  refine rf_bnewa B hF (by decide) .boolean 80 rfl .boolean rfl (by decide) (by decide) (by decide +kernel) (by decide) rfl rfl (rf_mem 2 (by decide +kernel)) (by decide) (by decide) (by decide +kernel) (fun K B hF => ?_)
  show rf_V 1 (rf_shn 271) K 64 314082 541 ([(0, .ref 206)], [.ref 270, .ref 206], rf_uR (rf_uR (rf_uR (rf_uR (rf_uR (rf_uL (rf_uR M 206 87 (some 264)) 206 89 (-9223372036854775808)) 206 90 (some 265)) 206 91 (some 266)) 206 92 (some 267)) 206 93 (some 268)) 206 94 (some 269))
  refine rf_bputr (idx := 220) B hF 14 95 rfl rfl rfl (by decide) (by decide +kernel) (by decide +kernel) (fun hF => ?_)
  show rf_V 1 (rf_shn 271) K 64 314082 544 ([(0, .ref 206)], [], rf_uR (rf_uR (rf_uR (rf_uR (rf_uR (rf_uR (rf_uL (rf_uR M 206 87 (some 264)) 206 89 (-9223372036854775808)) 206 90 (some 265)) 206 91 (some 266)) 206 92 (some 267)) 206 93 (some 268)) 206 94 (some 269)) 206 95 (some 270))
  refine rf_seg B.1 [(.aload 0, 1), (.iconst 30, 2)] (pc' := 547) (S' := ([(0, .ref 206)], [.int 30, .ref 206], rf_uR (rf_uR (rf_uR (rf_uR (rf_uR (rf_uR (rf_uL (rf_uR M 206 87 (some 264)) 206 89 (-9223372036854775808)) 206 90 (some 265)) 206 91 (some 266)) 206 92 (some 267)) 206 93 (some 268)) 206 94 (some 269)) 206 95 (some 270))) (by decide +kernel) rfl trivial ?_
  refine rf_bnewa B hF (by decide) .int 30 rfl .int rfl (by decide) (by decide) (by decide +kernel) (by decide) rfl rfl (rf_mem 2 (by decide +kernel)) (by decide) (by decide) (by decide +kernel) (fun K B hF => ?_)
  show rf_V 1 (rf_shn 272) K 65 314112 549 ([(0, .ref 206)], [.ref 271, .ref 206], rf_uR (rf_uR (rf_uR (rf_uR (rf_uR (rf_uR (rf_uL (rf_uR M 206 87 (some 264)) 206 89 (-9223372036854775808)) 206 90 (some 265)) 206 91 (some 266)) 206 92 (some 267)) 206 93 (some 268)) 206 94 (some 269)) 206 95 (some 270))
  refine rf_bputr (idx := 223) B hF 14 96 rfl rfl rfl (by decide) (by decide +kernel) (by decide +kernel) (fun hF => ?_)
  show rf_V 1 (rf_shn 272) K 65 314112 552 ([(0, .ref 206)], [], rf_uR (rf_uR (rf_uR (rf_uR (rf_uR (rf_uR (rf_uR (rf_uL (rf_uR M 206 87 (some 264)) 206 89 (-9223372036854775808)) 206 90 (some 265)) 206 91 (some 266)) 206 92 (some 267)) 206 93 (some 268)) 206 94 (some 269)) 206 95 (some 270)) 206 96 (some 271))
  exact k K B hF
def mj_X14_init_207_8 (M : rf_M) : rf_M := rf_uR (rf_uI (rf_uR (rf_uR (rf_uR (rf_uR (rf_uR (rf_uR (rf_uR M 206 97 (some 272)) 206 98 (some 273)) 206 99 (some 274)) 206 100 (some 275)) 206 101 (some 276)) 206 102 (some 277)) 206 103 (some 278)) 206 110 (-1)) 206 113 (some 279)
theorem fj_X14_init_207_8 {M : rf_M} (hF : rf_F 272 M) : rf_F 280 (mj_X14_init_207_8 M) := by
  have hF := rf_F_succ hF
  have hF := rf_F_uR (k := 206) (i := 97) (j := 272) hF (by decide) (by decide)
  have hF := rf_F_succ hF
  have hF := rf_F_uR (k := 206) (i := 98) (j := 273) hF (by decide) (by decide)
  have hF := rf_F_succ hF
  have hF := rf_F_uR (k := 206) (i := 99) (j := 274) hF (by decide) (by decide)
  have hF := rf_F_succ hF
  have hF := rf_F_uR (k := 206) (i := 100) (j := 275) hF (by decide) (by decide)
  have hF := rf_F_succ hF
  have hF := rf_F_uR (k := 206) (i := 101) (j := 276) hF (by decide) (by decide)
  have hF := rf_F_succ hF
  have hF := rf_F_uR (k := 206) (i := 102) (j := 277) hF (by decide) (by decide)
  have hF := rf_F_succ hF
  have hF := rf_F_uR (k := 206) (i := 103) (j := 278) hF (by decide) (by decide)
  have hF := rf_F_uI (k := 206) (i := 110) (x := (-1)) hF (by decide)
  have hF := rf_F_succ hF
  have hF := rf_F_uR (k := 206) (i := 113) (j := 279) hF (by decide) (by decide)
  exact hF
theorem sj_X14_init_207_8 {K0 K : rf_K} {M : rf_M} (B : rf_B 14 cX14_init 1 6 98 322040 207 K0 272 K) (hF : rf_F 272 M) (k : ∀ K', rf_B 14 cX14_init 1 6 98 322040 207 K0 280 K' → rf_F 280 (mj_X14_init_207_8 M) → rf_V 1 (rf_shn 280) K' 73 314160 621 ([(0, .ref 206)], [], mj_X14_init_207_8 M)) : rf_V 1 (rf_shn 272) K 65 314112 552 ([(0, .ref 206)], [], M) := by
  refine rf_seg B.1 [(.aload 0, 1), (.iconst 6, 2)] (pc' := 555) (S' := ([(0, .ref 206)], [.int 6, .ref 206], M)) (by decide +kernel) rfl trivial ?_
  refine rf_bnewa B hF (by decide) .int 6 rfl .int rfl (by decide) (by decide) (by decide +kernel) (by decide) rfl rfl (rf_mem 2 (by decide +kernel)) (by decide) (by decide) (by decide +kernel) (fun K B hF => ?_)
  show rf_V 1 (rf_shn 273) K 66 314118 557 ([(0, .ref 206)], [.ref 272, .ref 206], M)
  refine rf_bputr (idx := 226) B hF 14 97 rfl rfl rfl (by decide) (by decide +kernel) (by decide +kernel) (fun hF => ?_)
  show rf_V 1 (rf_shn 273) K 66 314118 560 ([(0, .ref 206)], [], rf_uR M 206 97 (some 272))
  refine rf_seg B.1 [(.aload 0, 1), (.iconst 6, 2)] (pc' := 563) (S' := ([(0, .ref 206)], [.int 6, .ref 206], rf_uR M 206 97 (some 272))) (by decide +kernel) rfl trivial ?_
  refine rf_bnewa B hF (by decide) .int 6 rfl .int rfl (by decide) (by decide) (by decide +kernel) (by decide) rfl rfl (rf_mem 2 (by decide +kernel)) (by decide) (by decide) (by decide +kernel) (fun K B hF => ?_)
  show rf_V 1 (rf_shn 274) K 67 314124 565 ([(0, .ref 206)], [.ref 273, .ref 206], rf_uR M 206 97 (some 272))
  refine rf_bputr (idx := 229) B hF 14 98 rfl rfl rfl (by decide) (by decide +kernel) (by decide +kernel) (fun hF => ?_)
  show rf_V 1 (rf_shn 274) K 67 314124 568 ([(0, .ref 206)], [], rf_uR (rf_uR M 206 97 (some 272)) 206 98 (some 273))
  refine rf_seg B.1 [(.aload 0, 1), (.iconst 6, 2)] (pc' := 571) (S' := ([(0, .ref 206)], [.int 6, .ref 206], rf_uR (rf_uR M 206 97 (some 272)) 206 98 (some 273))) (by decide +kernel) rfl trivial ?_
  refine rf_bnewa B hF (by decide) .int 6 rfl .int rfl (by decide) (by decide) (by decide +kernel) (by decide) rfl rfl (rf_mem 2 (by decide +kernel)) (by decide) (by decide) (by decide +kernel) (fun K B hF => ?_)
  show rf_V 1 (rf_shn 275) K 68 314130 573 ([(0, .ref 206)], [.ref 274, .ref 206], rf_uR (rf_uR M 206 97 (some 272)) 206 98 (some 273))
  refine rf_bputr (idx := 232) B hF 14 99 rfl rfl rfl (by decide) (by decide +kernel) (by decide +kernel) (fun hF => ?_)
  show rf_V 1 (rf_shn 275) K 68 314130 576 ([(0, .ref 206)], [], rf_uR (rf_uR (rf_uR M 206 97 (some 272)) 206 98 (some 273)) 206 99 (some 274))
  refine rf_seg B.1 [(.aload 0, 1), (.iconst 6, 2)] (pc' := 579) (S' := ([(0, .ref 206)], [.int 6, .ref 206], rf_uR (rf_uR (rf_uR M 206 97 (some 272)) 206 98 (some 273)) 206 99 (some 274))) (by decide +kernel) rfl trivial ?_
  refine rf_bnewa B hF (by decide) .int 6 rfl .int rfl (by decide) (by decide) (by decide +kernel) (by decide) rfl rfl (rf_mem 2 (by decide +kernel)) (by decide) (by decide) (by decide +kernel) (fun K B hF => ?_)
  show rf_V 1 (rf_shn 276) K 69 314136 581 ([(0, .ref 206)], [.ref 275, .ref 206], rf_uR (rf_uR (rf_uR M 206 97 (some 272)) 206 98 (some 273)) 206 99 (some 274))
  refine rf_bputr (idx := 235) B hF 14 100 rfl rfl rfl (by decide) (by decide +kernel) (by decide +kernel) (fun hF => ?_)
  show rf_V 1 (rf_shn 276) K 69 314136 584 ([(0, .ref 206)], [], rf_uR (rf_uR (rf_uR (rf_uR M 206 97 (some 272)) 206 98 (some 273)) 206 99 (some 274)) 206 100 (some 275))
  refine rf_seg B.1 [(.aload 0, 1), (.iconst 6, 2)] (pc' := 587) (S' := ([(0, .ref 206)], [.int 6, .ref 206], rf_uR (rf_uR (rf_uR (rf_uR M 206 97 (some 272)) 206 98 (some 273)) 206 99 (some 274)) 206 100 (some 275))) (by decide +kernel) rfl trivial ?_
  refine rf_bnewa B hF (by decide) .int 6 rfl .int rfl (by decide) (by decide) (by decide +kernel) (by decide) rfl rfl (rf_mem 2 (by decide +kernel)) (by decide) (by decide) (by decide +kernel) (fun K B hF => ?_)
  show rf_V 1 (rf_shn 277) K 70 314142 589 ([(0, .ref 206)], [.ref 276, .ref 206], rf_uR (rf_uR (rf_uR (rf_uR M 206 97 (some 272)) 206 98 (some 273)) 206 99 (some 274)) 206 100 (some 275))
  refine rf_bputr (idx := 238) B hF 14 101 rfl rfl rfl (by decide) (by decide +kernel) (by decide +kernel) (fun hF => ?_)
  show rf_V 1 (rf_shn 277) K 70 314142 592 ([(0, .ref 206)], [], rf_uR (rf_uR (rf_uR (rf_uR (rf_uR M 206 97 (some 272)) 206 98 (some 273)) 206 99 (some 274)) 206 100 (some 275)) 206 101 (some 276))
  refine rf_seg B.1 [(.aload 0, 1), (.iconst 6, 2)] (pc' := 595) (S' := ([(0, .ref 206)], [.int 6, .ref 206], rf_uR (rf_uR (rf_uR (rf_uR (rf_uR M 206 97 (some 272)) 206 98 (some 273)) 206 99 (some 274)) 206 100 (some 275)) 206 101 (some 276))) (by decide +kernel) rfl trivial ?_
  refine rf_bnewa B hF (by decide) .int 6 rfl .int rfl (by decide) (by decide) (by decide +kernel) (by decide) rfl rfl (rf_mem 2 (by decide +kernel)) (by decide) (by decide) (by decide +kernel) (fun K B hF => ?_)
  show rf_V 1 (rf_shn 278) K 71 314148 597 ([(0, .ref 206)], [.ref 277, .ref 206], rf_uR (rf_uR (rf_uR (rf_uR (rf_uR M 206 97 (some 272)) 206 98 (some 273)) 206 99 (some 274)) 206 100 (some 275)) 206 101 (some 276))
  refine rf_bputr (idx := 241) B hF 14 102 rfl rfl rfl (by decide) (by decide +kernel) (by decide +kernel) (fun hF => ?_)
  show rf_V 1 (rf_shn 278) K 71 314148 600 ([(0, .ref 206)], [], rf_uR (rf_uR (rf_uR (rf_uR (rf_uR (rf_uR M 206 97 (some 272)) 206 98 (some 273)) 206 99 (some 274)) 206 100 (some 275)) 206 101 (some 276)) 206 102 (some 277))
  refine rf_seg B.1 [(.aload 0, 1), (.iconst 6, 2)] (pc' := 603) (S' := ([(0, .ref 206)], [.int 6, .ref 206], rf_uR (rf_uR (rf_uR (rf_uR (rf_uR (rf_uR M 206 97 (some 272)) 206 98 (some 273)) 206 99 (some 274)) 206 100 (some 275)) 206 101 (some 276)) 206 102 (some 277))) (by decide +kernel) rfl trivial ?_
  refine rf_bnewa B hF (by decide) .int 6 rfl .int rfl (by decide) (by decide) (by decide +kernel) (by decide) rfl rfl (rf_mem 2 (by decide +kernel)) (by decide) (by decide) (by decide +kernel) (fun K B hF => ?_)
  show rf_V 1 (rf_shn 279) K 72 314154 605 ([(0, .ref 206)], [.ref 278, .ref 206], rf_uR (rf_uR (rf_uR (rf_uR (rf_uR (rf_uR M 206 97 (some 272)) 206 98 (some 273)) 206 99 (some 274)) 206 100 (some 275)) 206 101 (some 276)) 206 102 (some 277))
  refine rf_bputr (idx := 244) B hF 14 103 rfl rfl rfl (by decide) (by decide +kernel) (by decide +kernel) (fun hF => ?_)
  show rf_V 1 (rf_shn 279) K 72 314154 608 ([(0, .ref 206)], [], rf_uR (rf_uR (rf_uR (rf_uR (rf_uR (rf_uR (rf_uR M 206 97 (some 272)) 206 98 (some 273)) 206 99 (some 274)) 206 100 (some 275)) 206 101 (some 276)) 206 102 (some 277)) 206 103 (some 278))
  refine rf_seg B.1 [(.aload 0, 1), (.iconst (-1), 1), (.multianewarray 14 110, 3)] (pc' := 613) (S' := ([(0, .ref 206)], [], rf_uI (rf_uR (rf_uR (rf_uR (rf_uR (rf_uR (rf_uR (rf_uR M 206 97 (some 272)) 206 98 (some 273)) 206 99 (some 274)) 206 100 (some 275)) 206 101 (some 276)) 206 102 (some 277)) 206 103 (some 278)) 206 110 (-1))) (by decide +kernel) rfl trivial ?_
  have hF := rf_F_uI (k := 206) (i := 110) (x := (-1)) hF (by decide)
  refine rf_seg B.1 [(.aload 0, 1), (.iconst 6, 2)] (pc' := 616) (S' := ([(0, .ref 206)], [.int 6, .ref 206], rf_uI (rf_uR (rf_uR (rf_uR (rf_uR (rf_uR (rf_uR (rf_uR M 206 97 (some 272)) 206 98 (some 273)) 206 99 (some 274)) 206 100 (some 275)) 206 101 (some 276)) 206 102 (some 277)) 206 103 (some 278)) 206 110 (-1))) (by decide +kernel) rfl trivial ?_
  refine rf_bnewa B hF (by decide) .int 6 rfl .int rfl (by decide) (by decide) (by decide +kernel) (by decide) rfl rfl (rf_mem 2 (by decide +kernel)) (by decide) (by decide) (by decide +kernel) (fun K B hF => ?_)
  show rf_V 1 (rf_shn 280) K 73 314160 618 ([(0, .ref 206)], [.ref 279, .ref 206], rf_uI (rf_uR (rf_uR (rf_uR (rf_uR (rf_uR (rf_uR (rf_uR M 206 97 (some 272)) 206 98 (some 273)) 206 99 (some 274)) 206 100 (some 275)) 206 101 (some 276)) 206 102 (some 277)) 206 103 (some 278)) 206 110 (-1))
  refine rf_bputr (idx := 250) B hF 14 113 rfl rfl rfl (by decide) (by decide +kernel) (by decide +kernel) (fun hF => ?_)
  show rf_V 1 (rf_shn 280) K 73 314160 621 ([(0, .ref 206)], [], rf_uR (rf_uI (rf_uR (rf_uR (rf_uR (rf_uR (rf_uR (rf_uR (rf_uR M 206 97 (some 272)) 206 98 (some 273)) 206 99 (some 274)) 206 100 (some 275)) 206 101 (some 276)) 206 102 (some 277)) 206 103 (some 278)) 206 110 (-1)) 206 113 (some 279))
  exact k K B hF
def mj_X14_init_207_9 (M : rf_M) : rf_M := rf_uR (rf_uR (rf_uR (rf_uR (rf_uR (rf_uR (rf_uR (rf_uR M 206 114 (some 280)) 206 115 (some 281)) 206 119 (some 282)) 206 120 (some 283)) 206 121 (some 284)) 206 122 (some 285)) 206 123 (some 286)) 206 124 (some 287)
theorem fj_X14_init_207_9 {M : rf_M} (hF : rf_F 280 M) : rf_F 288 (mj_X14_init_207_9 M) := by
  have hF := rf_F_succ hF
  have hF := rf_F_uR (k := 206) (i := 114) (j := 280) hF (by decide) (by decide)
  have hF := rf_F_succ hF
  have hF := rf_F_uR (k := 206) (i := 115) (j := 281) hF (by decide) (by decide)
  have hF := rf_F_succ hF
  have hF := rf_F_uR (k := 206) (i := 119) (j := 282) hF (by decide) (by decide)
  have hF := rf_F_succ hF
  have hF := rf_F_uR (k := 206) (i := 120) (j := 283) hF (by decide) (by decide)
  have hF := rf_F_succ hF
  have hF := rf_F_uR (k := 206) (i := 121) (j := 284) hF (by decide) (by decide)
  have hF := rf_F_succ hF
  have hF := rf_F_uR (k := 206) (i := 122) (j := 285) hF (by decide) (by decide)
  have hF := rf_F_succ hF
  have hF := rf_F_uR (k := 206) (i := 123) (j := 286) hF (by decide) (by decide)
  have hF := rf_F_succ hF
  have hF := rf_F_uR (k := 206) (i := 124) (j := 287) hF (by decide) (by decide)
  exact hF
theorem sj_X14_init_207_9 {K0 K : rf_K} {M : rf_M} (B : rf_B 14 cX14_init 1 6 98 322040 207 K0 280 K) (hF : rf_F 280 M) (k : ∀ K', rf_B 14 cX14_init 1 6 98 322040 207 K0 288 K' → rf_F 288 (mj_X14_init_207_9 M) → rf_V 1 (rf_shn 288) K' 81 316236 687 ([(0, .ref 206)], [], mj_X14_init_207_9 M)) : rf_V 1 (rf_shn 280) K 73 314160 621 ([(0, .ref 206)], [], M) := by
  refine rf_seg B.1 [(.aload 0, 1), (.iconst 900, 3)] (pc' := 625) (S' := ([(0, .ref 206)], [.int 900, .ref 206], M)) (by decide +kernel) rfl trivial ?_
  refine rf_bnewa B hF (by decide) .boolean 900 rfl .boolean rfl (by decide) (by decide) (by decide +kernel) (by decide) rfl rfl (rf_mem 2 (by decide +kernel)) (by decide) (by decide) (by decide +kernel) (fun K B hF => ?_)
  show rf_V 1 (rf_shn 281) K 74 315060 627 ([(0, .ref 206)], [.ref 280, .ref 206], M)
  refine rf_bputr (idx := 253) B hF 14 114 rfl rfl rfl (by decide) (by decide +kernel) (by decide +kernel) (fun hF => ?_)
  show rf_V 1 (rf_shn 281) K 74 315060 630 ([(0, .ref 206)], [], rf_uR M 206 114 (some 280))
  refine rf_seg B.1 [(.aload 0, 1), (.iconst 900, 3)] (pc' := 634) (S' := ([(0, .ref 206)], [.int 900, .ref 206], rf_uR M 206 114 (some 280))) (by decide +kernel) rfl trivial ?_
  refine rf_bnewa B hF (by decide) .boolean 900 rfl .boolean rfl (by decide) (by decide) (by decide +kernel) (by decide) rfl rfl (rf_mem 2 (by decide +kernel)) (by decide) (by decide) (by decide +kernel) (fun K B hF => ?_)
  show rf_V 1 (rf_shn 282) K 75 315960 636 ([(0, .ref 206)], [.ref 281, .ref 206], rf_uR M 206 114 (some 280))
  refine rf_bputr (idx := 256) B hF 14 115 rfl rfl rfl (by decide) (by decide +kernel) (by decide +kernel) (fun hF => ?_)
  show rf_V 1 (rf_shn 282) K 75 315960 639 ([(0, .ref 206)], [], rf_uR (rf_uR M 206 114 (some 280)) 206 115 (some 281))
  refine rf_seg B.1 [(.aload 0, 1), (.iconst 12, 2)] (pc' := 642) (S' := ([(0, .ref 206)], [.int 12, .ref 206], rf_uR (rf_uR M 206 114 (some 280)) 206 115 (some 281))) (by decide +kernel) rfl trivial ?_
  refine rf_bnewa B hF (by decide) .int 12 rfl .int rfl (by decide) (by decide) (by decide +kernel) (by decide) rfl rfl (rf_mem 2 (by decide +kernel)) (by decide) (by decide) (by decide +kernel) (fun K B hF => ?_)
  show rf_V 1 (rf_shn 283) K 76 315972 644 ([(0, .ref 206)], [.ref 282, .ref 206], rf_uR (rf_uR M 206 114 (some 280)) 206 115 (some 281))
  refine rf_bputr (idx := 259) B hF 14 119 rfl rfl rfl (by decide) (by decide +kernel) (by decide +kernel) (fun hF => ?_)
  show rf_V 1 (rf_shn 283) K 76 315972 647 ([(0, .ref 206)], [], rf_uR (rf_uR (rf_uR M 206 114 (some 280)) 206 115 (some 281)) 206 119 (some 282))
  refine rf_seg B.1 [(.aload 0, 1), (.iconst 12, 2)] (pc' := 650) (S' := ([(0, .ref 206)], [.int 12, .ref 206], rf_uR (rf_uR (rf_uR M 206 114 (some 280)) 206 115 (some 281)) 206 119 (some 282))) (by decide +kernel) rfl trivial ?_
  refine rf_bnewa B hF (by decide) .int 12 rfl .int rfl (by decide) (by decide) (by decide +kernel) (by decide) rfl rfl (rf_mem 2 (by decide +kernel)) (by decide) (by decide) (by decide +kernel) (fun K B hF => ?_)
  show rf_V 1 (rf_shn 284) K 77 315984 652 ([(0, .ref 206)], [.ref 283, .ref 206], rf_uR (rf_uR (rf_uR M 206 114 (some 280)) 206 115 (some 281)) 206 119 (some 282))
  refine rf_bputr (idx := 262) B hF 14 120 rfl rfl rfl (by decide) (by decide +kernel) (by decide +kernel) (fun hF => ?_)
  show rf_V 1 (rf_shn 284) K 77 315984 655 ([(0, .ref 206)], [], rf_uR (rf_uR (rf_uR (rf_uR M 206 114 (some 280)) 206 115 (some 281)) 206 119 (some 282)) 206 120 (some 283))
  refine rf_seg B.1 [(.aload 0, 1), (.iconst 12, 2)] (pc' := 658) (S' := ([(0, .ref 206)], [.int 12, .ref 206], rf_uR (rf_uR (rf_uR (rf_uR M 206 114 (some 280)) 206 115 (some 281)) 206 119 (some 282)) 206 120 (some 283))) (by decide +kernel) rfl trivial ?_
  refine rf_bnewa B hF (by decide) .int 12 rfl .int rfl (by decide) (by decide) (by decide +kernel) (by decide) rfl rfl (rf_mem 2 (by decide +kernel)) (by decide) (by decide) (by decide +kernel) (fun K B hF => ?_)
  show rf_V 1 (rf_shn 285) K 78 315996 660 ([(0, .ref 206)], [.ref 284, .ref 206], rf_uR (rf_uR (rf_uR (rf_uR M 206 114 (some 280)) 206 115 (some 281)) 206 119 (some 282)) 206 120 (some 283))
  refine rf_bputr (idx := 265) B hF 14 121 rfl rfl rfl (by decide) (by decide +kernel) (by decide +kernel) (fun hF => ?_)
  show rf_V 1 (rf_shn 285) K 78 315996 663 ([(0, .ref 206)], [], rf_uR (rf_uR (rf_uR (rf_uR (rf_uR M 206 114 (some 280)) 206 115 (some 281)) 206 119 (some 282)) 206 120 (some 283)) 206 121 (some 284))
  refine rf_seg B.1 [(.aload 0, 1), (.iconst 80, 2)] (pc' := 666) (S' := ([(0, .ref 206)], [.int 80, .ref 206], rf_uR (rf_uR (rf_uR (rf_uR (rf_uR M 206 114 (some 280)) 206 115 (some 281)) 206 119 (some 282)) 206 120 (some 283)) 206 121 (some 284))) (by decide +kernel) rfl trivial ?_
  refine rf_bnewa B hF (by decide) .int 80 rfl .int rfl (by decide) (by decide) (by decide +kernel) (by decide) rfl rfl (rf_mem 2 (by decide +kernel)) (by decide) (by decide) (by decide +kernel) (fun K B hF => ?_)
  show rf_V 1 (rf_shn 286) K 79 316076 668 ([(0, .ref 206)], [.ref 285, .ref 206], rf_uR (rf_uR (rf_uR (rf_uR (rf_uR M 206 114 (some 280)) 206 115 (some 281)) 206 119 (some 282)) 206 120 (some 283)) 206 121 (some 284))
  refine rf_bputr (idx := 268) B hF 14 122 rfl rfl rfl (by decide) (by decide +kernel) (by decide +kernel) (fun hF => ?_)
  show rf_V 1 (rf_shn 286) K 79 316076 671 ([(0, .ref 206)], [], rf_uR (rf_uR (rf_uR (rf_uR (rf_uR (rf_uR M 206 114 (some 280)) 206 115 (some 281)) 206 119 (some 282)) 206 120 (some 283)) 206 121 (some 284)) 206 122 (some 285))
  refine rf_seg B.1 [(.aload 0, 1), (.iconst 80, 2)] (pc' := 674) (S' := ([(0, .ref 206)], [.int 80, .ref 206], rf_uR (rf_uR (rf_uR (rf_uR (rf_uR (rf_uR M 206 114 (some 280)) 206 115 (some 281)) 206 119 (some 282)) 206 120 (some 283)) 206 121 (some 284)) 206 122 (some 285))) (by decide +kernel) rfl trivial ?_
  refine rf_bnewa B hF (by decide) .int 80 rfl .int rfl (by decide) (by decide) (by decide +kernel) (by decide) rfl rfl (rf_mem 2 (by decide +kernel)) (by decide) (by decide) (by decide +kernel) (fun K B hF => ?_)
  show rf_V 1 (rf_shn 287) K 80 316156 676 ([(0, .ref 206)], [.ref 286, .ref 206], rf_uR (rf_uR (rf_uR (rf_uR (rf_uR (rf_uR M 206 114 (some 280)) 206 115 (some 281)) 206 119 (some 282)) 206 120 (some 283)) 206 121 (some 284)) 206 122 (some 285))
  refine rf_bputr (idx := 271) B hF 14 123 rfl rfl rfl (by decide) (by decide +kernel) (by decide +kernel) (fun hF => ?_)
  show rf_V 1 (rf_shn 287) K 80 316156 679 ([(0, .ref 206)], [], rf_uR (rf_uR (rf_uR (rf_uR (rf_uR (rf_uR (rf_uR M 206 114 (some 280)) 206 115 (some 281)) 206 119 (some 282)) 206 120 (some 283)) 206 121 (some 284)) 206 122 (some 285)) 206 123 (some 286))
  refine rf_seg B.1 [(.aload 0, 1), (.iconst 80, 2)] (pc' := 682) (S' := ([(0, .ref 206)], [.int 80, .ref 206], rf_uR (rf_uR (rf_uR (rf_uR (rf_uR (rf_uR (rf_uR M 206 114 (some 280)) 206 115 (some 281)) 206 119 (some 282)) 206 120 (some 283)) 206 121 (some 284)) 206 122 (some 285)) 206 123 (some 286))) (by decide +kernel) rfl trivial ?_
  refine rf_bnewa B hF (by decide) .long 80 rfl .long rfl (by decide) (by decide) (by decide +kernel) (by decide) rfl rfl (rf_mem 0 (by decide +kernel)) (by decide) (by decide) (by decide +kernel) (fun K B hF => ?_)
  show rf_V 1 (rf_shn 288) K 81 316236 684 ([(0, .ref 206)], [.ref 287, .ref 206], rf_uR (rf_uR (rf_uR (rf_uR (rf_uR (rf_uR (rf_uR M 206 114 (some 280)) 206 115 (some 281)) 206 119 (some 282)) 206 120 (some 283)) 206 121 (some 284)) 206 122 (some 285)) 206 123 (some 286))
  refine rf_bputr (idx := 274) B hF 14 124 rfl rfl rfl (by decide) (by decide +kernel) (by decide +kernel) (fun hF => ?_)
  show rf_V 1 (rf_shn 288) K 81 316236 687 ([(0, .ref 206)], [], rf_uR (rf_uR (rf_uR (rf_uR (rf_uR (rf_uR (rf_uR (rf_uR M 206 114 (some 280)) 206 115 (some 281)) 206 119 (some 282)) 206 120 (some 283)) 206 121 (some 284)) 206 122 (some 285)) 206 123 (some 286)) 206 124 (some 287))
  exact k K B hF
def mj_X14_init_207_10 (M : rf_M) : rf_M := rf_uR (rf_uR (rf_uR (rf_uR (rf_uR (rf_uR (rf_uR (rf_uR M 206 125 (some 288)) 206 127 (some 289)) 206 128 (some 290)) 206 129 (some 291)) 206 130 (some 292)) 206 131 (some 293)) 206 132 (some 294)) 206 133 (some 295)
theorem fj_X14_init_207_10 {M : rf_M} (hF : rf_F 288 M) : rf_F 296 (mj_X14_init_207_10 M) := by
  have hF := rf_F_succ hF
  have hF := rf_F_uR (k := 206) (i := 125) (j := 288) hF (by decide) (by decide)
  have hF := rf_F_succ hF
  have hF := rf_F_uR (k := 206) (i := 127) (j := 289) hF (by decide) (by decide)
  have hF := rf_F_succ hF
  have hF := rf_F_uR (k := 206) (i := 128) (j := 290) hF (by decide) (by decide)
  have hF := rf_F_succ hF
  have hF := rf_F_uR (k := 206) (i := 129) (j := 291) hF (by decide) (by decide)
  have hF := rf_F_succ hF
  have hF := rf_F_uR (k := 206) (i := 130) (j := 292) hF (by decide) (by decide)
  have hF := rf_F_succ hF
  have hF := rf_F_uR (k := 206) (i := 131) (j := 293) hF (by decide) (by decide)
  have hF := rf_F_succ hF
  have hF := rf_F_uR (k := 206) (i := 132) (j := 294) hF (by decide) (by decide)
  have hF := rf_F_succ hF
  have hF := rf_F_uR (k := 206) (i := 133) (j := 295) hF (by decide) (by decide)
  exact hF
theorem sj_X14_init_207_10 {K0 K : rf_K} {M : rf_M} (B : rf_B 14 cX14_init 1 6 98 322040 207 K0 288 K) (hF : rf_F 288 M) (k : ∀ K', rf_B 14 cX14_init 1 6 98 322040 207 K0 296 K' → rf_F 296 (mj_X14_init_207_10 M) → rf_V 1 (rf_shn 296) K' 89 319976 755 ([(0, .ref 206)], [], mj_X14_init_207_10 M)) : rf_V 1 (rf_shn 288) K 81 316236 687 ([(0, .ref 206)], [], M) := by
  refine rf_seg B.1 [(.aload 0, 1), (.iconst 80, 2)] (pc' := 690) (S' := ([(0, .ref 206)], [.int 80, .ref 206], M)) (by decide +kernel) rfl trivial ?_
  refine rf_bnewa B hF (by decide) .long 80 rfl .long rfl (by decide) (by decide) (by decide +kernel) (by decide) rfl rfl (rf_mem 0 (by decide +kernel)) (by decide) (by decide) (by decide +kernel) (fun K B hF => ?_)
  show rf_V 1 (rf_shn 289) K 82 316316 692 ([(0, .ref 206)], [.ref 288, .ref 206], M)
  refine rf_bputr (idx := 278) B hF 14 125 rfl rfl rfl (by decide) (by decide +kernel) (by decide +kernel) (fun hF => ?_)
  show rf_V 1 (rf_shn 289) K 82 316316 695 ([(0, .ref 206)], [], rf_uR M 206 125 (some 288))
  refine rf_seg B.1 [(.aload 0, 1), (.iconst 20, 2)] (pc' := 698) (S' := ([(0, .ref 206)], [.int 20, .ref 206], rf_uR M 206 125 (some 288))) (by decide +kernel) rfl trivial ?_
  refine rf_bnewa B hF (by decide) .int 20 rfl .int rfl (by decide) (by decide) (by decide +kernel) (by decide) rfl rfl (rf_mem 2 (by decide +kernel)) (by decide) (by decide) (by decide +kernel) (fun K B hF => ?_)
  show rf_V 1 (rf_shn 290) K 83 316336 700 ([(0, .ref 206)], [.ref 289, .ref 206], rf_uR M 206 125 (some 288))
  refine rf_bputr (idx := 281) B hF 14 127 rfl rfl rfl (by decide) (by decide +kernel) (by decide +kernel) (fun hF => ?_)
  show rf_V 1 (rf_shn 290) K 83 316336 703 ([(0, .ref 206)], [], rf_uR (rf_uR M 206 125 (some 288)) 206 127 (some 289))
  refine rf_seg B.1 [(.aload 0, 1), (.iconst 20, 2)] (pc' := 706) (S' := ([(0, .ref 206)], [.int 20, .ref 206], rf_uR (rf_uR M 206 125 (some 288)) 206 127 (some 289))) (by decide +kernel) rfl trivial ?_
  refine rf_bnewa B hF (by decide) .int 20 rfl .int rfl (by decide) (by decide) (by decide +kernel) (by decide) rfl rfl (rf_mem 2 (by decide +kernel)) (by decide) (by decide) (by decide +kernel) (fun K B hF => ?_)
  show rf_V 1 (rf_shn 291) K 84 316356 708 ([(0, .ref 206)], [.ref 290, .ref 206], rf_uR (rf_uR M 206 125 (some 288)) 206 127 (some 289))
  refine rf_bputr (idx := 284) B hF 14 128 rfl rfl rfl (by decide) (by decide +kernel) (by decide +kernel) (fun hF => ?_)
  show rf_V 1 (rf_shn 291) K 84 316356 711 ([(0, .ref 206)], [], rf_uR (rf_uR (rf_uR M 206 125 (some 288)) 206 127 (some 289)) 206 128 (some 290))
  refine rf_seg B.1 [(.aload 0, 1), (.iconst 20, 2)] (pc' := 714) (S' := ([(0, .ref 206)], [.int 20, .ref 206], rf_uR (rf_uR (rf_uR M 206 125 (some 288)) 206 127 (some 289)) 206 128 (some 290))) (by decide +kernel) rfl trivial ?_
  refine rf_bnewa B hF (by decide) .int 20 rfl .int rfl (by decide) (by decide) (by decide +kernel) (by decide) rfl rfl (rf_mem 2 (by decide +kernel)) (by decide) (by decide) (by decide +kernel) (fun K B hF => ?_)
  show rf_V 1 (rf_shn 292) K 85 316376 716 ([(0, .ref 206)], [.ref 291, .ref 206], rf_uR (rf_uR (rf_uR M 206 125 (some 288)) 206 127 (some 289)) 206 128 (some 290))
  refine rf_bputr (idx := 287) B hF 14 129 rfl rfl rfl (by decide) (by decide +kernel) (by decide +kernel) (fun hF => ?_)
  show rf_V 1 (rf_shn 292) K 85 316376 719 ([(0, .ref 206)], [], rf_uR (rf_uR (rf_uR (rf_uR M 206 125 (some 288)) 206 127 (some 289)) 206 128 (some 290)) 206 129 (some 291))
  refine rf_seg B.1 [(.aload 0, 1), (.iconst 900, 3)] (pc' := 723) (S' := ([(0, .ref 206)], [.int 900, .ref 206], rf_uR (rf_uR (rf_uR (rf_uR M 206 125 (some 288)) 206 127 (some 289)) 206 128 (some 290)) 206 129 (some 291))) (by decide +kernel) rfl trivial ?_
  refine rf_bnewa B hF (by decide) .int 900 rfl .int rfl (by decide) (by decide) (by decide +kernel) (by decide) rfl rfl (rf_mem 2 (by decide +kernel)) (by decide) (by decide) (by decide +kernel) (fun K B hF => ?_)
  show rf_V 1 (rf_shn 293) K 86 317276 725 ([(0, .ref 206)], [.ref 292, .ref 206], rf_uR (rf_uR (rf_uR (rf_uR M 206 125 (some 288)) 206 127 (some 289)) 206 128 (some 290)) 206 129 (some 291))
  refine rf_bputr (idx := 290) B hF 14 130 rfl rfl rfl (by decide) (by decide +kernel) (by decide +kernel) (fun hF => ?_)
  show rf_V 1 (rf_shn 293) K 86 317276 728 ([(0, .ref 206)], [], rf_uR (rf_uR (rf_uR (rf_uR (rf_uR M 206 125 (some 288)) 206 127 (some 289)) 206 128 (some 290)) 206 129 (some 291)) 206 130 (some 292))
  refine rf_seg B.1 [(.aload 0, 1), (.iconst 900, 3)] (pc' := 732) (S' := ([(0, .ref 206)], [.int 900, .ref 206], rf_uR (rf_uR (rf_uR (rf_uR (rf_uR M 206 125 (some 288)) 206 127 (some 289)) 206 128 (some 290)) 206 129 (some 291)) 206 130 (some 292))) (by decide +kernel) rfl trivial ?_
  refine rf_bnewa B hF (by decide) .int 900 rfl .int rfl (by decide) (by decide) (by decide +kernel) (by decide) rfl rfl (rf_mem 2 (by decide +kernel)) (by decide) (by decide) (by decide +kernel) (fun K B hF => ?_)
  show rf_V 1 (rf_shn 294) K 87 318176 734 ([(0, .ref 206)], [.ref 293, .ref 206], rf_uR (rf_uR (rf_uR (rf_uR (rf_uR M 206 125 (some 288)) 206 127 (some 289)) 206 128 (some 290)) 206 129 (some 291)) 206 130 (some 292))
  refine rf_bputr (idx := 293) B hF 14 131 rfl rfl rfl (by decide) (by decide +kernel) (by decide +kernel) (fun hF => ?_)
  show rf_V 1 (rf_shn 294) K 87 318176 737 ([(0, .ref 206)], [], rf_uR (rf_uR (rf_uR (rf_uR (rf_uR (rf_uR M 206 125 (some 288)) 206 127 (some 289)) 206 128 (some 290)) 206 129 (some 291)) 206 130 (some 292)) 206 131 (some 293))
  refine rf_seg B.1 [(.aload 0, 1), (.iconst 900, 3)] (pc' := 741) (S' := ([(0, .ref 206)], [.int 900, .ref 206], rf_uR (rf_uR (rf_uR (rf_uR (rf_uR (rf_uR M 206 125 (some 288)) 206 127 (some 289)) 206 128 (some 290)) 206 129 (some 291)) 206 130 (some 292)) 206 131 (some 293))) (by decide +kernel) rfl trivial ?_
  refine rf_bnewa B hF (by decide) .int 900 rfl .int rfl (by decide) (by decide) (by decide +kernel) (by decide) rfl rfl (rf_mem 2 (by decide +kernel)) (by decide) (by decide) (by decide +kernel) (fun K B hF => ?_)
  show rf_V 1 (rf_shn 295) K 88 319076 743 ([(0, .ref 206)], [.ref 294, .ref 206], rf_uR (rf_uR (rf_uR (rf_uR (rf_uR (rf_uR M 206 125 (some 288)) 206 127 (some 289)) 206 128 (some 290)) 206 129 (some 291)) 206 130 (some 292)) 206 131 (some 293))
  refine rf_bputr (idx := 296) B hF 14 132 rfl rfl rfl (by decide) (by decide +kernel) (by decide +kernel) (fun hF => ?_)
  show rf_V 1 (rf_shn 295) K 88 319076 746 ([(0, .ref 206)], [], rf_uR (rf_uR (rf_uR (rf_uR (rf_uR (rf_uR (rf_uR M 206 125 (some 288)) 206 127 (some 289)) 206 128 (some 290)) 206 129 (some 291)) 206 130 (some 292)) 206 131 (some 293)) 206 132 (some 294))
  refine rf_seg B.1 [(.aload 0, 1), (.iconst 900, 3)] (pc' := 750) (S' := ([(0, .ref 206)], [.int 900, .ref 206], rf_uR (rf_uR (rf_uR (rf_uR (rf_uR (rf_uR (rf_uR M 206 125 (some 288)) 206 127 (some 289)) 206 128 (some 290)) 206 129 (some 291)) 206 130 (some 292)) 206 131 (some 293)) 206 132 (some 294))) (by decide +kernel) rfl trivial ?_
  refine rf_bnewa B hF (by decide) .int 900 rfl .int rfl (by decide) (by decide) (by decide +kernel) (by decide) rfl rfl (rf_mem 2 (by decide +kernel)) (by decide) (by decide) (by decide +kernel) (fun K B hF => ?_)
  show rf_V 1 (rf_shn 296) K 89 319976 752 ([(0, .ref 206)], [.ref 295, .ref 206], rf_uR (rf_uR (rf_uR (rf_uR (rf_uR (rf_uR (rf_uR M 206 125 (some 288)) 206 127 (some 289)) 206 128 (some 290)) 206 129 (some 291)) 206 130 (some 292)) 206 131 (some 293)) 206 132 (some 294))
  refine rf_bputr (idx := 299) B hF 14 133 rfl rfl rfl (by decide) (by decide +kernel) (by decide +kernel) (fun hF => ?_)
  show rf_V 1 (rf_shn 296) K 89 319976 755 ([(0, .ref 206)], [], rf_uR (rf_uR (rf_uR (rf_uR (rf_uR (rf_uR (rf_uR (rf_uR M 206 125 (some 288)) 206 127 (some 289)) 206 128 (some 290)) 206 129 (some 291)) 206 130 (some 292)) 206 131 (some 293)) 206 132 (some 294)) 206 133 (some 295))
  exact k K B hF
def mj_X14_init_207_11 (M : rf_M) : rf_M := rf_uR (rf_uR (rf_uR (rf_uR (rf_uR (rf_uR (rf_uR (rf_uR M 206 134 (some 296)) 206 135 (some 297)) 206 141 (some 298)) 206 142 (some 299)) 206 143 (some 300)) 206 144 (some 301)) 206 145 (some 302)) 206 146 (some 303)
theorem fj_X14_init_207_11 {M : rf_M} (hF : rf_F 296 M) : rf_F 304 (mj_X14_init_207_11 M) := by
  have hF := rf_F_succ hF
  have hF := rf_F_uR (k := 206) (i := 134) (j := 296) hF (by decide) (by decide)
  have hF := rf_F_succ hF
  have hF := rf_F_uR (k := 206) (i := 135) (j := 297) hF (by decide) (by decide)
  have hF := rf_F_succ hF
  have hF := rf_F_uR (k := 206) (i := 141) (j := 298) hF (by decide) (by decide)
  have hF := rf_F_succ hF
  have hF := rf_F_uR (k := 206) (i := 142) (j := 299) hF (by decide) (by decide)
  have hF := rf_F_succ hF
  have hF := rf_F_uR (k := 206) (i := 143) (j := 300) hF (by decide) (by decide)
  have hF := rf_F_succ hF
  have hF := rf_F_uR (k := 206) (i := 144) (j := 301) hF (by decide) (by decide)
  have hF := rf_F_succ hF
  have hF := rf_F_uR (k := 206) (i := 145) (j := 302) hF (by decide) (by decide)
  have hF := rf_F_succ hF
  have hF := rf_F_uR (k := 206) (i := 146) (j := 303) hF (by decide) (by decide)
  exact hF
theorem sj_X14_init_207_11 {K0 K : rf_K} {M : rf_M} (B : rf_B 14 cX14_init 1 6 98 322040 207 K0 296 K) (hF : rf_F 296 M) (k : ∀ K', rf_B 14 cX14_init 1 6 98 322040 207 K0 304 K' → rf_F 304 (mj_X14_init_207_11 M) → rf_V 1 (rf_shn 304) K' 97 322010 821 ([(0, .ref 206)], [], mj_X14_init_207_11 M)) : rf_V 1 (rf_shn 296) K 89 319976 755 ([(0, .ref 206)], [], M) := by
  refine rf_seg B.1 [(.aload 0, 1), (.iconst 900, 3)] (pc' := 759) (S' := ([(0, .ref 206)], [.int 900, .ref 206], M)) (by decide +kernel) rfl trivial ?_
  refine rf_bnewa B hF (by decide) .int 900 rfl .int rfl (by decide) (by decide) (by decide +kernel) (by decide) rfl rfl (rf_mem 2 (by decide +kernel)) (by decide) (by decide) (by decide +kernel) (fun K B hF => ?_)
  show rf_V 1 (rf_shn 297) K 90 320876 761 ([(0, .ref 206)], [.ref 296, .ref 206], M)
  refine rf_bputr (idx := 302) B hF 14 134 rfl rfl rfl (by decide) (by decide +kernel) (by decide +kernel) (fun hF => ?_)
  show rf_V 1 (rf_shn 297) K 90 320876 764 ([(0, .ref 206)], [], rf_uR M 206 134 (some 296))
  refine rf_seg B.1 [(.aload 0, 1), (.iconst 900, 3)] (pc' := 768) (S' := ([(0, .ref 206)], [.int 900, .ref 206], rf_uR M 206 134 (some 296))) (by decide +kernel) rfl trivial ?_
  refine rf_bnewa B hF (by decide) .int 900 rfl .int rfl (by decide) (by decide) (by decide +kernel) (by decide) rfl rfl (rf_mem 2 (by decide +kernel)) (by decide) (by decide) (by decide +kernel) (fun K B hF => ?_)
  show rf_V 1 (rf_shn 298) K 91 321776 770 ([(0, .ref 206)], [.ref 297, .ref 206], rf_uR M 206 134 (some 296))
  refine rf_bputr (idx := 305) B hF 14 135 rfl rfl rfl (by decide) (by decide +kernel) (by decide +kernel) (fun hF => ?_)
  show rf_V 1 (rf_shn 298) K 91 321776 773 ([(0, .ref 206)], [], rf_uR (rf_uR M 206 134 (some 296)) 206 135 (some 297))
  refine rf_seg B.1 [(.aload 0, 1), (.iconst 60, 2)] (pc' := 776) (S' := ([(0, .ref 206)], [.int 60, .ref 206], rf_uR (rf_uR M 206 134 (some 296)) 206 135 (some 297))) (by decide +kernel) rfl trivial ?_
  refine rf_bnewa B hF (by decide) .int 60 rfl .int rfl (by decide) (by decide) (by decide +kernel) (by decide) rfl rfl (rf_mem 2 (by decide +kernel)) (by decide) (by decide) (by decide +kernel) (fun K B hF => ?_)
  show rf_V 1 (rf_shn 299) K 92 321836 778 ([(0, .ref 206)], [.ref 298, .ref 206], rf_uR (rf_uR M 206 134 (some 296)) 206 135 (some 297))
  refine rf_bputr (idx := 308) B hF 14 141 rfl rfl rfl (by decide) (by decide +kernel) (by decide +kernel) (fun hF => ?_)
  show rf_V 1 (rf_shn 299) K 92 321836 781 ([(0, .ref 206)], [], rf_uR (rf_uR (rf_uR M 206 134 (some 296)) 206 135 (some 297)) 206 141 (some 298))
  refine rf_seg B.1 [(.aload 0, 1), (.iconst 60, 2)] (pc' := 784) (S' := ([(0, .ref 206)], [.int 60, .ref 206], rf_uR (rf_uR (rf_uR M 206 134 (some 296)) 206 135 (some 297)) 206 141 (some 298))) (by decide +kernel) rfl trivial ?_
  refine rf_bnewa B hF (by decide) .int 60 rfl .int rfl (by decide) (by decide) (by decide +kernel) (by decide) rfl rfl (rf_mem 2 (by decide +kernel)) (by decide) (by decide) (by decide +kernel) (fun K B hF => ?_)
  show rf_V 1 (rf_shn 300) K 93 321896 786 ([(0, .ref 206)], [.ref 299, .ref 206], rf_uR (rf_uR (rf_uR M 206 134 (some 296)) 206 135 (some 297)) 206 141 (some 298))
  refine rf_bputr (idx := 311) B hF 14 142 rfl rfl rfl (by decide) (by decide +kernel) (by decide +kernel) (fun hF => ?_)
  show rf_V 1 (rf_shn 300) K 93 321896 789 ([(0, .ref 206)], [], rf_uR (rf_uR (rf_uR (rf_uR M 206 134 (some 296)) 206 135 (some 297)) 206 141 (some 298)) 206 142 (some 299))
  refine rf_seg B.1 [(.aload 0, 1), (.iconst 60, 2)] (pc' := 792) (S' := ([(0, .ref 206)], [.int 60, .ref 206], rf_uR (rf_uR (rf_uR (rf_uR M 206 134 (some 296)) 206 135 (some 297)) 206 141 (some 298)) 206 142 (some 299))) (by decide +kernel) rfl trivial ?_
  refine rf_bnewa B hF (by decide) .int 60 rfl .int rfl (by decide) (by decide) (by decide +kernel) (by decide) rfl rfl (rf_mem 2 (by decide +kernel)) (by decide) (by decide) (by decide +kernel) (fun K B hF => ?_)
  show rf_V 1 (rf_shn 301) K 94 321956 794 ([(0, .ref 206)], [.ref 300, .ref 206], rf_uR (rf_uR (rf_uR (rf_uR M 206 134 (some 296)) 206 135 (some 297)) 206 141 (some 298)) 206 142 (some 299))
  refine rf_bputr (idx := 314) B hF 14 143 rfl rfl rfl (by decide) (by decide +kernel) (by decide +kernel) (fun hF => ?_)
  show rf_V 1 (rf_shn 301) K 94 321956 797 ([(0, .ref 206)], [], rf_uR (rf_uR (rf_uR (rf_uR (rf_uR M 206 134 (some 296)) 206 135 (some 297)) 206 141 (some 298)) 206 142 (some 299)) 206 143 (some 300))
  refine rf_seg B.1 [(.aload 0, 1), (.iconst 12, 2)] (pc' := 800) (S' := ([(0, .ref 206)], [.int 12, .ref 206], rf_uR (rf_uR (rf_uR (rf_uR (rf_uR M 206 134 (some 296)) 206 135 (some 297)) 206 141 (some 298)) 206 142 (some 299)) 206 143 (some 300))) (by decide +kernel) rfl trivial ?_
  refine rf_bnewa B hF (by decide) .int 12 rfl .int rfl (by decide) (by decide) (by decide +kernel) (by decide) rfl rfl (rf_mem 2 (by decide +kernel)) (by decide) (by decide) (by decide +kernel) (fun K B hF => ?_)
  show rf_V 1 (rf_shn 302) K 95 321968 802 ([(0, .ref 206)], [.ref 301, .ref 206], rf_uR (rf_uR (rf_uR (rf_uR (rf_uR M 206 134 (some 296)) 206 135 (some 297)) 206 141 (some 298)) 206 142 (some 299)) 206 143 (some 300))
  refine rf_bputr (idx := 317) B hF 14 144 rfl rfl rfl (by decide) (by decide +kernel) (by decide +kernel) (fun hF => ?_)
  show rf_V 1 (rf_shn 302) K 95 321968 805 ([(0, .ref 206)], [], rf_uR (rf_uR (rf_uR (rf_uR (rf_uR (rf_uR M 206 134 (some 296)) 206 135 (some 297)) 206 141 (some 298)) 206 142 (some 299)) 206 143 (some 300)) 206 144 (some 301))
  refine rf_seg B.1 [(.aload 0, 1), (.iconst 12, 2)] (pc' := 808) (S' := ([(0, .ref 206)], [.int 12, .ref 206], rf_uR (rf_uR (rf_uR (rf_uR (rf_uR (rf_uR M 206 134 (some 296)) 206 135 (some 297)) 206 141 (some 298)) 206 142 (some 299)) 206 143 (some 300)) 206 144 (some 301))) (by decide +kernel) rfl trivial ?_
  refine rf_bnewa B hF (by decide) .int 12 rfl .int rfl (by decide) (by decide) (by decide +kernel) (by decide) rfl rfl (rf_mem 2 (by decide +kernel)) (by decide) (by decide) (by decide +kernel) (fun K B hF => ?_)
  show rf_V 1 (rf_shn 303) K 96 321980 810 ([(0, .ref 206)], [.ref 302, .ref 206], rf_uR (rf_uR (rf_uR (rf_uR (rf_uR (rf_uR M 206 134 (some 296)) 206 135 (some 297)) 206 141 (some 298)) 206 142 (some 299)) 206 143 (some 300)) 206 144 (some 301))
  refine rf_bputr (idx := 320) B hF 14 145 rfl rfl rfl (by decide) (by decide +kernel) (by decide +kernel) (fun hF => ?_)
  show rf_V 1 (rf_shn 303) K 96 321980 813 ([(0, .ref 206)], [], rf_uR (rf_uR (rf_uR (rf_uR (rf_uR (rf_uR (rf_uR M 206 134 (some 296)) 206 135 (some 297)) 206 141 (some 298)) 206 142 (some 299)) 206 143 (some 300)) 206 144 (some 301)) 206 145 (some 302))
  refine rf_seg B.1 [(.aload 0, 1), (.iconst 30, 2)] (pc' := 816) (S' := ([(0, .ref 206)], [.int 30, .ref 206], rf_uR (rf_uR (rf_uR (rf_uR (rf_uR (rf_uR (rf_uR M 206 134 (some 296)) 206 135 (some 297)) 206 141 (some 298)) 206 142 (some 299)) 206 143 (some 300)) 206 144 (some 301)) 206 145 (some 302))) (by decide +kernel) rfl trivial ?_
  refine rf_bnewa B hF (by decide) .int 30 rfl .int rfl (by decide) (by decide) (by decide +kernel) (by decide) rfl rfl (rf_mem 2 (by decide +kernel)) (by decide) (by decide) (by decide +kernel) (fun K B hF => ?_)
  show rf_V 1 (rf_shn 304) K 97 322010 818 ([(0, .ref 206)], [.ref 303, .ref 206], rf_uR (rf_uR (rf_uR (rf_uR (rf_uR (rf_uR (rf_uR M 206 134 (some 296)) 206 135 (some 297)) 206 141 (some 298)) 206 142 (some 299)) 206 143 (some 300)) 206 144 (some 301)) 206 145 (some 302))
  refine rf_bputr (idx := 323) B hF 14 146 rfl rfl rfl (by decide) (by decide +kernel) (by decide +kernel) (fun hF => ?_)
  show rf_V 1 (rf_shn 304) K 97 322010 821 ([(0, .ref 206)], [], rf_uR (rf_uR (rf_uR (rf_uR (rf_uR (rf_uR (rf_uR (rf_uR M 206 134 (some 296)) 206 135 (some 297)) 206 141 (some 298)) 206 142 (some 299)) 206 143 (some 300)) 206 144 (some 301)) 206 145 (some 302)) 206 146 (some 303))
  exact k K B hF
def mj_X14_init_207_12 (M : rf_M) : rf_M := rf_uR M 206 147 (some 304)
theorem fj_X14_init_207_12 {M : rf_M} (hF : rf_F 304 M) : rf_F 305 (mj_X14_init_207_12 M) := by
  have hF := rf_F_succ hF
  have hF := rf_F_uR (k := 206) (i := 147) (j := 304) hF (by decide) (by decide)
  exact hF
theorem sj_X14_init_207_12 {K0 K : rf_K} {M : rf_M} (B : rf_B 14 cX14_init 1 6 98 322040 207 K0 304 K) (hF : rf_F 304 M) (k : ∀ K', rf_B 14 cX14_init 1 6 98 322040 207 K0 305 K' → rf_F 305 (mj_X14_init_207_12 M) → rf_V 1 (rf_shn 305) K' 98 322040 829 ([(0, .ref 206)], [], mj_X14_init_207_12 M)) : rf_V 1 (rf_shn 304) K 97 322010 821 ([(0, .ref 206)], [], M) := by
  refine rf_seg B.1 [(.aload 0, 1), (.iconst 30, 2)] (pc' := 824) (S' := ([(0, .ref 206)], [.int 30, .ref 206], M)) (by decide +kernel) rfl trivial ?_
  refine rf_bnewa B hF (by decide) .int 30 rfl .int rfl (by decide) (by decide) (by decide +kernel) (by decide) rfl rfl (rf_mem 2 (by decide +kernel)) (by decide) (by decide) (by decide +kernel) (fun K B hF => ?_)
  show rf_V 1 (rf_shn 305) K 98 322040 826 ([(0, .ref 206)], [.ref 304, .ref 206], M)
  refine rf_bputr (idx := 326) B hF 14 147 rfl rfl rfl (by decide) (by decide +kernel) (by decide +kernel) (fun hF => ?_)
  show rf_V 1 (rf_shn 305) K 98 322040 829 ([(0, .ref 206)], [], rf_uR M 206 147 (some 304))
  exact k K B hF
def mi_X14_init_207 (M : rf_M) : rf_M := mj_X14_init_207_12 (mj_X14_init_207_11 (mj_X14_init_207_10 (mj_X14_init_207_9 (mj_X14_init_207_8 (mj_X14_init_207_7 (mj_X14_init_207_6 (mj_X14_init_207_5 (mj_X14_init_207_4 (mj_X14_init_207_3 (mj_X14_init_207_2 (mj_X14_init_207_1 (mj_X14_init_207_0 M))))))))))))
theorem fi_X14_init_207 {M : rf_M} (hF : rf_F 207 M) : rf_F 305 (mi_X14_init_207 M) := by
  have hF := fj_X14_init_207_0 hF
  have hF := fj_X14_init_207_1 hF
  have hF := fj_X14_init_207_2 hF
  have hF := fj_X14_init_207_3 hF
  have hF := fj_X14_init_207_4 hF
  have hF := fj_X14_init_207_5 hF
  have hF := fj_X14_init_207_6 hF
  have hF := fj_X14_init_207_7 hF
  have hF := fj_X14_init_207_8 hF
  have hF := fj_X14_init_207_9 hF
  have hF := fj_X14_init_207_10 hF
  have hF := fj_X14_init_207_11 hF
  have hF := fj_X14_init_207_12 hF
  exact hF
theorem ci_X14_init_207 {M : rf_M} (hF : rf_F 207 M) : rf_ConA j_X14_init 6 98 322040 207 [.ref 206] M 305 (mi_X14_init_207 M) := by
  refine rf_conA j_X14_init 6 98 322040 207 305 ⟨by decide +kernel, rfl, rfl, Nat.le_of_ble_eq_true rfl⟩ (fun K B hE => ?_) rfl
  unfold mi_X14_init_207 at hE
  show rf_V 1 (rf_shn 207) K 0 0 0 ([(0, .ref 206)], [], M)
  refine sj_X14_init_207_0 B hF (fun K B hF => ?_)
  refine sj_X14_init_207_1 B hF (fun K B hF => ?_)
  refine sj_X14_init_207_2 B hF (fun K B hF => ?_)
  refine sj_X14_init_207_3 B hF (fun K B hF => ?_)
  refine sj_X14_init_207_4 B hF (fun K B hF => ?_)
  refine sj_X14_init_207_5 B hF (fun K B hF => ?_)
  refine sj_X14_init_207_6 B hF (fun K B hF => ?_)
  refine sj_X14_init_207_7 B hF (fun K B hF => ?_)
  refine sj_X14_init_207_8 B hF (fun K B hF => ?_)
  refine sj_X14_init_207_9 B hF (fun K B hF => ?_)
  refine sj_X14_init_207_10 B hF (fun K B hF => ?_)
  refine sj_X14_init_207_11 B hF (fun K B hF => ?_)
  refine sj_X14_init_207_12 B hF (fun K B hF => ?_)
  exact rf_vretA B hE (by decide +kernel)
