/-! tables of the program: written by wip/tool/tables.py -/
def rf_own (o : Nat) : String := match o with
  | 0 => RX0
  | 1 => RX1
  | 2 => RX2
  | 3 => RX3
  | 4 => RX4
  | 5 => RX5
  | 6 => RX6
  | 7 => RX7
  | 8 => RX8
  | 9 => RX9
  | 10 => RX10
  | 11 => RX11
  | 12 => RX12
  | 13 => RX13
  | 14 => RX14
  | 15 => RJx145de
  | 16 => RJx9f9b0
  | 17 => RJ11
  | 18 => RJxb160c
  | 19 => RJxf58ca
  | 20 => RJ6
  | 21 => RJ13
  | 22 => RJ9
  | 23 => RJxd2413
  | 24 => RJ0
  | 25 => RJ1
  | 26 => RJ2
  | 27 => RJ10
  | 28 => RJxfd54e
  | 29 => RJx3cf43
  | 30 => RJ7
  | 31 => RJ3
  | 32 => RL
  | 33 => "java/lang/Throwable"
  | 34 => "java/lang/Exception"
  | 35 => "java/lang/RuntimeException"
  | 36 => "java/util/NoSuchElementException"
  | _ => ""
def rf_R (o : Nat) : String := rf_own o
def rf_T (o : Nat) : u_T := match o with
  | 0 => TX0
  | 1 => TX1
  | 2 => TX2
  | 3 => TX3
  | 4 => TX4
  | 5 => TX5
  | 6 => TX6
  | 7 => TX7
  | 8 => TX8
  | 9 => TX9
  | 10 => TX10
  | 11 => TX11
  | 12 => TX12
  | 13 => TX13
  | 14 => TX14
  | _ => TX0
def rf_ft (o : Nat) : Nat → FieldType := match o with
  | 0 => tyX0
  | 1 => tyX1
  | 2 => tyX2
  | 3 => tyX3
  | 4 => tyX4
  | 5 => tyX5
  | 6 => tyX6
  | 7 => tyX7
  | 8 => tyX8
  | 9 => tyX9
  | 10 => tyX10
  | 11 => tyX11
  | 12 => tyX12
  | 13 => tyX13
  | 14 => tyX14
  | _ => tyX0
def rf_fn (o : Nat) : Nat := match o with
  | 0 => 19
  | 1 => 3
  | 2 => 14
  | 3 => 20
  | 4 => 20
  | 5 => 15
  | 6 => 11
  | 7 => 8
  | 8 => 19
  | 9 => 11
  | 10 => 15
  | 11 => 14
  | 12 => 7
  | 13 => 8
  | 14 => 148
  | _ => 0
def rf_xw0 : List Cond := ([(Jvm.Cond.initialized "java/lang/Throwable"), (Jvm.Cond.initialized "java/lang/Exception"), (Jvm.Cond.initialized "java/lang/RuntimeException"), (Jvm.Cond.initialized "java/util/NoSuchElementException"), (Jvm.Cond.classLink "GreatArcLaw" (13 : Nat) "java/util/NoSuchElementException"), (Jvm.Cond.classLink "GreatArc" (232 : Nat) "java/util/NoSuchElementException"), (Jvm.Cond.instantiable "java/util/NoSuchElementException" (6 : Nat)), (Jvm.Cond.castable "java/util/NoSuchElementException" "java/util/NoSuchElementException"), (Jvm.Cond.declares ({ cls := "java/lang/RuntimeException", name := "<init>", desc := "()V" } : Jvm.MethodName)), (Jvm.Cond.declares ({ cls := "java/lang/RuntimeException", name := "<init>", desc := "(Ljava/lang/String;)V" } : Jvm.MethodName)), (Jvm.Cond.declares ({ cls := "java/lang/Exception", name := "<init>", desc := "()V" } : Jvm.MethodName)), (Jvm.Cond.declares ({ cls := "java/lang/Exception", name := "<init>", desc := "(Ljava/lang/String;)V" } : Jvm.MethodName)), (Jvm.Cond.declares ({ cls := "java/lang/Throwable", name := "<init>", desc := "()V" } : Jvm.MethodName)), (Jvm.Cond.declares ({ cls := "java/lang/Throwable", name := "<init>", desc := "(Ljava/lang/String;)V" } : Jvm.MethodName)), (Jvm.Cond.selects "java/util/NoSuchElementException" ({ cls := "java/lang/Throwable", name := "fillInStackTrace", desc := "(I)Ljava/lang/Throwable;" } : Jvm.MethodName) ({ cls := "java/lang/Throwable", name := "fillInStackTrace", desc := "(I)Ljava/lang/Throwable;" } : Jvm.MethodName)), (Jvm.Cond.selects "java/util/NoSuchElementException" ({ cls := "java/lang/Throwable", name := "fillInStackTrace", desc := "()Ljava/lang/Throwable;" } : Jvm.MethodName) ({ cls := "java/lang/Throwable", name := "fillInStackTrace", desc := "()Ljava/lang/Throwable;" } : Jvm.MethodName)), (Jvm.Cond.lays "java/util/NoSuchElementException" "java/lang/Throwable" "cause" "Ljava/lang/Throwable;"), (Jvm.Cond.lays "java/lang/Throwable" "java/lang/Throwable" "cause" "Ljava/lang/Throwable;"), (Jvm.Cond.lays "java/util/NoSuchElementException" "java/lang/Throwable" "stackTrace" "[Ljava/lang/StackTraceElement;"), (Jvm.Cond.lays "java/lang/Throwable" "java/lang/Throwable" "stackTrace" "[Ljava/lang/StackTraceElement;"), (Jvm.Cond.lays "java/util/NoSuchElementException" "java/lang/Throwable" "suppressedExceptions" "Ljava/util/List;"), (Jvm.Cond.lays "java/lang/Throwable" "java/lang/Throwable" "suppressedExceptions" "Ljava/util/List;"), (Jvm.Cond.lays "java/util/NoSuchElementException" "java/lang/Throwable" "detailMessage" "Ljava/lang/String;"), (Jvm.Cond.lays "java/lang/Throwable" "java/lang/Throwable" "detailMessage" "Ljava/lang/String;"), (Jvm.Cond.lays "java/util/NoSuchElementException" "java/lang/Throwable" "backtrace" "Ljava/lang/Object;"), (Jvm.Cond.lays "java/lang/Throwable" "java/lang/Throwable" "backtrace" "Ljava/lang/Object;"), (Jvm.Cond.fieldLink "java/lang/Throwable" (198 : Nat) "java/lang/Throwable" "backtrace" "Ljava/lang/Object;"), (Jvm.Cond.superclass "java/lang/Throwable" "java/lang/Object"), (Jvm.Cond.instanceMethod ({ cls := "java/lang/Throwable", name := "<init>", desc := "()V" } : Jvm.MethodName)), (Jvm.Cond.code ({ cls := "java/lang/Throwable", name := "<init>", desc := "()V" } : Jvm.MethodName) prog_32_method_1_code (1 : Nat) (Option.none : Option Jvm.ClassFile.FieldType))] : List Cond).filter goodWord
def rf_xw1 : List Cond := ([(Jvm.Cond.methodLink "java/lang/Throwable" (1 : Nat) ({ cls := "java/lang/Object", name := "<init>", desc := "()V" } : Jvm.MethodName)), (Jvm.Cond.fieldLink "java/lang/Throwable" (13 : Nat) "java/lang/Throwable" "UNASSIGNED_STACK" "[Ljava/lang/StackTraceElement;"), (Jvm.Cond.laysStatic "java/lang/Throwable" "UNASSIGNED_STACK" "[Ljava/lang/StackTraceElement;"), (Jvm.Cond.fieldLink "java/lang/Throwable" (20 : Nat) "java/lang/Throwable" "SUPPRESSED_SENTINEL" "Ljava/util/List;"), (Jvm.Cond.laysStatic "java/lang/Throwable" "SUPPRESSED_SENTINEL" "Ljava/util/List;"), (Jvm.Cond.methodLink "java/lang/Throwable" (27 : Nat) ({ cls := "java/lang/Throwable", name := "fillInStackTrace", desc := "()Ljava/lang/Throwable;" } : Jvm.MethodName)), (Jvm.Cond.instanceMethod ({ cls := "java/lang/Throwable", name := "fillInStackTrace", desc := "()Ljava/lang/Throwable;" } : Jvm.MethodName)), (Jvm.Cond.sameMethod "java/lang/Throwable" "java/lang/Throwable" "fillInStackTrace" "()Ljava/lang/Throwable;"), (Jvm.Cond.selects "GreatArcModel$Stop" ({ cls := "java/lang/Throwable", name := "fillInStackTrace", desc := "()Ljava/lang/Throwable;" } : Jvm.MethodName) ({ cls := "java/lang/Throwable", name := "fillInStackTrace", desc := "()Ljava/lang/Throwable;" } : Jvm.MethodName)), (Jvm.Cond.codeSync ({ cls := "java/lang/Throwable", name := "fillInStackTrace", desc := "()Ljava/lang/Throwable;" } : Jvm.MethodName) prog_32_method_18_code (1 : Nat) (Option.some (Jvm.ClassFile.FieldType.object "java/lang/Throwable"))), (Jvm.Cond.methodLink "java/lang/Throwable" (202 : Nat) ({ cls := "java/lang/Throwable", name := "fillInStackTrace", desc := "(I)Ljava/lang/Throwable;" } : Jvm.MethodName)), (Jvm.Cond.privateMethod ({ cls := "java/lang/Throwable", name := "fillInStackTrace", desc := "(I)Ljava/lang/Throwable;" } : Jvm.MethodName)), (Jvm.Cond.instanceMethod ({ cls := "java/lang/Throwable", name := "fillInStackTrace", desc := "(I)Ljava/lang/Throwable;" } : Jvm.MethodName)), (Jvm.Cond.instantiable "java/lang/Throwable" (6 : Nat)), (Jvm.Cond.native ({ cls := "java/lang/Throwable", name := "fillInStackTrace", desc := "(I)Ljava/lang/Throwable;" } : Jvm.MethodName)), (Jvm.Cond.methodLink "GreatArc" (234 : Nat) ({ cls := "java/util/NoSuchElementException", name := "<init>", desc := "()V" } : Jvm.MethodName)), (Jvm.Cond.instanceMethod ({ cls := "java/util/NoSuchElementException", name := "<init>", desc := "()V" } : Jvm.MethodName)), (Jvm.Cond.code ({ cls := "java/util/NoSuchElementException", name := "<init>", desc := "()V" } : Jvm.MethodName) prog_36_method_1_code (1 : Nat) (Option.none : Option Jvm.ClassFile.FieldType)), (Jvm.Cond.methodLink "java/util/NoSuchElementException" (1 : Nat) ({ cls := "java/lang/RuntimeException", name := "<init>", desc := "()V" } : Jvm.MethodName)), (Jvm.Cond.instanceMethod ({ cls := "java/lang/RuntimeException", name := "<init>", desc := "()V" } : Jvm.MethodName)), (Jvm.Cond.code ({ cls := "java/lang/RuntimeException", name := "<init>", desc := "()V" } : Jvm.MethodName) prog_27_method_1_code (1 : Nat) (Option.none : Option Jvm.ClassFile.FieldType)), (Jvm.Cond.methodLink "java/lang/RuntimeException" (1 : Nat) ({ cls := "java/lang/Exception", name := "<init>", desc := "()V" } : Jvm.MethodName)), (Jvm.Cond.instanceMethod ({ cls := "java/lang/Exception", name := "<init>", desc := "()V" } : Jvm.MethodName)), (Jvm.Cond.code ({ cls := "java/lang/Exception", name := "<init>", desc := "()V" } : Jvm.MethodName) prog_21_method_1_code (1 : Nat) (Option.none : Option Jvm.ClassFile.FieldType)), (Jvm.Cond.methodLink "java/lang/Exception" (1 : Nat) ({ cls := "java/lang/Throwable", name := "<init>", desc := "()V" } : Jvm.MethodName)), (Jvm.Cond.fieldLink "java/lang/Throwable" (198 : Nat) "java/lang/Throwable" "backtrace" "Ljava/lang/Object;"), (Jvm.Cond.fieldLink "java/lang/Throwable" (31 : Nat) "java/lang/Throwable" "detailMessage" "Ljava/lang/String;"), (Jvm.Cond.fieldLink "java/lang/Throwable" (7 : Nat) "java/lang/Throwable" "cause" "Ljava/lang/Throwable;"), (Jvm.Cond.fieldLink "java/lang/Throwable" (17 : Nat) "java/lang/Throwable" "stackTrace" "[Ljava/lang/StackTraceElement;"), (Jvm.Cond.fieldLink "java/lang/Throwable" (24 : Nat) "java/lang/Throwable" "suppressedExceptions" "Ljava/util/List;")] : List Cond).filter goodWord
def rf_xw2 : List Cond := ([(Jvm.Cond.soleField "java/lang/Throwable" "backtrace"), (Jvm.Cond.soleField "java/lang/Throwable" "detailMessage"), (Jvm.Cond.soleField "java/lang/Throwable" "cause"), (Jvm.Cond.soleField "java/lang/Throwable" "stackTrace"), (Jvm.Cond.lays "java/util/NoSuchElementException" "java/lang/Throwable" "depth" "I"), (Jvm.Cond.soleField "java/lang/Throwable" "depth"), (Jvm.Cond.soleField "java/lang/Throwable" "suppressedExceptions"), (Jvm.Cond.superclass "java/util/NoSuchElementException" "java/lang/RuntimeException"), (Jvm.Cond.selects "GreatArcModel$Stop" ({ cls := "java/lang/Throwable", name := "fillInStackTrace", desc := "(I)Ljava/lang/Throwable;" } : Jvm.MethodName) ({ cls := "java/lang/Throwable", name := "fillInStackTrace", desc := "(I)Ljava/lang/Throwable;" } : Jvm.MethodName)), (Jvm.Cond.lays "GreatArcModel$Stop" "java/lang/Throwable" "cause" "Ljava/lang/Throwable;"), (Jvm.Cond.lays "GreatArcModel$Stop" "java/lang/Throwable" "stackTrace" "[Ljava/lang/StackTraceElement;"), (Jvm.Cond.lays "GreatArcModel$Stop" "java/lang/Throwable" "suppressedExceptions" "Ljava/util/List;"), (Jvm.Cond.lays "GreatArcModel$Stop" "java/lang/Throwable" "detailMessage" "Ljava/lang/String;"), (Jvm.Cond.lays "GreatArcModel$Stop" "java/lang/Throwable" "backtrace" "Ljava/lang/Object;"), (Jvm.Cond.methodLink "GreatArcModel$Stop" (1 : Nat) ({ cls := "java/lang/RuntimeException", name := "<init>", desc := "(Ljava/lang/String;Ljava/lang/Throwable;ZZ)V" } : Jvm.MethodName)), (Jvm.Cond.instanceMethod ({ cls := "java/lang/RuntimeException", name := "<init>", desc := "(Ljava/lang/String;Ljava/lang/Throwable;ZZ)V" } : Jvm.MethodName)), (Jvm.Cond.code ({ cls := "java/lang/RuntimeException", name := "<init>", desc := "(Ljava/lang/String;Ljava/lang/Throwable;ZZ)V" } : Jvm.MethodName) prog_27_method_5_code (5 : Nat) (Option.none : Option Jvm.ClassFile.FieldType)), (Jvm.Cond.methodLink "java/lang/RuntimeException" (16 : Nat) ({ cls := "java/lang/Exception", name := "<init>", desc := "(Ljava/lang/String;Ljava/lang/Throwable;ZZ)V" } : Jvm.MethodName)), (Jvm.Cond.instanceMethod ({ cls := "java/lang/Exception", name := "<init>", desc := "(Ljava/lang/String;Ljava/lang/Throwable;ZZ)V" } : Jvm.MethodName)), (Jvm.Cond.code ({ cls := "java/lang/Exception", name := "<init>", desc := "(Ljava/lang/String;Ljava/lang/Throwable;ZZ)V" } : Jvm.MethodName) prog_21_method_5_code (5 : Nat) (Option.none : Option Jvm.ClassFile.FieldType)), (Jvm.Cond.methodLink "java/lang/Exception" (16 : Nat) ({ cls := "java/lang/Throwable", name := "<init>", desc := "(Ljava/lang/String;Ljava/lang/Throwable;ZZ)V" } : Jvm.MethodName)), (Jvm.Cond.instanceMethod ({ cls := "java/lang/Throwable", name := "<init>", desc := "(Ljava/lang/String;Ljava/lang/Throwable;ZZ)V" } : Jvm.MethodName)), (Jvm.Cond.code ({ cls := "java/lang/Throwable", name := "<init>", desc := "(Ljava/lang/String;Ljava/lang/Throwable;ZZ)V" } : Jvm.MethodName) prog_32_method_5_code (5 : Nat) (Option.none : Option Jvm.ClassFile.FieldType)), (Jvm.Cond.lays "GreatArcModel$Stop" "java/lang/Throwable" "depth" "I"), (Jvm.Cond.superclass "GreatArcModel$Stop" "java/lang/RuntimeException"), (Jvm.Cond.sameMethod "java/lang/Throwable" "java/lang/Throwable" "fillInStackTrace" "(I)Ljava/lang/Throwable;"), (Jvm.Cond.castable "java/util/NoSuchElementException" "java/lang/Object"), (Jvm.Cond.castable "java/lang/Throwable" "java/lang/Object")] : List Cond).filter goodWord
def rf_xw3 : List Cond := [Cond.methodLink RX14 566 yX14_stop, Cond.instanceMethod yX14_stop, Cond.code yX14_stop cX14_stop 2 (some (.object "GreatArcModel$Stop"))]
def rf_xw4 : List Cond := [Cond.selects RX14 yX14_stop yX14_stop]
def rf_ch : List (List Cond) := [wsL_law0_r1, wsL_law0_r2, wsL_law0_r3, wsL_law0_r4, wsL_law0_r5, wsL_law0_r6, wsL_law0_r7, wsL_law0_r8, wsL_law0_r9, wsL_law0_r10, wsL_law0_r11, wsL_law0_r12, wsL_law0_r13, wsL_law0_r14, wsL_law0_r15, wsL_law0_r16, wsL_law0_r17, wsL_law0_r18, wsL_law0_r19, wsL_law0_r20, wsL_law0_r21, wsL_law0_r22, wsL_law0_r23, wsL_law0_r24, wsL_law0_r25, wsL_law0_r26, wsL_law0_r27, wsL_law0_r28, wsL_law0_r29, wsL_law0_r30, wsL_law0_r31, wsL_law0_r32, wsL_law0_r33, wsL_law0_r34, wsL_law0_r35, wsL_law0_r36, wsL_law0_r37, wsL_law0_r38, wsL_law0_r39, wsL_law0_r40, wsL_law0_r41, wsL_law0_r42, wsL_law0_r43, wsL_law0_r44, wsL_law0_r45, wsL_law0_r46, wsL_law0_r47, wsL_law0_r48, wsL_law0_r49, wsL_law0_r50, wsL_law0_r51, wsL_law0_r52, wsL_law0_r53, wsL_law0_r54, wsL_law0_r55, wsL_law0_r56, wsL_law0_r57, wsL_law0_r58, wsL_law0_r59, wsL_law0_r60, wsL_law0_r61, wsL_law0_r62, wsL_law0_r63, wsL_law0_r64, wsL_law0_r65, wsL_law0_r66, wsL_law0_r67, wsL_law0_r68, wsL_law0_r69, wsL_law0_r70, wsL_law0_r71, wsL_law0_r72, wsL_law0_r73, wsL_law0_r74, wsL_law0_r75, wsL_law0_r76, wsL_law0_r77, wsL_law0_r78, wsL_law0_r79, wsL_law0_r80, wsL_law0_r81, wsL_law0_r82, wsL_law0_r83, wsL_law0_r84, wsL_law0_r85, wsL_law0_r86, wsL_law0_r87, wsL_law0_r88, wsL_law0_r89, wsL_law0_r90, wsL_law0_r91, wsL_law0_r92, wsL_law0_r93, wsL_law0_r94, wsL_law0_r95, wsL_law0_r96, wsL_law0_r97, wsL_law0_r98, wsL_law0_r99, wsX110, wsX140, wsX50, wsX90, wsX30, wsX60, wsX70, wsX00, wsX40, wsX20, wsX100, wsX80, wsX10, wsX120, wsX130, rf_xw0, rf_xw1, rf_xw2, rf_xw3, rf_xw4]
def rf_WS : List Cond := rf_ch.flatten
theorem rf_mem {w : Cond} (c : Nat) (h : w ∈ rf_ch.getD c []) : w ∈ rf_WS := by
  unfold rf_WS
  rw [List.getD_eq_getElem?_getD] at h
  cases hc : rf_ch[c]? with
  | none => rw [hc] at h; cases h
  | some l => rw [hc] at h; exact List.mem_flatten.mpr ⟨l, List.mem_of_getElem? hc, h⟩
theorem rf_cl : ∀ ci, ci < 15 → vwCl[ci]? = some (rf_R ci, rf_T ci, rf_fn ci) := by
  intro ci h
  match ci, h with
  | 0, _ => exact rfl
  | 1, _ => exact rfl
  | 2, _ => exact rfl
  | 3, _ => exact rfl
  | 4, _ => exact rfl
  | 5, _ => exact rfl
  | 6, _ => exact rfl
  | 7, _ => exact rfl
  | 8, _ => exact rfl
  | 9, _ => exact rfl
  | 10, _ => exact rfl
  | 11, _ => exact rfl
  | 12, _ => exact rfl
  | 13, _ => exact rfl
  | 14, _ => exact rfl
  | (n + 15), h => exact absurd h (by omega)
theorem rf_wsin : ∀ ci, ci < 15 → ∀ w ∈ u_ws (rf_R ci) (rf_T ci) (rf_fn ci), w ∈ rf_WS := by
  intro ci h w hw
  match ci, h, hw with
  | 0, _, hw => exact rf_mem 106 hw
  | 1, _, hw => exact rf_mem 111 hw
  | 2, _, hw => exact rf_mem 108 hw
  | 3, _, hw => exact rf_mem 103 hw
  | 4, _, hw => exact rf_mem 107 hw
  | 5, _, hw => exact rf_mem 101 hw
  | 6, _, hw => exact rf_mem 104 hw
  | 7, _, hw => exact rf_mem 105 hw
  | 8, _, hw => exact rf_mem 110 hw
  | 9, _, hw => exact rf_mem 102 hw
  | 10, _, hw => exact rf_mem 109 hw
  | 11, _, hw => exact rf_mem 99 hw
  | 12, _, hw => exact rf_mem 112 hw
  | 13, _, hw => exact rf_mem 113 hw
  | 14, _, hw => exact rf_mem 100 hw
  | (n + 15), h, _ => exact absurd h (by omega)
theorem rf_tyok : ∀ ci, ci < 15 → ∀ k, k < rf_fn ci → parseFieldDescriptor (rf_T ci k).2.2.1 = some (rf_ft ci k) := by
  intro ci h
  match ci, h with
  | 0, _ => exact tyX0_ok
  | 1, _ => exact tyX1_ok
  | 2, _ => exact tyX2_ok
  | 3, _ => exact tyX3_ok
  | 4, _ => exact tyX4_ok
  | 5, _ => exact tyX5_ok
  | 6, _ => exact tyX6_ok
  | 7, _ => exact tyX7_ok
  | 8, _ => exact tyX8_ok
  | 9, _ => exact tyX9_ok
  | 10, _ => exact tyX10_ok
  | 11, _ => exact tyX11_ok
  | 12, _ => exact tyX12_ok
  | 13, _ => exact tyX13_ok
  | 14, _ => exact tyX14_ok
  | (n + 15), h => exact absurd h (by omega)
theorem rf_nmok : ∀ ci, ci < 15 → ∀ a, a < rf_fn ci → ∀ b, b < rf_fn ci → a ≠ b → (rf_T ci a).2.1 ≠ (rf_T ci b).2.1 := by
  intro ci h
  match ci, h with
  | 0, _ => exact nmX0
  | 1, _ => exact nmX1
  | 2, _ => exact nmX2
  | 3, _ => exact nmX3
  | 4, _ => exact nmX4
  | 5, _ => exact nmX5
  | 6, _ => exact nmX6
  | 7, _ => exact nmX7
  | 8, _ => exact nmX8
  | 9, _ => exact nmX9
  | 10, _ => exact nmX10
  | 11, _ => exact nmX11
  | 12, _ => exact nmX12
  | 13, _ => exact nmX13
  | 14, _ => exact nmX14
  | (n + 15), h => exact absurd h (by omega)
def rf_FL (o : Nat) : List (Nat × Nat × Nat × Nat) := match o with
  | 0 => [(11, 0, 0, 5), (17, 0, 3, 5), (21, 0, 4, 5), (24, 0, 5, 5), (27, 0, 6, 5), (30, 0, 7, 5), (35, 0, 9, 5), (39, 0, 10, 5), (43, 0, 11, 5), (47, 0, 12, 6), (50, 0, 13, 6), (53, 0, 14, 6), (56, 0, 15, 6), (59, 0, 16, 6), (62, 0, 17, 6), (65, 0, 18, 6), (68, 0, 1, 6), (72, 0, 2, 6), (82, 0, 8, 64), (86, 7, 0, 64), (95, 3, 4, 65), (108, 7, 1, 65), (122, 3, 6, 65), (135, 1, 0, 66)]
  | 1 => [(9, 1, 2, 6), (13, 1, 1, 66), (23, 1, 0, 66)]
  | 2 => [(9, 2, 0, 7), (15, 2, 6, 7), (18, 2, 7, 7), (21, 2, 9, 7), (24, 2, 10, 7), (27, 2, 11, 7), (30, 2, 12, 7), (33, 2, 13, 7), (36, 2, 4, 7), (40, 2, 5, 7), (44, 2, 1, 84), (51, 3, 4, 85), (62, 2, 8, 85), (69, 2, 2, 85), (72, 2, 3, 85)]
  | 3 => [(9, 3, 0, 3), (15, 3, 1, 3), (19, 3, 2, 3), (22, 3, 3, 3), (25, 3, 4, 3), (28, 3, 9, 4), (31, 3, 10, 4), (34, 3, 11, 4), (37, 3, 12, 4), (40, 3, 13, 4), (43, 3, 14, 4), (46, 3, 15, 4), (49, 3, 16, 4), (52, 3, 18, 4), (55, 3, 8, 4), (59, 3, 5, 21), (63, 3, 6, 22), (66, 3, 7, 23), (77, 3, 17, 31), (80, 3, 19, 22), (96, 9, 1, 26)]
  | 4 => [(9, 4, 0, 6), (15, 4, 2, 6), (19, 4, 3, 6), (22, 4, 7, 6), (25, 4, 9, 6), (28, 4, 10, 6), (31, 4, 11, 6), (34, 4, 13, 7), (37, 4, 14, 7), (40, 4, 19, 7), (43, 4, 4, 7), (47, 4, 5, 7), (51, 4, 6, 7), (62, 4, 18, 76), (65, 4, 15, 76), (90, 4, 1, 76), (93, 4, 16, 76), (97, 4, 17, 76), (106, 4, 8, 76), (109, 7, 0, 76), (147, 4, 12, 77), (177, 3, 4, 82)]
  | 5 => [(9, 5, 0, 2), (15, 5, 1, 2), (18, 5, 2, 2), (21, 5, 3, 2), (25, 5, 6, 2), (28, 5, 7, 2), (31, 5, 8, 2), (34, 5, 10, 2), (37, 5, 11, 2), (40, 5, 13, 2), (43, 5, 14, 2), (46, 5, 4, 15), (54, 5, 9, 17), (57, 5, 12, 18), (86, 5, 5, 94)]
  | 6 => [(9, 6, 0, 4), (15, 6, 2, 4), (19, 6, 4, 4), (22, 6, 5, 4), (25, 6, 6, 4), (28, 6, 7, 4), (31, 6, 8, 4), (34, 6, 9, 4), (37, 6, 10, 4), (40, 6, 1, 53), (70, 6, 3, 95)]
  | 7 => [(9, 7, 3, 5), (15, 7, 4, 5), (18, 7, 5, 5), (21, 7, 6, 5), (24, 7, 2, 5), (28, 7, 0, 58), (32, 3, 1, 57), (41, 3, 2, 58), (44, 3, 3, 58), (51, 7, 1, 59), (87, 3, 4, 62), (97, 7, 7, 86)]
  | 8 => [(11, 8, 0, 3), (15, 8, 1, 3), (18, 8, 17, 3), (21, 8, 7, 36), (25, 8, 9, 36), (28, 8, 2, 36), (31, 8, 3, 36), (34, 8, 5, 36), (37, 8, 6, 36), (40, 8, 12, 36), (43, 8, 13, 37), (46, 8, 14, 37), (49, 8, 15, 37), (52, 8, 16, 37), (55, 8, 18, 37), (86, 8, 4, 41), (89, 8, 10, 37), (120, 8, 11, 38), (147, 8, 8, 37)]
  | 9 => [(12, 9, 0, 3), (18, 9, 1, 3), (22, 9, 4, 3), (25, 9, 5, 3), (28, 9, 6, 3), (31, 9, 7, 3), (34, 9, 8, 3), (37, 9, 9, 3), (40, 9, 10, 3), (44, 9, 2, 35), (52, 8, 0, 35), (55, 9, 3, 27), (58, 8, 4, 46), (60, 8, 3, 46), (62, 8, 2, 46), (64, 8, 1, 46)]
  | 10 => [(9, 10, 3, 8), (15, 10, 4, 8), (18, 10, 5, 8), (21, 10, 6, 8), (24, 10, 7, 8), (27, 10, 8, 8), (30, 10, 9, 8), (33, 10, 10, 8), (36, 10, 12, 8), (39, 10, 13, 8), (42, 10, 14, 8), (45, 10, 2, 8), (49, 10, 0, 88), (66, 10, 11, 88), (69, 3, 6, 88), (74, 3, 4, 88), (77, 3, 1, 88), (80, 3, 2, 89), (83, 3, 3, 89), (103, 10, 1, 92)]
  | 11 => [(10, 11, 0, 0), (19, 11, 1, 0), (28, 11, 2, 1), (35, 11, 3, 1), (44, 11, 4, 1), (53, 11, 5, 1), (62, 11, 6, 1), (69, 11, 7, 1), (76, 11, 8, 2), (80, 11, 9, 2), (95, 5, 0, 13), (98, 5, 1, 13), (112, 5, 4, 15), (125, 11, 10, 16), (132, 5, 3, 17), (153, 3, 5, 21), (160, 3, 6, 22), (197, 3, 0, 30), (219, 3, 1, 31), (226, 3, 4, 33), (242, 9, 2, 36), (248, 9, 0, 36), (257, 8, 5, 36), (260, 11, 12, 36), (261, 8, 6, 36), (264, 11, 13, 36), (265, 9, 3, 36), (276, 11, 11, 14), (291, 6, 1, 52), (301, 6, 0, 54), (307, 6, 2, 55), (325, 7, 0, 57), (339, 7, 1, 58), (391, 0, 0, 74), (405, 4, 3, 76), (408, 4, 2, 76), (411, 4, 1, 81), (414, 4, 0, 81), (433, 2, 1, 83), (442, 2, 2, 87), (445, 2, 0, 87), (448, 2, 3, 87), (452, 10, 0, 88), (469, 10, 1, 92), (481, 5, 5, 94), (490, 6, 3, 95), (500, 3, 7, 97)]
  | 12 => [(9, 12, 5, 13), (15, 12, 6, 13), (18, 12, 3, 49)]
  | 14 => [(9, 14, 2, 8), (13, 14, 7, 8), (17, 14, 8, 8), (20, 14, 9, 8), (24, 14, 10, 8), (27, 14, 11, 8), (30, 14, 12, 8), (33, 14, 13, 9), (36, 14, 14, 9), (40, 14, 19, 9), (43, 14, 20, 9), (46, 14, 21, 9), (49, 14, 22, 9), (52, 14, 23, 9), (55, 14, 24, 9), (58, 14, 25, 9), (61, 14, 26, 9), (64, 14, 27, 9), (67, 14, 28, 9), (70, 14, 29, 9), (73, 14, 30, 9), (76, 14, 31, 9), (79, 14, 32, 9), (84, 14, 40, 9), (89, 14, 41, 9), (96, 14, 42, 10), (100, 14, 43, 10), (104, 14, 54, 10), (107, 14, 56, 10), (110, 14, 57, 10), (113, 14, 58, 10), (116, 14, 59, 10), (119, 14, 60, 10), (122, 14, 61, 10), (125, 14, 62, 10), (128, 14, 63, 10), (131, 14, 66, 10), (134, 14, 67, 10), (137, 14, 68, 10), (140, 14, 69, 10), (143, 14, 70, 10), (146, 14, 71, 10), (149, 14, 72, 10), (152, 14, 73, 10), (155, 14, 74, 10), (158, 14, 75, 10), (161, 14, 76, 10), (164, 14, 77, 10), (167, 14, 78, 11), (170, 14, 79, 11), (173, 14, 80, 11), (176, 14, 81, 11), (179, 14, 82, 11), (182, 14, 83, 11), (185, 14, 84, 11), (188, 14, 85, 11), (191, 14, 86, 11), (194, 14, 87, 11), (201, 14, 89, 11), (205, 14, 90, 11), (208, 14, 91, 11), (211, 14, 92, 11), (214, 14, 93, 11), (217, 14, 94, 11), (220, 14, 95, 11), (223, 14, 96, 11), (226, 14, 97, 11), (229, 14, 98, 11), (232, 14, 99, 11), (235, 14, 100, 11), (238, 14, 101, 11), (241, 14, 102, 12), (244, 14, 103, 12), (247, 14, 110, 12), (250, 14, 113, 12), (253, 14, 114, 12), (256, 14, 115, 12), (259, 14, 119, 12), (262, 14, 120, 12), (265, 14, 121, 12), (268, 14, 122, 12), (271, 14, 123, 12), (274, 14, 124, 12), (278, 14, 125, 12), (281, 14, 127, 12), (284, 14, 128, 12), (287, 14, 129, 12), (290, 14, 130, 12), (293, 14, 131, 12), (296, 14, 132, 12), (299, 14, 133, 12), (302, 14, 134, 12), (305, 14, 135, 12), (308, 14, 141, 12), (311, 14, 142, 12), (314, 14, 143, 13), (317, 14, 144, 13), (320, 14, 145, 13), (323, 14, 146, 13), (326, 14, 147, 13), (329, 14, 0, 14), (332, 14, 1, 14), (335, 14, 4, 16), (363, 14, 5, 17), (372, 14, 6, 19), (393, 14, 15, 22), (396, 14, 16, 22), (399, 14, 17, 24), (421, 14, 18, 29), (424, 14, 33, 28), (427, 14, 35, 28), (430, 14, 34, 29), (440, 14, 37, 29), (446, 14, 38, 29), (449, 14, 36, 29), (452, 14, 39, 29), (489, 14, 48, 47), (493, 14, 45, 47), (508, 14, 46, 47), (514, 14, 47, 47), (517, 14, 49, 47), (523, 14, 53, 47), (529, 14, 50, 47), (554, 14, 51, 47), (557, 14, 52, 47), (620, 14, 44, 35), (623, 14, 3, 47), (666, 14, 55, 53), (689, 14, 64, 58), (695, 14, 65, 59), (792, 14, 88, 70), (810, 14, 105, 79), (813, 14, 107, 80), (816, 14, 106, 80), (819, 14, 108, 80), (822, 14, 109, 80), (828, 14, 104, 79), (845, 14, 111, 79), (848, 14, 112, 79), (858, 14, 116, 84), (867, 14, 117, 86), (870, 14, 118, 86), (873, 14, 126, 88), (895, 14, 136, 92), (901, 14, 139, 93), (904, 14, 140, 93), (910, 14, 137, 94), (913, 14, 138, 96)]
  | 33 => [(7, 13, 0, 115), (17, 13, 1, 115), (24, 13, 2, 115), (31, 13, 3, 115), (198, 13, 4, 115)]
  | _ => []
def rf_CI (o : Nat) : List (Nat × Int × Nat) := match o with
  | 0 => [(121, -2147483648, 65)]
  | 3 => [(97, 12960000, 26)]
  | 4 => [(133, 36000, 77), (134, 6444000, 77), (138, 324000, 77)]
  | 6 => [(47, 100000, 55)]
  | 7 => [(67, 6480000, 60), (72, 12960000, 60), (73, -2147483648, 60)]
  | 10 => [(96, 6480000, 89), (97, 12960000, 89), (109, -2147483648, 92)]
  | 11 => [(300, 100000, 54), (353, -2147483648, 59), (395, 6480000, 75), (451, 12959999, 88), (467, -1000000, 91), (468, 1000000, 92), (514, 648000, 75), (519, 8388607, 23), (520, 8388608, 23), (521, 12960000, 23)]
  | 14 => [(23, 300000, 8), (414, 12959999, 24), (675, 100000, 54), (701, -12960000, 61), (702, -6480000, 61), (712, -2147483648, 61), (781, 2520000, 70), (802, 6480000, 75), (806, 36000, 80), (807, 6444000, 80), (808, 324000, 80), (809, 3240000, 80), (876, 12960000, 90), (893, -1000000, 92), (894, 1000000, 92)]
  | 17 => [(76, 56320, 41), (110, 55232, 41)]
  | 20 => [(264, 65536, 68), (265, 1431655765, 64), (266, 858993459, 64), (267, 252645135, 64)]
  | 26 => [(227, 65536, 39)]
  | _ => []
def rf_CL (o : Nat) : List (Nat × Int × Nat) := match o with
  | 0 => [(9, -9223372036854775808, 5), (158, 2520000, 69), (174, 1000, 73), (189, 1000000000, 74)]
  | 1 => [(27, 1073741823, 66), (35, 8, 70)]
  | 4 => [(145, 1000000, 77), (170, 1000000000, 78), (172, 1000000001, 79)]
  | 6 => [(73, -9223372036854775808, 96), (75, 1000, 96)]
  | 9 => [(117, 1000000000, 28), (119, -1000000000, 28)]
  | 11 => [(515, 4000000, 75), (517, 524880000000, 75)]
  | 14 => [(199, -9223372036854775808, 11), (502, 32, 47), (635, -1000000000, 30), (637, 1000000000, 30), (650, 2, 30), (731, 4294967295, 71), (765, -1, 72), (796, 648000, 75), (798, 4000000, 75), (800, 524880000000, 75), (916, 1000, 96)]
  | _ => []
set_option maxRecDepth 20000 in
theorem rf_FLok_0 : ∀ e ∈ rf_FL 0, e.2.1 < 15 ∧ e.2.2.1 < rf_fn e.2.1 ∧ Cond.fieldLink (rf_own 0) e.1 (rf_T e.2.1 e.2.2.1).1 (rf_T e.2.1 e.2.2.1).2.1 (rf_T e.2.1 e.2.2.1).2.2.1 ∈ rf_ch.getD e.2.2.2 [] := by decide +kernel
set_option maxRecDepth 20000 in
theorem rf_FLok_1 : ∀ e ∈ rf_FL 1, e.2.1 < 15 ∧ e.2.2.1 < rf_fn e.2.1 ∧ Cond.fieldLink (rf_own 1) e.1 (rf_T e.2.1 e.2.2.1).1 (rf_T e.2.1 e.2.2.1).2.1 (rf_T e.2.1 e.2.2.1).2.2.1 ∈ rf_ch.getD e.2.2.2 [] := by decide +kernel
set_option maxRecDepth 20000 in
theorem rf_FLok_2 : ∀ e ∈ rf_FL 2, e.2.1 < 15 ∧ e.2.2.1 < rf_fn e.2.1 ∧ Cond.fieldLink (rf_own 2) e.1 (rf_T e.2.1 e.2.2.1).1 (rf_T e.2.1 e.2.2.1).2.1 (rf_T e.2.1 e.2.2.1).2.2.1 ∈ rf_ch.getD e.2.2.2 [] := by decide +kernel
set_option maxRecDepth 20000 in
theorem rf_FLok_3 : ∀ e ∈ rf_FL 3, e.2.1 < 15 ∧ e.2.2.1 < rf_fn e.2.1 ∧ Cond.fieldLink (rf_own 3) e.1 (rf_T e.2.1 e.2.2.1).1 (rf_T e.2.1 e.2.2.1).2.1 (rf_T e.2.1 e.2.2.1).2.2.1 ∈ rf_ch.getD e.2.2.2 [] := by decide +kernel
set_option maxRecDepth 20000 in
theorem rf_FLok_4 : ∀ e ∈ rf_FL 4, e.2.1 < 15 ∧ e.2.2.1 < rf_fn e.2.1 ∧ Cond.fieldLink (rf_own 4) e.1 (rf_T e.2.1 e.2.2.1).1 (rf_T e.2.1 e.2.2.1).2.1 (rf_T e.2.1 e.2.2.1).2.2.1 ∈ rf_ch.getD e.2.2.2 [] := by decide +kernel
set_option maxRecDepth 20000 in
theorem rf_FLok_5 : ∀ e ∈ rf_FL 5, e.2.1 < 15 ∧ e.2.2.1 < rf_fn e.2.1 ∧ Cond.fieldLink (rf_own 5) e.1 (rf_T e.2.1 e.2.2.1).1 (rf_T e.2.1 e.2.2.1).2.1 (rf_T e.2.1 e.2.2.1).2.2.1 ∈ rf_ch.getD e.2.2.2 [] := by decide +kernel
set_option maxRecDepth 20000 in
theorem rf_FLok_6 : ∀ e ∈ rf_FL 6, e.2.1 < 15 ∧ e.2.2.1 < rf_fn e.2.1 ∧ Cond.fieldLink (rf_own 6) e.1 (rf_T e.2.1 e.2.2.1).1 (rf_T e.2.1 e.2.2.1).2.1 (rf_T e.2.1 e.2.2.1).2.2.1 ∈ rf_ch.getD e.2.2.2 [] := by decide +kernel
set_option maxRecDepth 20000 in
theorem rf_FLok_7 : ∀ e ∈ rf_FL 7, e.2.1 < 15 ∧ e.2.2.1 < rf_fn e.2.1 ∧ Cond.fieldLink (rf_own 7) e.1 (rf_T e.2.1 e.2.2.1).1 (rf_T e.2.1 e.2.2.1).2.1 (rf_T e.2.1 e.2.2.1).2.2.1 ∈ rf_ch.getD e.2.2.2 [] := by decide +kernel
set_option maxRecDepth 20000 in
theorem rf_FLok_8 : ∀ e ∈ rf_FL 8, e.2.1 < 15 ∧ e.2.2.1 < rf_fn e.2.1 ∧ Cond.fieldLink (rf_own 8) e.1 (rf_T e.2.1 e.2.2.1).1 (rf_T e.2.1 e.2.2.1).2.1 (rf_T e.2.1 e.2.2.1).2.2.1 ∈ rf_ch.getD e.2.2.2 [] := by decide +kernel
set_option maxRecDepth 20000 in
theorem rf_FLok_9 : ∀ e ∈ rf_FL 9, e.2.1 < 15 ∧ e.2.2.1 < rf_fn e.2.1 ∧ Cond.fieldLink (rf_own 9) e.1 (rf_T e.2.1 e.2.2.1).1 (rf_T e.2.1 e.2.2.1).2.1 (rf_T e.2.1 e.2.2.1).2.2.1 ∈ rf_ch.getD e.2.2.2 [] := by decide +kernel
set_option maxRecDepth 20000 in
theorem rf_FLok_10 : ∀ e ∈ rf_FL 10, e.2.1 < 15 ∧ e.2.2.1 < rf_fn e.2.1 ∧ Cond.fieldLink (rf_own 10) e.1 (rf_T e.2.1 e.2.2.1).1 (rf_T e.2.1 e.2.2.1).2.1 (rf_T e.2.1 e.2.2.1).2.2.1 ∈ rf_ch.getD e.2.2.2 [] := by decide +kernel
set_option maxRecDepth 20000 in
theorem rf_FLok_11 : ∀ e ∈ rf_FL 11, e.2.1 < 15 ∧ e.2.2.1 < rf_fn e.2.1 ∧ Cond.fieldLink (rf_own 11) e.1 (rf_T e.2.1 e.2.2.1).1 (rf_T e.2.1 e.2.2.1).2.1 (rf_T e.2.1 e.2.2.1).2.2.1 ∈ rf_ch.getD e.2.2.2 [] := by decide +kernel
set_option maxRecDepth 20000 in
theorem rf_FLok_12 : ∀ e ∈ rf_FL 12, e.2.1 < 15 ∧ e.2.2.1 < rf_fn e.2.1 ∧ Cond.fieldLink (rf_own 12) e.1 (rf_T e.2.1 e.2.2.1).1 (rf_T e.2.1 e.2.2.1).2.1 (rf_T e.2.1 e.2.2.1).2.2.1 ∈ rf_ch.getD e.2.2.2 [] := by decide +kernel
set_option maxRecDepth 20000 in
theorem rf_FLok_14 : ∀ e ∈ rf_FL 14, e.2.1 < 15 ∧ e.2.2.1 < rf_fn e.2.1 ∧ Cond.fieldLink (rf_own 14) e.1 (rf_T e.2.1 e.2.2.1).1 (rf_T e.2.1 e.2.2.1).2.1 (rf_T e.2.1 e.2.2.1).2.2.1 ∈ rf_ch.getD e.2.2.2 [] := by decide +kernel
set_option maxRecDepth 20000 in
theorem rf_FLok_33 : ∀ e ∈ rf_FL 33, e.2.1 < 15 ∧ e.2.2.1 < rf_fn e.2.1 ∧ Cond.fieldLink (rf_own 33) e.1 (rf_T e.2.1 e.2.2.1).1 (rf_T e.2.1 e.2.2.1).2.1 (rf_T e.2.1 e.2.2.1).2.2.1 ∈ rf_ch.getD e.2.2.2 [] := by decide +kernel
theorem rf_FLok : ∀ o, ∀ e ∈ rf_FL o, e.2.1 < 15 ∧ e.2.2.1 < rf_fn e.2.1 ∧ Cond.fieldLink (rf_own o) e.1 (rf_T e.2.1 e.2.2.1).1 (rf_T e.2.1 e.2.2.1).2.1 (rf_T e.2.1 e.2.2.1).2.2.1 ∈ rf_ch.getD e.2.2.2 [] := by
  intro o e he
  unfold rf_FL at he
  split at he
  · exact rf_FLok_0 e he
  · exact rf_FLok_1 e he
  · exact rf_FLok_2 e he
  · exact rf_FLok_3 e he
  · exact rf_FLok_4 e he
  · exact rf_FLok_5 e he
  · exact rf_FLok_6 e he
  · exact rf_FLok_7 e he
  · exact rf_FLok_8 e he
  · exact rf_FLok_9 e he
  · exact rf_FLok_10 e he
  · exact rf_FLok_11 e he
  · exact rf_FLok_12 e he
  · exact rf_FLok_14 e he
  · exact rf_FLok_33 e he
  · cases he
set_option maxRecDepth 20000 in
theorem rf_CIok_0 : ∀ e ∈ rf_CI 0, Cond.constant (rf_own 0) e.1 (Int32.ofInt e.2.1) ∈ rf_ch.getD e.2.2 [] := by decide +kernel
set_option maxRecDepth 20000 in
theorem rf_CIok_3 : ∀ e ∈ rf_CI 3, Cond.constant (rf_own 3) e.1 (Int32.ofInt e.2.1) ∈ rf_ch.getD e.2.2 [] := by decide +kernel
set_option maxRecDepth 20000 in
theorem rf_CIok_4 : ∀ e ∈ rf_CI 4, Cond.constant (rf_own 4) e.1 (Int32.ofInt e.2.1) ∈ rf_ch.getD e.2.2 [] := by decide +kernel
set_option maxRecDepth 20000 in
theorem rf_CIok_6 : ∀ e ∈ rf_CI 6, Cond.constant (rf_own 6) e.1 (Int32.ofInt e.2.1) ∈ rf_ch.getD e.2.2 [] := by decide +kernel
set_option maxRecDepth 20000 in
theorem rf_CIok_7 : ∀ e ∈ rf_CI 7, Cond.constant (rf_own 7) e.1 (Int32.ofInt e.2.1) ∈ rf_ch.getD e.2.2 [] := by decide +kernel
set_option maxRecDepth 20000 in
theorem rf_CIok_10 : ∀ e ∈ rf_CI 10, Cond.constant (rf_own 10) e.1 (Int32.ofInt e.2.1) ∈ rf_ch.getD e.2.2 [] := by decide +kernel
set_option maxRecDepth 20000 in
theorem rf_CIok_11 : ∀ e ∈ rf_CI 11, Cond.constant (rf_own 11) e.1 (Int32.ofInt e.2.1) ∈ rf_ch.getD e.2.2 [] := by decide +kernel
set_option maxRecDepth 20000 in
theorem rf_CIok_14 : ∀ e ∈ rf_CI 14, Cond.constant (rf_own 14) e.1 (Int32.ofInt e.2.1) ∈ rf_ch.getD e.2.2 [] := by decide +kernel
set_option maxRecDepth 20000 in
theorem rf_CIok_17 : ∀ e ∈ rf_CI 17, Cond.constant (rf_own 17) e.1 (Int32.ofInt e.2.1) ∈ rf_ch.getD e.2.2 [] := by decide +kernel
set_option maxRecDepth 20000 in
theorem rf_CIok_20 : ∀ e ∈ rf_CI 20, Cond.constant (rf_own 20) e.1 (Int32.ofInt e.2.1) ∈ rf_ch.getD e.2.2 [] := by decide +kernel
set_option maxRecDepth 20000 in
theorem rf_CIok_26 : ∀ e ∈ rf_CI 26, Cond.constant (rf_own 26) e.1 (Int32.ofInt e.2.1) ∈ rf_ch.getD e.2.2 [] := by decide +kernel
theorem rf_CIok : ∀ o, ∀ e ∈ rf_CI o, Cond.constant (rf_own o) e.1 (Int32.ofInt e.2.1) ∈ rf_ch.getD e.2.2 [] := by
  intro o e he
  unfold rf_CI at he
  split at he
  · exact rf_CIok_0 e he
  · exact rf_CIok_3 e he
  · exact rf_CIok_4 e he
  · exact rf_CIok_6 e he
  · exact rf_CIok_7 e he
  · exact rf_CIok_10 e he
  · exact rf_CIok_11 e he
  · exact rf_CIok_14 e he
  · exact rf_CIok_17 e he
  · exact rf_CIok_20 e he
  · exact rf_CIok_26 e he
  · cases he
set_option maxRecDepth 20000 in
theorem rf_CLok_0 : ∀ e ∈ rf_CL 0, Cond.constantLong (rf_own 0) e.1 (Int64.ofInt e.2.1) ∈ rf_ch.getD e.2.2 [] := by decide +kernel
set_option maxRecDepth 20000 in
theorem rf_CLok_1 : ∀ e ∈ rf_CL 1, Cond.constantLong (rf_own 1) e.1 (Int64.ofInt e.2.1) ∈ rf_ch.getD e.2.2 [] := by decide +kernel
set_option maxRecDepth 20000 in
theorem rf_CLok_4 : ∀ e ∈ rf_CL 4, Cond.constantLong (rf_own 4) e.1 (Int64.ofInt e.2.1) ∈ rf_ch.getD e.2.2 [] := by decide +kernel
set_option maxRecDepth 20000 in
theorem rf_CLok_6 : ∀ e ∈ rf_CL 6, Cond.constantLong (rf_own 6) e.1 (Int64.ofInt e.2.1) ∈ rf_ch.getD e.2.2 [] := by decide +kernel
set_option maxRecDepth 20000 in
theorem rf_CLok_9 : ∀ e ∈ rf_CL 9, Cond.constantLong (rf_own 9) e.1 (Int64.ofInt e.2.1) ∈ rf_ch.getD e.2.2 [] := by decide +kernel
set_option maxRecDepth 20000 in
theorem rf_CLok_11 : ∀ e ∈ rf_CL 11, Cond.constantLong (rf_own 11) e.1 (Int64.ofInt e.2.1) ∈ rf_ch.getD e.2.2 [] := by decide +kernel
set_option maxRecDepth 20000 in
theorem rf_CLok_14 : ∀ e ∈ rf_CL 14, Cond.constantLong (rf_own 14) e.1 (Int64.ofInt e.2.1) ∈ rf_ch.getD e.2.2 [] := by decide +kernel
theorem rf_CLok : ∀ o, ∀ e ∈ rf_CL o, Cond.constantLong (rf_own o) e.1 (Int64.ofInt e.2.1) ∈ rf_ch.getD e.2.2 [] := by
  intro o e he
  unfold rf_CL at he
  split at he
  · exact rf_CLok_0 e he
  · exact rf_CLok_1 e he
  · exact rf_CLok_4 e he
  · exact rf_CLok_6 e he
  · exact rf_CLok_9 e he
  · exact rf_CLok_11 e he
  · exact rf_CLok_14 e he
  · cases he
/-- the String constants: class, place in its pool, text -/
def rf_str : List (Nat × Nat × String) := [(8, 163, "<>=+-*()"), (8, 176, "strike"), (8, 178, "weight"), (8, 180, "again"), (8, 182, "least"), (8, 184, "close"), (8, 100, "if"), (8, 139, "and"), (8, 141, "or"), (8, 106, "not"), (8, 186, "off"), (8, 190, "hour"), (8, 192, "party"), (8, 194, "count"), (8, 196, "spread"), (8, 198, "kept"), (8, 200, "at"), (14, 539, "if"), (14, 545, "and"), (14, 547, "or"), (14, 549, "not"), (14, 569, "strike"), (14, 571, "weight"), (14, 573, "again"), (14, 575, "least"), (14, 576, "close"), (14, 605, "off"), (14, 607, "hour"), (14, 609, "party"), (14, 611, "count"), (14, 613, "spread"), (14, 615, "kept"), (14, 616, "at")]
def rf_sb : List (List Int32) := [[60, 62, 61, 43, 45, 42, 40, 41], [115, 116, 114, 105, 107, 101], [119, 101, 105, 103, 104, 116], [97, 103, 97, 105, 110], [108, 101, 97, 115, 116], [99, 108, 111, 115, 101], [105, 102], [97, 110, 100], [111, 114], [110, 111, 116], [111, 102, 102], [104, 111, 117, 114], [112, 97, 114, 116, 121], [99, 111, 117, 110, 116], [115, 112, 114, 101, 97, 100], [107, 101, 112, 116], [97, 116], [105, 102], [97, 110, 100], [111, 114], [110, 111, 116], [115, 116, 114, 105, 107, 101], [119, 101, 105, 103, 104, 116], [97, 103, 97, 105, 110], [108, 101, 97, 115, 116], [99, 108, 111, 115, 101], [111, 102, 102], [104, 111, 117, 114], [112, 97, 114, 116, 121], [99, 111, 117, 110, 116], [115, 112, 114, 101, 97, 100], [107, 101, 112, 116], [97, 116]]
def rf_NF (o : Nat) : List (Nat × Nat × Nat × Nat) := match o with
  | 14 => [(455, 12, 0, 14), (486, 13, 6, 14), (492, 13, 7, 14), (551, 12, 3, 14), (581, 12, 4, 14), (629, 12, 1, 14), (632, 12, 2, 14), (644, 12, 5, 14), (647, 12, 6, 14)]
  | _ => []
theorem rf_NFok_14 : ∀ e ∈ rf_NF 14, e.2.1 < 15 ∧ e.2.2.1 < rf_fn e.2.1 := by decide +kernel
theorem rf_NFok : ∀ o, ∀ e ∈ rf_NF o, e.2.1 < 15 ∧ e.2.2.1 < rf_fn e.2.1 := by
  intro o e he
  unfold rf_NF at he
  split at he
  · exact rf_NFok_14 e he
  · cases he
def rf_NM : List (Nat × Nat × MethodName × Nat) := [(11, 9, yX5_init, 11), (11, 18, yX9_init, 11), (9, 11, yX8_init, 11), (11, 34, yX6_init, 11), (0, 42, yX1_init, 11), (6, 43, yX11_sideOf, 11), (7, 47, yX11_isAhead, 11), (4, 135, yX11_sineOf, 11), (7, 64, yX11_sideOf, 11), (4, 187, yX11_isAhead, 11), (14, 88, yX12_init, 14)]
