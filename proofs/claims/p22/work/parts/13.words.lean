/-! ===== words of the tables by their places; classes; the constants (laid by program) ===== -/
theorem bm_inA {w : Cond} (i : Nat) (h : lw_tbl[i]? = some w) (g : goodWord w = true) : w ∈ bm_ALL := List.mem_filter.mpr ⟨List.mem_of_getElem? h, g⟩
theorem bm_inN {w : Cond} (i : Nat) (h : lw_tbl[i]? = some w) (g : bm_nwk w = true) : w ∈ bm_NW := List.mem_filter.mpr ⟨List.mem_of_getElem? h, g⟩
theorem bm_moA {w : Cond} (h : w ∈ lw_tbl) (g : goodWord w = true) : w ∈ bm_ALL := List.mem_filter.mpr ⟨h, g⟩
theorem bm_moN {w : Cond} (h : w ∈ lw_tbl) (g : bm_nwk w = true) : w ∈ bm_NW := List.mem_filter.mpr ⟨h, g⟩
theorem bm_cl_0 : bm_Cl 0 RX0 TX0 6 := ⟨by decide, rfl, fun w hw => List.mem_filter.mpr ⟨(by decide +kernel : ∀ w ∈ u_ws RX0 TX0 6, w ∈ lw_tbl) w hw, List.all_eq_true.mp (by decide +kernel : (u_ws RX0 TX0 6).all goodWord = true) w hw⟩, tyX0_ok, nmX0⟩
theorem bm_cl_1 : bm_Cl 1 RX1 TX1 10 := ⟨by decide, rfl, fun w hw => List.mem_filter.mpr ⟨(by decide +kernel : ∀ w ∈ u_ws RX1 TX1 10, w ∈ lw_tbl) w hw, List.all_eq_true.mp (by decide +kernel : (u_ws RX1 TX1 10).all goodWord = true) w hw⟩, tyX1_ok, nmX1⟩
theorem bm_cl_2 : bm_Cl 2 RX2 TX2 7 := ⟨by decide, rfl, fun w hw => List.mem_filter.mpr ⟨(by decide +kernel : ∀ w ∈ u_ws RX2 TX2 7, w ∈ lw_tbl) w hw, List.all_eq_true.mp (by decide +kernel : (u_ws RX2 TX2 7).all goodWord = true) w hw⟩, tyX2_ok, nmX2⟩
theorem bm_cl_3 : bm_Cl 3 RX3 TX3 7 := ⟨by decide, rfl, fun w hw => List.mem_filter.mpr ⟨(by decide +kernel : ∀ w ∈ u_ws RX3 TX3 7, w ∈ lw_tbl) w hw, List.all_eq_true.mp (by decide +kernel : (u_ws RX3 TX3 7).all goodWord = true) w hw⟩, tyX3_ok, nmX3⟩
theorem bm_cl_4 : bm_Cl 4 RX4 TX4 2 := ⟨by decide, rfl, fun w hw => List.mem_filter.mpr ⟨(by decide +kernel : ∀ w ∈ u_ws RX4 TX4 2, w ∈ lw_tbl) w hw, List.all_eq_true.mp (by decide +kernel : (u_ws RX4 TX4 2).all goodWord = true) w hw⟩, tyX4_ok, nmX4⟩
theorem bm_cl_5 : bm_Cl 5 RX5 TX5 5 := ⟨by decide, rfl, fun w hw => List.mem_filter.mpr ⟨(by decide +kernel : ∀ w ∈ u_ws RX5 TX5 5, w ∈ lw_tbl) w hw, List.all_eq_true.mp (by decide +kernel : (u_ws RX5 TX5 5).all goodWord = true) w hw⟩, tyX5_ok, nmX5⟩
theorem bm_cl_6 : bm_Cl 6 RX6 TX6 3 := ⟨by decide, rfl, fun w hw => List.mem_filter.mpr ⟨(by decide +kernel : ∀ w ∈ u_ws RX6 TX6 3, w ∈ lw_tbl) w hw, List.all_eq_true.mp (by decide +kernel : (u_ws RX6 TX6 3).all goodWord = true) w hw⟩, tyX6_ok, nmX6⟩
theorem bm_cl_7 : bm_Cl 7 RX7 TX7 7 := ⟨by decide, rfl, fun w hw => List.mem_filter.mpr ⟨(by decide +kernel : ∀ w ∈ u_ws RX7 TX7 7, w ∈ lw_tbl) w hw, List.all_eq_true.mp (by decide +kernel : (u_ws RX7 TX7 7).all goodWord = true) w hw⟩, tyX7_ok, nmX7⟩
theorem bm_cl_8 : bm_Cl 8 RX8 TX8 2 := ⟨by decide, rfl, fun w hw => List.mem_filter.mpr ⟨(by decide +kernel : ∀ w ∈ u_ws RX8 TX8 2, w ∈ lw_tbl) w hw, List.all_eq_true.mp (by decide +kernel : (u_ws RX8 TX8 2).all goodWord = true) w hw⟩, tyX8_ok, nmX8⟩
theorem bm_cl_9 : bm_Cl 9 RX9 TX9 11 := ⟨by decide, rfl, fun w hw => List.mem_filter.mpr ⟨(by decide +kernel : ∀ w ∈ u_ws RX9 TX9 11, w ∈ lw_tbl) w hw, List.all_eq_true.mp (by decide +kernel : (u_ws RX9 TX9 11).all goodWord = true) w hw⟩, tyX9_ok, nmX9⟩
theorem bm_cl_10 : bm_Cl 10 RX10 TX10 6 := ⟨by decide, rfl, fun w hw => List.mem_filter.mpr ⟨(by decide +kernel : ∀ w ∈ u_ws RX10 TX10 6, w ∈ lw_tbl) w hw, List.all_eq_true.mp (by decide +kernel : (u_ws RX10 TX10 6).all goodWord = true) w hw⟩, tyX10_ok, nmX10⟩
theorem bm_cl_11 : bm_Cl 11 RX11 TX11 8 := ⟨by decide, rfl, fun w hw => List.mem_filter.mpr ⟨(by decide +kernel : ∀ w ∈ u_ws RX11 TX11 8, w ∈ lw_tbl) w hw, List.all_eq_true.mp (by decide +kernel : (u_ws RX11 TX11 8).all goodWord = true) w hw⟩, tyX11_ok, nmX11⟩
theorem wA_319 : Jvm.Cond.methodLink "CaseTables$Compiler" (3 : Nat) ({ cls := "java/lang/Object", name := "<init>", desc := "()V" } : Jvm.MethodName) ∈ bm_ALL := bm_moA wT_319 rfl
theorem wA_78 : Jvm.Cond.instanceMethod ({ cls := "java/lang/Object", name := "<init>", desc := "()V" } : Jvm.MethodName) ∈ bm_ALL := bm_moA wT_78 rfl
theorem wA_79 : Jvm.Cond.code ({ cls := "java/lang/Object", name := "<init>", desc := "()V" } : Jvm.MethodName) object_method_1_code (1 : Nat) (Option.none : Option Jvm.ClassFile.FieldType) ∈ bm_ALL := bm_moA wT_79 rfl
theorem wA_328 : Jvm.Cond.fieldLink "CaseTables$Compiler" (9 : Nat) "CaseTables$Compiler" "tokens" "LCaseTables$Tokens;" ∈ bm_ALL := bm_moA wT_328 rfl
theorem wA_329 : Jvm.Cond.fieldLink "CaseTables$Compiler" (15 : Nat) "CaseTables$Compiler" "program" "LCaseTables$Program;" ∈ bm_ALL := bm_moA wT_329 rfl
theorem wA_320 : Jvm.Cond.methodLink "CaseTables$Compiler" (19 : Nat) ({ cls := "CaseTables$Program", name := "funAt", desc := "(I)LCaseTables$Fun;" } : Jvm.MethodName) ∈ bm_ALL := bm_moA wT_320 rfl
theorem wA_321 : Jvm.Cond.instanceMethod ({ cls := "CaseTables$Program", name := "funAt", desc := "(I)LCaseTables$Fun;" } : Jvm.MethodName) ∈ bm_ALL := bm_moA wT_321 rfl
theorem wA_322 : Jvm.Cond.selects "CaseTables$Program" ({ cls := "CaseTables$Program", name := "funAt", desc := "(I)LCaseTables$Fun;" } : Jvm.MethodName) ({ cls := "CaseTables$Program", name := "funAt", desc := "(I)LCaseTables$Fun;" } : Jvm.MethodName) ∈ bm_ALL := bm_moA wT_322 rfl
theorem wA_332 : Jvm.Cond.fieldLink "CaseTables$Compiler" (25 : Nat) "CaseTables$Compiler" "fun" "LCaseTables$Fun;" ∈ bm_ALL := bm_moA wT_332 rfl
theorem wA_324 : Jvm.Cond.methodLink "CaseTables$Compiler" (29 : Nat) ({ cls := "CaseTables$Program", name := "tableAt", desc := "(I)LCaseTables$Table;" } : Jvm.MethodName) ∈ bm_ALL := bm_moA wT_324 rfl
theorem wA_325 : Jvm.Cond.instanceMethod ({ cls := "CaseTables$Program", name := "tableAt", desc := "(I)LCaseTables$Table;" } : Jvm.MethodName) ∈ bm_ALL := bm_moA wT_325 rfl
theorem wA_326 : Jvm.Cond.selects "CaseTables$Program" ({ cls := "CaseTables$Program", name := "tableAt", desc := "(I)LCaseTables$Table;" } : Jvm.MethodName) ({ cls := "CaseTables$Program", name := "tableAt", desc := "(I)LCaseTables$Table;" } : Jvm.MethodName) ∈ bm_ALL := bm_moA wT_326 rfl
theorem wA_333 : Jvm.Cond.fieldLink "CaseTables$Compiler" (33 : Nat) "CaseTables$Compiler" "table" "LCaseTables$Table;" ∈ bm_ALL := bm_moA wT_333 rfl
theorem wA_330 : Jvm.Cond.fieldLink "CaseTables$Compiler" (37 : Nat) "CaseTables$Compiler" "complaint" "I" ∈ bm_ALL := bm_moA wT_330 rfl
theorem wA_505 : Jvm.Cond.methodLink "CaseTables$Compiler" (41 : Nat) ({ cls := "CaseTables$Program", name := "clear", desc := "()V" } : Jvm.MethodName) ∈ bm_ALL := bm_moA wT_505 rfl
theorem wA_506 : Jvm.Cond.instanceMethod ({ cls := "CaseTables$Program", name := "clear", desc := "()V" } : Jvm.MethodName) ∈ bm_ALL := bm_moA wT_506 rfl
theorem wA_507 : Jvm.Cond.selects "CaseTables$Program" ({ cls := "CaseTables$Program", name := "clear", desc := "()V" } : Jvm.MethodName) ({ cls := "CaseTables$Program", name := "clear", desc := "()V" } : Jvm.MethodName) ∈ bm_ALL := bm_moA wT_507 rfl
theorem wA_509 : Jvm.Cond.methodLink "CaseTables$Compiler" (44 : Nat) ({ cls := "CaseTables$Tokens", name := "sees", desc := "(I)Z" } : Jvm.MethodName) ∈ bm_ALL := bm_moA wT_509 rfl
theorem wA_510 : Jvm.Cond.instanceMethod ({ cls := "CaseTables$Tokens", name := "sees", desc := "(I)Z" } : Jvm.MethodName) ∈ bm_ALL := bm_moA wT_510 rfl
theorem wA_511 : Jvm.Cond.selects "CaseTables$Tokens" ({ cls := "CaseTables$Tokens", name := "sees", desc := "(I)Z" } : Jvm.MethodName) ({ cls := "CaseTables$Tokens", name := "sees", desc := "(I)Z" } : Jvm.MethodName) ∈ bm_ALL := bm_moA wT_511 rfl
theorem wA_513 : Jvm.Cond.methodLink "CaseTables$Compiler" (50 : Nat) ({ cls := "CaseTables$Compiler", name := "readFun", desc := "()V" } : Jvm.MethodName) ∈ bm_ALL := bm_moA wT_513 rfl
theorem wA_515 : Jvm.Cond.instanceMethod ({ cls := "CaseTables$Compiler", name := "readFun", desc := "()V" } : Jvm.MethodName) ∈ bm_ALL := bm_moA wT_515 rfl
theorem wA_7 : Jvm.Cond.selects "CaseTables$Compiler" ({ cls := "CaseTables$Compiler", name := "readFun", desc := "()V" } : Jvm.MethodName) ({ cls := "CaseTables$Compiler", name := "readFun", desc := "()V" } : Jvm.MethodName) ∈ bm_ALL := bm_inA 7 (by decide +kernel) rfl
theorem wA_667 : Jvm.Cond.methodLink "CaseTables$Compiler" (53 : Nat) ({ cls := "CaseTables$Compiler", name := "readTable", desc := "()V" } : Jvm.MethodName) ∈ bm_ALL := bm_moA wT_667 rfl
theorem wA_669 : Jvm.Cond.instanceMethod ({ cls := "CaseTables$Compiler", name := "readTable", desc := "()V" } : Jvm.MethodName) ∈ bm_ALL := bm_moA wT_669 rfl
theorem wA_23 : Jvm.Cond.selects "CaseTables$Compiler" ({ cls := "CaseTables$Compiler", name := "readTable", desc := "()V" } : Jvm.MethodName) ({ cls := "CaseTables$Compiler", name := "readTable", desc := "()V" } : Jvm.MethodName) ∈ bm_ALL := bm_inA 23 (by decide +kernel) rfl
theorem wA_605 : Jvm.Cond.methodLink "CaseTables$Compiler" (56 : Nat) ({ cls := "CaseTables$Tokens", name := "fail", desc := "()V" } : Jvm.MethodName) ∈ bm_ALL := bm_moA wT_605 rfl
theorem wA_531 : Jvm.Cond.instanceMethod ({ cls := "CaseTables$Tokens", name := "fail", desc := "()V" } : Jvm.MethodName) ∈ bm_ALL := bm_moA wT_531 rfl
theorem wA_532 : Jvm.Cond.selects "CaseTables$Tokens" ({ cls := "CaseTables$Tokens", name := "fail", desc := "()V" } : Jvm.MethodName) ({ cls := "CaseTables$Tokens", name := "fail", desc := "()V" } : Jvm.MethodName) ∈ bm_ALL := bm_moA wT_532 rfl
theorem wN_112 : Jvm.Cond.fieldLinkNest "CaseTables$Compiler" (59 : Nat) "CaseTables$Tokens" "failed" "Z" "CaseTables" ∈ bm_NW := bm_moN wT_112 rfl
theorem wA_517 : Jvm.Cond.methodLink "CaseTables$Compiler" (63 : Nat) ({ cls := "CaseTables$Tokens", name := "startHere", desc := "()I" } : Jvm.MethodName) ∈ bm_ALL := bm_moA wT_517 rfl
theorem wA_518 : Jvm.Cond.instanceMethod ({ cls := "CaseTables$Tokens", name := "startHere", desc := "()I" } : Jvm.MethodName) ∈ bm_ALL := bm_moA wT_518 rfl
theorem wA_519 : Jvm.Cond.selects "CaseTables$Tokens" ({ cls := "CaseTables$Tokens", name := "startHere", desc := "()I" } : Jvm.MethodName) ({ cls := "CaseTables$Tokens", name := "startHere", desc := "()I" } : Jvm.MethodName) ∈ bm_ALL := bm_moA wT_519 rfl
theorem wA_331 : Jvm.Cond.fieldLink "CaseTables$Compiler" (67 : Nat) "CaseTables$Compiler" "complaintAt" "I" ∈ bm_ALL := bm_moA wT_331 rfl
theorem wA_580 : Jvm.Cond.methodLink "CaseTables$Compiler" (70 : Nat) ({ cls := "CaseTables$Tokens", name := "passes", desc := "(I)Z" } : Jvm.MethodName) ∈ bm_ALL := bm_moA wT_580 rfl
theorem wA_581 : Jvm.Cond.instanceMethod ({ cls := "CaseTables$Tokens", name := "passes", desc := "(I)Z" } : Jvm.MethodName) ∈ bm_ALL := bm_moA wT_581 rfl
theorem wA_582 : Jvm.Cond.selects "CaseTables$Tokens" ({ cls := "CaseTables$Tokens", name := "passes", desc := "(I)Z" } : Jvm.MethodName) ({ cls := "CaseTables$Tokens", name := "passes", desc := "(I)Z" } : Jvm.MethodName) ∈ bm_ALL := bm_moA wT_582 rfl
theorem wA_555 : Jvm.Cond.methodLink "CaseTables$Compiler" (73 : Nat) ({ cls := "CaseTables$Tokens", name := "valueHere", desc := "()J" } : Jvm.MethodName) ∈ bm_ALL := bm_moA wT_555 rfl
theorem wA_556 : Jvm.Cond.instanceMethod ({ cls := "CaseTables$Tokens", name := "valueHere", desc := "()J" } : Jvm.MethodName) ∈ bm_ALL := bm_moA wT_556 rfl
theorem wA_557 : Jvm.Cond.selects "CaseTables$Tokens" ({ cls := "CaseTables$Tokens", name := "valueHere", desc := "()J" } : Jvm.MethodName) ({ cls := "CaseTables$Tokens", name := "valueHere", desc := "()J" } : Jvm.MethodName) ∈ bm_ALL := bm_moA wT_557 rfl
theorem wA_525 : Jvm.Cond.methodLink "CaseTables$Compiler" (77 : Nat) ({ cls := "CaseTables$Tokens", name := "expect", desc := "(I)Z" } : Jvm.MethodName) ∈ bm_ALL := bm_moA wT_525 rfl
theorem wA_526 : Jvm.Cond.instanceMethod ({ cls := "CaseTables$Tokens", name := "expect", desc := "(I)Z" } : Jvm.MethodName) ∈ bm_ALL := bm_moA wT_526 rfl
theorem wA_527 : Jvm.Cond.selects "CaseTables$Tokens" ({ cls := "CaseTables$Tokens", name := "expect", desc := "(I)Z" } : Jvm.MethodName) ({ cls := "CaseTables$Tokens", name := "expect", desc := "(I)Z" } : Jvm.MethodName) ∈ bm_ALL := bm_moA wT_527 rfl
theorem wA_521 : Jvm.Cond.methodLink "CaseTables$Compiler" (80 : Nat) ({ cls := "CaseTables$Compiler", name := "complain", desc := "(II)V" } : Jvm.MethodName) ∈ bm_ALL := bm_moA wT_521 rfl
theorem wA_523 : Jvm.Cond.instanceMethod ({ cls := "CaseTables$Compiler", name := "complain", desc := "(II)V" } : Jvm.MethodName) ∈ bm_ALL := bm_moA wT_523 rfl
theorem wA_8 : Jvm.Cond.selects "CaseTables$Compiler" ({ cls := "CaseTables$Compiler", name := "complain", desc := "(II)V" } : Jvm.MethodName) ({ cls := "CaseTables$Compiler", name := "complain", desc := "(II)V" } : Jvm.MethodName) ∈ bm_ALL := bm_inA 8 (by decide +kernel) rfl
theorem wA_559 : Jvm.Cond.methodLink "CaseTables$Compiler" (84 : Nat) ({ cls := "CaseTables$Program", name := "hasItem", desc := "(J)Z" } : Jvm.MethodName) ∈ bm_ALL := bm_moA wT_559 rfl
theorem wA_560 : Jvm.Cond.instanceMethod ({ cls := "CaseTables$Program", name := "hasItem", desc := "(J)Z" } : Jvm.MethodName) ∈ bm_ALL := bm_moA wT_560 rfl
theorem wA_561 : Jvm.Cond.selects "CaseTables$Program" ({ cls := "CaseTables$Program", name := "hasItem", desc := "(J)Z" } : Jvm.MethodName) ({ cls := "CaseTables$Program", name := "hasItem", desc := "(J)Z" } : Jvm.MethodName) ∈ bm_ALL := bm_moA wT_561 rfl
theorem wN_292 : Jvm.Cond.fieldLinkNest "CaseTables$Compiler" (88 : Nat) "CaseTables$Program" "funCount" "I" "CaseTables" ∈ bm_NW := bm_moN wT_292 rfl
theorem wA_534 : Jvm.Cond.methodLink "CaseTables$Compiler" (91 : Nat) ({ cls := "CaseTables$Program", name := "nextFun", desc := "()LCaseTables$Fun;" } : Jvm.MethodName) ∈ bm_ALL := bm_moA wT_534 rfl
theorem wA_535 : Jvm.Cond.instanceMethod ({ cls := "CaseTables$Program", name := "nextFun", desc := "()LCaseTables$Fun;" } : Jvm.MethodName) ∈ bm_ALL := bm_moA wT_535 rfl
theorem wA_536 : Jvm.Cond.selects "CaseTables$Program" ({ cls := "CaseTables$Program", name := "nextFun", desc := "()LCaseTables$Fun;" } : Jvm.MethodName) ({ cls := "CaseTables$Program", name := "nextFun", desc := "()LCaseTables$Fun;" } : Jvm.MethodName) ∈ bm_ALL := bm_moA wT_536 rfl
theorem wA_551 : Jvm.Cond.methodLink "CaseTables$Compiler" (95 : Nat) ({ cls := "CaseTables$Compiler", name := "readItemName", desc := "()J" } : Jvm.MethodName) ∈ bm_ALL := bm_moA wT_551 rfl
theorem wA_553 : Jvm.Cond.instanceMethod ({ cls := "CaseTables$Compiler", name := "readItemName", desc := "()J" } : Jvm.MethodName) ∈ bm_ALL := bm_moA wT_553 rfl
theorem wA_9 : Jvm.Cond.selects "CaseTables$Compiler" ({ cls := "CaseTables$Compiler", name := "readItemName", desc := "()J" } : Jvm.MethodName) ({ cls := "CaseTables$Compiler", name := "readItemName", desc := "()J" } : Jvm.MethodName) ∈ bm_ALL := bm_inA 9 (by decide +kernel) rfl
theorem wN_175 : Jvm.Cond.fieldLinkNest "CaseTables$Compiler" (98 : Nat) "CaseTables$Fun" "name" "J" "CaseTables" ∈ bm_NW := bm_moN wT_175 rfl
theorem wA_568 : Jvm.Cond.methodLink "CaseTables$Compiler" (104 : Nat) ({ cls := "CaseTables$Compiler", name := "readInput", desc := "()V" } : Jvm.MethodName) ∈ bm_ALL := bm_moA wT_568 rfl
theorem wA_570 : Jvm.Cond.instanceMethod ({ cls := "CaseTables$Compiler", name := "readInput", desc := "()V" } : Jvm.MethodName) ∈ bm_ALL := bm_moA wT_570 rfl
theorem wA_10 : Jvm.Cond.selects "CaseTables$Compiler" ({ cls := "CaseTables$Compiler", name := "readInput", desc := "()V" } : Jvm.MethodName) ({ cls := "CaseTables$Compiler", name := "readInput", desc := "()V" } : Jvm.MethodName) ∈ bm_ALL := bm_inA 10 (by decide +kernel) rfl
theorem wA_589 : Jvm.Cond.methodLink "CaseTables$Compiler" (107 : Nat) ({ cls := "CaseTables$Compiler", name := "readBody", desc := "()V" } : Jvm.MethodName) ∈ bm_ALL := bm_moA wT_589 rfl
theorem wA_591 : Jvm.Cond.instanceMethod ({ cls := "CaseTables$Compiler", name := "readBody", desc := "()V" } : Jvm.MethodName) ∈ bm_ALL := bm_moA wT_591 rfl
theorem wA_12 : Jvm.Cond.selects "CaseTables$Compiler" ({ cls := "CaseTables$Compiler", name := "readBody", desc := "()V" } : Jvm.MethodName) ({ cls := "CaseTables$Compiler", name := "readBody", desc := "()V" } : Jvm.MethodName) ∈ bm_ALL := bm_inA 12 (by decide +kernel) rfl
theorem wN_188 : Jvm.Cond.fieldLinkNest "CaseTables$Compiler" (110 : Nat) "CaseTables$Fun" "size" "I" "CaseTables" ∈ bm_NW := bm_moN wT_188 rfl
theorem wA_663 : Jvm.Cond.methodLink "CaseTables$Compiler" (113 : Nat) ({ cls := "CaseTables$Program", name := "keepFun", desc := "()V" } : Jvm.MethodName) ∈ bm_ALL := bm_moA wT_663 rfl
theorem wA_664 : Jvm.Cond.instanceMethod ({ cls := "CaseTables$Program", name := "keepFun", desc := "()V" } : Jvm.MethodName) ∈ bm_ALL := bm_moA wT_664 rfl
theorem wA_665 : Jvm.Cond.selects "CaseTables$Program" ({ cls := "CaseTables$Program", name := "keepFun", desc := "()V" } : Jvm.MethodName) ({ cls := "CaseTables$Program", name := "keepFun", desc := "()V" } : Jvm.MethodName) ∈ bm_ALL := bm_moA wT_665 rfl
theorem wN_180 : Jvm.Cond.fieldLinkNest "CaseTables$Compiler" (116 : Nat) "CaseTables$Fun" "inputCount" "I" "CaseTables" ∈ bm_NW := bm_moN wT_180 rfl
theorem wA_572 : Jvm.Cond.methodLink "CaseTables$Compiler" (119 : Nat) ({ cls := "CaseTables$Fun", name := "inputNamed", desc := "(J)I" } : Jvm.MethodName) ∈ bm_ALL := bm_moA wT_572 rfl
theorem wA_573 : Jvm.Cond.instanceMethod ({ cls := "CaseTables$Fun", name := "inputNamed", desc := "(J)I" } : Jvm.MethodName) ∈ bm_ALL := bm_moA wT_573 rfl
theorem wA_574 : Jvm.Cond.selects "CaseTables$Fun" ({ cls := "CaseTables$Fun", name := "inputNamed", desc := "(J)I" } : Jvm.MethodName) ({ cls := "CaseTables$Fun", name := "inputNamed", desc := "(J)I" } : Jvm.MethodName) ∈ bm_ALL := bm_moA wT_574 rfl
theorem wA_576 : Jvm.Cond.methodLink "CaseTables$Compiler" (123 : Nat) ({ cls := "CaseTables$Compiler", name := "readWhole", desc := "(II)I" } : Jvm.MethodName) ∈ bm_ALL := bm_moA wT_576 rfl
theorem wA_578 : Jvm.Cond.instanceMethod ({ cls := "CaseTables$Compiler", name := "readWhole", desc := "(II)I" } : Jvm.MethodName) ∈ bm_ALL := bm_moA wT_578 rfl
theorem wA_11 : Jvm.Cond.selects "CaseTables$Compiler" ({ cls := "CaseTables$Compiler", name := "readWhole", desc := "(II)I" } : Jvm.MethodName) ({ cls := "CaseTables$Compiler", name := "readWhole", desc := "(II)I" } : Jvm.MethodName) ∈ bm_ALL := bm_inA 11 (by decide +kernel) rfl
theorem wA_584 : Jvm.Cond.methodLink "CaseTables$Compiler" (127 : Nat) ({ cls := "CaseTables$Fun", name := "addInput", desc := "(JII)V" } : Jvm.MethodName) ∈ bm_ALL := bm_moA wT_584 rfl
theorem wA_585 : Jvm.Cond.instanceMethod ({ cls := "CaseTables$Fun", name := "addInput", desc := "(JII)V" } : Jvm.MethodName) ∈ bm_ALL := bm_moA wT_585 rfl
theorem wA_586 : Jvm.Cond.selects "CaseTables$Fun" ({ cls := "CaseTables$Fun", name := "addInput", desc := "(JII)V" } : Jvm.MethodName) ({ cls := "CaseTables$Fun", name := "addInput", desc := "(JII)V" } : Jvm.MethodName) ∈ bm_ALL := bm_moA wT_586 rfl
theorem wN_296 : Jvm.Cond.fieldLinkNest "CaseTables$Compiler" (131 : Nat) "CaseTables$Program" "tableCount" "I" "CaseTables" ∈ bm_NW := bm_moN wT_296 rfl
theorem wA_671 : Jvm.Cond.methodLink "CaseTables$Compiler" (134 : Nat) ({ cls := "CaseTables$Program", name := "nextTable", desc := "()LCaseTables$Table;" } : Jvm.MethodName) ∈ bm_ALL := bm_moA wT_671 rfl
theorem wA_672 : Jvm.Cond.instanceMethod ({ cls := "CaseTables$Program", name := "nextTable", desc := "()LCaseTables$Table;" } : Jvm.MethodName) ∈ bm_ALL := bm_moA wT_672 rfl
theorem wA_673 : Jvm.Cond.selects "CaseTables$Program" ({ cls := "CaseTables$Program", name := "nextTable", desc := "()LCaseTables$Table;" } : Jvm.MethodName) ({ cls := "CaseTables$Program", name := "nextTable", desc := "()LCaseTables$Table;" } : Jvm.MethodName) ∈ bm_ALL := bm_moA wT_673 rfl
theorem wN_254 : Jvm.Cond.fieldLinkNest "CaseTables$Compiler" (138 : Nat) "CaseTables$Table" "name" "J" "CaseTables" ∈ bm_NW := bm_moN wT_254 rfl
theorem wA_650 : Jvm.Cond.methodLink "CaseTables$Compiler" (141 : Nat) ({ cls := "CaseTables$Program", name := "funNamed", desc := "(J)I" } : Jvm.MethodName) ∈ bm_ALL := bm_moA wT_650 rfl
theorem wA_565 : Jvm.Cond.instanceMethod ({ cls := "CaseTables$Program", name := "funNamed", desc := "(J)I" } : Jvm.MethodName) ∈ bm_ALL := bm_moA wT_565 rfl
theorem wA_566 : Jvm.Cond.selects "CaseTables$Program" ({ cls := "CaseTables$Program", name := "funNamed", desc := "(J)I" } : Jvm.MethodName) ({ cls := "CaseTables$Program", name := "funNamed", desc := "(J)I" } : Jvm.MethodName) ∈ bm_ALL := bm_moA wT_566 rfl
theorem wN_258 : Jvm.Cond.fieldLinkNest "CaseTables$Compiler" (144 : Nat) "CaseTables$Table" "fun" "I" "CaseTables" ∈ bm_NW := bm_moN wT_258 rfl
theorem wA_679 : Jvm.Cond.methodLink "CaseTables$Compiler" (146 : Nat) ({ cls := "CaseTables$Compiler", name := "readRow", desc := "()V" } : Jvm.MethodName) ∈ bm_ALL := bm_moA wT_679 rfl
theorem wA_681 : Jvm.Cond.instanceMethod ({ cls := "CaseTables$Compiler", name := "readRow", desc := "()V" } : Jvm.MethodName) ∈ bm_ALL := bm_moA wT_681 rfl
theorem wA_24 : Jvm.Cond.selects "CaseTables$Compiler" ({ cls := "CaseTables$Compiler", name := "readRow", desc := "()V" } : Jvm.MethodName) ({ cls := "CaseTables$Compiler", name := "readRow", desc := "()V" } : Jvm.MethodName) ∈ bm_ALL := bm_inA 24 (by decide +kernel) rfl
theorem wA_727 : Jvm.Cond.methodLink "CaseTables$Compiler" (149 : Nat) ({ cls := "CaseTables$Program", name := "keepTable", desc := "()V" } : Jvm.MethodName) ∈ bm_ALL := bm_moA wT_727 rfl
theorem wA_728 : Jvm.Cond.instanceMethod ({ cls := "CaseTables$Program", name := "keepTable", desc := "()V" } : Jvm.MethodName) ∈ bm_ALL := bm_moA wT_728 rfl
theorem wA_729 : Jvm.Cond.selects "CaseTables$Program" ({ cls := "CaseTables$Program", name := "keepTable", desc := "()V" } : Jvm.MethodName) ({ cls := "CaseTables$Program", name := "keepTable", desc := "()V" } : Jvm.MethodName) ∈ bm_ALL := bm_moA wT_729 rfl
theorem wN_264 : Jvm.Cond.fieldLinkNest "CaseTables$Compiler" (152 : Nat) "CaseTables$Table" "rowCount" "I" "CaseTables" ∈ bm_NW := bm_moN wT_264 rfl
theorem wA_683 : Jvm.Cond.methodLink "CaseTables$Compiler" (155 : Nat) ({ cls := "CaseTables$Table", name := "nextRow", desc := "()LCaseTables$Row;" } : Jvm.MethodName) ∈ bm_ALL := bm_moA wT_683 rfl
theorem wA_684 : Jvm.Cond.instanceMethod ({ cls := "CaseTables$Table", name := "nextRow", desc := "()LCaseTables$Row;" } : Jvm.MethodName) ∈ bm_ALL := bm_moA wT_684 rfl
theorem wA_685 : Jvm.Cond.selects "CaseTables$Table" ({ cls := "CaseTables$Table", name := "nextRow", desc := "()LCaseTables$Row;" } : Jvm.MethodName) ({ cls := "CaseTables$Table", name := "nextRow", desc := "()LCaseTables$Row;" } : Jvm.MethodName) ∈ bm_ALL := bm_moA wT_685 rfl
theorem wA_696 : Jvm.Cond.methodLink "CaseTables$Compiler" (159 : Nat) ({ cls := "CaseTables$Compiler", name := "readCell", desc := "(LCaseTables$Row;I)V" } : Jvm.MethodName) ∈ bm_ALL := bm_moA wT_696 rfl
theorem wA_698 : Jvm.Cond.instanceMethod ({ cls := "CaseTables$Compiler", name := "readCell", desc := "(LCaseTables$Row;I)V" } : Jvm.MethodName) ∈ bm_ALL := bm_moA wT_698 rfl
theorem wA_25 : Jvm.Cond.selects "CaseTables$Compiler" ({ cls := "CaseTables$Compiler", name := "readCell", desc := "(LCaseTables$Row;I)V" } : Jvm.MethodName) ({ cls := "CaseTables$Compiler", name := "readCell", desc := "(LCaseTables$Row;I)V" } : Jvm.MethodName) ∈ bm_ALL := bm_inA 25 (by decide +kernel) rfl
theorem wA_709 : Jvm.Cond.methodLink "CaseTables$Compiler" (163 : Nat) ({ cls := "CaseTables$Compiler", name := "readResult", desc := "(LCaseTables$Row;)V" } : Jvm.MethodName) ∈ bm_ALL := bm_moA wT_709 rfl
theorem wA_711 : Jvm.Cond.instanceMethod ({ cls := "CaseTables$Compiler", name := "readResult", desc := "(LCaseTables$Row;)V" } : Jvm.MethodName) ∈ bm_ALL := bm_moA wT_711 rfl
theorem wA_26 : Jvm.Cond.selects "CaseTables$Compiler" ({ cls := "CaseTables$Compiler", name := "readResult", desc := "(LCaseTables$Row;)V" } : Jvm.MethodName) ({ cls := "CaseTables$Compiler", name := "readResult", desc := "(LCaseTables$Row;)V" } : Jvm.MethodName) ∈ bm_ALL := bm_inA 26 (by decide +kernel) rfl
theorem wA_713 : Jvm.Cond.methodLink "CaseTables$Compiler" (167 : Nat) ({ cls := "CaseTables$Table", name := "keepRow", desc := "()V" } : Jvm.MethodName) ∈ bm_ALL := bm_moA wT_713 rfl
theorem wA_714 : Jvm.Cond.instanceMethod ({ cls := "CaseTables$Table", name := "keepRow", desc := "()V" } : Jvm.MethodName) ∈ bm_ALL := bm_moA wT_714 rfl
theorem wA_715 : Jvm.Cond.selects "CaseTables$Table" ({ cls := "CaseTables$Table", name := "keepRow", desc := "()V" } : Jvm.MethodName) ({ cls := "CaseTables$Table", name := "keepRow", desc := "()V" } : Jvm.MethodName) ∈ bm_ALL := bm_moA wT_715 rfl
theorem wN_267 : Jvm.Cond.fieldLinkNest "CaseTables$Compiler" (170 : Nat) "CaseTables$Table" "caseCount" "I" "CaseTables" ∈ bm_NW := bm_moN wT_267 rfl
theorem wN_170 : Jvm.Cond.fieldLinkNest "CaseTables$Compiler" (173 : Nat) "CaseTables$Fun" "ranges" "LCaseTables$Ranges;" "CaseTables" ∈ bm_NW := bm_moN wT_170 rfl
theorem wA_700 : Jvm.Cond.methodLink "CaseTables$Compiler" (177 : Nat) ({ cls := "CaseTables$Ranges", name := "low", desc := "(I)I" } : Jvm.MethodName) ∈ bm_ALL := bm_moA wT_700 rfl
theorem wA_701 : Jvm.Cond.instanceMethod ({ cls := "CaseTables$Ranges", name := "low", desc := "(I)I" } : Jvm.MethodName) ∈ bm_ALL := bm_moA wT_701 rfl
theorem wA_702 : Jvm.Cond.selects "CaseTables$Ranges" ({ cls := "CaseTables$Ranges", name := "low", desc := "(I)I" } : Jvm.MethodName) ({ cls := "CaseTables$Ranges", name := "low", desc := "(I)I" } : Jvm.MethodName) ∈ bm_ALL := bm_moA wT_702 rfl
theorem wA_704 : Jvm.Cond.methodLink "CaseTables$Compiler" (183 : Nat) ({ cls := "CaseTables$Ranges", name := "high", desc := "(I)I" } : Jvm.MethodName) ∈ bm_ALL := bm_moA wT_704 rfl
theorem wA_705 : Jvm.Cond.instanceMethod ({ cls := "CaseTables$Ranges", name := "high", desc := "(I)I" } : Jvm.MethodName) ∈ bm_ALL := bm_moA wT_705 rfl
theorem wA_706 : Jvm.Cond.selects "CaseTables$Ranges" ({ cls := "CaseTables$Ranges", name := "high", desc := "(I)I" } : Jvm.MethodName) ({ cls := "CaseTables$Ranges", name := "high", desc := "(I)I" } : Jvm.MethodName) ∈ bm_ALL := bm_moA wT_706 rfl
theorem wN_228 : Jvm.Cond.fieldLinkNest "CaseTables$Compiler" (186 : Nat) "CaseTables$Row" "ranges" "LCaseTables$Ranges;" "CaseTables" ∈ bm_NW := bm_moN wT_228 rfl
theorem wA_708 : Jvm.Cond.methodLink "CaseTables$Compiler" (189 : Nat) ({ cls := "CaseTables$Ranges", name := "put", desc := "(III)V" } : Jvm.MethodName) ∈ bm_ALL := bm_moA wT_708 rfl
theorem wA_548 : Jvm.Cond.instanceMethod ({ cls := "CaseTables$Ranges", name := "put", desc := "(III)V" } : Jvm.MethodName) ∈ bm_ALL := bm_moA wT_548 rfl
theorem wA_549 : Jvm.Cond.selects "CaseTables$Ranges" ({ cls := "CaseTables$Ranges", name := "put", desc := "(III)V" } : Jvm.MethodName) ({ cls := "CaseTables$Ranges", name := "put", desc := "(III)V" } : Jvm.MethodName) ∈ bm_ALL := bm_moA wT_549 rfl
theorem wA_651 : Jvm.Cond.methodLink "CaseTables$Compiler" (193 : Nat) ({ cls := "CaseTables$Tokens", name := "oneOf", desc := "(II)I" } : Jvm.MethodName) ∈ bm_ALL := bm_moA wT_651 rfl
theorem wA_652 : Jvm.Cond.instanceMethod ({ cls := "CaseTables$Tokens", name := "oneOf", desc := "(II)I" } : Jvm.MethodName) ∈ bm_ALL := bm_moA wT_652 rfl
theorem wA_653 : Jvm.Cond.selects "CaseTables$Tokens" ({ cls := "CaseTables$Tokens", name := "oneOf", desc := "(II)I" } : Jvm.MethodName) ({ cls := "CaseTables$Tokens", name := "oneOf", desc := "(II)I" } : Jvm.MethodName) ∈ bm_ALL := bm_moA wT_653 rfl
theorem wN_231 : Jvm.Cond.fieldLinkNest "CaseTables$Compiler" (196 : Nat) "CaseTables$Row" "result" "I" "CaseTables" ∈ bm_NW := bm_moN wT_231 rfl
theorem wN_234 : Jvm.Cond.fieldLinkNest "CaseTables$Compiler" (199 : Nat) "CaseTables$Row" "number" "J" "CaseTables" ∈ bm_NW := bm_moN wT_234 rfl
theorem wN_109 : Jvm.Cond.fieldLinkNest "CaseTables$Compiler" (202 : Nat) "CaseTables$Tokens" "position" "I" "CaseTables" ∈ bm_NW := bm_moN wT_109 rfl
theorem wA_593 : Jvm.Cond.methodLink "CaseTables$Compiler" (205 : Nat) ({ cls := "CaseTables$Tokens", name := "allow", desc := "(I)V" } : Jvm.MethodName) ∈ bm_ALL := bm_moA wT_593 rfl
theorem wA_594 : Jvm.Cond.instanceMethod ({ cls := "CaseTables$Tokens", name := "allow", desc := "(I)V" } : Jvm.MethodName) ∈ bm_ALL := bm_moA wT_594 rfl
theorem wA_595 : Jvm.Cond.selects "CaseTables$Tokens" ({ cls := "CaseTables$Tokens", name := "allow", desc := "(I)V" } : Jvm.MethodName) ({ cls := "CaseTables$Tokens", name := "allow", desc := "(I)V" } : Jvm.MethodName) ∈ bm_ALL := bm_moA wT_595 rfl
theorem wA_597 : Jvm.Cond.methodLink "CaseTables$Compiler" (209 : Nat) ({ cls := "CaseTables$Compiler", name := "readExpression", desc := "(I)V" } : Jvm.MethodName) ∈ bm_ALL := bm_moA wT_597 rfl
theorem wA_599 : Jvm.Cond.instanceMethod ({ cls := "CaseTables$Compiler", name := "readExpression", desc := "(I)V" } : Jvm.MethodName) ∈ bm_ALL := bm_moA wT_599 rfl
theorem wA_13 : Jvm.Cond.selects "CaseTables$Compiler" ({ cls := "CaseTables$Compiler", name := "readExpression", desc := "(I)V" } : Jvm.MethodName) ({ cls := "CaseTables$Compiler", name := "readExpression", desc := "(I)V" } : Jvm.MethodName) ∈ bm_ALL := bm_inA 13 (by decide +kernel) rfl
theorem wA_659 : Jvm.Cond.methodLink "CaseTables$Compiler" (212 : Nat) ({ cls := "CaseTables$Tokens", name := "allowAll", desc := "()V" } : Jvm.MethodName) ∈ bm_ALL := bm_moA wT_659 rfl
theorem wA_660 : Jvm.Cond.instanceMethod ({ cls := "CaseTables$Tokens", name := "allowAll", desc := "()V" } : Jvm.MethodName) ∈ bm_ALL := bm_moA wT_660 rfl
theorem wA_661 : Jvm.Cond.selects "CaseTables$Tokens" ({ cls := "CaseTables$Tokens", name := "allowAll", desc := "()V" } : Jvm.MethodName) ({ cls := "CaseTables$Tokens", name := "allowAll", desc := "()V" } : Jvm.MethodName) ∈ bm_ALL := bm_moA wT_661 rfl
theorem wA_601 : Jvm.Cond.methodLink "CaseTables$Compiler" (215 : Nat) ({ cls := "CaseTables$Compiler", name := "readChoice", desc := "(I)V" } : Jvm.MethodName) ∈ bm_ALL := bm_moA wT_601 rfl
theorem wA_603 : Jvm.Cond.instanceMethod ({ cls := "CaseTables$Compiler", name := "readChoice", desc := "(I)V" } : Jvm.MethodName) ∈ bm_ALL := bm_moA wT_603 rfl
theorem wA_14 : Jvm.Cond.selects "CaseTables$Compiler" ({ cls := "CaseTables$Compiler", name := "readChoice", desc := "(I)V" } : Jvm.MethodName) ({ cls := "CaseTables$Compiler", name := "readChoice", desc := "(I)V" } : Jvm.MethodName) ∈ bm_ALL := bm_inA 14 (by decide +kernel) rfl
theorem wA_622 : Jvm.Cond.methodLink "CaseTables$Compiler" (218 : Nat) ({ cls := "CaseTables$Compiler", name := "readBoth", desc := "(I)V" } : Jvm.MethodName) ∈ bm_ALL := bm_moA wT_622 rfl
theorem wA_624 : Jvm.Cond.instanceMethod ({ cls := "CaseTables$Compiler", name := "readBoth", desc := "(I)V" } : Jvm.MethodName) ∈ bm_ALL := bm_moA wT_624 rfl
theorem wA_15 : Jvm.Cond.selects "CaseTables$Compiler" ({ cls := "CaseTables$Compiler", name := "readBoth", desc := "(I)V" } : Jvm.MethodName) ({ cls := "CaseTables$Compiler", name := "readBoth", desc := "(I)V" } : Jvm.MethodName) ∈ bm_ALL := bm_inA 15 (by decide +kernel) rfl
theorem wA_606 : Jvm.Cond.methodLink "CaseTables$Compiler" (221 : Nat) ({ cls := "CaseTables$Fun", name := "nextPlace", desc := "()I" } : Jvm.MethodName) ∈ bm_ALL := bm_moA wT_606 rfl
theorem wA_607 : Jvm.Cond.instanceMethod ({ cls := "CaseTables$Fun", name := "nextPlace", desc := "()I" } : Jvm.MethodName) ∈ bm_ALL := bm_moA wT_607 rfl
theorem wA_608 : Jvm.Cond.selects "CaseTables$Fun" ({ cls := "CaseTables$Fun", name := "nextPlace", desc := "()I" } : Jvm.MethodName) ({ cls := "CaseTables$Fun", name := "nextPlace", desc := "()I" } : Jvm.MethodName) ∈ bm_ALL := bm_moA wT_608 rfl
theorem wA_614 : Jvm.Cond.methodLink "CaseTables$Compiler" (224 : Nat) ({ cls := "CaseTables$Fun", name := "emit", desc := "(III)I" } : Jvm.MethodName) ∈ bm_ALL := bm_moA wT_614 rfl
theorem wA_615 : Jvm.Cond.instanceMethod ({ cls := "CaseTables$Fun", name := "emit", desc := "(III)I" } : Jvm.MethodName) ∈ bm_ALL := bm_moA wT_615 rfl
theorem wA_616 : Jvm.Cond.selects "CaseTables$Fun" ({ cls := "CaseTables$Fun", name := "emit", desc := "(III)I" } : Jvm.MethodName) ({ cls := "CaseTables$Fun", name := "emit", desc := "(III)I" } : Jvm.MethodName) ∈ bm_ALL := bm_moA wT_616 rfl
theorem wA_655 : Jvm.Cond.methodLink "CaseTables$Compiler" (228 : Nat) ({ cls := "CaseTables$Compiler", name := "endSecond", desc := "(I)V" } : Jvm.MethodName) ∈ bm_ALL := bm_moA wT_655 rfl
theorem wA_657 : Jvm.Cond.instanceMethod ({ cls := "CaseTables$Compiler", name := "endSecond", desc := "(I)V" } : Jvm.MethodName) ∈ bm_ALL := bm_moA wT_657 rfl
theorem wA_22 : Jvm.Cond.selects "CaseTables$Compiler" ({ cls := "CaseTables$Compiler", name := "endSecond", desc := "(I)V" } : Jvm.MethodName) ({ cls := "CaseTables$Compiler", name := "endSecond", desc := "(I)V" } : Jvm.MethodName) ∈ bm_ALL := bm_inA 22 (by decide +kernel) rfl
theorem wA_626 : Jvm.Cond.methodLink "CaseTables$Compiler" (231 : Nat) ({ cls := "CaseTables$Compiler", name := "readRelation", desc := "(I)V" } : Jvm.MethodName) ∈ bm_ALL := bm_moA wT_626 rfl
theorem wA_628 : Jvm.Cond.instanceMethod ({ cls := "CaseTables$Compiler", name := "readRelation", desc := "(I)V" } : Jvm.MethodName) ∈ bm_ALL := bm_moA wT_628 rfl
theorem wA_16 : Jvm.Cond.selects "CaseTables$Compiler" ({ cls := "CaseTables$Compiler", name := "readRelation", desc := "(I)V" } : Jvm.MethodName) ({ cls := "CaseTables$Compiler", name := "readRelation", desc := "(I)V" } : Jvm.MethodName) ∈ bm_ALL := bm_inA 16 (by decide +kernel) rfl
theorem wA_618 : Jvm.Cond.methodLink "CaseTables$Compiler" (234 : Nat) ({ cls := "CaseTables$Fun", name := "aimHere", desc := "(I)V" } : Jvm.MethodName) ∈ bm_ALL := bm_moA wT_618 rfl
theorem wA_619 : Jvm.Cond.instanceMethod ({ cls := "CaseTables$Fun", name := "aimHere", desc := "(I)V" } : Jvm.MethodName) ∈ bm_ALL := bm_moA wT_619 rfl
theorem wA_620 : Jvm.Cond.selects "CaseTables$Fun" ({ cls := "CaseTables$Fun", name := "aimHere", desc := "(I)V" } : Jvm.MethodName) ({ cls := "CaseTables$Fun", name := "aimHere", desc := "(I)V" } : Jvm.MethodName) ∈ bm_ALL := bm_moA wT_620 rfl
theorem wA_610 : Jvm.Cond.methodLink "CaseTables$Compiler" (237 : Nat) ({ cls := "CaseTables$Program", name := "nextIf", desc := "()I" } : Jvm.MethodName) ∈ bm_ALL := bm_moA wT_610 rfl
theorem wA_611 : Jvm.Cond.instanceMethod ({ cls := "CaseTables$Program", name := "nextIf", desc := "()I" } : Jvm.MethodName) ∈ bm_ALL := bm_moA wT_611 rfl
theorem wA_612 : Jvm.Cond.selects "CaseTables$Program" ({ cls := "CaseTables$Program", name := "nextIf", desc := "()I" } : Jvm.MethodName) ({ cls := "CaseTables$Program", name := "nextIf", desc := "()I" } : Jvm.MethodName) ∈ bm_ALL := bm_moA wT_612 rfl
theorem wA_630 : Jvm.Cond.methodLink "CaseTables$Compiler" (240 : Nat) ({ cls := "CaseTables$Compiler", name := "readSum", desc := "(I)V" } : Jvm.MethodName) ∈ bm_ALL := bm_moA wT_630 rfl
theorem wA_632 : Jvm.Cond.instanceMethod ({ cls := "CaseTables$Compiler", name := "readSum", desc := "(I)V" } : Jvm.MethodName) ∈ bm_ALL := bm_moA wT_632 rfl
theorem wA_17 : Jvm.Cond.selects "CaseTables$Compiler" ({ cls := "CaseTables$Compiler", name := "readSum", desc := "(I)V" } : Jvm.MethodName) ({ cls := "CaseTables$Compiler", name := "readSum", desc := "(I)V" } : Jvm.MethodName) ∈ bm_ALL := bm_inA 17 (by decide +kernel) rfl
theorem wA_634 : Jvm.Cond.methodLink "CaseTables$Compiler" (243 : Nat) ({ cls := "CaseTables$Compiler", name := "readProduct", desc := "(I)V" } : Jvm.MethodName) ∈ bm_ALL := bm_moA wT_634 rfl
theorem wA_636 : Jvm.Cond.instanceMethod ({ cls := "CaseTables$Compiler", name := "readProduct", desc := "(I)V" } : Jvm.MethodName) ∈ bm_ALL := bm_moA wT_636 rfl
theorem wA_18 : Jvm.Cond.selects "CaseTables$Compiler" ({ cls := "CaseTables$Compiler", name := "readProduct", desc := "(I)V" } : Jvm.MethodName) ({ cls := "CaseTables$Compiler", name := "readProduct", desc := "(I)V" } : Jvm.MethodName) ∈ bm_ALL := bm_inA 18 (by decide +kernel) rfl
theorem wA_638 : Jvm.Cond.methodLink "CaseTables$Compiler" (246 : Nat) ({ cls := "CaseTables$Compiler", name := "readFactor", desc := "(I)V" } : Jvm.MethodName) ∈ bm_ALL := bm_moA wT_638 rfl
theorem wA_640 : Jvm.Cond.instanceMethod ({ cls := "CaseTables$Compiler", name := "readFactor", desc := "(I)V" } : Jvm.MethodName) ∈ bm_ALL := bm_moA wT_640 rfl
theorem wA_19 : Jvm.Cond.selects "CaseTables$Compiler" ({ cls := "CaseTables$Compiler", name := "readFactor", desc := "(I)V" } : Jvm.MethodName) ({ cls := "CaseTables$Compiler", name := "readFactor", desc := "(I)V" } : Jvm.MethodName) ∈ bm_ALL := bm_inA 19 (by decide +kernel) rfl
theorem wA_642 : Jvm.Cond.methodLink "CaseTables$Compiler" (249 : Nat) ({ cls := "CaseTables$Compiler", name := "readNamed", desc := "(JII)V" } : Jvm.MethodName) ∈ bm_ALL := bm_moA wT_642 rfl
theorem wA_644 : Jvm.Cond.instanceMethod ({ cls := "CaseTables$Compiler", name := "readNamed", desc := "(JII)V" } : Jvm.MethodName) ∈ bm_ALL := bm_moA wT_644 rfl
theorem wA_20 : Jvm.Cond.selects "CaseTables$Compiler" ({ cls := "CaseTables$Compiler", name := "readNamed", desc := "(JII)V" } : Jvm.MethodName) ({ cls := "CaseTables$Compiler", name := "readNamed", desc := "(JII)V" } : Jvm.MethodName) ∈ bm_ALL := bm_inA 20 (by decide +kernel) rfl
theorem wA_646 : Jvm.Cond.methodLink "CaseTables$Compiler" (252 : Nat) ({ cls := "CaseTables$Compiler", name := "readArguments", desc := "(JII)V" } : Jvm.MethodName) ∈ bm_ALL := bm_moA wT_646 rfl
theorem wA_648 : Jvm.Cond.instanceMethod ({ cls := "CaseTables$Compiler", name := "readArguments", desc := "(JII)V" } : Jvm.MethodName) ∈ bm_ALL := bm_moA wT_648 rfl
theorem wA_21 : Jvm.Cond.selects "CaseTables$Compiler" ({ cls := "CaseTables$Compiler", name := "readArguments", desc := "(JII)V" } : Jvm.MethodName) ({ cls := "CaseTables$Compiler", name := "readArguments", desc := "(JII)V" } : Jvm.MethodName) ∈ bm_ALL := bm_inA 21 (by decide +kernel) rfl
theorem wA_152 : Jvm.Cond.methodLink "CaseTables$Fun" (3 : Nat) ({ cls := "java/lang/Object", name := "<init>", desc := "()V" } : Jvm.MethodName) ∈ bm_ALL := bm_moA wT_152 rfl
theorem wA_137 : Jvm.Cond.arrayClass Jvm.ClassFile.FieldType.long ∈ bm_ALL := bm_moA wT_137 rfl
theorem wA_166 : Jvm.Cond.fieldLink "CaseTables$Fun" (9 : Nat) "CaseTables$Fun" "inputNames" "[J" ∈ bm_ALL := bm_moA wT_166 rfl
theorem wA_153 : Jvm.Cond.classLink "CaseTables$Fun" (15 : Nat) "CaseTables$Ranges" ∈ bm_ALL := bm_moA wT_153 rfl
theorem wA_154 : Jvm.Cond.instantiable "CaseTables$Ranges" (2 : Nat) ∈ bm_ALL := bm_moA wT_154 rfl
theorem wA_53 : Jvm.Cond.initialized "CaseTables$Ranges" ∈ bm_ALL := bm_moA wT_53 rfl
theorem wN_155 : Jvm.Cond.methodLinkNest "CaseTables$Fun" (17 : Nat) ({ cls := "CaseTables$Ranges", name := "<init>", desc := "()V" } : Jvm.MethodName) "CaseTables" ∈ bm_NW := bm_moN wT_155 rfl
theorem wA_156 : Jvm.Cond.instanceMethod ({ cls := "CaseTables$Ranges", name := "<init>", desc := "()V" } : Jvm.MethodName) ∈ bm_ALL := bm_moA wT_156 rfl
theorem wA_167 : Jvm.Cond.fieldLink "CaseTables$Fun" (18 : Nat) "CaseTables$Fun" "ranges" "LCaseTables$Ranges;" ∈ bm_ALL := bm_moA wT_167 rfl
theorem wA_136 : Jvm.Cond.arrayClass Jvm.ClassFile.FieldType.int ∈ bm_ALL := bm_moA wT_136 rfl
theorem wA_171 : Jvm.Cond.fieldLink "CaseTables$Fun" (22 : Nat) "CaseTables$Fun" "operations" "[I" ∈ bm_ALL := bm_moA wT_171 rfl
theorem wA_172 : Jvm.Cond.fieldLink "CaseTables$Fun" (26 : Nat) "CaseTables$Fun" "operands" "[I" ∈ bm_ALL := bm_moA wT_172 rfl
theorem wA_173 : Jvm.Cond.fieldLink "CaseTables$Fun" (29 : Nat) "CaseTables$Fun" "places" "[I" ∈ bm_ALL := bm_moA wT_173 rfl
theorem wA_543 : Jvm.Cond.methodLink "CaseTables$Fun" (32 : Nat) ({ cls := "CaseTables$Ranges", name := "clear", desc := "()V" } : Jvm.MethodName) ∈ bm_ALL := bm_moA wT_543 rfl
theorem wA_544 : Jvm.Cond.instanceMethod ({ cls := "CaseTables$Ranges", name := "clear", desc := "()V" } : Jvm.MethodName) ∈ bm_ALL := bm_moA wT_544 rfl
theorem wA_545 : Jvm.Cond.selects "CaseTables$Ranges" ({ cls := "CaseTables$Ranges", name := "clear", desc := "()V" } : Jvm.MethodName) ({ cls := "CaseTables$Ranges", name := "clear", desc := "()V" } : Jvm.MethodName) ∈ bm_ALL := bm_moA wT_545 rfl
theorem wA_174 : Jvm.Cond.fieldLink "CaseTables$Fun" (35 : Nat) "CaseTables$Fun" "name" "J" ∈ bm_ALL := bm_moA wT_174 rfl
theorem wA_177 : Jvm.Cond.fieldLink "CaseTables$Fun" (39 : Nat) "CaseTables$Fun" "inputCount" "I" ∈ bm_ALL := bm_moA wT_177 rfl
theorem wA_182 : Jvm.Cond.fieldLink "CaseTables$Fun" (43 : Nat) "CaseTables$Fun" "codeLength" "I" ∈ bm_ALL := bm_moA wT_182 rfl
theorem wA_184 : Jvm.Cond.fieldLink "CaseTables$Fun" (46 : Nat) "CaseTables$Fun" "placeCount" "I" ∈ bm_ALL := bm_moA wT_184 rfl
theorem wA_187 : Jvm.Cond.fieldLink "CaseTables$Fun" (49 : Nat) "CaseTables$Fun" "size" "I" ∈ bm_ALL := bm_moA wT_187 rfl
theorem wA_588 : Jvm.Cond.methodLink "CaseTables$Fun" (52 : Nat) ({ cls := "CaseTables$Ranges", name := "put", desc := "(III)V" } : Jvm.MethodName) ∈ bm_ALL := bm_moA wT_588 rfl
theorem wA_827 : Jvm.Cond.methodLink "CaseTables$Fun" (56 : Nat) ({ cls := "CaseTables$Ranges", name := "width", desc := "(I)I" } : Jvm.MethodName) ∈ bm_ALL := bm_moA wT_827 rfl
theorem wA_722 : Jvm.Cond.instanceMethod ({ cls := "CaseTables$Ranges", name := "width", desc := "(I)I" } : Jvm.MethodName) ∈ bm_ALL := bm_moA wT_722 rfl
theorem wA_723 : Jvm.Cond.selects "CaseTables$Ranges" ({ cls := "CaseTables$Ranges", name := "width", desc := "(I)I" } : Jvm.MethodName) ({ cls := "CaseTables$Ranges", name := "width", desc := "(I)I" } : Jvm.MethodName) ∈ bm_ALL := bm_moA wT_723 rfl
theorem wA_352 : Jvm.Cond.methodLink "CaseTables$Machine" (3 : Nat) ({ cls := "java/lang/Object", name := "<init>", desc := "()V" } : Jvm.MethodName) ∈ bm_ALL := bm_moA wT_352 rfl
theorem wA_354 : Jvm.Cond.fieldLink "CaseTables$Machine" (9 : Nat) "CaseTables$Machine" "stack" "[J" ∈ bm_ALL := bm_moA wT_354 rfl
theorem wA_355 : Jvm.Cond.fieldLink "CaseTables$Machine" (15 : Nat) "CaseTables$Machine" "thenCounts" "[I" ∈ bm_ALL := bm_moA wT_355 rfl
theorem wA_356 : Jvm.Cond.fieldLink "CaseTables$Machine" (19 : Nat) "CaseTables$Machine" "elseCounts" "[I" ∈ bm_ALL := bm_moA wT_356 rfl
theorem wA_353 : Jvm.Cond.fieldLink "CaseTables$Machine" (22 : Nat) "CaseTables$Machine" "program" "LCaseTables$Program;" ∈ bm_ALL := bm_moA wT_353 rfl
theorem wA_358 : Jvm.Cond.fieldLink "CaseTables$Machine" (26 : Nat) "CaseTables$Machine" "failed" "Z" ∈ bm_ALL := bm_moA wT_358 rfl
theorem wA_357 : Jvm.Cond.fieldLink "CaseTables$Machine" (30 : Nat) "CaseTables$Machine" "top" "I" ∈ bm_ALL := bm_moA wT_357 rfl
theorem wA_928 : Jvm.Cond.methodLink "CaseTables$Machine" (34 : Nat) ({ cls := "CaseTables$Machine", name := "push", desc := "(J)V" } : Jvm.MethodName) ∈ bm_ALL := bm_moA wT_928 rfl
theorem wA_930 : Jvm.Cond.instanceMethod ({ cls := "CaseTables$Machine", name := "push", desc := "(J)V" } : Jvm.MethodName) ∈ bm_ALL := bm_moA wT_930 rfl
theorem wA_35 : Jvm.Cond.selects "CaseTables$Machine" ({ cls := "CaseTables$Machine", name := "push", desc := "(J)V" } : Jvm.MethodName) ({ cls := "CaseTables$Machine", name := "push", desc := "(J)V" } : Jvm.MethodName) ∈ bm_ALL := bm_inA 35 (by decide +kernel) rfl
theorem wA_932 : Jvm.Cond.methodLink "CaseTables$Machine" (38 : Nat) ({ cls := "CaseTables$Machine", name := "run", desc := "(III)V" } : Jvm.MethodName) ∈ bm_ALL := bm_moA wT_932 rfl
theorem wA_934 : Jvm.Cond.instanceMethod ({ cls := "CaseTables$Machine", name := "run", desc := "(III)V" } : Jvm.MethodName) ∈ bm_ALL := bm_moA wT_934 rfl
theorem wA_36 : Jvm.Cond.selects "CaseTables$Machine" ({ cls := "CaseTables$Machine", name := "run", desc := "(III)V" } : Jvm.MethodName) ({ cls := "CaseTables$Machine", name := "run", desc := "(III)V" } : Jvm.MethodName) ∈ bm_ALL := bm_inA 36 (by decide +kernel) rfl
theorem wA_957 : Jvm.Cond.methodLink "CaseTables$Machine" (42 : Nat) ({ cls := "CaseTables$Machine", name := "pop", desc := "()J" } : Jvm.MethodName) ∈ bm_ALL := bm_moA wT_957 rfl
theorem wA_959 : Jvm.Cond.instanceMethod ({ cls := "CaseTables$Machine", name := "pop", desc := "()J" } : Jvm.MethodName) ∈ bm_ALL := bm_moA wT_959 rfl
theorem wA_39 : Jvm.Cond.selects "CaseTables$Machine" ({ cls := "CaseTables$Machine", name := "pop", desc := "()J" } : Jvm.MethodName) ({ cls := "CaseTables$Machine", name := "pop", desc := "()J" } : Jvm.MethodName) ∈ bm_ALL := bm_inA 39 (by decide +kernel) rfl
theorem wA_359 : Jvm.Cond.fieldLink "CaseTables$Machine" (46 : Nat) "CaseTables$Machine" "isCounting" "Z" ∈ bm_ALL := bm_moA wT_359 rfl
theorem wA_936 : Jvm.Cond.methodLink "CaseTables$Machine" (49 : Nat) ({ cls := "CaseTables$Program", name := "funAt", desc := "(I)LCaseTables$Fun;" } : Jvm.MethodName) ∈ bm_ALL := bm_moA wT_936 rfl
theorem wN_183 : Jvm.Cond.fieldLinkNest "CaseTables$Machine" (55 : Nat) "CaseTables$Fun" "codeLength" "I" "CaseTables" ∈ bm_NW := bm_moN wT_183 rfl
theorem wA_937 : Jvm.Cond.methodLink "CaseTables$Machine" (60 : Nat) ({ cls := "CaseTables$Fun", name := "operationAt", desc := "(I)I" } : Jvm.MethodName) ∈ bm_ALL := bm_moA wT_937 rfl
theorem wA_938 : Jvm.Cond.instanceMethod ({ cls := "CaseTables$Fun", name := "operationAt", desc := "(I)I" } : Jvm.MethodName) ∈ bm_ALL := bm_moA wT_938 rfl
theorem wA_939 : Jvm.Cond.selects "CaseTables$Fun" ({ cls := "CaseTables$Fun", name := "operationAt", desc := "(I)I" } : Jvm.MethodName) ({ cls := "CaseTables$Fun", name := "operationAt", desc := "(I)I" } : Jvm.MethodName) ∈ bm_ALL := bm_moA wT_939 rfl
theorem wA_941 : Jvm.Cond.methodLink "CaseTables$Machine" (64 : Nat) ({ cls := "CaseTables$Fun", name := "operandAt", desc := "(I)I" } : Jvm.MethodName) ∈ bm_ALL := bm_moA wT_941 rfl
theorem wA_942 : Jvm.Cond.instanceMethod ({ cls := "CaseTables$Fun", name := "operandAt", desc := "(I)I" } : Jvm.MethodName) ∈ bm_ALL := bm_moA wT_942 rfl
theorem wA_943 : Jvm.Cond.selects "CaseTables$Fun" ({ cls := "CaseTables$Fun", name := "operandAt", desc := "(I)I" } : Jvm.MethodName) ({ cls := "CaseTables$Fun", name := "operandAt", desc := "(I)I" } : Jvm.MethodName) ∈ bm_ALL := bm_moA wT_943 rfl
theorem wA_945 : Jvm.Cond.methodLink "CaseTables$Machine" (67 : Nat) ({ cls := "CaseTables$Fun", name := "placeAt", desc := "(I)I" } : Jvm.MethodName) ∈ bm_ALL := bm_moA wT_945 rfl
theorem wA_946 : Jvm.Cond.instanceMethod ({ cls := "CaseTables$Fun", name := "placeAt", desc := "(I)I" } : Jvm.MethodName) ∈ bm_ALL := bm_moA wT_946 rfl
theorem wA_947 : Jvm.Cond.selects "CaseTables$Fun" ({ cls := "CaseTables$Fun", name := "placeAt", desc := "(I)I" } : Jvm.MethodName) ({ cls := "CaseTables$Fun", name := "placeAt", desc := "(I)I" } : Jvm.MethodName) ∈ bm_ALL := bm_moA wT_947 rfl
theorem wA_949 : Jvm.Cond.methodLink "CaseTables$Machine" (70 : Nat) ({ cls := "CaseTables$Machine", name := "valueAt", desc := "(I)J" } : Jvm.MethodName) ∈ bm_ALL := bm_moA wT_949 rfl
theorem wA_951 : Jvm.Cond.instanceMethod ({ cls := "CaseTables$Machine", name := "valueAt", desc := "(I)J" } : Jvm.MethodName) ∈ bm_ALL := bm_moA wT_951 rfl
theorem wA_37 : Jvm.Cond.selects "CaseTables$Machine" ({ cls := "CaseTables$Machine", name := "valueAt", desc := "(I)J" } : Jvm.MethodName) ({ cls := "CaseTables$Machine", name := "valueAt", desc := "(I)J" } : Jvm.MethodName) ∈ bm_ALL := bm_inA 37 (by decide +kernel) rfl
theorem wA_953 : Jvm.Cond.methodLink "CaseTables$Machine" (74 : Nat) ({ cls := "CaseTables$Machine", name := "runCalled", desc := "(II)V" } : Jvm.MethodName) ∈ bm_ALL := bm_moA wT_953 rfl
theorem wA_955 : Jvm.Cond.instanceMethod ({ cls := "CaseTables$Machine", name := "runCalled", desc := "(II)V" } : Jvm.MethodName) ∈ bm_ALL := bm_moA wT_955 rfl
theorem wA_38 : Jvm.Cond.selects "CaseTables$Machine" ({ cls := "CaseTables$Machine", name := "runCalled", desc := "(II)V" } : Jvm.MethodName) ({ cls := "CaseTables$Machine", name := "runCalled", desc := "(II)V" } : Jvm.MethodName) ∈ bm_ALL := bm_inA 38 (by decide +kernel) rfl
theorem wA_961 : Jvm.Cond.methodLink "CaseTables$Machine" (78 : Nat) ({ cls := "CaseTables$Machine", name := "takesThen", desc := "(IZ)Z" } : Jvm.MethodName) ∈ bm_ALL := bm_moA wT_961 rfl
theorem wA_963 : Jvm.Cond.instanceMethod ({ cls := "CaseTables$Machine", name := "takesThen", desc := "(IZ)Z" } : Jvm.MethodName) ∈ bm_ALL := bm_moA wT_963 rfl
theorem wA_40 : Jvm.Cond.selects "CaseTables$Machine" ({ cls := "CaseTables$Machine", name := "takesThen", desc := "(IZ)Z" } : Jvm.MethodName) ({ cls := "CaseTables$Machine", name := "takesThen", desc := "(IZ)Z" } : Jvm.MethodName) ∈ bm_ALL := bm_inA 40 (by decide +kernel) rfl
theorem wA_969 : Jvm.Cond.methodLink "CaseTables$Machine" (82 : Nat) ({ cls := "CaseTables$Machine", name := "isDecided", desc := "(Z)Z" } : Jvm.MethodName) ∈ bm_ALL := bm_moA wT_969 rfl
theorem wA_971 : Jvm.Cond.instanceMethod ({ cls := "CaseTables$Machine", name := "isDecided", desc := "(Z)Z" } : Jvm.MethodName) ∈ bm_ALL := bm_moA wT_971 rfl
theorem wA_42 : Jvm.Cond.selects "CaseTables$Machine" ({ cls := "CaseTables$Machine", name := "isDecided", desc := "(Z)Z" } : Jvm.MethodName) ({ cls := "CaseTables$Machine", name := "isDecided", desc := "(Z)Z" } : Jvm.MethodName) ∈ bm_ALL := bm_inA 42 (by decide +kernel) rfl
theorem wA_973 : Jvm.Cond.methodLink "CaseTables$Machine" (86 : Nat) ({ cls := "CaseTables$Machine", name := "changedOperator", desc := "(I)I" } : Jvm.MethodName) ∈ bm_ALL := bm_moA wT_973 rfl
theorem wA_974 : Jvm.Cond.static ({ cls := "CaseTables$Machine", name := "changedOperator", desc := "(I)I" } : Jvm.MethodName) ∈ bm_ALL := bm_moA wT_974 rfl
theorem wA_976 : Jvm.Cond.methodLink "CaseTables$Machine" (89 : Nat) ({ cls := "CaseTables$Machine", name := "apply", desc := "(I)V" } : Jvm.MethodName) ∈ bm_ALL := bm_moA wT_976 rfl
theorem wA_978 : Jvm.Cond.instanceMethod ({ cls := "CaseTables$Machine", name := "apply", desc := "(I)V" } : Jvm.MethodName) ∈ bm_ALL := bm_moA wT_978 rfl
theorem wA_43 : Jvm.Cond.selects "CaseTables$Machine" ({ cls := "CaseTables$Machine", name := "apply", desc := "(I)V" } : Jvm.MethodName) ({ cls := "CaseTables$Machine", name := "apply", desc := "(I)V" } : Jvm.MethodName) ∈ bm_ALL := bm_inA 43 (by decide +kernel) rfl
theorem wN_181 : Jvm.Cond.fieldLinkNest "CaseTables$Machine" (93 : Nat) "CaseTables$Fun" "inputCount" "I" "CaseTables" ∈ bm_NW := bm_moN wT_181 rfl
theorem wA_965 : Jvm.Cond.methodLink "CaseTables$Machine" (96 : Nat) ({ cls := "CaseTables$Machine", name := "countBranch", desc := "(IZ)V" } : Jvm.MethodName) ∈ bm_ALL := bm_moA wT_965 rfl
theorem wA_967 : Jvm.Cond.instanceMethod ({ cls := "CaseTables$Machine", name := "countBranch", desc := "(IZ)V" } : Jvm.MethodName) ∈ bm_ALL := bm_moA wT_967 rfl
theorem wA_41 : Jvm.Cond.selects "CaseTables$Machine" ({ cls := "CaseTables$Machine", name := "countBranch", desc := "(IZ)V" } : Jvm.MethodName) ({ cls := "CaseTables$Machine", name := "countBranch", desc := "(IZ)V" } : Jvm.MethodName) ∈ bm_ALL := bm_inA 41 (by decide +kernel) rfl
theorem wN_980 : Jvm.Cond.methodLinkNest "CaseTables$Machine" (100 : Nat) ({ cls := "CaseTables", name := "isRelated", desc := "(IJJ)Z" } : Jvm.MethodName) "CaseTables" ∈ bm_NW := bm_moN wT_980 rfl
theorem wA_981 : Jvm.Cond.static ({ cls := "CaseTables", name := "isRelated", desc := "(IJJ)Z" } : Jvm.MethodName) ∈ bm_ALL := bm_moA wT_981 rfl
theorem wA_143 : Jvm.Cond.methodLink "CaseTables$Program" (3 : Nat) ({ cls := "java/lang/Object", name := "<init>", desc := "()V" } : Jvm.MethodName) ∈ bm_ALL := bm_moA wT_143 rfl
theorem wA_144 : Jvm.Cond.classLink "CaseTables$Program" (9 : Nat) "CaseTables$Fun" ∈ bm_ALL := bm_moA wT_144 rfl
theorem wN_145 : Jvm.Cond.arrayOver (Jvm.ClassFile.FieldType.object "CaseTables$Fun") ∈ bm_NW := bm_moN wT_145 rfl
theorem wA_286 : Jvm.Cond.fieldLink "CaseTables$Program" (11 : Nat) "CaseTables$Program" "funs" "[LCaseTables$Fun;" ∈ bm_ALL := bm_moA wT_286 rfl
theorem wA_146 : Jvm.Cond.classLink "CaseTables$Program" (17 : Nat) "CaseTables$Table" ∈ bm_ALL := bm_moA wT_146 rfl
theorem wN_147 : Jvm.Cond.arrayOver (Jvm.ClassFile.FieldType.object "CaseTables$Table") ∈ bm_NW := bm_moN wT_147 rfl
theorem wA_287 : Jvm.Cond.fieldLink "CaseTables$Program" (19 : Nat) "CaseTables$Program" "tables" "[LCaseTables$Table;" ∈ bm_ALL := bm_moA wT_287 rfl
theorem wA_148 : Jvm.Cond.instantiable "CaseTables$Fun" (10 : Nat) ∈ bm_ALL := bm_moA wT_148 rfl
theorem wA_52 : Jvm.Cond.initialized "CaseTables$Fun" ∈ bm_ALL := bm_moA wT_52 rfl
theorem wN_149 : Jvm.Cond.methodLinkNest "CaseTables$Program" (23 : Nat) ({ cls := "CaseTables$Fun", name := "<init>", desc := "()V" } : Jvm.MethodName) "CaseTables" ∈ bm_NW := bm_moN wT_149 rfl
theorem wA_150 : Jvm.Cond.instanceMethod ({ cls := "CaseTables$Fun", name := "<init>", desc := "()V" } : Jvm.MethodName) ∈ bm_ALL := bm_moA wT_150 rfl
theorem wA_288 : Jvm.Cond.fieldLink "CaseTables$Program" (24 : Nat) "CaseTables$Program" "spareFun" "LCaseTables$Fun;" ∈ bm_ALL := bm_moA wT_288 rfl
theorem wA_210 : Jvm.Cond.instantiable "CaseTables$Table" (7 : Nat) ∈ bm_ALL := bm_moA wT_210 rfl
theorem wA_54 : Jvm.Cond.initialized "CaseTables$Table" ∈ bm_ALL := bm_moA wT_54 rfl
theorem wN_211 : Jvm.Cond.methodLinkNest "CaseTables$Program" (28 : Nat) ({ cls := "CaseTables$Table", name := "<init>", desc := "()V" } : Jvm.MethodName) "CaseTables" ∈ bm_NW := bm_moN wT_211 rfl
theorem wA_212 : Jvm.Cond.instanceMethod ({ cls := "CaseTables$Table", name := "<init>", desc := "()V" } : Jvm.MethodName) ∈ bm_ALL := bm_moA wT_212 rfl
theorem wA_289 : Jvm.Cond.fieldLink "CaseTables$Program" (29 : Nat) "CaseTables$Program" "spareTable" "LCaseTables$Table;" ∈ bm_ALL := bm_moA wT_289 rfl
theorem wA_290 : Jvm.Cond.fieldLink "CaseTables$Program" (33 : Nat) "CaseTables$Program" "funCount" "I" ∈ bm_ALL := bm_moA wT_290 rfl
theorem wA_293 : Jvm.Cond.fieldLink "CaseTables$Program" (37 : Nat) "CaseTables$Program" "tableCount" "I" ∈ bm_ALL := bm_moA wT_293 rfl
theorem wA_297 : Jvm.Cond.fieldLink "CaseTables$Program" (40 : Nat) "CaseTables$Program" "ifCount" "I" ∈ bm_ALL := bm_moA wT_297 rfl
theorem wA_538 : Jvm.Cond.methodLink "CaseTables$Program" (43 : Nat) ({ cls := "CaseTables$Program", name := "funAt", desc := "(I)LCaseTables$Fun;" } : Jvm.MethodName) ∈ bm_ALL := bm_moA wT_538 rfl
theorem wA_539 : Jvm.Cond.methodLink "CaseTables$Program" (47 : Nat) ({ cls := "CaseTables$Fun", name := "clear", desc := "()V" } : Jvm.MethodName) ∈ bm_ALL := bm_moA wT_539 rfl
theorem wA_540 : Jvm.Cond.instanceMethod ({ cls := "CaseTables$Fun", name := "clear", desc := "()V" } : Jvm.MethodName) ∈ bm_ALL := bm_moA wT_540 rfl
theorem wA_541 : Jvm.Cond.selects "CaseTables$Fun" ({ cls := "CaseTables$Fun", name := "clear", desc := "()V" } : Jvm.MethodName) ({ cls := "CaseTables$Fun", name := "clear", desc := "()V" } : Jvm.MethodName) ∈ bm_ALL := bm_moA wT_541 rfl
theorem wA_563 : Jvm.Cond.methodLink "CaseTables$Program" (50 : Nat) ({ cls := "CaseTables$Program", name := "tableAt", desc := "(I)LCaseTables$Table;" } : Jvm.MethodName) ∈ bm_ALL := bm_moA wT_563 rfl
theorem wA_675 : Jvm.Cond.methodLink "CaseTables$Program" (54 : Nat) ({ cls := "CaseTables$Table", name := "clear", desc := "()V" } : Jvm.MethodName) ∈ bm_ALL := bm_moA wT_675 rfl
theorem wA_676 : Jvm.Cond.instanceMethod ({ cls := "CaseTables$Table", name := "clear", desc := "()V" } : Jvm.MethodName) ∈ bm_ALL := bm_moA wT_676 rfl
theorem wA_677 : Jvm.Cond.selects "CaseTables$Table" ({ cls := "CaseTables$Table", name := "clear", desc := "()V" } : Jvm.MethodName) ({ cls := "CaseTables$Table", name := "clear", desc := "()V" } : Jvm.MethodName) ∈ bm_ALL := bm_moA wT_677 rfl
theorem wN_176 : Jvm.Cond.fieldLinkNest "CaseTables$Program" (55 : Nat) "CaseTables$Fun" "name" "J" "CaseTables" ∈ bm_NW := bm_moN wT_176 rfl
theorem wN_255 : Jvm.Cond.fieldLinkNest "CaseTables$Program" (59 : Nat) "CaseTables$Table" "name" "J" "CaseTables" ∈ bm_NW := bm_moN wT_255 rfl
theorem wA_564 : Jvm.Cond.methodLink "CaseTables$Program" (60 : Nat) ({ cls := "CaseTables$Program", name := "funNamed", desc := "(J)I" } : Jvm.MethodName) ∈ bm_ALL := bm_moA wT_564 rfl
theorem wN_259 : Jvm.Cond.fieldLinkNest "CaseTables$Program" (64 : Nat) "CaseTables$Table" "fun" "I" "CaseTables" ∈ bm_NW := bm_moN wT_259 rfl
theorem wN_268 : Jvm.Cond.fieldLinkNest "CaseTables$Program" (67 : Nat) "CaseTables$Table" "caseCount" "I" "CaseTables" ∈ bm_NW := bm_moN wT_268 rfl
theorem wA_158 : Jvm.Cond.methodLink "CaseTables$Ranges" (3 : Nat) ({ cls := "java/lang/Object", name := "<init>", desc := "()V" } : Jvm.MethodName) ∈ bm_ALL := bm_moA wT_158 rfl
theorem wA_159 : Jvm.Cond.fieldLink "CaseTables$Ranges" (9 : Nat) "CaseTables$Ranges" "lows" "[I" ∈ bm_ALL := bm_moA wT_159 rfl
theorem wA_160 : Jvm.Cond.fieldLink "CaseTables$Ranges" (15 : Nat) "CaseTables$Ranges" "highs" "[I" ∈ bm_ALL := bm_moA wT_160 rfl
theorem wA_547 : Jvm.Cond.methodLink "CaseTables$Ranges" (18 : Nat) ({ cls := "CaseTables$Ranges", name := "put", desc := "(III)V" } : Jvm.MethodName) ∈ bm_ALL := bm_moA wT_547 rfl
theorem wA_725 : Jvm.Cond.methodLink "CaseTables$Ranges" (22 : Nat) ({ cls := "CaseTables$Ranges", name := "high", desc := "(I)I" } : Jvm.MethodName) ∈ bm_ALL := bm_moA wT_725 rfl
theorem wA_726 : Jvm.Cond.methodLink "CaseTables$Ranges" (26 : Nat) ({ cls := "CaseTables$Ranges", name := "low", desc := "(I)I" } : Jvm.MethodName) ∈ bm_ALL := bm_moA wT_726 rfl
theorem wA_721 : Jvm.Cond.methodLink "CaseTables$Ranges" (29 : Nat) ({ cls := "CaseTables$Ranges", name := "width", desc := "(I)I" } : Jvm.MethodName) ∈ bm_ALL := bm_moA wT_721 rfl
theorem wA_221 : Jvm.Cond.methodLink "CaseTables$Row" (3 : Nat) ({ cls := "java/lang/Object", name := "<init>", desc := "()V" } : Jvm.MethodName) ∈ bm_ALL := bm_moA wT_221 rfl
theorem wA_222 : Jvm.Cond.classLink "CaseTables$Row" (9 : Nat) "CaseTables$Ranges" ∈ bm_ALL := bm_moA wT_222 rfl
theorem wN_223 : Jvm.Cond.methodLinkNest "CaseTables$Row" (11 : Nat) ({ cls := "CaseTables$Ranges", name := "<init>", desc := "()V" } : Jvm.MethodName) "CaseTables" ∈ bm_NW := bm_moN wT_223 rfl
theorem wA_224 : Jvm.Cond.fieldLink "CaseTables$Row" (12 : Nat) "CaseTables$Row" "ranges" "LCaseTables$Ranges;" ∈ bm_ALL := bm_moA wT_224 rfl
theorem wA_695 : Jvm.Cond.methodLink "CaseTables$Row" (18 : Nat) ({ cls := "CaseTables$Ranges", name := "clear", desc := "()V" } : Jvm.MethodName) ∈ bm_ALL := bm_moA wT_695 rfl
theorem wA_230 : Jvm.Cond.fieldLink "CaseTables$Row" (21 : Nat) "CaseTables$Row" "result" "I" ∈ bm_ALL := bm_moA wT_230 rfl
theorem wA_233 : Jvm.Cond.fieldLink "CaseTables$Row" (25 : Nat) "CaseTables$Row" "number" "J" ∈ bm_ALL := bm_moA wT_233 rfl
theorem wA_237 : Jvm.Cond.fieldLink "CaseTables$Row" (29 : Nat) "CaseTables$Row" "isSearched" "Z" ∈ bm_ALL := bm_moA wT_237 rfl
theorem wN_991 : Jvm.Cond.methodLinkNest "CaseTables$Row" (33 : Nat) ({ cls := "CaseTables", name := "isRelated", desc := "(IJJ)Z" } : Jvm.MethodName) "CaseTables" ∈ bm_NW := bm_moN wT_991 rfl
theorem wA_380 : Jvm.Cond.methodLink "CaseTables$Runner" (3 : Nat) ({ cls := "java/lang/Object", name := "<init>", desc := "()V" } : Jvm.MethodName) ∈ bm_ALL := bm_moA wT_380 rfl
theorem wA_381 : Jvm.Cond.fieldLink "CaseTables$Runner" (9 : Nat) "CaseTables$Runner" "program" "LCaseTables$Program;" ∈ bm_ALL := bm_moA wT_381 rfl
theorem wA_382 : Jvm.Cond.fieldLink "CaseTables$Runner" (15 : Nat) "CaseTables$Runner" "machine" "LCaseTables$Machine;" ∈ bm_ALL := bm_moA wT_382 rfl
theorem wA_383 : Jvm.Cond.fieldLink "CaseTables$Runner" (19 : Nat) "CaseTables$Runner" "isFresh" "Z" ∈ bm_ALL := bm_moA wT_383 rfl
theorem wA_905 : Jvm.Cond.methodLink "CaseTables$Runner" (23 : Nat) ({ cls := "CaseTables$Machine", name := "startCounting", desc := "()V" } : Jvm.MethodName) ∈ bm_ALL := bm_moA wT_905 rfl
theorem wA_906 : Jvm.Cond.instanceMethod ({ cls := "CaseTables$Machine", name := "startCounting", desc := "()V" } : Jvm.MethodName) ∈ bm_ALL := bm_moA wT_906 rfl
theorem wA_907 : Jvm.Cond.selects "CaseTables$Machine" ({ cls := "CaseTables$Machine", name := "startCounting", desc := "()V" } : Jvm.MethodName) ({ cls := "CaseTables$Machine", name := "startCounting", desc := "()V" } : Jvm.MethodName) ∈ bm_ALL := bm_moA wT_907 rfl
theorem wN_294 : Jvm.Cond.fieldLinkNest "CaseTables$Runner" (28 : Nat) "CaseTables$Program" "tableCount" "I" "CaseTables" ∈ bm_NW := bm_moN wT_294 rfl
theorem wA_909 : Jvm.Cond.methodLink "CaseTables$Runner" (34 : Nat) ({ cls := "CaseTables$Program", name := "tableAt", desc := "(I)LCaseTables$Table;" } : Jvm.MethodName) ∈ bm_ALL := bm_moA wT_909 rfl
theorem wA_910 : Jvm.Cond.methodLink "CaseTables$Runner" (38 : Nat) ({ cls := "CaseTables$Runner", name := "runTable", desc := "(LCaseTables$Table;)V" } : Jvm.MethodName) ∈ bm_ALL := bm_moA wT_910 rfl
theorem wA_912 : Jvm.Cond.instanceMethod ({ cls := "CaseTables$Runner", name := "runTable", desc := "(LCaseTables$Table;)V" } : Jvm.MethodName) ∈ bm_ALL := bm_moA wT_912 rfl
theorem wA_33 : Jvm.Cond.selects "CaseTables$Runner" ({ cls := "CaseTables$Runner", name := "runTable", desc := "(LCaseTables$Table;)V" } : Jvm.MethodName) ({ cls := "CaseTables$Runner", name := "runTable", desc := "(LCaseTables$Table;)V" } : Jvm.MethodName) ∈ bm_ALL := bm_inA 33 (by decide +kernel) rfl
theorem wA_996 : Jvm.Cond.methodLink "CaseTables$Runner" (42 : Nat) ({ cls := "CaseTables$Machine", name := "stopCounting", desc := "()V" } : Jvm.MethodName) ∈ bm_ALL := bm_moA wT_996 rfl
theorem wA_997 : Jvm.Cond.instanceMethod ({ cls := "CaseTables$Machine", name := "stopCounting", desc := "()V" } : Jvm.MethodName) ∈ bm_ALL := bm_moA wT_997 rfl
theorem wA_998 : Jvm.Cond.selects "CaseTables$Machine" ({ cls := "CaseTables$Machine", name := "stopCounting", desc := "()V" } : Jvm.MethodName) ({ cls := "CaseTables$Machine", name := "stopCounting", desc := "()V" } : Jvm.MethodName) ∈ bm_ALL := bm_moA wT_998 rfl
theorem wN_263 : Jvm.Cond.fieldLinkNest "CaseTables$Runner" (45 : Nat) "CaseTables$Table" "rowCount" "I" "CaseTables" ∈ bm_NW := bm_moN wT_263 rfl
theorem wA_914 : Jvm.Cond.methodLink "CaseTables$Runner" (50 : Nat) ({ cls := "CaseTables$Table", name := "rowAt", desc := "(I)LCaseTables$Row;" } : Jvm.MethodName) ∈ bm_ALL := bm_moA wT_914 rfl
theorem wA_688 : Jvm.Cond.instanceMethod ({ cls := "CaseTables$Table", name := "rowAt", desc := "(I)LCaseTables$Row;" } : Jvm.MethodName) ∈ bm_ALL := bm_moA wT_688 rfl
theorem wA_689 : Jvm.Cond.selects "CaseTables$Table" ({ cls := "CaseTables$Table", name := "rowAt", desc := "(I)LCaseTables$Row;" } : Jvm.MethodName) ({ cls := "CaseTables$Table", name := "rowAt", desc := "(I)LCaseTables$Row;" } : Jvm.MethodName) ∈ bm_ALL := bm_moA wT_689 rfl
theorem wN_226 : Jvm.Cond.fieldLinkNest "CaseTables$Runner" (54 : Nat) "CaseTables$Row" "ranges" "LCaseTables$Ranges;" "CaseTables" ∈ bm_NW := bm_moN wT_226 rfl
theorem wA_915 : Jvm.Cond.methodLink "CaseTables$Runner" (60 : Nat) ({ cls := "CaseTables$Ranges", name := "rowCount", desc := "()I" } : Jvm.MethodName) ∈ bm_ALL := bm_moA wT_915 rfl
theorem wA_718 : Jvm.Cond.instanceMethod ({ cls := "CaseTables$Ranges", name := "rowCount", desc := "()I" } : Jvm.MethodName) ∈ bm_ALL := bm_moA wT_718 rfl
theorem wA_719 : Jvm.Cond.selects "CaseTables$Ranges" ({ cls := "CaseTables$Ranges", name := "rowCount", desc := "()I" } : Jvm.MethodName) ({ cls := "CaseTables$Ranges", name := "rowCount", desc := "()I" } : Jvm.MethodName) ∈ bm_ALL := bm_moA wT_719 rfl
theorem wN_257 : Jvm.Cond.fieldLinkNest "CaseTables$Runner" (65 : Nat) "CaseTables$Table" "fun" "I" "CaseTables" ∈ bm_NW := bm_moN wT_257 rfl
theorem wA_916 : Jvm.Cond.methodLink "CaseTables$Runner" (68 : Nat) ({ cls := "CaseTables$Runner", name := "isHolding", desc := "(ILCaseTables$Row;II)Z" } : Jvm.MethodName) ∈ bm_ALL := bm_moA wT_916 rfl
theorem wA_918 : Jvm.Cond.instanceMethod ({ cls := "CaseTables$Runner", name := "isHolding", desc := "(ILCaseTables$Row;II)Z" } : Jvm.MethodName) ∈ bm_ALL := bm_moA wT_918 rfl
theorem wA_34 : Jvm.Cond.selects "CaseTables$Runner" ({ cls := "CaseTables$Runner", name := "isHolding", desc := "(ILCaseTables$Row;II)Z" } : Jvm.MethodName) ({ cls := "CaseTables$Runner", name := "isHolding", desc := "(ILCaseTables$Row;II)Z" } : Jvm.MethodName) ∈ bm_ALL := bm_inA 34 (by decide +kernel) rfl
theorem wA_992 : Jvm.Cond.methodLink "CaseTables$Runner" (72 : Nat) ({ cls := "CaseTables$Table", name := "note", desc := "(IZ)V" } : Jvm.MethodName) ∈ bm_ALL := bm_moA wT_992 rfl
theorem wA_993 : Jvm.Cond.instanceMethod ({ cls := "CaseTables$Table", name := "note", desc := "(IZ)V" } : Jvm.MethodName) ∈ bm_ALL := bm_moA wT_993 rfl
theorem wA_994 : Jvm.Cond.selects "CaseTables$Table" ({ cls := "CaseTables$Table", name := "note", desc := "(IZ)V" } : Jvm.MethodName) ({ cls := "CaseTables$Table", name := "note", desc := "(IZ)V" } : Jvm.MethodName) ∈ bm_ALL := bm_moA wT_994 rfl
theorem wA_920 : Jvm.Cond.methodLink "CaseTables$Runner" (76 : Nat) ({ cls := "CaseTables$Ranges", name := "valueAt", desc := "(II)I" } : Jvm.MethodName) ∈ bm_ALL := bm_moA wT_920 rfl
theorem wA_921 : Jvm.Cond.instanceMethod ({ cls := "CaseTables$Ranges", name := "valueAt", desc := "(II)I" } : Jvm.MethodName) ∈ bm_ALL := bm_moA wT_921 rfl
theorem wA_922 : Jvm.Cond.selects "CaseTables$Ranges" ({ cls := "CaseTables$Ranges", name := "valueAt", desc := "(II)I" } : Jvm.MethodName) ({ cls := "CaseTables$Ranges", name := "valueAt", desc := "(II)I" } : Jvm.MethodName) ∈ bm_ALL := bm_moA wT_922 rfl
theorem wA_924 : Jvm.Cond.methodLink "CaseTables$Runner" (80 : Nat) ({ cls := "CaseTables$Machine", name := "reckon", desc := "(IIJJJ)J" } : Jvm.MethodName) ∈ bm_ALL := bm_moA wT_924 rfl
theorem wA_925 : Jvm.Cond.instanceMethod ({ cls := "CaseTables$Machine", name := "reckon", desc := "(IIJJJ)J" } : Jvm.MethodName) ∈ bm_ALL := bm_moA wT_925 rfl
theorem wA_926 : Jvm.Cond.selects "CaseTables$Machine" ({ cls := "CaseTables$Machine", name := "reckon", desc := "(IIJJJ)J" } : Jvm.MethodName) ({ cls := "CaseTables$Machine", name := "reckon", desc := "(IIJJJ)J" } : Jvm.MethodName) ∈ bm_ALL := bm_moA wT_926 rfl
theorem wA_983 : Jvm.Cond.methodLink "CaseTables$Runner" (84 : Nat) ({ cls := "CaseTables$Machine", name := "hasFailed", desc := "()Z" } : Jvm.MethodName) ∈ bm_ALL := bm_moA wT_983 rfl
theorem wA_984 : Jvm.Cond.instanceMethod ({ cls := "CaseTables$Machine", name := "hasFailed", desc := "()Z" } : Jvm.MethodName) ∈ bm_ALL := bm_moA wT_984 rfl
theorem wA_985 : Jvm.Cond.selects "CaseTables$Machine" ({ cls := "CaseTables$Machine", name := "hasFailed", desc := "()Z" } : Jvm.MethodName) ({ cls := "CaseTables$Machine", name := "hasFailed", desc := "()Z" } : Jvm.MethodName) ∈ bm_ALL := bm_moA wT_985 rfl
theorem wA_987 : Jvm.Cond.methodLink "CaseTables$Runner" (88 : Nat) ({ cls := "CaseTables$Row", name := "admits", desc := "(ZJ)Z" } : Jvm.MethodName) ∈ bm_ALL := bm_moA wT_987 rfl
theorem wA_988 : Jvm.Cond.instanceMethod ({ cls := "CaseTables$Row", name := "admits", desc := "(ZJ)Z" } : Jvm.MethodName) ∈ bm_ALL := bm_moA wT_988 rfl
theorem wA_989 : Jvm.Cond.selects "CaseTables$Row" ({ cls := "CaseTables$Row", name := "admits", desc := "(ZJ)Z" } : Jvm.MethodName) ({ cls := "CaseTables$Row", name := "admits", desc := "(ZJ)Z" } : Jvm.MethodName) ∈ bm_ALL := bm_moA wT_989 rfl
theorem wA_1037 : Jvm.Cond.methodLink "CaseTables$Runner" (92 : Nat) ({ cls := "CaseTables$Runner", name := "search", desc := "(ILCaseTables$Row;)V" } : Jvm.MethodName) ∈ bm_ALL := bm_moA wT_1037 rfl
theorem wA_1039 : Jvm.Cond.instanceMethod ({ cls := "CaseTables$Runner", name := "search", desc := "(ILCaseTables$Row;)V" } : Jvm.MethodName) ∈ bm_ALL := bm_moA wT_1039 rfl
theorem wA_44 : Jvm.Cond.selects "CaseTables$Runner" ({ cls := "CaseTables$Runner", name := "search", desc := "(ILCaseTables$Row;)V" } : Jvm.MethodName) ({ cls := "CaseTables$Runner", name := "search", desc := "(ILCaseTables$Row;)V" } : Jvm.MethodName) ∈ bm_ALL := bm_inA 44 (by decide +kernel) rfl
theorem wN_236 : Jvm.Cond.fieldLinkNest "CaseTables$Runner" (96 : Nat) "CaseTables$Row" "found" "J" "CaseTables" ∈ bm_NW := bm_moN wT_236 rfl
theorem wN_238 : Jvm.Cond.fieldLinkNest "CaseTables$Runner" (100 : Nat) "CaseTables$Row" "isSearched" "Z" "CaseTables" ∈ bm_NW := bm_moN wT_238 rfl
theorem wA_1041 : Jvm.Cond.methodLink "CaseTables$Runner" (103 : Nat) ({ cls := "CaseTables$Program", name := "funAt", desc := "(I)LCaseTables$Fun;" } : Jvm.MethodName) ∈ bm_ALL := bm_moA wT_1041 rfl
theorem wN_185 : Jvm.Cond.fieldLinkNest "CaseTables$Runner" (107 : Nat) "CaseTables$Fun" "placeCount" "I" "CaseTables" ∈ bm_NW := bm_moN wT_185 rfl
theorem wA_214 : Jvm.Cond.methodLink "CaseTables$Table" (3 : Nat) ({ cls := "java/lang/Object", name := "<init>", desc := "()V" } : Jvm.MethodName) ∈ bm_ALL := bm_moA wT_214 rfl
theorem wA_215 : Jvm.Cond.classLink "CaseTables$Table" (9 : Nat) "CaseTables$Row" ∈ bm_ALL := bm_moA wT_215 rfl
theorem wN_216 : Jvm.Cond.arrayOver (Jvm.ClassFile.FieldType.object "CaseTables$Row") ∈ bm_NW := bm_moN wT_216 rfl
theorem wA_250 : Jvm.Cond.fieldLink "CaseTables$Table" (11 : Nat) "CaseTables$Table" "rows" "[LCaseTables$Row;" ∈ bm_ALL := bm_moA wT_250 rfl
theorem wA_217 : Jvm.Cond.instantiable "CaseTables$Row" (5 : Nat) ∈ bm_ALL := bm_moA wT_217 rfl
theorem wA_55 : Jvm.Cond.initialized "CaseTables$Row" ∈ bm_ALL := bm_moA wT_55 rfl
theorem wN_218 : Jvm.Cond.methodLinkNest "CaseTables$Table" (17 : Nat) ({ cls := "CaseTables$Row", name := "<init>", desc := "()V" } : Jvm.MethodName) "CaseTables" ∈ bm_NW := bm_moN wT_218 rfl
theorem wA_219 : Jvm.Cond.instanceMethod ({ cls := "CaseTables$Row", name := "<init>", desc := "()V" } : Jvm.MethodName) ∈ bm_ALL := bm_moA wT_219 rfl
theorem wA_251 : Jvm.Cond.fieldLink "CaseTables$Table" (18 : Nat) "CaseTables$Table" "spareRow" "LCaseTables$Row;" ∈ bm_ALL := bm_moA wT_251 rfl
theorem wA_285 : Jvm.Cond.arrayClass Jvm.ClassFile.FieldType.boolean ∈ bm_ALL := bm_moA wT_285 rfl
theorem wA_252 : Jvm.Cond.fieldLink "CaseTables$Table" (22 : Nat) "CaseTables$Table" "holding" "[Z" ∈ bm_ALL := bm_moA wT_252 rfl
theorem wA_253 : Jvm.Cond.fieldLink "CaseTables$Table" (26 : Nat) "CaseTables$Table" "name" "J" ∈ bm_ALL := bm_moA wT_253 rfl
theorem wA_256 : Jvm.Cond.fieldLink "CaseTables$Table" (30 : Nat) "CaseTables$Table" "fun" "I" ∈ bm_ALL := bm_moA wT_256 rfl
theorem wA_261 : Jvm.Cond.fieldLink "CaseTables$Table" (34 : Nat) "CaseTables$Table" "rowCount" "I" ∈ bm_ALL := bm_moA wT_261 rfl
theorem wA_266 : Jvm.Cond.fieldLink "CaseTables$Table" (37 : Nat) "CaseTables$Table" "caseCount" "I" ∈ bm_ALL := bm_moA wT_266 rfl
theorem wA_687 : Jvm.Cond.methodLink "CaseTables$Table" (40 : Nat) ({ cls := "CaseTables$Table", name := "rowAt", desc := "(I)LCaseTables$Row;" } : Jvm.MethodName) ∈ bm_ALL := bm_moA wT_687 rfl
theorem wA_691 : Jvm.Cond.methodLink "CaseTables$Table" (44 : Nat) ({ cls := "CaseTables$Row", name := "clear", desc := "()V" } : Jvm.MethodName) ∈ bm_ALL := bm_moA wT_691 rfl
theorem wA_692 : Jvm.Cond.instanceMethod ({ cls := "CaseTables$Row", name := "clear", desc := "()V" } : Jvm.MethodName) ∈ bm_ALL := bm_moA wT_692 rfl
theorem wA_693 : Jvm.Cond.selects "CaseTables$Row" ({ cls := "CaseTables$Row", name := "clear", desc := "()V" } : Jvm.MethodName) ({ cls := "CaseTables$Row", name := "clear", desc := "()V" } : Jvm.MethodName) ∈ bm_ALL := bm_moA wT_693 rfl
theorem wN_227 : Jvm.Cond.fieldLinkNest "CaseTables$Table" (47 : Nat) "CaseTables$Row" "ranges" "LCaseTables$Ranges;" "CaseTables" ∈ bm_NW := bm_moN wT_227 rfl
theorem wA_717 : Jvm.Cond.methodLink "CaseTables$Table" (51 : Nat) ({ cls := "CaseTables$Ranges", name := "rowCount", desc := "()I" } : Jvm.MethodName) ∈ bm_ALL := bm_moA wT_717 rfl
theorem wA_1110 : Jvm.Cond.methodLink "CaseTables$Table" (56 : Nat) ({ cls := "CaseTables$Ranges", name := "valueAt", desc := "(II)I" } : Jvm.MethodName) ∈ bm_ALL := bm_moA wT_1110 rfl
theorem wA_1004 : Jvm.Cond.methodLink "CaseTables$Table" (60 : Nat) ({ cls := "CaseTables$Table", name := "holdingCount", desc := "()I" } : Jvm.MethodName) ∈ bm_ALL := bm_moA wT_1004 rfl
theorem wA_1005 : Jvm.Cond.instanceMethod ({ cls := "CaseTables$Table", name := "holdingCount", desc := "()I" } : Jvm.MethodName) ∈ bm_ALL := bm_moA wT_1005 rfl
theorem wA_1006 : Jvm.Cond.selects "CaseTables$Table" ({ cls := "CaseTables$Table", name := "holdingCount", desc := "()I" } : Jvm.MethodName) ({ cls := "CaseTables$Table", name := "holdingCount", desc := "()I" } : Jvm.MethodName) ∈ bm_ALL := bm_moA wT_1006 rfl
theorem wA_1012 : Jvm.Cond.methodLink "CaseTables$Table" (63 : Nat) ({ cls := "CaseTables$Table", name := "firstNotHolding", desc := "()I" } : Jvm.MethodName) ∈ bm_ALL := bm_moA wT_1012 rfl
theorem wA_1013 : Jvm.Cond.instanceMethod ({ cls := "CaseTables$Table", name := "firstNotHolding", desc := "()I" } : Jvm.MethodName) ∈ bm_ALL := bm_moA wT_1013 rfl
theorem wA_1014 : Jvm.Cond.selects "CaseTables$Table" ({ cls := "CaseTables$Table", name := "firstNotHolding", desc := "()I" } : Jvm.MethodName) ({ cls := "CaseTables$Table", name := "firstNotHolding", desc := "()I" } : Jvm.MethodName) ∈ bm_ALL := bm_moA wT_1014 rfl
theorem wA_1008 : Jvm.Cond.methodLink "CaseTables$Table" (66 : Nat) ({ cls := "CaseTables$Table", name := "isHolding", desc := "(I)Z" } : Jvm.MethodName) ∈ bm_ALL := bm_moA wT_1008 rfl
theorem wA_1009 : Jvm.Cond.instanceMethod ({ cls := "CaseTables$Table", name := "isHolding", desc := "(I)Z" } : Jvm.MethodName) ∈ bm_ALL := bm_moA wT_1009 rfl
theorem wA_1010 : Jvm.Cond.selects "CaseTables$Table" ({ cls := "CaseTables$Table", name := "isHolding", desc := "(I)Z" } : Jvm.MethodName) ({ cls := "CaseTables$Table", name := "isHolding", desc := "(I)Z" } : Jvm.MethodName) ∈ bm_ALL := bm_moA wT_1010 rfl
theorem wA_85 : Jvm.Cond.methodLink "CaseTables$Tape" (3 : Nat) ({ cls := "java/lang/Object", name := "<init>", desc := "()V" } : Jvm.MethodName) ∈ bm_ALL := bm_moA wT_85 rfl
theorem wA_93 : Jvm.Cond.arrayClass Jvm.ClassFile.FieldType.byte ∈ bm_ALL := bm_moA wT_93 rfl
theorem wA_86 : Jvm.Cond.fieldLink "CaseTables$Tape" (9 : Nat) "CaseTables$Tape" "bytes" "[B" ∈ bm_ALL := bm_moA wT_86 rfl
theorem wA_87 : Jvm.Cond.fieldLink "CaseTables$Tape" (15 : Nat) "CaseTables$Tape" "length" "I" ∈ bm_ALL := bm_moA wT_87 rfl
theorem wA_99 : Jvm.Cond.methodLink "CaseTables$Tokens" (3 : Nat) ({ cls := "java/lang/Object", name := "<init>", desc := "()V" } : Jvm.MethodName) ∈ bm_ALL := bm_moA wT_99 rfl
theorem wA_101 : Jvm.Cond.fieldLink "CaseTables$Tokens" (9 : Nat) "CaseTables$Tokens" "kinds" "[I" ∈ bm_ALL := bm_moA wT_101 rfl
theorem wA_102 : Jvm.Cond.fieldLink "CaseTables$Tokens" (15 : Nat) "CaseTables$Tokens" "starts" "[I" ∈ bm_ALL := bm_moA wT_102 rfl
theorem wA_103 : Jvm.Cond.fieldLink "CaseTables$Tokens" (18 : Nat) "CaseTables$Tokens" "values" "[J" ∈ bm_ALL := bm_moA wT_103 rfl
theorem wA_100 : Jvm.Cond.fieldLink "CaseTables$Tokens" (22 : Nat) "CaseTables$Tokens" "tape" "LCaseTables$Tape;" ∈ bm_ALL := bm_moA wT_100 rfl
theorem wA_104 : Jvm.Cond.fieldLink "CaseTables$Tokens" (26 : Nat) "CaseTables$Tokens" "next" "I" ∈ bm_ALL := bm_moA wT_104 rfl
theorem wA_108 : Jvm.Cond.fieldLink "CaseTables$Tokens" (30 : Nat) "CaseTables$Tokens" "position" "I" ∈ bm_ALL := bm_moA wT_108 rfl
theorem wA_110 : Jvm.Cond.fieldLink "CaseTables$Tokens" (33 : Nat) "CaseTables$Tokens" "limit" "I" ∈ bm_ALL := bm_moA wT_110 rfl
theorem wA_111 : Jvm.Cond.fieldLink "CaseTables$Tokens" (36 : Nat) "CaseTables$Tokens" "failed" "Z" ∈ bm_ALL := bm_moA wT_111 rfl
theorem wA_105 : Jvm.Cond.fieldLink "CaseTables$Tokens" (40 : Nat) "CaseTables$Tokens" "kind" "I" ∈ bm_ALL := bm_moA wT_105 rfl
theorem wA_449 : Jvm.Cond.methodLink "CaseTables$Tokens" (43 : Nat) ({ cls := "CaseTables$Tokens", name := "scanOne", desc := "()V" } : Jvm.MethodName) ∈ bm_ALL := bm_moA wT_449 rfl
theorem wA_451 : Jvm.Cond.instanceMethod ({ cls := "CaseTables$Tokens", name := "scanOne", desc := "()V" } : Jvm.MethodName) ∈ bm_ALL := bm_moA wT_451 rfl
theorem wA_0 : Jvm.Cond.selects "CaseTables$Tokens" ({ cls := "CaseTables$Tokens", name := "scanOne", desc := "()V" } : Jvm.MethodName) ({ cls := "CaseTables$Tokens", name := "scanOne", desc := "()V" } : Jvm.MethodName) ∈ bm_ALL := bm_inA 0 (by decide +kernel) rfl
theorem wA_106 : Jvm.Cond.fieldLink "CaseTables$Tokens" (46 : Nat) "CaseTables$Tokens" "start" "I" ∈ bm_ALL := bm_moA wT_106 rfl
theorem wA_107 : Jvm.Cond.fieldLink "CaseTables$Tokens" (49 : Nat) "CaseTables$Tokens" "value" "J" ∈ bm_ALL := bm_moA wT_107 rfl
theorem wA_529 : Jvm.Cond.methodLink "CaseTables$Tokens" (53 : Nat) ({ cls := "CaseTables$Tokens", name := "sees", desc := "(I)Z" } : Jvm.MethodName) ∈ bm_ALL := bm_moA wT_529 rfl
theorem wA_530 : Jvm.Cond.methodLink "CaseTables$Tokens" (57 : Nat) ({ cls := "CaseTables$Tokens", name := "fail", desc := "()V" } : Jvm.MethodName) ∈ bm_ALL := bm_moA wT_530 rfl
theorem wA_453 : Jvm.Cond.methodLink "CaseTables$Tokens" (60 : Nat) ({ cls := "CaseTables$Tokens", name := "skipBlanks", desc := "()V" } : Jvm.MethodName) ∈ bm_ALL := bm_moA wT_453 rfl
theorem wA_455 : Jvm.Cond.instanceMethod ({ cls := "CaseTables$Tokens", name := "skipBlanks", desc := "()V" } : Jvm.MethodName) ∈ bm_ALL := bm_moA wT_455 rfl
theorem wA_1 : Jvm.Cond.selects "CaseTables$Tokens" ({ cls := "CaseTables$Tokens", name := "skipBlanks", desc := "()V" } : Jvm.MethodName) ({ cls := "CaseTables$Tokens", name := "skipBlanks", desc := "()V" } : Jvm.MethodName) ∈ bm_ALL := bm_inA 1 (by decide +kernel) rfl
theorem wA_461 : Jvm.Cond.methodLink "CaseTables$Tokens" (63 : Nat) ({ cls := "CaseTables$Tape", name := "byteAt", desc := "(I)I" } : Jvm.MethodName) ∈ bm_ALL := bm_moA wT_461 rfl
theorem wA_462 : Jvm.Cond.instanceMethod ({ cls := "CaseTables$Tape", name := "byteAt", desc := "(I)I" } : Jvm.MethodName) ∈ bm_ALL := bm_moA wT_462 rfl
theorem wA_463 : Jvm.Cond.selects "CaseTables$Tape" ({ cls := "CaseTables$Tape", name := "byteAt", desc := "(I)I" } : Jvm.MethodName) ({ cls := "CaseTables$Tape", name := "byteAt", desc := "(I)I" } : Jvm.MethodName) ∈ bm_ALL := bm_moA wT_463 rfl
theorem wA_468 : Jvm.Cond.methodLink "CaseTables$Tokens" (69 : Nat) ({ cls := "CaseTables$Tokens", name := "isLetter", desc := "(I)Z" } : Jvm.MethodName) ∈ bm_ALL := bm_moA wT_468 rfl
theorem wA_469 : Jvm.Cond.static ({ cls := "CaseTables$Tokens", name := "isLetter", desc := "(I)Z" } : Jvm.MethodName) ∈ bm_ALL := bm_moA wT_469 rfl
theorem wA_471 : Jvm.Cond.methodLink "CaseTables$Tokens" (72 : Nat) ({ cls := "CaseTables$Tokens", name := "scanWord", desc := "()V" } : Jvm.MethodName) ∈ bm_ALL := bm_moA wT_471 rfl
theorem wA_473 : Jvm.Cond.instanceMethod ({ cls := "CaseTables$Tokens", name := "scanWord", desc := "()V" } : Jvm.MethodName) ∈ bm_ALL := bm_moA wT_473 rfl
theorem wA_2 : Jvm.Cond.selects "CaseTables$Tokens" ({ cls := "CaseTables$Tokens", name := "scanWord", desc := "()V" } : Jvm.MethodName) ({ cls := "CaseTables$Tokens", name := "scanWord", desc := "()V" } : Jvm.MethodName) ∈ bm_ALL := bm_inA 2 (by decide +kernel) rfl
theorem wA_478 : Jvm.Cond.methodLink "CaseTables$Tokens" (75 : Nat) ({ cls := "CaseTables$Tokens", name := "isDigit", desc := "(I)Z" } : Jvm.MethodName) ∈ bm_ALL := bm_moA wT_478 rfl
theorem wA_479 : Jvm.Cond.static ({ cls := "CaseTables$Tokens", name := "isDigit", desc := "(I)Z" } : Jvm.MethodName) ∈ bm_ALL := bm_moA wT_479 rfl
theorem wA_487 : Jvm.Cond.methodLink "CaseTables$Tokens" (78 : Nat) ({ cls := "CaseTables$Tokens", name := "scanNumber", desc := "()V" } : Jvm.MethodName) ∈ bm_ALL := bm_moA wT_487 rfl
theorem wA_489 : Jvm.Cond.instanceMethod ({ cls := "CaseTables$Tokens", name := "scanNumber", desc := "()V" } : Jvm.MethodName) ∈ bm_ALL := bm_moA wT_489 rfl
theorem wA_4 : Jvm.Cond.selects "CaseTables$Tokens" ({ cls := "CaseTables$Tokens", name := "scanNumber", desc := "()V" } : Jvm.MethodName) ({ cls := "CaseTables$Tokens", name := "scanNumber", desc := "()V" } : Jvm.MethodName) ∈ bm_ALL := bm_inA 4 (by decide +kernel) rfl
theorem wA_493 : Jvm.Cond.methodLink "CaseTables$Tokens" (81 : Nat) ({ cls := "CaseTables$Tokens", name := "symbolKind", desc := "(I)I" } : Jvm.MethodName) ∈ bm_ALL := bm_moA wT_493 rfl
theorem wA_495 : Jvm.Cond.instanceMethod ({ cls := "CaseTables$Tokens", name := "symbolKind", desc := "(I)I" } : Jvm.MethodName) ∈ bm_ALL := bm_moA wT_495 rfl
theorem wA_5 : Jvm.Cond.selects "CaseTables$Tokens" ({ cls := "CaseTables$Tokens", name := "symbolKind", desc := "(I)I" } : Jvm.MethodName) ({ cls := "CaseTables$Tokens", name := "symbolKind", desc := "(I)I" } : Jvm.MethodName) ∈ bm_ALL := bm_inA 5 (by decide +kernel) rfl
theorem wA_457 : Jvm.Cond.methodLink "CaseTables$Tokens" (84 : Nat) ({ cls := "CaseTables$Tape", name := "length", desc := "()I" } : Jvm.MethodName) ∈ bm_ALL := bm_moA wT_457 rfl
theorem wA_458 : Jvm.Cond.instanceMethod ({ cls := "CaseTables$Tape", name := "length", desc := "()I" } : Jvm.MethodName) ∈ bm_ALL := bm_moA wT_458 rfl
theorem wA_459 : Jvm.Cond.selects "CaseTables$Tape" ({ cls := "CaseTables$Tape", name := "length", desc := "()I" } : Jvm.MethodName) ({ cls := "CaseTables$Tape", name := "length", desc := "()I" } : Jvm.MethodName) ∈ bm_ALL := bm_moA wT_459 rfl
theorem wA_465 : Jvm.Cond.methodLink "CaseTables$Tokens" (88 : Nat) ({ cls := "CaseTables$Tokens", name := "isBlank", desc := "(I)Z" } : Jvm.MethodName) ∈ bm_ALL := bm_moA wT_465 rfl
theorem wA_466 : Jvm.Cond.static ({ cls := "CaseTables$Tokens", name := "isBlank", desc := "(I)Z" } : Jvm.MethodName) ∈ bm_ALL := bm_moA wT_466 rfl
theorem wA_475 : Jvm.Cond.methodLink "CaseTables$Tokens" (91 : Nat) ({ cls := "CaseTables$Tokens", name := "isWordSign", desc := "(I)Z" } : Jvm.MethodName) ∈ bm_ALL := bm_moA wT_475 rfl
theorem wA_476 : Jvm.Cond.static ({ cls := "CaseTables$Tokens", name := "isWordSign", desc := "(I)Z" } : Jvm.MethodName) ∈ bm_ALL := bm_moA wT_476 rfl
theorem wA_481 : Jvm.Cond.methodLink "CaseTables$Tokens" (94 : Nat) ({ cls := "CaseTables$Tokens", name := "wordKind", desc := "()I" } : Jvm.MethodName) ∈ bm_ALL := bm_moA wT_481 rfl
theorem wA_483 : Jvm.Cond.instanceMethod ({ cls := "CaseTables$Tokens", name := "wordKind", desc := "()I" } : Jvm.MethodName) ∈ bm_ALL := bm_moA wT_483 rfl
theorem wA_3 : Jvm.Cond.selects "CaseTables$Tokens" ({ cls := "CaseTables$Tokens", name := "wordKind", desc := "()I" } : Jvm.MethodName) ({ cls := "CaseTables$Tokens", name := "wordKind", desc := "()I" } : Jvm.MethodName) ∈ bm_ALL := bm_inA 3 (by decide +kernel) rfl
theorem wN_485 : Jvm.Cond.fieldLinkNest "CaseTables$Tokens" (97 : Nat) "CaseTables" "KEYWORDS" "[J" "CaseTables" ∈ bm_NW := bm_moN wT_485 rfl
theorem wA_491 : Jvm.Cond.constantLong "CaseTables$Tokens" (100 : Nat) (10 : Int64) ∈ bm_ALL := bm_moA wT_491 rfl
theorem wA_492 : Jvm.Cond.constantLong "CaseTables$Tokens" (102 : Nat) (48 : Int64) ∈ bm_ALL := bm_moA wT_492 rfl
theorem wA_497 : Jvm.Cond.methodLink "CaseTables$Tokens" (104 : Nat) ({ cls := "CaseTables$Tokens", name := "follows", desc := "(I)Z" } : Jvm.MethodName) ∈ bm_ALL := bm_moA wT_497 rfl
theorem wA_499 : Jvm.Cond.instanceMethod ({ cls := "CaseTables$Tokens", name := "follows", desc := "(I)Z" } : Jvm.MethodName) ∈ bm_ALL := bm_moA wT_499 rfl
theorem wA_6 : Jvm.Cond.selects "CaseTables$Tokens" ({ cls := "CaseTables$Tokens", name := "follows", desc := "(I)Z" } : Jvm.MethodName) ({ cls := "CaseTables$Tokens", name := "follows", desc := "(I)Z" } : Jvm.MethodName) ∈ bm_ALL := bm_inA 6 (by decide +kernel) rfl
theorem wA_396 : Jvm.Cond.methodLink "CaseTables$Untried" (3 : Nat) ({ cls := "java/lang/Object", name := "<init>", desc := "()V" } : Jvm.MethodName) ∈ bm_ALL := bm_moA wT_396 rfl
theorem wA_397 : Jvm.Cond.fieldLink "CaseTables$Untried" (9 : Nat) "CaseTables$Untried" "firstSecond" "[J" ∈ bm_ALL := bm_moA wT_397 rfl
theorem wA_398 : Jvm.Cond.fieldLink "CaseTables$Untried" (15 : Nat) "CaseTables$Untried" "firstThird" "[J" ∈ bm_ALL := bm_moA wT_398 rfl
theorem wA_399 : Jvm.Cond.fieldLink "CaseTables$Untried" (18 : Nat) "CaseTables$Untried" "secondThird" "[J" ∈ bm_ALL := bm_moA wT_399 rfl
theorem wN_168 : Jvm.Cond.fieldLinkNest "CaseTables$Untried" (21 : Nat) "CaseTables$Fun" "ranges" "LCaseTables$Ranges;" "CaseTables" ∈ bm_NW := bm_moN wT_168 rfl
theorem wA_836 : Jvm.Cond.methodLink "CaseTables$Untried" (27 : Nat) ({ cls := "CaseTables$Ranges", name := "width", desc := "(I)I" } : Jvm.MethodName) ∈ bm_ALL := bm_moA wT_836 rfl
theorem wA_400 : Jvm.Cond.fieldLink "CaseTables$Untried" (33 : Nat) "CaseTables$Untried" "firstWidth" "I" ∈ bm_ALL := bm_moA wT_400 rfl
theorem wA_401 : Jvm.Cond.fieldLink "CaseTables$Untried" (37 : Nat) "CaseTables$Untried" "secondWidth" "I" ∈ bm_ALL := bm_moA wT_401 rfl
theorem wA_402 : Jvm.Cond.fieldLink "CaseTables$Untried" (40 : Nat) "CaseTables$Untried" "thirdWidth" "I" ∈ bm_ALL := bm_moA wT_402 rfl
theorem wN_178 : Jvm.Cond.fieldLinkNest "CaseTables$Untried" (43 : Nat) "CaseTables$Fun" "inputCount" "I" "CaseTables" ∈ bm_NW := bm_moN wT_178 rfl
theorem wA_837 : Jvm.Cond.methodLink "CaseTables$Untried" (46 : Nat) ({ cls := "CaseTables$Untried", name := "fill", desc := "([JII)V" } : Jvm.MethodName) ∈ bm_ALL := bm_moA wT_837 rfl
theorem wA_838 : Jvm.Cond.static ({ cls := "CaseTables$Untried", name := "fill", desc := "([JII)V" } : Jvm.MethodName) ∈ bm_ALL := bm_moA wT_838 rfl
theorem wN_262 : Jvm.Cond.fieldLinkNest "CaseTables$Untried" (50 : Nat) "CaseTables$Table" "rowCount" "I" "CaseTables" ∈ bm_NW := bm_moN wT_262 rfl
theorem wA_848 : Jvm.Cond.methodLink "CaseTables$Untried" (55 : Nat) ({ cls := "CaseTables$Table", name := "rowAt", desc := "(I)LCaseTables$Row;" } : Jvm.MethodName) ∈ bm_ALL := bm_moA wT_848 rfl
theorem wN_225 : Jvm.Cond.fieldLinkNest "CaseTables$Untried" (59 : Nat) "CaseTables$Row" "ranges" "LCaseTables$Ranges;" "CaseTables" ∈ bm_NW := bm_moN wT_225 rfl
theorem wA_849 : Jvm.Cond.methodLink "CaseTables$Untried" (62 : Nat) ({ cls := "CaseTables$Untried", name := "strike", desc := "([JLCaseTables$Ranges;LCaseTables$Ranges;II)V" } : Jvm.MethodName) ∈ bm_ALL := bm_moA wT_849 rfl
theorem wA_850 : Jvm.Cond.static ({ cls := "CaseTables$Untried", name := "strike", desc := "([JLCaseTables$Ranges;LCaseTables$Ranges;II)V" } : Jvm.MethodName) ∈ bm_ALL := bm_moA wT_850 rfl
theorem wA_859 : Jvm.Cond.methodLink "CaseTables$Untried" (66 : Nat) ({ cls := "CaseTables$Untried", name := "bits", desc := "([J)I" } : Jvm.MethodName) ∈ bm_ALL := bm_moA wT_859 rfl
theorem wA_860 : Jvm.Cond.static ({ cls := "CaseTables$Untried", name := "bits", desc := "([J)I" } : Jvm.MethodName) ∈ bm_ALL := bm_moA wT_860 rfl
theorem wA_876 : Jvm.Cond.methodLink "CaseTables$Untried" (70 : Nat) ({ cls := "CaseTables$Untried", name := "bestThird", desc := "(II)I" } : Jvm.MethodName) ∈ bm_ALL := bm_moA wT_876 rfl
theorem wA_878 : Jvm.Cond.instanceMethod ({ cls := "CaseTables$Untried", name := "bestThird", desc := "(II)I" } : Jvm.MethodName) ∈ bm_ALL := bm_moA wT_878 rfl
theorem wA_30 : Jvm.Cond.selects "CaseTables$Untried" ({ cls := "CaseTables$Untried", name := "bestThird", desc := "(II)I" } : Jvm.MethodName) ({ cls := "CaseTables$Untried", name := "bestThird", desc := "(II)I" } : Jvm.MethodName) ∈ bm_ALL := bm_inA 30 (by decide +kernel) rfl
theorem wA_886 : Jvm.Cond.methodLink "CaseTables$Untried" (74 : Nat) ({ cls := "CaseTables$Untried", name := "pairsIn", desc := "(III)I" } : Jvm.MethodName) ∈ bm_ALL := bm_moA wT_886 rfl
theorem wA_888 : Jvm.Cond.instanceMethod ({ cls := "CaseTables$Untried", name := "pairsIn", desc := "(III)I" } : Jvm.MethodName) ∈ bm_ALL := bm_moA wT_888 rfl
theorem wA_31 : Jvm.Cond.selects "CaseTables$Untried" ({ cls := "CaseTables$Untried", name := "pairsIn", desc := "(III)I" } : Jvm.MethodName) ({ cls := "CaseTables$Untried", name := "pairsIn", desc := "(III)I" } : Jvm.MethodName) ∈ bm_ALL := bm_inA 31 (by decide +kernel) rfl
theorem wA_880 : Jvm.Cond.methodLink "CaseTables$Untried" (78 : Nat) ({ cls := "CaseTables$Untried", name := "maskAt", desc := "([JI)J" } : Jvm.MethodName) ∈ bm_ALL := bm_moA wT_880 rfl
theorem wA_881 : Jvm.Cond.static ({ cls := "CaseTables$Untried", name := "maskAt", desc := "([JI)J" } : Jvm.MethodName) ∈ bm_ALL := bm_moA wT_881 rfl
theorem wA_883 : Jvm.Cond.methodLink "CaseTables$Untried" (82 : Nat) ({ cls := "CaseTables$Untried", name := "lowestBit", desc := "(J)I" } : Jvm.MethodName) ∈ bm_ALL := bm_moA wT_883 rfl
theorem wA_884 : Jvm.Cond.static ({ cls := "CaseTables$Untried", name := "lowestBit", desc := "(J)I" } : Jvm.MethodName) ∈ bm_ALL := bm_moA wT_884 rfl
theorem wA_890 : Jvm.Cond.methodLink "CaseTables$Untried" (86 : Nat) ({ cls := "CaseTables$Untried", name := "bitAt", desc := "([JII)I" } : Jvm.MethodName) ∈ bm_ALL := bm_moA wT_890 rfl
theorem wA_891 : Jvm.Cond.static ({ cls := "CaseTables$Untried", name := "bitAt", desc := "([JII)I" } : Jvm.MethodName) ∈ bm_ALL := bm_moA wT_891 rfl
theorem wA_840 : Jvm.Cond.methodLink "CaseTables$Untried" (90 : Nat) ({ cls := "CaseTables$Untried", name := "upTo", desc := "(I)J" } : Jvm.MethodName) ∈ bm_ALL := bm_moA wT_840 rfl
theorem wA_841 : Jvm.Cond.static ({ cls := "CaseTables$Untried", name := "upTo", desc := "(I)J" } : Jvm.MethodName) ∈ bm_ALL := bm_moA wT_841 rfl
theorem wA_852 : Jvm.Cond.methodLink "CaseTables$Untried" (94 : Nat) ({ cls := "CaseTables$Ranges", name := "high", desc := "(I)I" } : Jvm.MethodName) ∈ bm_ALL := bm_moA wT_852 rfl
theorem wA_853 : Jvm.Cond.methodLink "CaseTables$Untried" (97 : Nat) ({ cls := "CaseTables$Ranges", name := "low", desc := "(I)I" } : Jvm.MethodName) ∈ bm_ALL := bm_moA wT_853 rfl
theorem wA_854 : Jvm.Cond.constantLong "CaseTables$Untried" (100 : Nat) (-1 : Int64) ∈ bm_ALL := bm_moA wT_854 rfl
theorem wA_862 : Jvm.Cond.methodLink "CaseTables$Untried" (102 : Nat) ({ cls := "java/lang/Long", name := "bitCount", desc := "(J)I" } : Jvm.MethodName) ∈ bm_ALL := bm_moA wT_862 rfl
theorem wA_863 : Jvm.Cond.static ({ cls := "java/lang/Long", name := "bitCount", desc := "(J)I" } : Jvm.MethodName) ∈ bm_ALL := bm_moA wT_863 rfl
theorem wA_77 : Jvm.Cond.methodLink "CaseTables" (3 : Nat) ({ cls := "java/lang/Object", name := "<init>", desc := "()V" } : Jvm.MethodName) ∈ bm_ALL := bm_moA wT_77 rfl
theorem wA_80 : Jvm.Cond.classLink "CaseTables" (9 : Nat) "CaseTables$Tape" ∈ bm_ALL := bm_moA wT_80 rfl
theorem wA_81 : Jvm.Cond.instantiable "CaseTables$Tape" (2 : Nat) ∈ bm_ALL := bm_moA wT_81 rfl
theorem wA_49 : Jvm.Cond.initialized "CaseTables$Tape" ∈ bm_ALL := bm_moA wT_49 rfl
theorem wN_82 : Jvm.Cond.methodLinkNest "CaseTables" (11 : Nat) ({ cls := "CaseTables$Tape", name := "<init>", desc := "()V" } : Jvm.MethodName) "CaseTables" ∈ bm_NW := bm_moN wT_82 rfl
theorem wA_83 : Jvm.Cond.instanceMethod ({ cls := "CaseTables$Tape", name := "<init>", desc := "()V" } : Jvm.MethodName) ∈ bm_ALL := bm_moA wT_83 rfl
theorem wA_416 : Jvm.Cond.fieldLink "CaseTables" (12 : Nat) "CaseTables" "tape" "LCaseTables$Tape;" ∈ bm_ALL := bm_moA wT_416 rfl
theorem wA_94 : Jvm.Cond.classLink "CaseTables" (16 : Nat) "CaseTables$Tokens" ∈ bm_ALL := bm_moA wT_94 rfl
theorem wA_95 : Jvm.Cond.instantiable "CaseTables$Tokens" (11 : Nat) ∈ bm_ALL := bm_moA wT_95 rfl
theorem wA_50 : Jvm.Cond.initialized "CaseTables$Tokens" ∈ bm_ALL := bm_moA wT_50 rfl
theorem wA_96 : Jvm.Cond.methodLink "CaseTables" (18 : Nat) ({ cls := "CaseTables$Tokens", name := "<init>", desc := "(LCaseTables$Tape;)V" } : Jvm.MethodName) ∈ bm_ALL := bm_moA wT_96 rfl
theorem wA_97 : Jvm.Cond.instanceMethod ({ cls := "CaseTables$Tokens", name := "<init>", desc := "(LCaseTables$Tape;)V" } : Jvm.MethodName) ∈ bm_ALL := bm_moA wT_97 rfl
theorem wA_417 : Jvm.Cond.fieldLink "CaseTables" (21 : Nat) "CaseTables" "tokens" "LCaseTables$Tokens;" ∈ bm_ALL := bm_moA wT_417 rfl
theorem wA_138 : Jvm.Cond.classLink "CaseTables" (25 : Nat) "CaseTables$Program" ∈ bm_ALL := bm_moA wT_138 rfl
theorem wA_139 : Jvm.Cond.instantiable "CaseTables$Program" (7 : Nat) ∈ bm_ALL := bm_moA wT_139 rfl
theorem wA_51 : Jvm.Cond.initialized "CaseTables$Program" ∈ bm_ALL := bm_moA wT_51 rfl
theorem wA_140 : Jvm.Cond.methodLink "CaseTables" (27 : Nat) ({ cls := "CaseTables$Program", name := "<init>", desc := "()V" } : Jvm.MethodName) ∈ bm_ALL := bm_moA wT_140 rfl
theorem wA_141 : Jvm.Cond.instanceMethod ({ cls := "CaseTables$Program", name := "<init>", desc := "()V" } : Jvm.MethodName) ∈ bm_ALL := bm_moA wT_141 rfl
theorem wA_418 : Jvm.Cond.fieldLink "CaseTables" (28 : Nat) "CaseTables" "program" "LCaseTables$Program;" ∈ bm_ALL := bm_moA wT_418 rfl
theorem wA_314 : Jvm.Cond.classLink "CaseTables" (32 : Nat) "CaseTables$Compiler" ∈ bm_ALL := bm_moA wT_314 rfl
theorem wA_315 : Jvm.Cond.instantiable "CaseTables$Compiler" (6 : Nat) ∈ bm_ALL := bm_moA wT_315 rfl
theorem wA_56 : Jvm.Cond.initialized "CaseTables$Compiler" ∈ bm_ALL := bm_moA wT_56 rfl
theorem wA_316 : Jvm.Cond.methodLink "CaseTables" (34 : Nat) ({ cls := "CaseTables$Compiler", name := "<init>", desc := "(LCaseTables$Tokens;LCaseTables$Program;)V" } : Jvm.MethodName) ∈ bm_ALL := bm_moA wT_316 rfl
theorem wA_317 : Jvm.Cond.instanceMethod ({ cls := "CaseTables$Compiler", name := "<init>", desc := "(LCaseTables$Tokens;LCaseTables$Program;)V" } : Jvm.MethodName) ∈ bm_ALL := bm_moA wT_317 rfl
theorem wA_419 : Jvm.Cond.fieldLink "CaseTables" (37 : Nat) "CaseTables" "compiler" "LCaseTables$Compiler;" ∈ bm_ALL := bm_moA wT_419 rfl
theorem wA_347 : Jvm.Cond.classLink "CaseTables" (41 : Nat) "CaseTables$Machine" ∈ bm_ALL := bm_moA wT_347 rfl
theorem wA_348 : Jvm.Cond.instantiable "CaseTables$Machine" (7 : Nat) ∈ bm_ALL := bm_moA wT_348 rfl
theorem wA_57 : Jvm.Cond.initialized "CaseTables$Machine" ∈ bm_ALL := bm_moA wT_57 rfl
theorem wA_349 : Jvm.Cond.methodLink "CaseTables" (43 : Nat) ({ cls := "CaseTables$Machine", name := "<init>", desc := "(LCaseTables$Program;)V" } : Jvm.MethodName) ∈ bm_ALL := bm_moA wT_349 rfl
theorem wA_350 : Jvm.Cond.instanceMethod ({ cls := "CaseTables$Machine", name := "<init>", desc := "(LCaseTables$Program;)V" } : Jvm.MethodName) ∈ bm_ALL := bm_moA wT_350 rfl
theorem wA_420 : Jvm.Cond.fieldLink "CaseTables" (46 : Nat) "CaseTables" "machine" "LCaseTables$Machine;" ∈ bm_ALL := bm_moA wT_420 rfl
theorem wA_375 : Jvm.Cond.classLink "CaseTables" (50 : Nat) "CaseTables$Runner" ∈ bm_ALL := bm_moA wT_375 rfl
theorem wA_376 : Jvm.Cond.instantiable "CaseTables$Runner" (3 : Nat) ∈ bm_ALL := bm_moA wT_376 rfl
theorem wA_58 : Jvm.Cond.initialized "CaseTables$Runner" ∈ bm_ALL := bm_moA wT_58 rfl
theorem wA_377 : Jvm.Cond.methodLink "CaseTables" (52 : Nat) ({ cls := "CaseTables$Runner", name := "<init>", desc := "(LCaseTables$Program;LCaseTables$Machine;)V" } : Jvm.MethodName) ∈ bm_ALL := bm_moA wT_377 rfl
theorem wA_378 : Jvm.Cond.instanceMethod ({ cls := "CaseTables$Runner", name := "<init>", desc := "(LCaseTables$Program;LCaseTables$Machine;)V" } : Jvm.MethodName) ∈ bm_ALL := bm_moA wT_378 rfl
theorem wA_421 : Jvm.Cond.fieldLink "CaseTables" (55 : Nat) "CaseTables" "runner" "LCaseTables$Runner;" ∈ bm_ALL := bm_moA wT_421 rfl
theorem wA_391 : Jvm.Cond.classLink "CaseTables" (59 : Nat) "CaseTables$Untried" ∈ bm_ALL := bm_moA wT_391 rfl
theorem wA_392 : Jvm.Cond.instantiable "CaseTables$Untried" (6 : Nat) ∈ bm_ALL := bm_moA wT_392 rfl
theorem wA_59 : Jvm.Cond.initialized "CaseTables$Untried" ∈ bm_ALL := bm_moA wT_59 rfl
theorem wN_393 : Jvm.Cond.methodLinkNest "CaseTables" (61 : Nat) ({ cls := "CaseTables$Untried", name := "<init>", desc := "()V" } : Jvm.MethodName) "CaseTables" ∈ bm_NW := bm_moN wT_393 rfl
theorem wA_394 : Jvm.Cond.instanceMethod ({ cls := "CaseTables$Untried", name := "<init>", desc := "()V" } : Jvm.MethodName) ∈ bm_ALL := bm_moA wT_394 rfl
theorem wA_422 : Jvm.Cond.fieldLink "CaseTables" (62 : Nat) "CaseTables" "untried" "LCaseTables$Untried;" ∈ bm_ALL := bm_moA wT_422 rfl
theorem wA_423 : Jvm.Cond.fieldLink "CaseTables" (66 : Nat) "CaseTables" "latestErrorAt" "I" ∈ bm_ALL := bm_moA wT_423 rfl
theorem wA_1182 : Jvm.Cond.methodLink "CaseTables" (70 : Nat) ({ cls := "CaseTables$Tape", name := "room", desc := "()I" } : Jvm.MethodName) ∈ bm_ALL := bm_moA wT_1182 rfl
theorem wA_1183 : Jvm.Cond.instanceMethod ({ cls := "CaseTables$Tape", name := "room", desc := "()I" } : Jvm.MethodName) ∈ bm_ALL := bm_moA wT_1183 rfl
theorem wA_1184 : Jvm.Cond.selects "CaseTables$Tape" ({ cls := "CaseTables$Tape", name := "room", desc := "()I" } : Jvm.MethodName) ({ cls := "CaseTables$Tape", name := "room", desc := "()I" } : Jvm.MethodName) ∈ bm_ALL := bm_moA wT_1184 rfl
theorem wA_1051 : Jvm.Cond.classLink "CaseTables" (74 : Nat) "java/lang/IllegalStateException" ∈ bm_ALL := bm_moA wT_1051 rfl
theorem wA_68 : Jvm.Cond.initialized "java/lang/IllegalStateException" ∈ bm_ALL := bm_moA wT_68 rfl
theorem wA_1186 : Jvm.Cond.methodLink "CaseTables" (77 : Nat) ({ cls := "CaseTables$Tape", name := "append", desc := "(I)V" } : Jvm.MethodName) ∈ bm_ALL := bm_moA wT_1186 rfl
theorem wA_1187 : Jvm.Cond.instanceMethod ({ cls := "CaseTables$Tape", name := "append", desc := "(I)V" } : Jvm.MethodName) ∈ bm_ALL := bm_moA wT_1187 rfl
theorem wA_1188 : Jvm.Cond.selects "CaseTables$Tape" ({ cls := "CaseTables$Tape", name := "append", desc := "(I)V" } : Jvm.MethodName) ({ cls := "CaseTables$Tape", name := "append", desc := "(I)V" } : Jvm.MethodName) ∈ bm_ALL := bm_moA wT_1188 rfl
theorem wA_1100 : Jvm.Cond.methodLink "CaseTables" (81 : Nat) ({ cls := "CaseTables$Tape", name := "length", desc := "()I" } : Jvm.MethodName) ∈ bm_ALL := bm_moA wT_1100 rfl
theorem wA_1194 : Jvm.Cond.classLink "CaseTables" (84 : Nat) "java/lang/IllegalArgumentException" ∈ bm_ALL := bm_moA wT_1194 rfl
theorem wA_69 : Jvm.Cond.initialized "java/lang/IllegalArgumentException" ∈ bm_ALL := bm_moA wT_69 rfl
theorem wA_739 : Jvm.Cond.methodLink "CaseTables" (87 : Nat) ({ cls := "CaseTables$Tape", name := "cutTo", desc := "(I)V" } : Jvm.MethodName) ∈ bm_ALL := bm_moA wT_739 rfl
theorem wA_740 : Jvm.Cond.instanceMethod ({ cls := "CaseTables$Tape", name := "cutTo", desc := "(I)V" } : Jvm.MethodName) ∈ bm_ALL := bm_moA wT_740 rfl
theorem wA_741 : Jvm.Cond.selects "CaseTables$Tape" ({ cls := "CaseTables$Tape", name := "cutTo", desc := "(I)V" } : Jvm.MethodName) ({ cls := "CaseTables$Tape", name := "cutTo", desc := "(I)V" } : Jvm.MethodName) ∈ bm_ALL := bm_moA wT_741 rfl
theorem wA_445 : Jvm.Cond.methodLink "CaseTables" (90 : Nat) ({ cls := "CaseTables$Tokens", name := "scan", desc := "()V" } : Jvm.MethodName) ∈ bm_ALL := bm_moA wT_445 rfl
theorem wA_446 : Jvm.Cond.instanceMethod ({ cls := "CaseTables$Tokens", name := "scan", desc := "()V" } : Jvm.MethodName) ∈ bm_ALL := bm_moA wT_446 rfl
theorem wA_447 : Jvm.Cond.selects "CaseTables$Tokens" ({ cls := "CaseTables$Tokens", name := "scan", desc := "()V" } : Jvm.MethodName) ({ cls := "CaseTables$Tokens", name := "scan", desc := "()V" } : Jvm.MethodName) ∈ bm_ALL := bm_moA wT_447 rfl
theorem wA_501 : Jvm.Cond.methodLink "CaseTables" (93 : Nat) ({ cls := "CaseTables$Compiler", name := "translate", desc := "()I" } : Jvm.MethodName) ∈ bm_ALL := bm_moA wT_501 rfl
theorem wA_502 : Jvm.Cond.instanceMethod ({ cls := "CaseTables$Compiler", name := "translate", desc := "()I" } : Jvm.MethodName) ∈ bm_ALL := bm_moA wT_502 rfl
theorem wA_503 : Jvm.Cond.selects "CaseTables$Compiler" ({ cls := "CaseTables$Compiler", name := "translate", desc := "()I" } : Jvm.MethodName) ({ cls := "CaseTables$Compiler", name := "translate", desc := "()I" } : Jvm.MethodName) ∈ bm_ALL := bm_moA wT_503 rfl
theorem wA_731 : Jvm.Cond.methodLink "CaseTables" (96 : Nat) ({ cls := "CaseTables$Compiler", name := "errorPlace", desc := "()I" } : Jvm.MethodName) ∈ bm_ALL := bm_moA wT_731 rfl
theorem wA_732 : Jvm.Cond.instanceMethod ({ cls := "CaseTables$Compiler", name := "errorPlace", desc := "()I" } : Jvm.MethodName) ∈ bm_ALL := bm_moA wT_732 rfl
theorem wA_733 : Jvm.Cond.selects "CaseTables$Compiler" ({ cls := "CaseTables$Compiler", name := "errorPlace", desc := "()I" } : Jvm.MethodName) ({ cls := "CaseTables$Compiler", name := "errorPlace", desc := "()I" } : Jvm.MethodName) ∈ bm_ALL := bm_moA wT_733 rfl
theorem wA_735 : Jvm.Cond.methodLink "CaseTables" (99 : Nat) ({ cls := "CaseTables$Runner", name := "forget", desc := "()V" } : Jvm.MethodName) ∈ bm_ALL := bm_moA wT_735 rfl
theorem wA_736 : Jvm.Cond.instanceMethod ({ cls := "CaseTables$Runner", name := "forget", desc := "()V" } : Jvm.MethodName) ∈ bm_ALL := bm_moA wT_736 rfl
theorem wA_737 : Jvm.Cond.selects "CaseTables$Runner" ({ cls := "CaseTables$Runner", name := "forget", desc := "()V" } : Jvm.MethodName) ({ cls := "CaseTables$Runner", name := "forget", desc := "()V" } : Jvm.MethodName) ∈ bm_ALL := bm_moA wT_737 rfl
theorem wN_291 : Jvm.Cond.fieldLinkNest "CaseTables" (102 : Nat) "CaseTables$Program" "funCount" "I" "CaseTables" ∈ bm_NW := bm_moN wT_291 rfl
theorem wN_295 : Jvm.Cond.fieldLinkNest "CaseTables" (105 : Nat) "CaseTables$Program" "tableCount" "I" "CaseTables" ∈ bm_NW := bm_moN wT_295 rfl
theorem wN_298 : Jvm.Cond.fieldLinkNest "CaseTables" (108 : Nat) "CaseTables$Program" "ifCount" "I" "CaseTables" ∈ bm_NW := bm_moN wT_298 rfl
theorem wA_1096 : Jvm.Cond.methodLink "CaseTables" (111 : Nat) ({ cls := "CaseTables$Program", name := "caseCount", desc := "()I" } : Jvm.MethodName) ∈ bm_ALL := bm_moA wT_1096 rfl
theorem wA_1097 : Jvm.Cond.instanceMethod ({ cls := "CaseTables$Program", name := "caseCount", desc := "()I" } : Jvm.MethodName) ∈ bm_ALL := bm_moA wT_1097 rfl
theorem wA_1098 : Jvm.Cond.selects "CaseTables$Program" ({ cls := "CaseTables$Program", name := "caseCount", desc := "()I" } : Jvm.MethodName) ({ cls := "CaseTables$Program", name := "caseCount", desc := "()I" } : Jvm.MethodName) ∈ bm_ALL := bm_moA wT_1098 rfl
theorem wA_754 : Jvm.Cond.classLink "CaseTables" (114 : Nat) "java/lang/IndexOutOfBoundsException" ∈ bm_ALL := bm_moA wT_754 rfl
theorem wA_67 : Jvm.Cond.initialized "java/lang/IndexOutOfBoundsException" ∈ bm_ALL := bm_moA wT_67 rfl
theorem wA_747 : Jvm.Cond.methodLink "CaseTables" (117 : Nat) ({ cls := "CaseTables", name := "existingFun", desc := "(I)LCaseTables$Fun;" } : Jvm.MethodName) ∈ bm_ALL := bm_moA wT_747 rfl
theorem wA_749 : Jvm.Cond.instanceMethod ({ cls := "CaseTables", name := "existingFun", desc := "(I)LCaseTables$Fun;" } : Jvm.MethodName) ∈ bm_ALL := bm_moA wT_749 rfl
theorem wA_27 : Jvm.Cond.selects "CaseTables" ({ cls := "CaseTables", name := "existingFun", desc := "(I)LCaseTables$Fun;" } : Jvm.MethodName) ({ cls := "CaseTables", name := "existingFun", desc := "(I)LCaseTables$Fun;" } : Jvm.MethodName) ∈ bm_ALL := bm_inA 27 (by decide +kernel) rfl
theorem wN_179 : Jvm.Cond.fieldLinkNest "CaseTables" (121 : Nat) "CaseTables$Fun" "inputCount" "I" "CaseTables" ∈ bm_NW := bm_moN wT_179 rfl
theorem wN_186 : Jvm.Cond.fieldLinkNest "CaseTables" (126 : Nat) "CaseTables$Fun" "placeCount" "I" "CaseTables" ∈ bm_NW := bm_moN wT_186 rfl
theorem wA_818 : Jvm.Cond.methodLink "CaseTables" (129 : Nat) ({ cls := "CaseTables$Program", name := "tablesOf", desc := "(I)I" } : Jvm.MethodName) ∈ bm_ALL := bm_moA wT_818 rfl
theorem wA_819 : Jvm.Cond.instanceMethod ({ cls := "CaseTables$Program", name := "tablesOf", desc := "(I)I" } : Jvm.MethodName) ∈ bm_ALL := bm_moA wT_819 rfl
theorem wA_820 : Jvm.Cond.selects "CaseTables$Program" ({ cls := "CaseTables$Program", name := "tablesOf", desc := "(I)I" } : Jvm.MethodName) ({ cls := "CaseTables$Program", name := "tablesOf", desc := "(I)I" } : Jvm.MethodName) ∈ bm_ALL := bm_moA wT_820 rfl
theorem wN_169 : Jvm.Cond.fieldLinkNest "CaseTables" (133 : Nat) "CaseTables$Fun" "ranges" "LCaseTables$Ranges;" "CaseTables" ∈ bm_NW := bm_moN wT_169 rfl
theorem wA_822 : Jvm.Cond.methodLink "CaseTables" (137 : Nat) ({ cls := "CaseTables$Ranges", name := "rowCount", desc := "()I" } : Jvm.MethodName) ∈ bm_ALL := bm_moA wT_822 rfl
theorem wA_823 : Jvm.Cond.methodLink "CaseTables" (142 : Nat) ({ cls := "CaseTables$Fun", name := "pairCount", desc := "()I" } : Jvm.MethodName) ∈ bm_ALL := bm_moA wT_823 rfl
theorem wA_824 : Jvm.Cond.instanceMethod ({ cls := "CaseTables$Fun", name := "pairCount", desc := "()I" } : Jvm.MethodName) ∈ bm_ALL := bm_moA wT_824 rfl
theorem wA_825 : Jvm.Cond.selects "CaseTables$Fun" ({ cls := "CaseTables$Fun", name := "pairCount", desc := "()I" } : Jvm.MethodName) ({ cls := "CaseTables$Fun", name := "pairCount", desc := "()I" } : Jvm.MethodName) ∈ bm_ALL := bm_moA wT_825 rfl
theorem wA_828 : Jvm.Cond.methodLink "CaseTables" (145 : Nat) ({ cls := "CaseTables", name := "findUntried", desc := "(I)V" } : Jvm.MethodName) ∈ bm_ALL := bm_moA wT_828 rfl
theorem wA_830 : Jvm.Cond.instanceMethod ({ cls := "CaseTables", name := "findUntried", desc := "(I)V" } : Jvm.MethodName) ∈ bm_ALL := bm_moA wT_830 rfl
theorem wA_29 : Jvm.Cond.selects "CaseTables" ({ cls := "CaseTables", name := "findUntried", desc := "(I)V" } : Jvm.MethodName) ({ cls := "CaseTables", name := "findUntried", desc := "(I)V" } : Jvm.MethodName) ∈ bm_ALL := bm_inA 29 (by decide +kernel) rfl
theorem wA_855 : Jvm.Cond.methodLink "CaseTables" (148 : Nat) ({ cls := "CaseTables$Untried", name := "pairCount", desc := "()I" } : Jvm.MethodName) ∈ bm_ALL := bm_moA wT_855 rfl
theorem wA_856 : Jvm.Cond.instanceMethod ({ cls := "CaseTables$Untried", name := "pairCount", desc := "()I" } : Jvm.MethodName) ∈ bm_ALL := bm_moA wT_856 rfl
theorem wA_857 : Jvm.Cond.selects "CaseTables$Untried" ({ cls := "CaseTables$Untried", name := "pairCount", desc := "()I" } : Jvm.MethodName) ({ cls := "CaseTables$Untried", name := "pairCount", desc := "()I" } : Jvm.MethodName) ∈ bm_ALL := bm_moA wT_857 rfl
theorem wA_872 : Jvm.Cond.methodLink "CaseTables" (161 : Nat) ({ cls := "CaseTables$Untried", name := "bestRow", desc := "()I" } : Jvm.MethodName) ∈ bm_ALL := bm_moA wT_872 rfl
theorem wA_873 : Jvm.Cond.instanceMethod ({ cls := "CaseTables$Untried", name := "bestRow", desc := "()I" } : Jvm.MethodName) ∈ bm_ALL := bm_moA wT_873 rfl
theorem wA_874 : Jvm.Cond.selects "CaseTables$Untried" ({ cls := "CaseTables$Untried", name := "bestRow", desc := "()I" } : Jvm.MethodName) ({ cls := "CaseTables$Untried", name := "bestRow", desc := "()I" } : Jvm.MethodName) ∈ bm_ALL := bm_moA wT_874 rfl
theorem wA_897 : Jvm.Cond.methodLink "CaseTables" (164 : Nat) ({ cls := "CaseTables", name := "existingTable", desc := "(I)LCaseTables$Table;" } : Jvm.MethodName) ∈ bm_ALL := bm_moA wT_897 rfl
theorem wA_899 : Jvm.Cond.instanceMethod ({ cls := "CaseTables", name := "existingTable", desc := "(I)LCaseTables$Table;" } : Jvm.MethodName) ∈ bm_ALL := bm_moA wT_899 rfl
theorem wA_32 : Jvm.Cond.selects "CaseTables" ({ cls := "CaseTables", name := "existingTable", desc := "(I)LCaseTables$Table;" } : Jvm.MethodName) ({ cls := "CaseTables", name := "existingTable", desc := "(I)LCaseTables$Table;" } : Jvm.MethodName) ∈ bm_ALL := bm_inA 32 (by decide +kernel) rfl
theorem wA_751 : Jvm.Cond.methodLink "CaseTables" (153 : Nat) ({ cls := "CaseTables", name := "requireBelow", desc := "(II)V" } : Jvm.MethodName) ∈ bm_ALL := bm_moA wT_751 rfl
theorem wA_752 : Jvm.Cond.static ({ cls := "CaseTables", name := "requireBelow", desc := "(II)V" } : Jvm.MethodName) ∈ bm_ALL := bm_moA wT_752 rfl
theorem wA_901 : Jvm.Cond.methodLink "CaseTables" (168 : Nat) ({ cls := "CaseTables$Runner", name := "refresh", desc := "()V" } : Jvm.MethodName) ∈ bm_ALL := bm_moA wT_901 rfl
theorem wA_902 : Jvm.Cond.instanceMethod ({ cls := "CaseTables$Runner", name := "refresh", desc := "()V" } : Jvm.MethodName) ∈ bm_ALL := bm_moA wT_902 rfl
theorem wA_903 : Jvm.Cond.selects "CaseTables$Runner" ({ cls := "CaseTables$Runner", name := "refresh", desc := "()V" } : Jvm.MethodName) ({ cls := "CaseTables$Runner", name := "refresh", desc := "()V" } : Jvm.MethodName) ∈ bm_ALL := bm_moA wT_903 rfl
theorem wA_1000 : Jvm.Cond.methodLink "CaseTables" (171 : Nat) ({ cls := "CaseTables$Table", name := "tell", desc := "(I)I" } : Jvm.MethodName) ∈ bm_ALL := bm_moA wT_1000 rfl
theorem wA_1001 : Jvm.Cond.instanceMethod ({ cls := "CaseTables$Table", name := "tell", desc := "(I)I" } : Jvm.MethodName) ∈ bm_ALL := bm_moA wT_1001 rfl
theorem wA_1002 : Jvm.Cond.selects "CaseTables$Table" ({ cls := "CaseTables$Table", name := "tell", desc := "(I)I" } : Jvm.MethodName) ({ cls := "CaseTables$Table", name := "tell", desc := "(I)I" } : Jvm.MethodName) ∈ bm_ALL := bm_moA wT_1002 rfl
theorem wN_269 : Jvm.Cond.fieldLinkNest "CaseTables" (176 : Nat) "CaseTables$Table" "caseCount" "I" "CaseTables" ∈ bm_NW := bm_moN wT_269 rfl
theorem wA_1020 : Jvm.Cond.methodLink "CaseTables" (185 : Nat) ({ cls := "CaseTables$Table", name := "isHolding", desc := "(I)Z" } : Jvm.MethodName) ∈ bm_ALL := bm_moA wT_1020 rfl
theorem wA_1025 : Jvm.Cond.methodLink "CaseTables" (189 : Nat) ({ cls := "CaseTables$Machine", name := "branchCount", desc := "(IZ)I" } : Jvm.MethodName) ∈ bm_ALL := bm_moA wT_1025 rfl
theorem wA_1026 : Jvm.Cond.instanceMethod ({ cls := "CaseTables$Machine", name := "branchCount", desc := "(IZ)I" } : Jvm.MethodName) ∈ bm_ALL := bm_moA wT_1026 rfl
theorem wA_1027 : Jvm.Cond.selects "CaseTables$Machine" ({ cls := "CaseTables$Machine", name := "branchCount", desc := "(IZ)I" } : Jvm.MethodName) ({ cls := "CaseTables$Machine", name := "branchCount", desc := "(IZ)I" } : Jvm.MethodName) ∈ bm_ALL := bm_moA wT_1027 rfl
theorem wN_260 : Jvm.Cond.fieldLinkNest "CaseTables" (178 : Nat) "CaseTables$Table" "fun" "I" "CaseTables" ∈ bm_NW := bm_moN wT_260 rfl
theorem wA_817 : Jvm.Cond.methodLink "CaseTables" (181 : Nat) ({ cls := "CaseTables$Program", name := "funAt", desc := "(I)LCaseTables$Fun;" } : Jvm.MethodName) ∈ bm_ALL := bm_moA wT_817 rfl
theorem wA_1033 : Jvm.Cond.methodLink "CaseTables" (193 : Nat) ({ cls := "CaseTables$Runner", name := "changesFound", desc := "(LCaseTables$Table;LCaseTables$Row;)J" } : Jvm.MethodName) ∈ bm_ALL := bm_moA wT_1033 rfl
theorem wA_1034 : Jvm.Cond.instanceMethod ({ cls := "CaseTables$Runner", name := "changesFound", desc := "(LCaseTables$Table;LCaseTables$Row;)J" } : Jvm.MethodName) ∈ bm_ALL := bm_moA wT_1034 rfl
theorem wA_1035 : Jvm.Cond.selects "CaseTables$Runner" ({ cls := "CaseTables$Runner", name := "changesFound", desc := "(LCaseTables$Table;LCaseTables$Row;)J" } : Jvm.MethodName) ({ cls := "CaseTables$Runner", name := "changesFound", desc := "(LCaseTables$Table;LCaseTables$Row;)J" } : Jvm.MethodName) ∈ bm_ALL := bm_moA wT_1035 rfl
theorem wA_1046 : Jvm.Cond.methodLink "CaseTables" (197 : Nat) ({ cls := "java/lang/Long", name := "bitCount", desc := "(J)I" } : Jvm.MethodName) ∈ bm_ALL := bm_moA wT_1046 rfl
theorem wN_265 : Jvm.Cond.fieldLinkNest "CaseTables" (203 : Nat) "CaseTables$Table" "rowCount" "I" "CaseTables" ∈ bm_NW := bm_moN wT_265 rfl
theorem wA_1066 : Jvm.Cond.methodLink "CaseTables" (205 : Nat) ({ cls := "CaseTables", name := "addCase", desc := "(LCaseTables$Table;I)V" } : Jvm.MethodName) ∈ bm_ALL := bm_moA wT_1066 rfl
theorem wA_1068 : Jvm.Cond.instanceMethod ({ cls := "CaseTables", name := "addCase", desc := "(LCaseTables$Table;I)V" } : Jvm.MethodName) ∈ bm_ALL := bm_moA wT_1068 rfl
theorem wA_45 : Jvm.Cond.selects "CaseTables" ({ cls := "CaseTables", name := "addCase", desc := "(LCaseTables$Table;I)V" } : Jvm.MethodName) ({ cls := "CaseTables", name := "addCase", desc := "(LCaseTables$Table;I)V" } : Jvm.MethodName) ∈ bm_ALL := bm_inA 45 (by decide +kernel) rfl
theorem wA_1081 : Jvm.Cond.methodLink "CaseTables" (209 : Nat) ({ cls := "CaseTables$Table", name := "rowAt", desc := "(I)LCaseTables$Row;" } : Jvm.MethodName) ∈ bm_ALL := bm_moA wT_1081 rfl
theorem wA_1082 : Jvm.Cond.methodLink "CaseTables" (213 : Nat) ({ cls := "CaseTables$Table", name := "drop", desc := "(I)V" } : Jvm.MethodName) ∈ bm_ALL := bm_moA wT_1082 rfl
theorem wA_1083 : Jvm.Cond.instanceMethod ({ cls := "CaseTables$Table", name := "drop", desc := "(I)V" } : Jvm.MethodName) ∈ bm_ALL := bm_moA wT_1083 rfl
theorem wA_1084 : Jvm.Cond.selects "CaseTables$Table" ({ cls := "CaseTables$Table", name := "drop", desc := "(I)V" } : Jvm.MethodName) ({ cls := "CaseTables$Table", name := "drop", desc := "(I)V" } : Jvm.MethodName) ∈ bm_ALL := bm_moA wT_1084 rfl
theorem wA_1090 : Jvm.Cond.constantLong "CaseTables" (216 : Nat) (373 : Int64) ∈ bm_ALL := bm_moA wT_1090 rfl
theorem wA_1091 : Jvm.Cond.constantLong "CaseTables" (218 : Nat) (31 : Int64) ∈ bm_ALL := bm_moA wT_1091 rfl
theorem wA_1092 : Jvm.Cond.methodLink "CaseTables" (220 : Nat) ({ cls := "CaseTables", name := "count", desc := "(I)I" } : Jvm.MethodName) ∈ bm_ALL := bm_moA wT_1092 rfl
theorem wA_1093 : Jvm.Cond.instanceMethod ({ cls := "CaseTables", name := "count", desc := "(I)I" } : Jvm.MethodName) ∈ bm_ALL := bm_moA wT_1093 rfl
theorem wA_1094 : Jvm.Cond.selects "CaseTables" ({ cls := "CaseTables", name := "count", desc := "(I)I" } : Jvm.MethodName) ({ cls := "CaseTables", name := "count", desc := "(I)I" } : Jvm.MethodName) ∈ bm_ALL := bm_moA wT_1094 rfl
theorem wA_1101 : Jvm.Cond.methodLink "CaseTables" (223 : Nat) ({ cls := "CaseTables", name := "fun", desc := "(II)I" } : Jvm.MethodName) ∈ bm_ALL := bm_moA wT_1101 rfl
theorem wA_744 : Jvm.Cond.instanceMethod ({ cls := "CaseTables", name := "fun", desc := "(II)I" } : Jvm.MethodName) ∈ bm_ALL := bm_moA wT_744 rfl
theorem wA_745 : Jvm.Cond.selects "CaseTables" ({ cls := "CaseTables", name := "fun", desc := "(II)I" } : Jvm.MethodName) ({ cls := "CaseTables", name := "fun", desc := "(II)I" } : Jvm.MethodName) ∈ bm_ALL := bm_moA wT_745 rfl
theorem wA_843 : Jvm.Cond.methodLink "CaseTables" (225 : Nat) ({ cls := "CaseTables$Program", name := "tableAt", desc := "(I)LCaseTables$Table;" } : Jvm.MethodName) ∈ bm_ALL := bm_moA wT_843 rfl
theorem wA_1102 : Jvm.Cond.methodLink "CaseTables" (228 : Nat) ({ cls := "CaseTables", name := "addTable", desc := "(JLCaseTables$Table;)J" } : Jvm.MethodName) ∈ bm_ALL := bm_moA wT_1102 rfl
theorem wA_1104 : Jvm.Cond.instanceMethod ({ cls := "CaseTables", name := "addTable", desc := "(JLCaseTables$Table;)J" } : Jvm.MethodName) ∈ bm_ALL := bm_moA wT_1104 rfl
theorem wA_46 : Jvm.Cond.selects "CaseTables" ({ cls := "CaseTables", name := "addTable", desc := "(JLCaseTables$Table;)J" } : Jvm.MethodName) ({ cls := "CaseTables", name := "addTable", desc := "(JLCaseTables$Table;)J" } : Jvm.MethodName) ∈ bm_ALL := bm_inA 46 (by decide +kernel) rfl
theorem wA_1106 : Jvm.Cond.methodLink "CaseTables" (184 : Nat) ({ cls := "CaseTables$Table", name := "valueAt", desc := "(II)I" } : Jvm.MethodName) ∈ bm_ALL := bm_moA wT_1106 rfl
theorem wA_1107 : Jvm.Cond.instanceMethod ({ cls := "CaseTables$Table", name := "valueAt", desc := "(II)I" } : Jvm.MethodName) ∈ bm_ALL := bm_moA wT_1107 rfl
theorem wA_1108 : Jvm.Cond.selects "CaseTables$Table" ({ cls := "CaseTables$Table", name := "valueAt", desc := "(II)I" } : Jvm.MethodName) ({ cls := "CaseTables$Table", name := "valueAt", desc := "(II)I" } : Jvm.MethodName) ∈ bm_ALL := bm_moA wT_1108 rfl
theorem wA_832 : Jvm.Cond.methodLink "CaseTables" (240 : Nat) ({ cls := "CaseTables$Untried", name := "begin", desc := "(LCaseTables$Fun;)V" } : Jvm.MethodName) ∈ bm_ALL := bm_moA wT_832 rfl
theorem wA_833 : Jvm.Cond.instanceMethod ({ cls := "CaseTables$Untried", name := "begin", desc := "(LCaseTables$Fun;)V" } : Jvm.MethodName) ∈ bm_ALL := bm_moA wT_833 rfl
theorem wA_834 : Jvm.Cond.selects "CaseTables$Untried" ({ cls := "CaseTables$Untried", name := "begin", desc := "(LCaseTables$Fun;)V" } : Jvm.MethodName) ({ cls := "CaseTables$Untried", name := "begin", desc := "(LCaseTables$Fun;)V" } : Jvm.MethodName) ∈ bm_ALL := bm_moA wT_834 rfl
theorem wA_844 : Jvm.Cond.methodLink "CaseTables" (244 : Nat) ({ cls := "CaseTables$Untried", name := "strikeTable", desc := "(LCaseTables$Ranges;LCaseTables$Table;)V" } : Jvm.MethodName) ∈ bm_ALL := bm_moA wT_844 rfl
theorem wA_845 : Jvm.Cond.instanceMethod ({ cls := "CaseTables$Untried", name := "strikeTable", desc := "(LCaseTables$Ranges;LCaseTables$Table;)V" } : Jvm.MethodName) ∈ bm_ALL := bm_moA wT_845 rfl
theorem wA_846 : Jvm.Cond.selects "CaseTables$Untried" ({ cls := "CaseTables$Untried", name := "strikeTable", desc := "(LCaseTables$Ranges;LCaseTables$Table;)V" } : Jvm.MethodName) ({ cls := "CaseTables$Untried", name := "strikeTable", desc := "(LCaseTables$Ranges;LCaseTables$Table;)V" } : Jvm.MethodName) ∈ bm_ALL := bm_moA wT_846 rfl
theorem wA_1070 : Jvm.Cond.methodLink "CaseTables" (248 : Nat) ({ cls := "CaseTables$Table", name := "nextRow", desc := "()LCaseTables$Row;" } : Jvm.MethodName) ∈ bm_ALL := bm_moA wT_1070 rfl
theorem wA_1071 : Jvm.Cond.methodLink "CaseTables" (157 : Nat) ({ cls := "CaseTables$Ranges", name := "valueAt", desc := "(II)I" } : Jvm.MethodName) ∈ bm_ALL := bm_moA wT_1071 rfl
theorem wN_229 : Jvm.Cond.fieldLinkNest "CaseTables" (252 : Nat) "CaseTables$Row" "ranges" "LCaseTables$Ranges;" "CaseTables" ∈ bm_NW := bm_moN wT_229 rfl
theorem wA_1072 : Jvm.Cond.methodLink "CaseTables" (255 : Nat) ({ cls := "CaseTables$Ranges", name := "put", desc := "(III)V" } : Jvm.MethodName) ∈ bm_ALL := bm_moA wT_1072 rfl
theorem wA_1073 : Jvm.Cond.methodLink "CaseTables" (259 : Nat) ({ cls := "CaseTables$Ranges", name := "low", desc := "(I)I" } : Jvm.MethodName) ∈ bm_ALL := bm_moA wT_1073 rfl
theorem wA_1074 : Jvm.Cond.methodLink "CaseTables" (232 : Nat) ({ cls := "CaseTables$Machine", name := "reckon", desc := "(IIJJJ)J" } : Jvm.MethodName) ∈ bm_ALL := bm_moA wT_1074 rfl
theorem wN_235 : Jvm.Cond.fieldLinkNest "CaseTables" (262 : Nat) "CaseTables$Row" "number" "J" "CaseTables" ∈ bm_NW := bm_moN wT_235 rfl
theorem wA_1075 : Jvm.Cond.methodLink "CaseTables" (236 : Nat) ({ cls := "CaseTables$Machine", name := "hasFailed", desc := "()Z" } : Jvm.MethodName) ∈ bm_ALL := bm_moA wT_1075 rfl
theorem wN_232 : Jvm.Cond.fieldLinkNest "CaseTables" (266 : Nat) "CaseTables$Row" "result" "I" "CaseTables" ∈ bm_NW := bm_moN wT_232 rfl
theorem wA_1076 : Jvm.Cond.methodLink "CaseTables" (269 : Nat) ({ cls := "CaseTables$Table", name := "keepRow", desc := "()V" } : Jvm.MethodName) ∈ bm_ALL := bm_moA wT_1076 rfl
theorem wA_1235 : Jvm.Cond.fieldLink "java/lang/String" (9 : Nat) "java/lang/String" "value" "[B" ∈ bm_ALL := bm_moA wT_1235 rfl
theorem wA_1126 : Jvm.Cond.methodLink "java/lang/String" (335 : Nat) ({ cls := "java/lang/String", name := "coder", desc := "()B" } : Jvm.MethodName) ∈ bm_ALL := bm_moA wT_1126 rfl
theorem wA_1127 : Jvm.Cond.instanceMethod ({ cls := "java/lang/String", name := "coder", desc := "()B" } : Jvm.MethodName) ∈ bm_ALL := bm_moA wT_1127 rfl
theorem wA_1128 : Jvm.Cond.selects "java/lang/String" ({ cls := "java/lang/String", name := "coder", desc := "()B" } : Jvm.MethodName) ({ cls := "java/lang/String", name := "coder", desc := "()B" } : Jvm.MethodName) ∈ bm_ALL := bm_moA wT_1128 rfl
theorem wA_1130 : Jvm.Cond.fieldLink "java/lang/String" (38 : Nat) "java/lang/String" "COMPACT_STRINGS" "Z" ∈ bm_ALL := bm_moA wT_1130 rfl
theorem wA_1236 : Jvm.Cond.fieldLink "java/lang/String" (15 : Nat) "java/lang/String" "coder" "B" ∈ bm_ALL := bm_moA wT_1236 rfl
theorem wA_1136 : Jvm.Cond.methodLink "java/lang/String" (492 : Nat) ({ cls := "java/lang/String", name := "isLatin1", desc := "()Z" } : Jvm.MethodName) ∈ bm_ALL := bm_moA wT_1136 rfl
theorem wA_1137 : Jvm.Cond.instanceMethod ({ cls := "java/lang/String", name := "isLatin1", desc := "()Z" } : Jvm.MethodName) ∈ bm_ALL := bm_moA wT_1137 rfl
theorem wA_1138 : Jvm.Cond.selects "java/lang/String" ({ cls := "java/lang/String", name := "isLatin1", desc := "()Z" } : Jvm.MethodName) ({ cls := "java/lang/String", name := "isLatin1", desc := "()Z" } : Jvm.MethodName) ∈ bm_ALL := bm_moA wT_1138 rfl
theorem wA_1140 : Jvm.Cond.methodLink "java/lang/String" (495 : Nat) ({ cls := "java/lang/StringLatin1", name := "charAt", desc := "([BI)C" } : Jvm.MethodName) ∈ bm_ALL := bm_moA wT_1140 rfl
theorem wA_1141 : Jvm.Cond.static ({ cls := "java/lang/StringLatin1", name := "charAt", desc := "([BI)C" } : Jvm.MethodName) ∈ bm_ALL := bm_moA wT_1141 rfl
theorem wA_1143 : Jvm.Cond.methodLink "java/lang/StringLatin1" (9 : Nat) ({ cls := "java/lang/String", name := "checkIndex", desc := "(II)V" } : Jvm.MethodName) ∈ bm_ALL := bm_moA wT_1143 rfl
theorem wA_1144 : Jvm.Cond.static ({ cls := "java/lang/String", name := "checkIndex", desc := "(II)V" } : Jvm.MethodName) ∈ bm_ALL := bm_moA wT_1144 rfl
theorem wA_865 : Jvm.Cond.constantLong "java/lang/Long" (314 : Nat) (6148914691236517205 : Int64) ∈ bm_ALL := bm_moA wT_865 rfl
theorem wA_866 : Jvm.Cond.constantLong "java/lang/Long" (316 : Nat) (3689348814741910323 : Int64) ∈ bm_ALL := bm_moA wT_866 rfl
theorem wA_867 : Jvm.Cond.constantLong "java/lang/Long" (318 : Nat) (1085102592571150095 : Int64) ∈ bm_ALL := bm_moA wT_867 rfl
theorem wA_1146 : Jvm.Cond.fieldLink "java/lang/String" (1053 : Nat) "jdk/internal/util/Preconditions" "SIOOBE_FORMATTER" "Ljava/util/function/BiFunction;" ∈ bm_ALL := bm_moA wT_1146 rfl
theorem wA_1148 : Jvm.Cond.methodLink "java/lang/String" (1059 : Nat) ({ cls := "jdk/internal/util/Preconditions", name := "checkIndex", desc := "(IILjava/util/function/BiFunction;)I" } : Jvm.MethodName) ∈ bm_ALL := bm_moA wT_1148 rfl
theorem wA_1149 : Jvm.Cond.static ({ cls := "jdk/internal/util/Preconditions", name := "checkIndex", desc := "(IILjava/util/function/BiFunction;)I" } : Jvm.MethodName) ∈ bm_ALL := bm_moA wT_1149 rfl
theorem wA_1114 : Jvm.Cond.constant "CaseTablesLaw" (7 : Nat) (2147483647 : Int32) ∈ bm_ALL := bm_moA wT_1114 rfl
theorem wA_1118 : Jvm.Cond.constant "CaseTablesLaw" (8 : Nat) (790386105 : Int32) ∈ bm_ALL := bm_moA wT_1118 rfl
theorem wA_1122 : Jvm.Cond.methodLink "CaseTablesLaw" (9 : Nat) ({ cls := "java/lang/String", name := "length", desc := "()I" } : Jvm.MethodName) ∈ bm_ALL := bm_moA wT_1122 rfl
theorem wA_1123 : Jvm.Cond.instanceMethod ({ cls := "java/lang/String", name := "length", desc := "()I" } : Jvm.MethodName) ∈ bm_ALL := bm_moA wT_1123 rfl
theorem wA_1124 : Jvm.Cond.selects "java/lang/String" ({ cls := "java/lang/String", name := "length", desc := "()I" } : Jvm.MethodName) ({ cls := "java/lang/String", name := "length", desc := "()I" } : Jvm.MethodName) ∈ bm_ALL := bm_moA wT_1124 rfl
theorem wA_1132 : Jvm.Cond.methodLink "CaseTablesLaw" (15 : Nat) ({ cls := "java/lang/String", name := "charAt", desc := "(I)C" } : Jvm.MethodName) ∈ bm_ALL := bm_moA wT_1132 rfl
theorem wA_1133 : Jvm.Cond.instanceMethod ({ cls := "java/lang/String", name := "charAt", desc := "(I)C" } : Jvm.MethodName) ∈ bm_ALL := bm_moA wT_1133 rfl
theorem wA_1134 : Jvm.Cond.selects "java/lang/String" ({ cls := "java/lang/String", name := "charAt", desc := "(I)C" } : Jvm.MethodName) ({ cls := "java/lang/String", name := "charAt", desc := "(I)C" } : Jvm.MethodName) ∈ bm_ALL := bm_moA wT_1134 rfl
theorem wA_1119 : Jvm.Cond.methodLink "CaseTablesLaw" (21 : Nat) ({ cls := "CaseTablesLaw", name := "put", desc := "([ILjava/lang/String;)V" } : Jvm.MethodName) ∈ bm_ALL := bm_moA wT_1119 rfl
theorem wA_1120 : Jvm.Cond.static ({ cls := "CaseTablesLaw", name := "put", desc := "([ILjava/lang/String;)V" } : Jvm.MethodName) ∈ bm_ALL := bm_moA wT_1120 rfl
theorem wA_1170 : Jvm.Cond.methodLink "CaseTablesLaw" (27 : Nat) ({ cls := "CaseTablesLaw", name := "put", desc := "([II)V" } : Jvm.MethodName) ∈ bm_ALL := bm_moA wT_1170 rfl
theorem wA_1171 : Jvm.Cond.static ({ cls := "CaseTablesLaw", name := "put", desc := "([II)V" } : Jvm.MethodName) ∈ bm_ALL := bm_moA wT_1171 rfl
theorem wA_1177 : Jvm.Cond.methodLink "CaseTablesLaw" (30 : Nat) ({ cls := "CaseTables", name := "count", desc := "(I)I" } : Jvm.MethodName) ∈ bm_ALL := bm_moA wT_1177 rfl
theorem wA_1178 : Jvm.Cond.methodLink "CaseTablesLaw" (36 : Nat) ({ cls := "CaseTables", name := "feed", desc := "(IIIII)I" } : Jvm.MethodName) ∈ bm_ALL := bm_moA wT_1178 rfl
theorem wA_1179 : Jvm.Cond.instanceMethod ({ cls := "CaseTables", name := "feed", desc := "(IIIII)I" } : Jvm.MethodName) ∈ bm_ALL := bm_moA wT_1179 rfl
theorem wA_1180 : Jvm.Cond.selects "CaseTables" ({ cls := "CaseTables", name := "feed", desc := "(IIIII)I" } : Jvm.MethodName) ({ cls := "CaseTables", name := "feed", desc := "(IIIII)I" } : Jvm.MethodName) ∈ bm_ALL := bm_moA wT_1180 rfl
theorem wA_1190 : Jvm.Cond.methodLink "CaseTablesLaw" (40 : Nat) ({ cls := "CaseTables", name := "trim", desc := "(I)I" } : Jvm.MethodName) ∈ bm_ALL := bm_moA wT_1190 rfl
theorem wA_1191 : Jvm.Cond.instanceMethod ({ cls := "CaseTables", name := "trim", desc := "(I)I" } : Jvm.MethodName) ∈ bm_ALL := bm_moA wT_1191 rfl
theorem wA_1192 : Jvm.Cond.selects "CaseTables" ({ cls := "CaseTables", name := "trim", desc := "(I)I" } : Jvm.MethodName) ({ cls := "CaseTables", name := "trim", desc := "(I)I" } : Jvm.MethodName) ∈ bm_ALL := bm_moA wT_1192 rfl
theorem wA_72 : Jvm.Cond.classLink "CaseTablesLaw" (31 : Nat) "CaseTables" ∈ bm_ALL := bm_moA wT_72 rfl
theorem wA_73 : Jvm.Cond.instantiable "CaseTables" (8 : Nat) ∈ bm_ALL := bm_moA wT_73 rfl
theorem wA_48 : Jvm.Cond.initialized "CaseTables" ∈ bm_ALL := bm_moA wT_48 rfl
theorem wA_74 : Jvm.Cond.methodLink "CaseTablesLaw" (43 : Nat) ({ cls := "CaseTables", name := "<init>", desc := "()V" } : Jvm.MethodName) ∈ bm_ALL := bm_moA wT_74 rfl
theorem wA_75 : Jvm.Cond.instanceMethod ({ cls := "CaseTables", name := "<init>", desc := "()V" } : Jvm.MethodName) ∈ bm_ALL := bm_moA wT_75 rfl
theorem wA_1212 : Jvm.Cond.classLink "CaseTablesLaw" (10 : Nat) "java/lang/String" ∈ bm_ALL := bm_moA wT_1212 rfl
theorem wN_1213 : Jvm.Cond.arrayOver (Jvm.ClassFile.FieldType.object "java/lang/String") ∈ bm_NW := bm_moN wT_1213 rfl
theorem wA_60 : Jvm.Cond.initialized "java/lang/String" ∈ bm_ALL := bm_moA wT_60 rfl
theorem wA_1115 : Jvm.Cond.methodLink "CaseTablesLaw" (68 : Nat) ({ cls := "CaseTablesLaw", name := "cell", desc := "([II)I" } : Jvm.MethodName) ∈ bm_ALL := bm_moA wT_1115 rfl
theorem wA_1116 : Jvm.Cond.static ({ cls := "CaseTablesLaw", name := "cell", desc := "([II)I" } : Jvm.MethodName) ∈ bm_ALL := bm_moA wT_1116 rfl
theorem wA_1111 : Jvm.Cond.methodLink "CaseTablesLaw" (72 : Nat) ({ cls := "CaseTablesLaw", name := "below", desc := "(II)I" } : Jvm.MethodName) ∈ bm_ALL := bm_moA wT_1111 rfl
theorem wA_1112 : Jvm.Cond.static ({ cls := "CaseTablesLaw", name := "below", desc := "(II)I" } : Jvm.MethodName) ∈ bm_ALL := bm_moA wT_1112 rfl
theorem wA_1174 : Jvm.Cond.methodLink "CaseTablesLaw" (90 : Nat) ({ cls := "CaseTablesLaw", name := "lay", desc := "(LCaseTables;[I)Z" } : Jvm.MethodName) ∈ bm_ALL := bm_moA wT_1174 rfl
theorem wA_1175 : Jvm.Cond.static ({ cls := "CaseTablesLaw", name := "lay", desc := "(LCaseTables;[I)Z" } : Jvm.MethodName) ∈ bm_ALL := bm_moA wT_1175 rfl
theorem wA_441 : Jvm.Cond.methodLink "CaseTablesLaw" (94 : Nat) ({ cls := "CaseTables", name := "compile", desc := "()I" } : Jvm.MethodName) ∈ bm_ALL := bm_moA wT_441 rfl
theorem wA_442 : Jvm.Cond.instanceMethod ({ cls := "CaseTables", name := "compile", desc := "()I" } : Jvm.MethodName) ∈ bm_ALL := bm_moA wT_442 rfl
theorem wA_443 : Jvm.Cond.selects "CaseTables" ({ cls := "CaseTables", name := "compile", desc := "()I" } : Jvm.MethodName) ({ cls := "CaseTables", name := "compile", desc := "()I" } : Jvm.MethodName) ∈ bm_ALL := bm_moA wT_443 rfl
theorem wA_743 : Jvm.Cond.methodLink "CaseTablesLaw" (97 : Nat) ({ cls := "CaseTables", name := "fun", desc := "(II)I" } : Jvm.MethodName) ∈ bm_ALL := bm_moA wT_743 rfl
theorem wA_868 : Jvm.Cond.methodLink "CaseTablesLaw" (100 : Nat) ({ cls := "CaseTables", name := "propose", desc := "(I)I" } : Jvm.MethodName) ∈ bm_ALL := bm_moA wT_868 rfl
theorem wA_869 : Jvm.Cond.instanceMethod ({ cls := "CaseTables", name := "propose", desc := "(I)I" } : Jvm.MethodName) ∈ bm_ALL := bm_moA wT_869 rfl
theorem wA_870 : Jvm.Cond.selects "CaseTables" ({ cls := "CaseTables", name := "propose", desc := "(I)I" } : Jvm.MethodName) ({ cls := "CaseTables", name := "propose", desc := "(I)I" } : Jvm.MethodName) ∈ bm_ALL := bm_moA wT_870 rfl
theorem wA_893 : Jvm.Cond.methodLink "CaseTablesLaw" (103 : Nat) ({ cls := "CaseTables", name := "table", desc := "(II)I" } : Jvm.MethodName) ∈ bm_ALL := bm_moA wT_893 rfl
theorem wA_894 : Jvm.Cond.instanceMethod ({ cls := "CaseTables", name := "table", desc := "(II)I" } : Jvm.MethodName) ∈ bm_ALL := bm_moA wT_894 rfl
theorem wA_895 : Jvm.Cond.selects "CaseTables" ({ cls := "CaseTables", name := "table", desc := "(II)I" } : Jvm.MethodName) ({ cls := "CaseTables", name := "table", desc := "(II)I" } : Jvm.MethodName) ∈ bm_ALL := bm_moA wT_895 rfl
theorem wA_1047 : Jvm.Cond.methodLink "CaseTablesLaw" (106 : Nat) ({ cls := "CaseTables", name := "grow", desc := "(I)I" } : Jvm.MethodName) ∈ bm_ALL := bm_moA wT_1047 rfl
theorem wA_1048 : Jvm.Cond.instanceMethod ({ cls := "CaseTables", name := "grow", desc := "(I)I" } : Jvm.MethodName) ∈ bm_ALL := bm_moA wT_1048 rfl
theorem wA_1049 : Jvm.Cond.selects "CaseTables" ({ cls := "CaseTables", name := "grow", desc := "(I)I" } : Jvm.MethodName) ({ cls := "CaseTables", name := "grow", desc := "(I)I" } : Jvm.MethodName) ∈ bm_ALL := bm_moA wT_1049 rfl
theorem wA_1016 : Jvm.Cond.methodLink "CaseTablesLaw" (109 : Nat) ({ cls := "CaseTables", name := "holds", desc := "(II)Z" } : Jvm.MethodName) ∈ bm_ALL := bm_moA wT_1016 rfl
theorem wA_1017 : Jvm.Cond.instanceMethod ({ cls := "CaseTables", name := "holds", desc := "(II)Z" } : Jvm.MethodName) ∈ bm_ALL := bm_moA wT_1017 rfl
theorem wA_1018 : Jvm.Cond.selects "CaseTables" ({ cls := "CaseTables", name := "holds", desc := "(II)Z" } : Jvm.MethodName) ({ cls := "CaseTables", name := "holds", desc := "(II)Z" } : Jvm.MethodName) ∈ bm_ALL := bm_moA wT_1018 rfl
theorem wA_1021 : Jvm.Cond.methodLink "CaseTablesLaw" (113 : Nat) ({ cls := "CaseTables", name := "taken", desc := "(IZ)I" } : Jvm.MethodName) ∈ bm_ALL := bm_moA wT_1021 rfl
theorem wA_1022 : Jvm.Cond.instanceMethod ({ cls := "CaseTables", name := "taken", desc := "(IZ)I" } : Jvm.MethodName) ∈ bm_ALL := bm_moA wT_1022 rfl
theorem wA_1023 : Jvm.Cond.selects "CaseTables" ({ cls := "CaseTables", name := "taken", desc := "(IZ)I" } : Jvm.MethodName) ({ cls := "CaseTables", name := "taken", desc := "(IZ)I" } : Jvm.MethodName) ∈ bm_ALL := bm_moA wT_1023 rfl
theorem wA_1029 : Jvm.Cond.methodLink "CaseTablesLaw" (117 : Nat) ({ cls := "CaseTables", name := "finds", desc := "(II)Z" } : Jvm.MethodName) ∈ bm_ALL := bm_moA wT_1029 rfl
theorem wA_1030 : Jvm.Cond.instanceMethod ({ cls := "CaseTables", name := "finds", desc := "(II)Z" } : Jvm.MethodName) ∈ bm_ALL := bm_moA wT_1030 rfl
theorem wA_1031 : Jvm.Cond.selects "CaseTables" ({ cls := "CaseTables", name := "finds", desc := "(II)Z" } : Jvm.MethodName) ({ cls := "CaseTables", name := "finds", desc := "(II)Z" } : Jvm.MethodName) ∈ bm_ALL := bm_moA wT_1031 rfl
theorem wA_1042 : Jvm.Cond.methodLink "CaseTablesLaw" (120 : Nat) ({ cls := "CaseTables", name := "score", desc := "(I)D" } : Jvm.MethodName) ∈ bm_ALL := bm_moA wT_1042 rfl
theorem wA_1043 : Jvm.Cond.instanceMethod ({ cls := "CaseTables", name := "score", desc := "(I)D" } : Jvm.MethodName) ∈ bm_ALL := bm_moA wT_1043 rfl
theorem wA_1044 : Jvm.Cond.selects "CaseTables" ({ cls := "CaseTables", name := "score", desc := "(I)D" } : Jvm.MethodName) ({ cls := "CaseTables", name := "score", desc := "(I)D" } : Jvm.MethodName) ∈ bm_ALL := bm_moA wT_1044 rfl
theorem wA_1233 : Jvm.Cond.constantDouble "CaseTablesLaw" (124 : Nat) (4618441417868443648 : UInt64) ∈ bm_ALL := bm_moA wT_1233 rfl
theorem wA_1077 : Jvm.Cond.methodLink "CaseTablesLaw" (126 : Nat) ({ cls := "CaseTables", name := "shorten", desc := "(I)I" } : Jvm.MethodName) ∈ bm_ALL := bm_moA wT_1077 rfl
theorem wA_1078 : Jvm.Cond.instanceMethod ({ cls := "CaseTables", name := "shorten", desc := "(I)I" } : Jvm.MethodName) ∈ bm_ALL := bm_moA wT_1078 rfl
theorem wA_1079 : Jvm.Cond.selects "CaseTables" ({ cls := "CaseTables", name := "shorten", desc := "(I)I" } : Jvm.MethodName) ({ cls := "CaseTables", name := "shorten", desc := "(I)I" } : Jvm.MethodName) ∈ bm_ALL := bm_moA wT_1079 rfl
theorem wA_1209 : Jvm.Cond.methodLink "CaseTablesLaw" (129 : Nat) ({ cls := "java/lang/Math", name := "max", desc := "(II)I" } : Jvm.MethodName) ∈ bm_ALL := bm_moA wT_1209 rfl
theorem wA_1210 : Jvm.Cond.static ({ cls := "java/lang/Math", name := "max", desc := "(II)I" } : Jvm.MethodName) ∈ bm_ALL := bm_moA wT_1210 rfl
theorem wA_71 : Jvm.Cond.initialized "java/lang/Math" ∈ bm_ALL := bm_moA wT_71 rfl
theorem wA_1211 : Jvm.Cond.code ({ cls := "java/lang/Math", name := "max", desc := "(II)I" } : Jvm.MethodName) prog_20_method_65_code (2 : Nat) (Option.some Jvm.ClassFile.FieldType.int) ∈ bm_ALL := bm_moA wT_1211 rfl
theorem wA_1086 : Jvm.Cond.methodLink "CaseTablesLaw" (134 : Nat) ({ cls := "CaseTables", name := "digest", desc := "()J" } : Jvm.MethodName) ∈ bm_ALL := bm_moA wT_1086 rfl
theorem wA_1087 : Jvm.Cond.instanceMethod ({ cls := "CaseTables", name := "digest", desc := "()J" } : Jvm.MethodName) ∈ bm_ALL := bm_moA wT_1087 rfl
theorem wA_1088 : Jvm.Cond.selects "CaseTables" ({ cls := "CaseTables", name := "digest", desc := "()J" } : Jvm.MethodName) ({ cls := "CaseTables", name := "digest", desc := "()J" } : Jvm.MethodName) ∈ bm_ALL := bm_moA wT_1088 rfl
theorem wA_318 : Jvm.Cond.code ({ cls := "CaseTables$Compiler", name := "<init>", desc := "(LCaseTables$Tokens;LCaseTables$Program;)V" } : Jvm.MethodName) prog_2_method_1_code (3 : Nat) (Option.none : Option Jvm.ClassFile.FieldType) ∈ bm_ALL := bm_moA wT_318 rfl
theorem wA_504 : Jvm.Cond.code ({ cls := "CaseTables$Compiler", name := "translate", desc := "()I" } : Jvm.MethodName) prog_2_method_2_code (3 : Nat) (Option.some Jvm.ClassFile.FieldType.int) ∈ bm_ALL := bm_moA wT_504 rfl
theorem wA_734 : Jvm.Cond.code ({ cls := "CaseTables$Compiler", name := "errorPlace", desc := "()I" } : Jvm.MethodName) prog_2_method_3_code (1 : Nat) (Option.some Jvm.ClassFile.FieldType.int) ∈ bm_ALL := bm_moA wT_734 rfl
theorem wA_524 : Jvm.Cond.code ({ cls := "CaseTables$Compiler", name := "complain", desc := "(II)V" } : Jvm.MethodName) prog_2_method_4_code (3 : Nat) (Option.none : Option Jvm.ClassFile.FieldType) ∈ bm_ALL := bm_moA wT_524 rfl
theorem wA_579 : Jvm.Cond.code ({ cls := "CaseTables$Compiler", name := "readWhole", desc := "(II)I" } : Jvm.MethodName) prog_2_method_5_code (7 : Nat) (Option.some Jvm.ClassFile.FieldType.int) ∈ bm_ALL := bm_moA wT_579 rfl
theorem wA_554 : Jvm.Cond.code ({ cls := "CaseTables$Compiler", name := "readItemName", desc := "()J" } : Jvm.MethodName) prog_2_method_6_code (4 : Nat) (Option.some Jvm.ClassFile.FieldType.long) ∈ bm_ALL := bm_moA wT_554 rfl
theorem wA_516 : Jvm.Cond.code ({ cls := "CaseTables$Compiler", name := "readFun", desc := "()V" } : Jvm.MethodName) prog_2_method_7_code (3 : Nat) (Option.none : Option Jvm.ClassFile.FieldType) ∈ bm_ALL := bm_moA wT_516 rfl
theorem wA_571 : Jvm.Cond.code ({ cls := "CaseTables$Compiler", name := "readInput", desc := "()V" } : Jvm.MethodName) prog_2_method_8_code (6 : Nat) (Option.none : Option Jvm.ClassFile.FieldType) ∈ bm_ALL := bm_moA wT_571 rfl
theorem wA_670 : Jvm.Cond.code ({ cls := "CaseTables$Compiler", name := "readTable", desc := "()V" } : Jvm.MethodName) prog_2_method_9_code (3 : Nat) (Option.none : Option Jvm.ClassFile.FieldType) ∈ bm_ALL := bm_moA wT_670 rfl
theorem wA_682 : Jvm.Cond.code ({ cls := "CaseTables$Compiler", name := "readRow", desc := "()V" } : Jvm.MethodName) prog_2_method_10_code (4 : Nat) (Option.none : Option Jvm.ClassFile.FieldType) ∈ bm_ALL := bm_moA wT_682 rfl
theorem wA_699 : Jvm.Cond.code ({ cls := "CaseTables$Compiler", name := "readCell", desc := "(LCaseTables$Row;I)V" } : Jvm.MethodName) prog_2_method_11_code (8 : Nat) (Option.none : Option Jvm.ClassFile.FieldType) ∈ bm_ALL := bm_moA wT_699 rfl
theorem wA_712 : Jvm.Cond.code ({ cls := "CaseTables$Compiler", name := "readResult", desc := "(LCaseTables$Row;)V" } : Jvm.MethodName) prog_2_method_12_code (3 : Nat) (Option.none : Option Jvm.ClassFile.FieldType) ∈ bm_ALL := bm_moA wT_712 rfl
theorem wA_592 : Jvm.Cond.code ({ cls := "CaseTables$Compiler", name := "readBody", desc := "()V" } : Jvm.MethodName) prog_2_method_13_code (2 : Nat) (Option.none : Option Jvm.ClassFile.FieldType) ∈ bm_ALL := bm_moA wT_592 rfl
theorem wA_600 : Jvm.Cond.code ({ cls := "CaseTables$Compiler", name := "readExpression", desc := "(I)V" } : Jvm.MethodName) prog_2_method_14_code (4 : Nat) (Option.none : Option Jvm.ClassFile.FieldType) ∈ bm_ALL := bm_moA wT_600 rfl
theorem wA_625 : Jvm.Cond.code ({ cls := "CaseTables$Compiler", name := "readBoth", desc := "(I)V" } : Jvm.MethodName) prog_2_method_15_code (4 : Nat) (Option.none : Option Jvm.ClassFile.FieldType) ∈ bm_ALL := bm_moA wT_625 rfl
theorem wA_658 : Jvm.Cond.code ({ cls := "CaseTables$Compiler", name := "endSecond", desc := "(I)V" } : Jvm.MethodName) prog_2_method_16_code (2 : Nat) (Option.none : Option Jvm.ClassFile.FieldType) ∈ bm_ALL := bm_moA wT_658 rfl
theorem wA_604 : Jvm.Cond.code ({ cls := "CaseTables$Compiler", name := "readChoice", desc := "(I)V" } : Jvm.MethodName) prog_2_method_17_code (6 : Nat) (Option.none : Option Jvm.ClassFile.FieldType) ∈ bm_ALL := bm_moA wT_604 rfl
theorem wA_629 : Jvm.Cond.code ({ cls := "CaseTables$Compiler", name := "readRelation", desc := "(I)V" } : Jvm.MethodName) prog_2_method_18_code (4 : Nat) (Option.none : Option Jvm.ClassFile.FieldType) ∈ bm_ALL := bm_moA wT_629 rfl
theorem wA_633 : Jvm.Cond.code ({ cls := "CaseTables$Compiler", name := "readSum", desc := "(I)V" } : Jvm.MethodName) prog_2_method_19_code (5 : Nat) (Option.none : Option Jvm.ClassFile.FieldType) ∈ bm_ALL := bm_moA wT_633 rfl
theorem wA_637 : Jvm.Cond.code ({ cls := "CaseTables$Compiler", name := "readProduct", desc := "(I)V" } : Jvm.MethodName) prog_2_method_20_code (5 : Nat) (Option.none : Option Jvm.ClassFile.FieldType) ∈ bm_ALL := bm_moA wT_637 rfl
theorem wA_641 : Jvm.Cond.code ({ cls := "CaseTables$Compiler", name := "readFactor", desc := "(I)V" } : Jvm.MethodName) prog_2_method_21_code (5 : Nat) (Option.none : Option Jvm.ClassFile.FieldType) ∈ bm_ALL := bm_moA wT_641 rfl
theorem wA_645 : Jvm.Cond.code ({ cls := "CaseTables$Compiler", name := "readNamed", desc := "(JII)V" } : Jvm.MethodName) prog_2_method_22_code (6 : Nat) (Option.none : Option Jvm.ClassFile.FieldType) ∈ bm_ALL := bm_moA wT_645 rfl
theorem wA_649 : Jvm.Cond.code ({ cls := "CaseTables$Compiler", name := "readArguments", desc := "(JII)V" } : Jvm.MethodName) prog_2_method_23_code (8 : Nat) (Option.none : Option Jvm.ClassFile.FieldType) ∈ bm_ALL := bm_moA wT_649 rfl
theorem wA_151 : Jvm.Cond.code ({ cls := "CaseTables$Fun", name := "<init>", desc := "()V" } : Jvm.MethodName) prog_3_method_1_code (1 : Nat) (Option.none : Option Jvm.ClassFile.FieldType) ∈ bm_ALL := bm_moA wT_151 rfl
theorem wA_542 : Jvm.Cond.code ({ cls := "CaseTables$Fun", name := "clear", desc := "()V" } : Jvm.MethodName) prog_3_method_2_code (1 : Nat) (Option.none : Option Jvm.ClassFile.FieldType) ∈ bm_ALL := bm_moA wT_542 rfl
theorem wA_587 : Jvm.Cond.code ({ cls := "CaseTables$Fun", name := "addInput", desc := "(JII)V" } : Jvm.MethodName) prog_3_method_3_code (5 : Nat) (Option.none : Option Jvm.ClassFile.FieldType) ∈ bm_ALL := bm_moA wT_587 rfl
theorem wA_575 : Jvm.Cond.code ({ cls := "CaseTables$Fun", name := "inputNamed", desc := "(J)I" } : Jvm.MethodName) prog_3_method_4_code (4 : Nat) (Option.some Jvm.ClassFile.FieldType.int) ∈ bm_ALL := bm_moA wT_575 rfl
theorem wA_609 : Jvm.Cond.code ({ cls := "CaseTables$Fun", name := "nextPlace", desc := "()I" } : Jvm.MethodName) prog_3_method_5_code (1 : Nat) (Option.some Jvm.ClassFile.FieldType.int) ∈ bm_ALL := bm_moA wT_609 rfl
theorem wA_617 : Jvm.Cond.code ({ cls := "CaseTables$Fun", name := "emit", desc := "(III)I" } : Jvm.MethodName) prog_3_method_6_code (5 : Nat) (Option.some Jvm.ClassFile.FieldType.int) ∈ bm_ALL := bm_moA wT_617 rfl
theorem wA_621 : Jvm.Cond.code ({ cls := "CaseTables$Fun", name := "aimHere", desc := "(I)V" } : Jvm.MethodName) prog_3_method_7_code (2 : Nat) (Option.none : Option Jvm.ClassFile.FieldType) ∈ bm_ALL := bm_moA wT_621 rfl
theorem wA_940 : Jvm.Cond.code ({ cls := "CaseTables$Fun", name := "operationAt", desc := "(I)I" } : Jvm.MethodName) prog_3_method_8_code (2 : Nat) (Option.some Jvm.ClassFile.FieldType.int) ∈ bm_ALL := bm_moA wT_940 rfl
theorem wA_944 : Jvm.Cond.code ({ cls := "CaseTables$Fun", name := "operandAt", desc := "(I)I" } : Jvm.MethodName) prog_3_method_9_code (2 : Nat) (Option.some Jvm.ClassFile.FieldType.int) ∈ bm_ALL := bm_moA wT_944 rfl
theorem wA_948 : Jvm.Cond.code ({ cls := "CaseTables$Fun", name := "placeAt", desc := "(I)I" } : Jvm.MethodName) prog_3_method_10_code (2 : Nat) (Option.some Jvm.ClassFile.FieldType.int) ∈ bm_ALL := bm_moA wT_948 rfl
theorem wA_826 : Jvm.Cond.code ({ cls := "CaseTables$Fun", name := "pairCount", desc := "()I" } : Jvm.MethodName) prog_3_method_11_code (2 : Nat) (Option.some Jvm.ClassFile.FieldType.int) ∈ bm_ALL := bm_moA wT_826 rfl
theorem wA_351 : Jvm.Cond.code ({ cls := "CaseTables$Machine", name := "<init>", desc := "(LCaseTables$Program;)V" } : Jvm.MethodName) prog_4_method_1_code (2 : Nat) (Option.none : Option Jvm.ClassFile.FieldType) ∈ bm_ALL := bm_moA wT_351 rfl
theorem wA_927 : Jvm.Cond.code ({ cls := "CaseTables$Machine", name := "reckon", desc := "(IIJJJ)J" } : Jvm.MethodName) prog_4_method_2_code (9 : Nat) (Option.some Jvm.ClassFile.FieldType.long) ∈ bm_ALL := bm_moA wT_927 rfl
theorem wA_986 : Jvm.Cond.code ({ cls := "CaseTables$Machine", name := "hasFailed", desc := "()Z" } : Jvm.MethodName) prog_4_method_3_code (1 : Nat) (Option.some Jvm.ClassFile.FieldType.boolean) ∈ bm_ALL := bm_moA wT_986 rfl
theorem wA_908 : Jvm.Cond.code ({ cls := "CaseTables$Machine", name := "startCounting", desc := "()V" } : Jvm.MethodName) prog_4_method_4_code (2 : Nat) (Option.none : Option Jvm.ClassFile.FieldType) ∈ bm_ALL := bm_moA wT_908 rfl
theorem wA_999 : Jvm.Cond.code ({ cls := "CaseTables$Machine", name := "stopCounting", desc := "()V" } : Jvm.MethodName) prog_4_method_5_code (1 : Nat) (Option.none : Option Jvm.ClassFile.FieldType) ∈ bm_ALL := bm_moA wT_999 rfl
theorem wA_1028 : Jvm.Cond.code ({ cls := "CaseTables$Machine", name := "branchCount", desc := "(IZ)I" } : Jvm.MethodName) prog_4_method_6_code (4 : Nat) (Option.some Jvm.ClassFile.FieldType.int) ∈ bm_ALL := bm_moA wT_1028 rfl
theorem wA_968 : Jvm.Cond.code ({ cls := "CaseTables$Machine", name := "countBranch", desc := "(IZ)V" } : Jvm.MethodName) prog_4_method_7_code (4 : Nat) (Option.none : Option Jvm.ClassFile.FieldType) ∈ bm_ALL := bm_moA wT_968 rfl
theorem wA_931 : Jvm.Cond.code ({ cls := "CaseTables$Machine", name := "push", desc := "(J)V" } : Jvm.MethodName) prog_4_method_8_code (3 : Nat) (Option.none : Option Jvm.ClassFile.FieldType) ∈ bm_ALL := bm_moA wT_931 rfl
theorem wA_960 : Jvm.Cond.code ({ cls := "CaseTables$Machine", name := "pop", desc := "()J" } : Jvm.MethodName) prog_4_method_9_code (1 : Nat) (Option.some Jvm.ClassFile.FieldType.long) ∈ bm_ALL := bm_moA wT_960 rfl
theorem wA_952 : Jvm.Cond.code ({ cls := "CaseTables$Machine", name := "valueAt", desc := "(I)J" } : Jvm.MethodName) prog_4_method_10_code (2 : Nat) (Option.some Jvm.ClassFile.FieldType.long) ∈ bm_ALL := bm_moA wT_952 rfl
theorem wA_935 : Jvm.Cond.code ({ cls := "CaseTables$Machine", name := "run", desc := "(III)V" } : Jvm.MethodName) prog_4_method_11_code (10 : Nat) (Option.none : Option Jvm.ClassFile.FieldType) ∈ bm_ALL := bm_moA wT_935 rfl
theorem wA_956 : Jvm.Cond.code ({ cls := "CaseTables$Machine", name := "runCalled", desc := "(II)V" } : Jvm.MethodName) prog_4_method_12_code (6 : Nat) (Option.none : Option Jvm.ClassFile.FieldType) ∈ bm_ALL := bm_moA wT_956 rfl
theorem wA_964 : Jvm.Cond.code ({ cls := "CaseTables$Machine", name := "takesThen", desc := "(IZ)Z" } : Jvm.MethodName) prog_4_method_13_code (5 : Nat) (Option.some Jvm.ClassFile.FieldType.boolean) ∈ bm_ALL := bm_moA wT_964 rfl
theorem wA_972 : Jvm.Cond.code ({ cls := "CaseTables$Machine", name := "isDecided", desc := "(Z)Z" } : Jvm.MethodName) prog_4_method_14_code (3 : Nat) (Option.some Jvm.ClassFile.FieldType.boolean) ∈ bm_ALL := bm_moA wT_972 rfl
theorem wA_979 : Jvm.Cond.code ({ cls := "CaseTables$Machine", name := "apply", desc := "(I)V" } : Jvm.MethodName) prog_4_method_15_code (6 : Nat) (Option.none : Option Jvm.ClassFile.FieldType) ∈ bm_ALL := bm_moA wT_979 rfl
theorem wA_975 : Jvm.Cond.code ({ cls := "CaseTables$Machine", name := "changedOperator", desc := "(I)I" } : Jvm.MethodName) prog_4_method_16_code (1 : Nat) (Option.some Jvm.ClassFile.FieldType.int) ∈ bm_ALL := bm_moA wT_975 rfl
theorem wA_142 : Jvm.Cond.code ({ cls := "CaseTables$Program", name := "<init>", desc := "()V" } : Jvm.MethodName) prog_5_method_1_code (2 : Nat) (Option.none : Option Jvm.ClassFile.FieldType) ∈ bm_ALL := bm_moA wT_142 rfl
theorem wA_508 : Jvm.Cond.code ({ cls := "CaseTables$Program", name := "clear", desc := "()V" } : Jvm.MethodName) prog_5_method_2_code (1 : Nat) (Option.none : Option Jvm.ClassFile.FieldType) ∈ bm_ALL := bm_moA wT_508 rfl
theorem wA_323 : Jvm.Cond.code ({ cls := "CaseTables$Program", name := "funAt", desc := "(I)LCaseTables$Fun;" } : Jvm.MethodName) prog_5_method_3_code (3 : Nat) (Option.some (Jvm.ClassFile.FieldType.object "CaseTables$Fun")) ∈ bm_ALL := bm_moA wT_323 rfl
theorem wA_327 : Jvm.Cond.code ({ cls := "CaseTables$Program", name := "tableAt", desc := "(I)LCaseTables$Table;" } : Jvm.MethodName) prog_5_method_4_code (3 : Nat) (Option.some (Jvm.ClassFile.FieldType.object "CaseTables$Table")) ∈ bm_ALL := bm_moA wT_327 rfl
theorem wA_537 : Jvm.Cond.code ({ cls := "CaseTables$Program", name := "nextFun", desc := "()LCaseTables$Fun;" } : Jvm.MethodName) prog_5_method_5_code (2 : Nat) (Option.some (Jvm.ClassFile.FieldType.object "CaseTables$Fun")) ∈ bm_ALL := bm_moA wT_537 rfl
theorem wA_666 : Jvm.Cond.code ({ cls := "CaseTables$Program", name := "keepFun", desc := "()V" } : Jvm.MethodName) prog_5_method_6_code (1 : Nat) (Option.none : Option Jvm.ClassFile.FieldType) ∈ bm_ALL := bm_moA wT_666 rfl
theorem wA_674 : Jvm.Cond.code ({ cls := "CaseTables$Program", name := "nextTable", desc := "()LCaseTables$Table;" } : Jvm.MethodName) prog_5_method_7_code (2 : Nat) (Option.some (Jvm.ClassFile.FieldType.object "CaseTables$Table")) ∈ bm_ALL := bm_moA wT_674 rfl
theorem wA_730 : Jvm.Cond.code ({ cls := "CaseTables$Program", name := "keepTable", desc := "()V" } : Jvm.MethodName) prog_5_method_8_code (1 : Nat) (Option.none : Option Jvm.ClassFile.FieldType) ∈ bm_ALL := bm_moA wT_730 rfl
theorem wA_613 : Jvm.Cond.code ({ cls := "CaseTables$Program", name := "nextIf", desc := "()I" } : Jvm.MethodName) prog_5_method_9_code (1 : Nat) (Option.some Jvm.ClassFile.FieldType.int) ∈ bm_ALL := bm_moA wT_613 rfl
theorem wA_567 : Jvm.Cond.code ({ cls := "CaseTables$Program", name := "funNamed", desc := "(J)I" } : Jvm.MethodName) prog_5_method_10_code (4 : Nat) (Option.some Jvm.ClassFile.FieldType.int) ∈ bm_ALL := bm_moA wT_567 rfl
theorem wA_562 : Jvm.Cond.code ({ cls := "CaseTables$Program", name := "hasItem", desc := "(J)Z" } : Jvm.MethodName) prog_5_method_11_code (4 : Nat) (Option.some Jvm.ClassFile.FieldType.boolean) ∈ bm_ALL := bm_moA wT_562 rfl
theorem wA_821 : Jvm.Cond.code ({ cls := "CaseTables$Program", name := "tablesOf", desc := "(I)I" } : Jvm.MethodName) prog_5_method_12_code (4 : Nat) (Option.some Jvm.ClassFile.FieldType.int) ∈ bm_ALL := bm_moA wT_821 rfl
theorem wA_1099 : Jvm.Cond.code ({ cls := "CaseTables$Program", name := "caseCount", desc := "()I" } : Jvm.MethodName) prog_5_method_13_code (3 : Nat) (Option.some Jvm.ClassFile.FieldType.int) ∈ bm_ALL := bm_moA wT_1099 rfl
theorem wA_157 : Jvm.Cond.code ({ cls := "CaseTables$Ranges", name := "<init>", desc := "()V" } : Jvm.MethodName) prog_6_method_1_code (1 : Nat) (Option.none : Option Jvm.ClassFile.FieldType) ∈ bm_ALL := bm_moA wT_157 rfl
theorem wA_546 : Jvm.Cond.code ({ cls := "CaseTables$Ranges", name := "clear", desc := "()V" } : Jvm.MethodName) prog_6_method_2_code (2 : Nat) (Option.none : Option Jvm.ClassFile.FieldType) ∈ bm_ALL := bm_moA wT_546 rfl
theorem wA_550 : Jvm.Cond.code ({ cls := "CaseTables$Ranges", name := "put", desc := "(III)V" } : Jvm.MethodName) prog_6_method_3_code (4 : Nat) (Option.none : Option Jvm.ClassFile.FieldType) ∈ bm_ALL := bm_moA wT_550 rfl
theorem wA_703 : Jvm.Cond.code ({ cls := "CaseTables$Ranges", name := "low", desc := "(I)I" } : Jvm.MethodName) prog_6_method_4_code (2 : Nat) (Option.some Jvm.ClassFile.FieldType.int) ∈ bm_ALL := bm_moA wT_703 rfl
theorem wA_707 : Jvm.Cond.code ({ cls := "CaseTables$Ranges", name := "high", desc := "(I)I" } : Jvm.MethodName) prog_6_method_5_code (2 : Nat) (Option.some Jvm.ClassFile.FieldType.int) ∈ bm_ALL := bm_moA wT_707 rfl
theorem wA_724 : Jvm.Cond.code ({ cls := "CaseTables$Ranges", name := "width", desc := "(I)I" } : Jvm.MethodName) prog_6_method_6_code (2 : Nat) (Option.some Jvm.ClassFile.FieldType.int) ∈ bm_ALL := bm_moA wT_724 rfl
theorem wA_720 : Jvm.Cond.code ({ cls := "CaseTables$Ranges", name := "rowCount", desc := "()I" } : Jvm.MethodName) prog_6_method_7_code (1 : Nat) (Option.some Jvm.ClassFile.FieldType.int) ∈ bm_ALL := bm_moA wT_720 rfl
theorem wA_923 : Jvm.Cond.code ({ cls := "CaseTables$Ranges", name := "valueAt", desc := "(II)I" } : Jvm.MethodName) prog_6_method_8_code (5 : Nat) (Option.some Jvm.ClassFile.FieldType.int) ∈ bm_ALL := bm_moA wT_923 rfl
theorem wA_220 : Jvm.Cond.code ({ cls := "CaseTables$Row", name := "<init>", desc := "()V" } : Jvm.MethodName) prog_7_method_1_code (1 : Nat) (Option.none : Option Jvm.ClassFile.FieldType) ∈ bm_ALL := bm_moA wT_220 rfl
theorem wA_694 : Jvm.Cond.code ({ cls := "CaseTables$Row", name := "clear", desc := "()V" } : Jvm.MethodName) prog_7_method_2_code (1 : Nat) (Option.none : Option Jvm.ClassFile.FieldType) ∈ bm_ALL := bm_moA wT_694 rfl
theorem wA_990 : Jvm.Cond.code ({ cls := "CaseTables$Row", name := "admits", desc := "(ZJ)Z" } : Jvm.MethodName) prog_7_method_3_code (4 : Nat) (Option.some Jvm.ClassFile.FieldType.boolean) ∈ bm_ALL := bm_moA wT_990 rfl
theorem wA_379 : Jvm.Cond.code ({ cls := "CaseTables$Runner", name := "<init>", desc := "(LCaseTables$Program;LCaseTables$Machine;)V" } : Jvm.MethodName) prog_8_method_1_code (3 : Nat) (Option.none : Option Jvm.ClassFile.FieldType) ∈ bm_ALL := bm_moA wT_379 rfl
theorem wA_738 : Jvm.Cond.code ({ cls := "CaseTables$Runner", name := "forget", desc := "()V" } : Jvm.MethodName) prog_8_method_2_code (1 : Nat) (Option.none : Option Jvm.ClassFile.FieldType) ∈ bm_ALL := bm_moA wT_738 rfl
theorem wA_904 : Jvm.Cond.code ({ cls := "CaseTables$Runner", name := "refresh", desc := "()V" } : Jvm.MethodName) prog_8_method_3_code (2 : Nat) (Option.none : Option Jvm.ClassFile.FieldType) ∈ bm_ALL := bm_moA wT_904 rfl
theorem wA_913 : Jvm.Cond.code ({ cls := "CaseTables$Runner", name := "runTable", desc := "(LCaseTables$Table;)V" } : Jvm.MethodName) prog_8_method_4_code (7 : Nat) (Option.none : Option Jvm.ClassFile.FieldType) ∈ bm_ALL := bm_moA wT_913 rfl
theorem wA_919 : Jvm.Cond.code ({ cls := "CaseTables$Runner", name := "isHolding", desc := "(ILCaseTables$Row;II)Z" } : Jvm.MethodName) prog_8_method_5_code (8 : Nat) (Option.some Jvm.ClassFile.FieldType.boolean) ∈ bm_ALL := bm_moA wT_919 rfl
theorem wA_1036 : Jvm.Cond.code ({ cls := "CaseTables$Runner", name := "changesFound", desc := "(LCaseTables$Table;LCaseTables$Row;)J" } : Jvm.MethodName) prog_8_method_6_code (7 : Nat) (Option.some Jvm.ClassFile.FieldType.long) ∈ bm_ALL := bm_moA wT_1036 rfl
theorem wA_1040 : Jvm.Cond.code ({ cls := "CaseTables$Runner", name := "search", desc := "(ILCaseTables$Row;)V" } : Jvm.MethodName) prog_8_method_7_code (9 : Nat) (Option.none : Option Jvm.ClassFile.FieldType) ∈ bm_ALL := bm_moA wT_1040 rfl
theorem wA_213 : Jvm.Cond.code ({ cls := "CaseTables$Table", name := "<init>", desc := "()V" } : Jvm.MethodName) prog_9_method_1_code (1 : Nat) (Option.none : Option Jvm.ClassFile.FieldType) ∈ bm_ALL := bm_moA wT_213 rfl
theorem wA_678 : Jvm.Cond.code ({ cls := "CaseTables$Table", name := "clear", desc := "()V" } : Jvm.MethodName) prog_9_method_2_code (1 : Nat) (Option.none : Option Jvm.ClassFile.FieldType) ∈ bm_ALL := bm_moA wT_678 rfl
theorem wA_690 : Jvm.Cond.code ({ cls := "CaseTables$Table", name := "rowAt", desc := "(I)LCaseTables$Row;" } : Jvm.MethodName) prog_9_method_3_code (3 : Nat) (Option.some (Jvm.ClassFile.FieldType.object "CaseTables$Row")) ∈ bm_ALL := bm_moA wT_690 rfl
theorem wA_686 : Jvm.Cond.code ({ cls := "CaseTables$Table", name := "nextRow", desc := "()LCaseTables$Row;" } : Jvm.MethodName) prog_9_method_4_code (2 : Nat) (Option.some (Jvm.ClassFile.FieldType.object "CaseTables$Row")) ∈ bm_ALL := bm_moA wT_686 rfl
theorem wA_716 : Jvm.Cond.code ({ cls := "CaseTables$Table", name := "keepRow", desc := "()V" } : Jvm.MethodName) prog_9_method_5_code (1 : Nat) (Option.none : Option Jvm.ClassFile.FieldType) ∈ bm_ALL := bm_moA wT_716 rfl
theorem wA_1085 : Jvm.Cond.code ({ cls := "CaseTables$Table", name := "drop", desc := "(I)V" } : Jvm.MethodName) prog_9_method_6_code (4 : Nat) (Option.none : Option Jvm.ClassFile.FieldType) ∈ bm_ALL := bm_moA wT_1085 rfl
theorem wA_1109 : Jvm.Cond.code ({ cls := "CaseTables$Table", name := "valueAt", desc := "(II)I" } : Jvm.MethodName) prog_9_method_7_code (6 : Nat) (Option.some Jvm.ClassFile.FieldType.int) ∈ bm_ALL := bm_moA wT_1109 rfl
theorem wA_995 : Jvm.Cond.code ({ cls := "CaseTables$Table", name := "note", desc := "(IZ)V" } : Jvm.MethodName) prog_9_method_8_code (3 : Nat) (Option.none : Option Jvm.ClassFile.FieldType) ∈ bm_ALL := bm_moA wT_995 rfl
theorem wA_1011 : Jvm.Cond.code ({ cls := "CaseTables$Table", name := "isHolding", desc := "(I)Z" } : Jvm.MethodName) prog_9_method_9_code (2 : Nat) (Option.some Jvm.ClassFile.FieldType.boolean) ∈ bm_ALL := bm_moA wT_1011 rfl
theorem wA_1003 : Jvm.Cond.code ({ cls := "CaseTables$Table", name := "tell", desc := "(I)I" } : Jvm.MethodName) prog_9_method_10_code (2 : Nat) (Option.some Jvm.ClassFile.FieldType.int) ∈ bm_ALL := bm_moA wT_1003 rfl
theorem wA_1007 : Jvm.Cond.code ({ cls := "CaseTables$Table", name := "holdingCount", desc := "()I" } : Jvm.MethodName) prog_9_method_11_code (3 : Nat) (Option.some Jvm.ClassFile.FieldType.int) ∈ bm_ALL := bm_moA wT_1007 rfl
theorem wA_1015 : Jvm.Cond.code ({ cls := "CaseTables$Table", name := "firstNotHolding", desc := "()I" } : Jvm.MethodName) prog_9_method_12_code (2 : Nat) (Option.some Jvm.ClassFile.FieldType.int) ∈ bm_ALL := bm_moA wT_1015 rfl
theorem wA_84 : Jvm.Cond.code ({ cls := "CaseTables$Tape", name := "<init>", desc := "()V" } : Jvm.MethodName) prog_10_method_1_code (1 : Nat) (Option.none : Option Jvm.ClassFile.FieldType) ∈ bm_ALL := bm_moA wT_84 rfl
theorem wA_460 : Jvm.Cond.code ({ cls := "CaseTables$Tape", name := "length", desc := "()I" } : Jvm.MethodName) prog_10_method_2_code (1 : Nat) (Option.some Jvm.ClassFile.FieldType.int) ∈ bm_ALL := bm_moA wT_460 rfl
theorem wA_1185 : Jvm.Cond.code ({ cls := "CaseTables$Tape", name := "room", desc := "()I" } : Jvm.MethodName) prog_10_method_3_code (1 : Nat) (Option.some Jvm.ClassFile.FieldType.int) ∈ bm_ALL := bm_moA wT_1185 rfl
theorem wA_742 : Jvm.Cond.code ({ cls := "CaseTables$Tape", name := "cutTo", desc := "(I)V" } : Jvm.MethodName) prog_10_method_4_code (2 : Nat) (Option.none : Option Jvm.ClassFile.FieldType) ∈ bm_ALL := bm_moA wT_742 rfl
theorem wA_1189 : Jvm.Cond.code ({ cls := "CaseTables$Tape", name := "append", desc := "(I)V" } : Jvm.MethodName) prog_10_method_5_code (3 : Nat) (Option.none : Option Jvm.ClassFile.FieldType) ∈ bm_ALL := bm_moA wT_1189 rfl
theorem wA_464 : Jvm.Cond.code ({ cls := "CaseTables$Tape", name := "byteAt", desc := "(I)I" } : Jvm.MethodName) prog_10_method_6_code (2 : Nat) (Option.some Jvm.ClassFile.FieldType.int) ∈ bm_ALL := bm_moA wT_464 rfl
theorem wA_98 : Jvm.Cond.code ({ cls := "CaseTables$Tokens", name := "<init>", desc := "(LCaseTables$Tape;)V" } : Jvm.MethodName) prog_11_method_1_code (2 : Nat) (Option.none : Option Jvm.ClassFile.FieldType) ∈ bm_ALL := bm_moA wT_98 rfl
theorem wA_448 : Jvm.Cond.code ({ cls := "CaseTables$Tokens", name := "scan", desc := "()V" } : Jvm.MethodName) prog_11_method_2_code (2 : Nat) (Option.none : Option Jvm.ClassFile.FieldType) ∈ bm_ALL := bm_moA wT_448 rfl
theorem wA_512 : Jvm.Cond.code ({ cls := "CaseTables$Tokens", name := "sees", desc := "(I)Z" } : Jvm.MethodName) prog_11_method_3_code (2 : Nat) (Option.some Jvm.ClassFile.FieldType.boolean) ∈ bm_ALL := bm_moA wT_512 rfl
theorem wA_583 : Jvm.Cond.code ({ cls := "CaseTables$Tokens", name := "passes", desc := "(I)Z" } : Jvm.MethodName) prog_11_method_4_code (2 : Nat) (Option.some Jvm.ClassFile.FieldType.boolean) ∈ bm_ALL := bm_moA wT_583 rfl
theorem wA_528 : Jvm.Cond.code ({ cls := "CaseTables$Tokens", name := "expect", desc := "(I)Z" } : Jvm.MethodName) prog_11_method_5_code (2 : Nat) (Option.some Jvm.ClassFile.FieldType.boolean) ∈ bm_ALL := bm_moA wT_528 rfl
theorem wA_654 : Jvm.Cond.code ({ cls := "CaseTables$Tokens", name := "oneOf", desc := "(II)I" } : Jvm.MethodName) prog_11_method_6_code (3 : Nat) (Option.some Jvm.ClassFile.FieldType.int) ∈ bm_ALL := bm_moA wT_654 rfl
theorem wA_533 : Jvm.Cond.code ({ cls := "CaseTables$Tokens", name := "fail", desc := "()V" } : Jvm.MethodName) prog_11_method_7_code (1 : Nat) (Option.none : Option Jvm.ClassFile.FieldType) ∈ bm_ALL := bm_moA wT_533 rfl
theorem wA_520 : Jvm.Cond.code ({ cls := "CaseTables$Tokens", name := "startHere", desc := "()I" } : Jvm.MethodName) prog_11_method_8_code (1 : Nat) (Option.some Jvm.ClassFile.FieldType.int) ∈ bm_ALL := bm_moA wT_520 rfl
theorem wA_558 : Jvm.Cond.code ({ cls := "CaseTables$Tokens", name := "valueHere", desc := "()J" } : Jvm.MethodName) prog_11_method_9_code (1 : Nat) (Option.some Jvm.ClassFile.FieldType.long) ∈ bm_ALL := bm_moA wT_558 rfl
theorem wA_596 : Jvm.Cond.code ({ cls := "CaseTables$Tokens", name := "allow", desc := "(I)V" } : Jvm.MethodName) prog_11_method_10_code (2 : Nat) (Option.none : Option Jvm.ClassFile.FieldType) ∈ bm_ALL := bm_moA wT_596 rfl
theorem wA_662 : Jvm.Cond.code ({ cls := "CaseTables$Tokens", name := "allowAll", desc := "()V" } : Jvm.MethodName) prog_11_method_11_code (1 : Nat) (Option.none : Option Jvm.ClassFile.FieldType) ∈ bm_ALL := bm_moA wT_662 rfl
theorem wA_452 : Jvm.Cond.code ({ cls := "CaseTables$Tokens", name := "scanOne", desc := "()V" } : Jvm.MethodName) prog_11_method_12_code (2 : Nat) (Option.none : Option Jvm.ClassFile.FieldType) ∈ bm_ALL := bm_moA wT_452 rfl
theorem wA_456 : Jvm.Cond.code ({ cls := "CaseTables$Tokens", name := "skipBlanks", desc := "()V" } : Jvm.MethodName) prog_11_method_13_code (1 : Nat) (Option.none : Option Jvm.ClassFile.FieldType) ∈ bm_ALL := bm_moA wT_456 rfl
theorem wA_474 : Jvm.Cond.code ({ cls := "CaseTables$Tokens", name := "scanWord", desc := "()V" } : Jvm.MethodName) prog_11_method_14_code (1 : Nat) (Option.none : Option Jvm.ClassFile.FieldType) ∈ bm_ALL := bm_moA wT_474 rfl
theorem wA_484 : Jvm.Cond.code ({ cls := "CaseTables$Tokens", name := "wordKind", desc := "()I" } : Jvm.MethodName) prog_11_method_15_code (2 : Nat) (Option.some Jvm.ClassFile.FieldType.int) ∈ bm_ALL := bm_moA wT_484 rfl
theorem wA_490 : Jvm.Cond.code ({ cls := "CaseTables$Tokens", name := "scanNumber", desc := "()V" } : Jvm.MethodName) prog_11_method_16_code (1 : Nat) (Option.none : Option Jvm.ClassFile.FieldType) ∈ bm_ALL := bm_moA wT_490 rfl
theorem wA_496 : Jvm.Cond.code ({ cls := "CaseTables$Tokens", name := "symbolKind", desc := "(I)I" } : Jvm.MethodName) prog_11_method_17_code (2 : Nat) (Option.some Jvm.ClassFile.FieldType.int) ∈ bm_ALL := bm_moA wT_496 rfl
theorem wA_500 : Jvm.Cond.code ({ cls := "CaseTables$Tokens", name := "follows", desc := "(I)Z" } : Jvm.MethodName) prog_11_method_18_code (2 : Nat) (Option.some Jvm.ClassFile.FieldType.boolean) ∈ bm_ALL := bm_moA wT_500 rfl
theorem wA_467 : Jvm.Cond.code ({ cls := "CaseTables$Tokens", name := "isBlank", desc := "(I)Z" } : Jvm.MethodName) prog_11_method_19_code (1 : Nat) (Option.some Jvm.ClassFile.FieldType.boolean) ∈ bm_ALL := bm_moA wT_467 rfl
theorem wA_470 : Jvm.Cond.code ({ cls := "CaseTables$Tokens", name := "isLetter", desc := "(I)Z" } : Jvm.MethodName) prog_11_method_20_code (1 : Nat) (Option.some Jvm.ClassFile.FieldType.boolean) ∈ bm_ALL := bm_moA wT_470 rfl
theorem wA_480 : Jvm.Cond.code ({ cls := "CaseTables$Tokens", name := "isDigit", desc := "(I)Z" } : Jvm.MethodName) prog_11_method_21_code (1 : Nat) (Option.some Jvm.ClassFile.FieldType.boolean) ∈ bm_ALL := bm_moA wT_480 rfl
theorem wA_477 : Jvm.Cond.code ({ cls := "CaseTables$Tokens", name := "isWordSign", desc := "(I)Z" } : Jvm.MethodName) prog_11_method_22_code (1 : Nat) (Option.some Jvm.ClassFile.FieldType.boolean) ∈ bm_ALL := bm_moA wT_477 rfl
theorem wA_395 : Jvm.Cond.code ({ cls := "CaseTables$Untried", name := "<init>", desc := "()V" } : Jvm.MethodName) prog_12_method_1_code (1 : Nat) (Option.none : Option Jvm.ClassFile.FieldType) ∈ bm_ALL := bm_moA wT_395 rfl
theorem wA_835 : Jvm.Cond.code ({ cls := "CaseTables$Untried", name := "begin", desc := "(LCaseTables$Fun;)V" } : Jvm.MethodName) prog_12_method_2_code (3 : Nat) (Option.none : Option Jvm.ClassFile.FieldType) ∈ bm_ALL := bm_moA wT_835 rfl
theorem wA_847 : Jvm.Cond.code ({ cls := "CaseTables$Untried", name := "strikeTable", desc := "(LCaseTables$Ranges;LCaseTables$Table;)V" } : Jvm.MethodName) prog_12_method_3_code (5 : Nat) (Option.none : Option Jvm.ClassFile.FieldType) ∈ bm_ALL := bm_moA wT_847 rfl
theorem wA_858 : Jvm.Cond.code ({ cls := "CaseTables$Untried", name := "pairCount", desc := "()I" } : Jvm.MethodName) prog_12_method_4_code (1 : Nat) (Option.some Jvm.ClassFile.FieldType.int) ∈ bm_ALL := bm_moA wT_858 rfl
theorem wA_875 : Jvm.Cond.code ({ cls := "CaseTables$Untried", name := "bestRow", desc := "()I" } : Jvm.MethodName) prog_12_method_5_code (7 : Nat) (Option.some Jvm.ClassFile.FieldType.int) ∈ bm_ALL := bm_moA wT_875 rfl
theorem wA_879 : Jvm.Cond.code ({ cls := "CaseTables$Untried", name := "bestThird", desc := "(II)I" } : Jvm.MethodName) prog_12_method_6_code (9 : Nat) (Option.some Jvm.ClassFile.FieldType.int) ∈ bm_ALL := bm_moA wT_879 rfl
theorem wA_889 : Jvm.Cond.code ({ cls := "CaseTables$Untried", name := "pairsIn", desc := "(III)I" } : Jvm.MethodName) prog_12_method_7_code (4 : Nat) (Option.some Jvm.ClassFile.FieldType.int) ∈ bm_ALL := bm_moA wT_889 rfl
theorem wA_839 : Jvm.Cond.code ({ cls := "CaseTables$Untried", name := "fill", desc := "([JII)V" } : Jvm.MethodName) prog_12_method_8_code (4 : Nat) (Option.none : Option Jvm.ClassFile.FieldType) ∈ bm_ALL := bm_moA wT_839 rfl
theorem wA_851 : Jvm.Cond.code ({ cls := "CaseTables$Untried", name := "strike", desc := "([JLCaseTables$Ranges;LCaseTables$Ranges;II)V" } : Jvm.MethodName) prog_12_method_9_code (9 : Nat) (Option.none : Option Jvm.ClassFile.FieldType) ∈ bm_ALL := bm_moA wT_851 rfl
theorem wA_885 : Jvm.Cond.code ({ cls := "CaseTables$Untried", name := "lowestBit", desc := "(J)I" } : Jvm.MethodName) prog_12_method_10_code (2 : Nat) (Option.some Jvm.ClassFile.FieldType.int) ∈ bm_ALL := bm_moA wT_885 rfl
theorem wA_842 : Jvm.Cond.code ({ cls := "CaseTables$Untried", name := "upTo", desc := "(I)J" } : Jvm.MethodName) prog_12_method_11_code (1 : Nat) (Option.some Jvm.ClassFile.FieldType.long) ∈ bm_ALL := bm_moA wT_842 rfl
theorem wA_861 : Jvm.Cond.code ({ cls := "CaseTables$Untried", name := "bits", desc := "([J)I" } : Jvm.MethodName) prog_12_method_12_code (3 : Nat) (Option.some Jvm.ClassFile.FieldType.int) ∈ bm_ALL := bm_moA wT_861 rfl
theorem wA_882 : Jvm.Cond.code ({ cls := "CaseTables$Untried", name := "maskAt", desc := "([JI)J" } : Jvm.MethodName) prog_12_method_13_code (2 : Nat) (Option.some Jvm.ClassFile.FieldType.long) ∈ bm_ALL := bm_moA wT_882 rfl
theorem wA_892 : Jvm.Cond.code ({ cls := "CaseTables$Untried", name := "bitAt", desc := "([JII)I" } : Jvm.MethodName) prog_12_method_14_code (3 : Nat) (Option.some Jvm.ClassFile.FieldType.int) ∈ bm_ALL := bm_moA wT_892 rfl
theorem wA_76 : Jvm.Cond.code ({ cls := "CaseTables", name := "<init>", desc := "()V" } : Jvm.MethodName) prog_1_method_1_code (1 : Nat) (Option.none : Option Jvm.ClassFile.FieldType) ∈ bm_ALL := bm_moA wT_76 rfl
theorem wA_1181 : Jvm.Cond.code ({ cls := "CaseTables", name := "feed", desc := "(IIIII)I" } : Jvm.MethodName) prog_1_method_2_code (6 : Nat) (Option.some Jvm.ClassFile.FieldType.int) ∈ bm_ALL := bm_moA wT_1181 rfl
theorem wA_1193 : Jvm.Cond.code ({ cls := "CaseTables", name := "trim", desc := "(I)I" } : Jvm.MethodName) prog_1_method_3_code (2 : Nat) (Option.some Jvm.ClassFile.FieldType.int) ∈ bm_ALL := bm_moA wT_1193 rfl
theorem wA_444 : Jvm.Cond.code ({ cls := "CaseTables", name := "compile", desc := "()I" } : Jvm.MethodName) prog_1_method_4_code (2 : Nat) (Option.some Jvm.ClassFile.FieldType.int) ∈ bm_ALL := bm_moA wT_444 rfl
theorem wA_1095 : Jvm.Cond.code ({ cls := "CaseTables", name := "count", desc := "(I)I" } : Jvm.MethodName) prog_1_method_6_code (2 : Nat) (Option.some Jvm.ClassFile.FieldType.int) ∈ bm_ALL := bm_moA wT_1095 rfl
theorem wA_746 : Jvm.Cond.code ({ cls := "CaseTables", name := "fun", desc := "(II)I" } : Jvm.MethodName) prog_1_method_7_code (4 : Nat) (Option.some Jvm.ClassFile.FieldType.int) ∈ bm_ALL := bm_moA wT_746 rfl
theorem wA_871 : Jvm.Cond.code ({ cls := "CaseTables", name := "propose", desc := "(I)I" } : Jvm.MethodName) prog_1_method_11_code (2 : Nat) (Option.some Jvm.ClassFile.FieldType.int) ∈ bm_ALL := bm_moA wT_871 rfl
theorem wA_896 : Jvm.Cond.code ({ cls := "CaseTables", name := "table", desc := "(II)I" } : Jvm.MethodName) prog_1_method_12_code (4 : Nat) (Option.some Jvm.ClassFile.FieldType.int) ∈ bm_ALL := bm_moA wT_896 rfl
theorem wA_1019 : Jvm.Cond.code ({ cls := "CaseTables", name := "holds", desc := "(II)Z" } : Jvm.MethodName) prog_1_method_14_code (4 : Nat) (Option.some Jvm.ClassFile.FieldType.boolean) ∈ bm_ALL := bm_moA wT_1019 rfl
theorem wA_1024 : Jvm.Cond.code ({ cls := "CaseTables", name := "taken", desc := "(IZ)I" } : Jvm.MethodName) prog_1_method_15_code (3 : Nat) (Option.some Jvm.ClassFile.FieldType.int) ∈ bm_ALL := bm_moA wT_1024 rfl
theorem wA_1032 : Jvm.Cond.code ({ cls := "CaseTables", name := "finds", desc := "(II)Z" } : Jvm.MethodName) prog_1_method_16_code (4 : Nat) (Option.some Jvm.ClassFile.FieldType.boolean) ∈ bm_ALL := bm_moA wT_1032 rfl
theorem wA_1045 : Jvm.Cond.code ({ cls := "CaseTables", name := "score", desc := "(I)D" } : Jvm.MethodName) prog_1_method_17_code (4 : Nat) (Option.some Jvm.ClassFile.FieldType.double) ∈ bm_ALL := bm_moA wT_1045 rfl
theorem wA_1050 : Jvm.Cond.code ({ cls := "CaseTables", name := "grow", desc := "(I)I" } : Jvm.MethodName) prog_1_method_18_code (4 : Nat) (Option.some Jvm.ClassFile.FieldType.int) ∈ bm_ALL := bm_moA wT_1050 rfl
theorem wA_1080 : Jvm.Cond.code ({ cls := "CaseTables", name := "shorten", desc := "(I)I" } : Jvm.MethodName) prog_1_method_19_code (6 : Nat) (Option.some Jvm.ClassFile.FieldType.int) ∈ bm_ALL := bm_moA wT_1080 rfl
theorem wA_1089 : Jvm.Cond.code ({ cls := "CaseTables", name := "digest", desc := "()J" } : Jvm.MethodName) prog_1_method_20_code (5 : Nat) (Option.some Jvm.ClassFile.FieldType.long) ∈ bm_ALL := bm_moA wT_1089 rfl
theorem wA_1105 : Jvm.Cond.code ({ cls := "CaseTables", name := "addTable", desc := "(JLCaseTables$Table;)J" } : Jvm.MethodName) prog_1_method_21_code (9 : Nat) (Option.some Jvm.ClassFile.FieldType.long) ∈ bm_ALL := bm_moA wT_1105 rfl
theorem wA_753 : Jvm.Cond.code ({ cls := "CaseTables", name := "requireBelow", desc := "(II)V" } : Jvm.MethodName) prog_1_method_22_code (2 : Nat) (Option.none : Option Jvm.ClassFile.FieldType) ∈ bm_ALL := bm_moA wT_753 rfl
theorem wA_750 : Jvm.Cond.code ({ cls := "CaseTables", name := "existingFun", desc := "(I)LCaseTables$Fun;" } : Jvm.MethodName) prog_1_method_23_code (2 : Nat) (Option.some (Jvm.ClassFile.FieldType.object "CaseTables$Fun")) ∈ bm_ALL := bm_moA wT_750 rfl
theorem wA_900 : Jvm.Cond.code ({ cls := "CaseTables", name := "existingTable", desc := "(I)LCaseTables$Table;" } : Jvm.MethodName) prog_1_method_24_code (2 : Nat) (Option.some (Jvm.ClassFile.FieldType.object "CaseTables$Table")) ∈ bm_ALL := bm_moA wT_900 rfl
theorem wA_831 : Jvm.Cond.code ({ cls := "CaseTables", name := "findUntried", desc := "(I)V" } : Jvm.MethodName) prog_1_method_26_code (5 : Nat) (Option.none : Option Jvm.ClassFile.FieldType) ∈ bm_ALL := bm_moA wT_831 rfl
theorem wA_1069 : Jvm.Cond.code ({ cls := "CaseTables", name := "addCase", desc := "(LCaseTables$Table;I)V" } : Jvm.MethodName) prog_1_method_27_code (7 : Nat) (Option.none : Option Jvm.ClassFile.FieldType) ∈ bm_ALL := bm_moA wT_1069 rfl
theorem wA_982 : Jvm.Cond.code ({ cls := "CaseTables", name := "isRelated", desc := "(IJJ)Z" } : Jvm.MethodName) prog_1_method_28_code (5 : Nat) (Option.some Jvm.ClassFile.FieldType.boolean) ∈ bm_ALL := bm_moA wT_982 rfl
theorem wA_1125 : Jvm.Cond.code ({ cls := "java/lang/String", name := "length", desc := "()I" } : Jvm.MethodName) prog_22_method_54_code (1 : Nat) (Option.some Jvm.ClassFile.FieldType.int) ∈ bm_ALL := bm_moA wT_1125 rfl
theorem wA_1129 : Jvm.Cond.code ({ cls := "java/lang/String", name := "coder", desc := "()B" } : Jvm.MethodName) prog_22_method_152_code (1 : Nat) (Option.some Jvm.ClassFile.FieldType.byte) ∈ bm_ALL := bm_moA wT_1129 rfl
theorem wA_1135 : Jvm.Cond.code ({ cls := "java/lang/String", name := "charAt", desc := "(I)C" } : Jvm.MethodName) prog_22_method_56_code (2 : Nat) (Option.some Jvm.ClassFile.FieldType.char) ∈ bm_ALL := bm_moA wT_1135 rfl
theorem wA_1139 : Jvm.Cond.code ({ cls := "java/lang/String", name := "isLatin1", desc := "()Z" } : Jvm.MethodName) prog_22_method_154_code (1 : Nat) (Option.some Jvm.ClassFile.FieldType.boolean) ∈ bm_ALL := bm_moA wT_1139 rfl
theorem wA_1142 : Jvm.Cond.code ({ cls := "java/lang/StringLatin1", name := "charAt", desc := "([BI)C" } : Jvm.MethodName) prog_23_method_2_code (2 : Nat) (Option.some Jvm.ClassFile.FieldType.char) ∈ bm_ALL := bm_moA wT_1142 rfl
theorem wA_61 : Jvm.Cond.initialized "java/lang/StringLatin1" ∈ bm_ALL := bm_moA wT_61 rfl
theorem wA_864 : Jvm.Cond.code ({ cls := "java/lang/Long", name := "bitCount", desc := "(J)I" } : Jvm.MethodName) prog_19_method_50_code (2 : Nat) (Option.some Jvm.ClassFile.FieldType.int) ∈ bm_ALL := bm_moA wT_864 rfl
theorem wA_70 : Jvm.Cond.initialized "java/lang/Long" ∈ bm_ALL := bm_moA wT_70 rfl
theorem wA_1150 : Jvm.Cond.code ({ cls := "jdk/internal/util/Preconditions", name := "checkIndex", desc := "(IILjava/util/function/BiFunction;)I" } : Jvm.MethodName) prog_26_method_11_code (3 : Nat) (Option.some Jvm.ClassFile.FieldType.int) ∈ bm_ALL := bm_moA wT_1150 rfl
theorem wA_62 : Jvm.Cond.initialized "jdk/internal/util/Preconditions" ∈ bm_ALL := bm_moA wT_62 rfl
theorem wA_1145 : Jvm.Cond.code ({ cls := "java/lang/String", name := "checkIndex", desc := "(II)V" } : Jvm.MethodName) prog_22_method_155_code (2 : Nat) (Option.none : Option Jvm.ClassFile.FieldType) ∈ bm_ALL := bm_moA wT_1145 rfl
theorem wA_1113 : Jvm.Cond.code ({ cls := "CaseTablesLaw", name := "below", desc := "(II)I" } : Jvm.MethodName) method_2_code (2 : Nat) (Option.some Jvm.ClassFile.FieldType.int) ∈ bm_ALL := bm_moA wT_1113 rfl
theorem wA_47 : Jvm.Cond.initialized "CaseTablesLaw" ∈ bm_ALL := bm_moA wT_47 rfl
theorem wA_1117 : Jvm.Cond.code ({ cls := "CaseTablesLaw", name := "cell", desc := "([II)I" } : Jvm.MethodName) method_3_code (2 : Nat) (Option.some Jvm.ClassFile.FieldType.int) ∈ bm_ALL := bm_moA wT_1117 rfl
theorem wA_1121 : Jvm.Cond.code ({ cls := "CaseTablesLaw", name := "put", desc := "([ILjava/lang/String;)V" } : Jvm.MethodName) method_4_code (3 : Nat) (Option.none : Option Jvm.ClassFile.FieldType) ∈ bm_ALL := bm_moA wT_1121 rfl
theorem wA_1172 : Jvm.Cond.code ({ cls := "CaseTablesLaw", name := "put", desc := "([II)V" } : Jvm.MethodName) method_5_code (2 : Nat) (Option.none : Option Jvm.ClassFile.FieldType) ∈ bm_ALL := bm_moA wT_1172 rfl
theorem wA_1176 : Jvm.Cond.code ({ cls := "CaseTablesLaw", name := "lay", desc := "(LCaseTables;[I)Z" } : Jvm.MethodName) method_6_code (7 : Nat) (Option.some Jvm.ClassFile.FieldType.boolean) ∈ bm_ALL := bm_moA wT_1176 rfl
def bm_KK : bm_K := ((20, [1, 3, 4, 3, 4, 3, 4, 3, 3, 3, 3, 3, 17, 12, 8, 7, 8, 22, 4, 6], [[45], [32, 61, 32], [32, 60, 62, 32], [32, 60, 32], [32, 60, 61, 32], [32, 62, 32], [32, 62, 61, 32], [32, 43, 32], [32, 45, 32], [32, 42, 32], [32, 47, 32], [32, 37, 32], [102, 117, 110, 32, 102, 32, 40, 120, 32, 105, 110, 32, 48, 32, 46, 46, 32], [44, 32, 121, 32, 105, 110, 32, 48, 32, 46, 46, 32], [41, 32, 61, 32, 105, 102, 32, 120], [32, 116, 104, 101, 110, 32, 120], [121, 32, 101, 108, 115, 101, 32, 121], [59, 32, 116, 97, 98, 108, 101, 32, 116, 32, 111, 102, 32, 102, 58, 32, 48, 44, 32, 48, 58, 32], [97, 110, 121, 59], [101, 114, 114, 111, 114, 59]]), [("CaseTablesLaw", 19, "-", 0), ("CaseTablesLaw", 44, " = ", 1), ("CaseTablesLaw", 46, " <> ", 2), ("CaseTablesLaw", 48, " < ", 3), ("CaseTablesLaw", 50, " <= ", 4), ("CaseTablesLaw", 52, " > ", 5), ("CaseTablesLaw", 54, " >= ", 6), ("CaseTablesLaw", 56, " + ", 7), ("CaseTablesLaw", 58, " - ", 8), ("CaseTablesLaw", 60, " * ", 9), ("CaseTablesLaw", 62, " / ", 10), ("CaseTablesLaw", 64, " % ", 11), ("CaseTablesLaw", 66, "fun f (x in 0 .. ", 12), ("CaseTablesLaw", 76, ", y in 0 .. ", 13), ("CaseTablesLaw", 78, ") = if x", 14), ("CaseTablesLaw", 80, " then x", 15), ("CaseTablesLaw", 82, "y else y", 16), ("CaseTablesLaw", 84, "; table t of f: 0, 0: ", 17), ("CaseTablesLaw", 86, "any;", 18), ("CaseTablesLaw", 88, "error;", 19)], [("CaseTables", "KEYWORDS", "[J", .inr (.inr (.inr (.inr (2, 0))))), ("java/lang/String", "COMPACT_STRINGS", "Z", .inl 1), ("jdk/internal/util/Preconditions", "SIOOBE_FORMATTER", "Ljava/util/function/BiFunction;", .inr (.inr (.inr (.inr (3, 0)))))], ([6714734, 26990, 26982, 1952998766, 1701606245, 6385252, 28530, 7237492, 499850046565, 28518, 6385273, 435711799154], [], []))
theorem bm_KKok : bm_Kok bm_KK := by
  refine ⟨fun i => ?_, by decide, by decide, by decide⟩
  by_cases h : i < 20
  · exact (by decide : ∀ i, i < 20 → bm_KK.1.2.1.getD i 0 < 2147483648) i h
  · have e : bm_KK.1.2.1.getD i 0 = 0 := by
      rw [List.getD_eq_getElem?_getD, List.getElem?_eq_none (by show 20 ≤ i; omega)]
      rfl
    rw [e]; omega
def bm_thr (own : String) (ic : Nat) (E : String) (names : List String) : Bool := (vx_at0 own ic E names).all (fun w => decide (w ∈ lw_tbl) && (goodWord w || bm_nwk w))
theorem bm_hat {own : String} {ic : Nat} {E : String} {names : List String} (h : bm_thr own ic E names = true) : ∀ w ∈ vx_at0 own ic E names, w ∈ bm_ALL ∨ w ∈ bm_NW := by
  intro w hw
  have h2 := List.all_eq_true.mp h w hw
  simp only [Bool.and_eq_true, Bool.or_eq_true, decide_eq_true_eq] at h2
  exact h2.2.imp (fun g => List.mem_filter.mpr ⟨h2.1, g⟩) (fun g => List.mem_filter.mpr ⟨h2.1, g⟩)
theorem bm_hot {own : String} {ik ic : Nat} {E : String} {names : List String} (h : (Cond.classLink own ik E :: Cond.initialized E :: vx_at0 own ic E names).all vx_ot = true) : ∀ w ∈ Cond.classLink own ik E :: Cond.initialized E :: vx_at0 own ic E names, vx_ot w = true := List.all_eq_true.mp h
