/-! ===== words of the tables by their places; classes; the constants (laid by program) ===== -/
theorem bm_inA {w : Cond} (i : Nat) (h : lw_tbl[i]? = some w) (g : goodWord w = true) : w ∈ bm_ALL := List.mem_filter.mpr ⟨List.mem_of_getElem? h, g⟩
theorem bm_inN {w : Cond} (i : Nat) (h : lw_tbl[i]? = some w) (g : bm_nwk w = true) : w ∈ bm_NW := List.mem_filter.mpr ⟨List.mem_of_getElem? h, g⟩
theorem bm_moA {w : Cond} (h : w ∈ lw_tbl) (g : goodWord w = true) : w ∈ bm_ALL := List.mem_filter.mpr ⟨h, g⟩
theorem bm_moN {w : Cond} (h : w ∈ lw_tbl) (g : bm_nwk w = true) : w ∈ bm_NW := List.mem_filter.mpr ⟨h, g⟩
theorem bm_cl_0 : bm_Cl 0 RX0 TX0 6 := ⟨by decide, rfl, fun w hw => List.mem_filter.mpr ⟨(by decide +kernel : ∀ w ∈ u_ws RX0 TX0 6, w ∈ lw_tbl) w hw, List.all_eq_true.mp (by decide +kernel : (u_ws RX0 TX0 6).all goodWord = true) w hw⟩, tyX0_ok, nmX0⟩
theorem bm_cl_1 : bm_Cl 1 RX1 TX1 10 := ⟨by decide, rfl, fun w hw => List.mem_filter.mpr ⟨(by decide +kernel : ∀ w ∈ u_ws RX1 TX1 10, w ∈ lw_tbl) w hw, List.all_eq_true.mp (by decide +kernel : (u_ws RX1 TX1 10).all goodWord = true) w hw⟩, tyX1_ok, nmX1⟩
theorem bm_cl_2 : bm_Cl 2 RX2 TX2 7 := ⟨by decide, rfl, fun w hw => List.mem_filter.mpr ⟨(by decide +kernel : ∀ w ∈ u_ws RX2 TX2 7, w ∈ lw_tbl) w hw, List.all_eq_true.mp (by decide +kernel : (u_ws RX2 TX2 7).all goodWord = true) w hw⟩, tyX2_ok, nmX2⟩
theorem bm_cl_3 : bm_Cl 3 RX3 TX3 7 := ⟨by decide, rfl, fun w hw => List.mem_filter.mpr ⟨(by decide +kernel : ∀ w ∈ u_ws RX3 TX3 7, w ∈ lw_tbl) w hw, List.all_eq_true.mp (by decide +kernel : (u_ws RX3 TX3 7).all goodWord = true) w hw⟩, tyX3_ok, nmX3⟩
theorem bm_cl_4 : bm_Cl 4 RX4 TX4 2 := ⟨by decide, rfl, fun w hw => List.mem_filter.mpr ⟨(by decide +kernel : ∀ w ∈ u_ws RX4 TX4 2, w ∈ lw_tbl) w hw, List.all_eq_true.mp (by decide +kernel : (u_ws RX4 TX4 2).all goodWord = true) w hw⟩, tyX4_ok, nmX4⟩
theorem bm_cl_5 : bm_Cl 5 RX5 TX5 5 := ⟨by decide, rfl, fun w hw => List.mem_filter.mpr ⟨(by decide +kernel : ∀ w ∈ u_ws RX5 TX5 5, w ∈ lw_tbl) w hw, List.all_eq_true.mp (by decide +kernel : (u_ws RX5 TX5 5).all goodWord = true) w hw⟩, tyX5_ok, nmX5⟩
theorem bm_cl_6 : bm_Cl 6 RX6 TX6 3 := ⟨by decide, rfl, fun w hw => List.mem_filter.mpr ⟨(by decide +kernel : ∀ w ∈ u_ws RX6 TX6 3, w ∈ lw_tbl) w hw, List.all_eq_true.mp (by decide +kernel : (u_ws RX6 TX6 3).all goodWord = true) w hw⟩, tyX6_ok, nmX6⟩
theorem bm_cl_7 : bm_Cl 7 RX7 TX7 7 := ⟨by decide, rfl, fun w hw => List.mem_filter.mpr ⟨(by decide +kernel : ∀ w ∈ u_ws RX7 TX7 7, w ∈ lw_tbl) w hw, List.all_eq_true.mp (by decide +kernel : (u_ws RX7 TX7 7).all goodWord = true) w hw⟩, tyX7_ok, nmX7⟩
theorem bm_cl_8 : bm_Cl 8 RX8 TX8 2 := ⟨by decide, rfl, fun w hw => List.mem_filter.mpr ⟨(by decide +kernel : ∀ w ∈ u_ws RX8 TX8 2, w ∈ lw_tbl) w hw, List.all_eq_true.mp (by decide +kernel : (u_ws RX8 TX8 2).all goodWord = true) w hw⟩, tyX8_ok, nmX8⟩
theorem bm_cl_9 : bm_Cl 9 RX9 TX9 11 := ⟨by decide, rfl, fun w hw => List.mem_filter.mpr ⟨(by decide +kernel : ∀ w ∈ u_ws RX9 TX9 11, w ∈ lw_tbl) w hw, List.all_eq_true.mp (by decide +kernel : (u_ws RX9 TX9 11).all goodWord = true) w hw⟩, tyX9_ok, nmX9⟩
theorem bm_cl_10 : bm_Cl 10 RX10 TX10 6 := ⟨by decide, rfl, fun w hw => List.mem_filter.mpr ⟨(by decide +kernel : ∀ w ∈ u_ws RX10 TX10 6, w ∈ lw_tbl) w hw, List.all_eq_true.mp (by decide +kernel : (u_ws RX10 TX10 6).all goodWord = true) w hw⟩, tyX10_ok, nmX10⟩
theorem bm_cl_11 : bm_Cl 11 RX11 TX11 8 := ⟨by decide, rfl, fun w hw => List.mem_filter.mpr ⟨(by decide +kernel : ∀ w ∈ u_ws RX11 TX11 8, w ∈ lw_tbl) w hw, List.all_eq_true.mp (by decide +kernel : (u_ws RX11 TX11 8).all goodWord = true) w hw⟩, tyX11_ok, nmX11⟩
theorem bm_cl_12 : bm_Cl 12 RX12 TX12 43 := ⟨by decide, rfl, fun w hw => List.mem_filter.mpr ⟨(by decide +kernel : ∀ w ∈ u_ws RX12 TX12 43, w ∈ lw_tbl) w hw, List.all_eq_true.mp (by decide +kernel : (u_ws RX12 TX12 43).all goodWord = true) w hw⟩, tyX12_ok, nmX12⟩
theorem wA_397 : Jvm.Cond.methodLink "CaseTables$Compiler" (3 : Nat) ({ cls := "java/lang/Object", name := "<init>", desc := "()V" } : Jvm.MethodName) ∈ bm_ALL := bm_moA wT_397 rfl
theorem wA_156 : Jvm.Cond.instanceMethod ({ cls := "java/lang/Object", name := "<init>", desc := "()V" } : Jvm.MethodName) ∈ bm_ALL := bm_moA wT_156 rfl
theorem wA_157 : Jvm.Cond.code ({ cls := "java/lang/Object", name := "<init>", desc := "()V" } : Jvm.MethodName) object_method_1_code (1 : Nat) (Option.none : Option Jvm.ClassFile.FieldType) ∈ bm_ALL := bm_moA wT_157 rfl
theorem wA_406 : Jvm.Cond.fieldLink "CaseTables$Compiler" (9 : Nat) "CaseTables$Compiler" "tokens" "LCaseTables$Tokens;" ∈ bm_ALL := bm_moA wT_406 rfl
theorem wA_407 : Jvm.Cond.fieldLink "CaseTables$Compiler" (15 : Nat) "CaseTables$Compiler" "program" "LCaseTables$Program;" ∈ bm_ALL := bm_moA wT_407 rfl
theorem wA_398 : Jvm.Cond.methodLink "CaseTables$Compiler" (19 : Nat) ({ cls := "CaseTables$Program", name := "funAt", desc := "(I)LCaseTables$Fun;" } : Jvm.MethodName) ∈ bm_ALL := bm_moA wT_398 rfl
theorem wA_399 : Jvm.Cond.instanceMethod ({ cls := "CaseTables$Program", name := "funAt", desc := "(I)LCaseTables$Fun;" } : Jvm.MethodName) ∈ bm_ALL := bm_moA wT_399 rfl
theorem wA_400 : Jvm.Cond.selects "CaseTables$Program" ({ cls := "CaseTables$Program", name := "funAt", desc := "(I)LCaseTables$Fun;" } : Jvm.MethodName) ({ cls := "CaseTables$Program", name := "funAt", desc := "(I)LCaseTables$Fun;" } : Jvm.MethodName) ∈ bm_ALL := bm_moA wT_400 rfl
theorem wA_410 : Jvm.Cond.fieldLink "CaseTables$Compiler" (25 : Nat) "CaseTables$Compiler" "fun" "LCaseTables$Fun;" ∈ bm_ALL := bm_moA wT_410 rfl
theorem wA_402 : Jvm.Cond.methodLink "CaseTables$Compiler" (29 : Nat) ({ cls := "CaseTables$Program", name := "tableAt", desc := "(I)LCaseTables$Table;" } : Jvm.MethodName) ∈ bm_ALL := bm_moA wT_402 rfl
theorem wA_403 : Jvm.Cond.instanceMethod ({ cls := "CaseTables$Program", name := "tableAt", desc := "(I)LCaseTables$Table;" } : Jvm.MethodName) ∈ bm_ALL := bm_moA wT_403 rfl
theorem wA_404 : Jvm.Cond.selects "CaseTables$Program" ({ cls := "CaseTables$Program", name := "tableAt", desc := "(I)LCaseTables$Table;" } : Jvm.MethodName) ({ cls := "CaseTables$Program", name := "tableAt", desc := "(I)LCaseTables$Table;" } : Jvm.MethodName) ∈ bm_ALL := bm_moA wT_404 rfl
theorem wA_411 : Jvm.Cond.fieldLink "CaseTables$Compiler" (33 : Nat) "CaseTables$Compiler" "table" "LCaseTables$Table;" ∈ bm_ALL := bm_moA wT_411 rfl
theorem wA_408 : Jvm.Cond.fieldLink "CaseTables$Compiler" (37 : Nat) "CaseTables$Compiler" "complaint" "I" ∈ bm_ALL := bm_moA wT_408 rfl
theorem wA_583 : Jvm.Cond.methodLink "CaseTables$Compiler" (41 : Nat) ({ cls := "CaseTables$Program", name := "clear", desc := "()V" } : Jvm.MethodName) ∈ bm_ALL := bm_moA wT_583 rfl
theorem wA_584 : Jvm.Cond.instanceMethod ({ cls := "CaseTables$Program", name := "clear", desc := "()V" } : Jvm.MethodName) ∈ bm_ALL := bm_moA wT_584 rfl
theorem wA_585 : Jvm.Cond.selects "CaseTables$Program" ({ cls := "CaseTables$Program", name := "clear", desc := "()V" } : Jvm.MethodName) ({ cls := "CaseTables$Program", name := "clear", desc := "()V" } : Jvm.MethodName) ∈ bm_ALL := bm_moA wT_585 rfl
theorem wA_587 : Jvm.Cond.methodLink "CaseTables$Compiler" (44 : Nat) ({ cls := "CaseTables$Tokens", name := "sees", desc := "(I)Z" } : Jvm.MethodName) ∈ bm_ALL := bm_moA wT_587 rfl
theorem wA_588 : Jvm.Cond.instanceMethod ({ cls := "CaseTables$Tokens", name := "sees", desc := "(I)Z" } : Jvm.MethodName) ∈ bm_ALL := bm_moA wT_588 rfl
theorem wA_589 : Jvm.Cond.selects "CaseTables$Tokens" ({ cls := "CaseTables$Tokens", name := "sees", desc := "(I)Z" } : Jvm.MethodName) ({ cls := "CaseTables$Tokens", name := "sees", desc := "(I)Z" } : Jvm.MethodName) ∈ bm_ALL := bm_moA wT_589 rfl
theorem wA_591 : Jvm.Cond.methodLink "CaseTables$Compiler" (50 : Nat) ({ cls := "CaseTables$Compiler", name := "readFun", desc := "()V" } : Jvm.MethodName) ∈ bm_ALL := bm_moA wT_591 rfl
theorem wA_593 : Jvm.Cond.instanceMethod ({ cls := "CaseTables$Compiler", name := "readFun", desc := "()V" } : Jvm.MethodName) ∈ bm_ALL := bm_moA wT_593 rfl
theorem wA_7 : Jvm.Cond.selects "CaseTables$Compiler" ({ cls := "CaseTables$Compiler", name := "readFun", desc := "()V" } : Jvm.MethodName) ({ cls := "CaseTables$Compiler", name := "readFun", desc := "()V" } : Jvm.MethodName) ∈ bm_ALL := bm_inA 7 (by decide +kernel) rfl
theorem wA_745 : Jvm.Cond.methodLink "CaseTables$Compiler" (53 : Nat) ({ cls := "CaseTables$Compiler", name := "readTable", desc := "()V" } : Jvm.MethodName) ∈ bm_ALL := bm_moA wT_745 rfl
theorem wA_747 : Jvm.Cond.instanceMethod ({ cls := "CaseTables$Compiler", name := "readTable", desc := "()V" } : Jvm.MethodName) ∈ bm_ALL := bm_moA wT_747 rfl
theorem wA_23 : Jvm.Cond.selects "CaseTables$Compiler" ({ cls := "CaseTables$Compiler", name := "readTable", desc := "()V" } : Jvm.MethodName) ({ cls := "CaseTables$Compiler", name := "readTable", desc := "()V" } : Jvm.MethodName) ∈ bm_ALL := bm_inA 23 (by decide +kernel) rfl
theorem wA_683 : Jvm.Cond.methodLink "CaseTables$Compiler" (56 : Nat) ({ cls := "CaseTables$Tokens", name := "fail", desc := "()V" } : Jvm.MethodName) ∈ bm_ALL := bm_moA wT_683 rfl
theorem wA_609 : Jvm.Cond.instanceMethod ({ cls := "CaseTables$Tokens", name := "fail", desc := "()V" } : Jvm.MethodName) ∈ bm_ALL := bm_moA wT_609 rfl
theorem wA_610 : Jvm.Cond.selects "CaseTables$Tokens" ({ cls := "CaseTables$Tokens", name := "fail", desc := "()V" } : Jvm.MethodName) ({ cls := "CaseTables$Tokens", name := "fail", desc := "()V" } : Jvm.MethodName) ∈ bm_ALL := bm_moA wT_610 rfl
theorem wN_190 : Jvm.Cond.fieldLinkNest "CaseTables$Compiler" (59 : Nat) "CaseTables$Tokens" "failed" "Z" "CaseTables" ∈ bm_NW := bm_moN wT_190 rfl
theorem wA_595 : Jvm.Cond.methodLink "CaseTables$Compiler" (63 : Nat) ({ cls := "CaseTables$Tokens", name := "startHere", desc := "()I" } : Jvm.MethodName) ∈ bm_ALL := bm_moA wT_595 rfl
theorem wA_596 : Jvm.Cond.instanceMethod ({ cls := "CaseTables$Tokens", name := "startHere", desc := "()I" } : Jvm.MethodName) ∈ bm_ALL := bm_moA wT_596 rfl
theorem wA_597 : Jvm.Cond.selects "CaseTables$Tokens" ({ cls := "CaseTables$Tokens", name := "startHere", desc := "()I" } : Jvm.MethodName) ({ cls := "CaseTables$Tokens", name := "startHere", desc := "()I" } : Jvm.MethodName) ∈ bm_ALL := bm_moA wT_597 rfl
theorem wA_409 : Jvm.Cond.fieldLink "CaseTables$Compiler" (67 : Nat) "CaseTables$Compiler" "complaintAt" "I" ∈ bm_ALL := bm_moA wT_409 rfl
theorem wA_658 : Jvm.Cond.methodLink "CaseTables$Compiler" (70 : Nat) ({ cls := "CaseTables$Tokens", name := "passes", desc := "(I)Z" } : Jvm.MethodName) ∈ bm_ALL := bm_moA wT_658 rfl
theorem wA_659 : Jvm.Cond.instanceMethod ({ cls := "CaseTables$Tokens", name := "passes", desc := "(I)Z" } : Jvm.MethodName) ∈ bm_ALL := bm_moA wT_659 rfl
theorem wA_660 : Jvm.Cond.selects "CaseTables$Tokens" ({ cls := "CaseTables$Tokens", name := "passes", desc := "(I)Z" } : Jvm.MethodName) ({ cls := "CaseTables$Tokens", name := "passes", desc := "(I)Z" } : Jvm.MethodName) ∈ bm_ALL := bm_moA wT_660 rfl
theorem wA_633 : Jvm.Cond.methodLink "CaseTables$Compiler" (73 : Nat) ({ cls := "CaseTables$Tokens", name := "valueHere", desc := "()J" } : Jvm.MethodName) ∈ bm_ALL := bm_moA wT_633 rfl
theorem wA_634 : Jvm.Cond.instanceMethod ({ cls := "CaseTables$Tokens", name := "valueHere", desc := "()J" } : Jvm.MethodName) ∈ bm_ALL := bm_moA wT_634 rfl
theorem wA_635 : Jvm.Cond.selects "CaseTables$Tokens" ({ cls := "CaseTables$Tokens", name := "valueHere", desc := "()J" } : Jvm.MethodName) ({ cls := "CaseTables$Tokens", name := "valueHere", desc := "()J" } : Jvm.MethodName) ∈ bm_ALL := bm_moA wT_635 rfl
theorem wA_603 : Jvm.Cond.methodLink "CaseTables$Compiler" (77 : Nat) ({ cls := "CaseTables$Tokens", name := "expect", desc := "(I)Z" } : Jvm.MethodName) ∈ bm_ALL := bm_moA wT_603 rfl
theorem wA_604 : Jvm.Cond.instanceMethod ({ cls := "CaseTables$Tokens", name := "expect", desc := "(I)Z" } : Jvm.MethodName) ∈ bm_ALL := bm_moA wT_604 rfl
theorem wA_605 : Jvm.Cond.selects "CaseTables$Tokens" ({ cls := "CaseTables$Tokens", name := "expect", desc := "(I)Z" } : Jvm.MethodName) ({ cls := "CaseTables$Tokens", name := "expect", desc := "(I)Z" } : Jvm.MethodName) ∈ bm_ALL := bm_moA wT_605 rfl
theorem wA_599 : Jvm.Cond.methodLink "CaseTables$Compiler" (80 : Nat) ({ cls := "CaseTables$Compiler", name := "complain", desc := "(II)V" } : Jvm.MethodName) ∈ bm_ALL := bm_moA wT_599 rfl
theorem wA_601 : Jvm.Cond.instanceMethod ({ cls := "CaseTables$Compiler", name := "complain", desc := "(II)V" } : Jvm.MethodName) ∈ bm_ALL := bm_moA wT_601 rfl
theorem wA_8 : Jvm.Cond.selects "CaseTables$Compiler" ({ cls := "CaseTables$Compiler", name := "complain", desc := "(II)V" } : Jvm.MethodName) ({ cls := "CaseTables$Compiler", name := "complain", desc := "(II)V" } : Jvm.MethodName) ∈ bm_ALL := bm_inA 8 (by decide +kernel) rfl
theorem wA_637 : Jvm.Cond.methodLink "CaseTables$Compiler" (84 : Nat) ({ cls := "CaseTables$Program", name := "hasItem", desc := "(J)Z" } : Jvm.MethodName) ∈ bm_ALL := bm_moA wT_637 rfl
theorem wA_638 : Jvm.Cond.instanceMethod ({ cls := "CaseTables$Program", name := "hasItem", desc := "(J)Z" } : Jvm.MethodName) ∈ bm_ALL := bm_moA wT_638 rfl
theorem wA_639 : Jvm.Cond.selects "CaseTables$Program" ({ cls := "CaseTables$Program", name := "hasItem", desc := "(J)Z" } : Jvm.MethodName) ({ cls := "CaseTables$Program", name := "hasItem", desc := "(J)Z" } : Jvm.MethodName) ∈ bm_ALL := bm_moA wT_639 rfl
theorem wN_370 : Jvm.Cond.fieldLinkNest "CaseTables$Compiler" (88 : Nat) "CaseTables$Program" "funCount" "I" "CaseTables" ∈ bm_NW := bm_moN wT_370 rfl
theorem wA_612 : Jvm.Cond.methodLink "CaseTables$Compiler" (91 : Nat) ({ cls := "CaseTables$Program", name := "nextFun", desc := "()LCaseTables$Fun;" } : Jvm.MethodName) ∈ bm_ALL := bm_moA wT_612 rfl
theorem wA_613 : Jvm.Cond.instanceMethod ({ cls := "CaseTables$Program", name := "nextFun", desc := "()LCaseTables$Fun;" } : Jvm.MethodName) ∈ bm_ALL := bm_moA wT_613 rfl
theorem wA_614 : Jvm.Cond.selects "CaseTables$Program" ({ cls := "CaseTables$Program", name := "nextFun", desc := "()LCaseTables$Fun;" } : Jvm.MethodName) ({ cls := "CaseTables$Program", name := "nextFun", desc := "()LCaseTables$Fun;" } : Jvm.MethodName) ∈ bm_ALL := bm_moA wT_614 rfl
theorem wA_629 : Jvm.Cond.methodLink "CaseTables$Compiler" (95 : Nat) ({ cls := "CaseTables$Compiler", name := "readItemName", desc := "()J" } : Jvm.MethodName) ∈ bm_ALL := bm_moA wT_629 rfl
theorem wA_631 : Jvm.Cond.instanceMethod ({ cls := "CaseTables$Compiler", name := "readItemName", desc := "()J" } : Jvm.MethodName) ∈ bm_ALL := bm_moA wT_631 rfl
theorem wA_9 : Jvm.Cond.selects "CaseTables$Compiler" ({ cls := "CaseTables$Compiler", name := "readItemName", desc := "()J" } : Jvm.MethodName) ({ cls := "CaseTables$Compiler", name := "readItemName", desc := "()J" } : Jvm.MethodName) ∈ bm_ALL := bm_inA 9 (by decide +kernel) rfl
theorem wN_253 : Jvm.Cond.fieldLinkNest "CaseTables$Compiler" (98 : Nat) "CaseTables$Fun" "name" "J" "CaseTables" ∈ bm_NW := bm_moN wT_253 rfl
theorem wA_646 : Jvm.Cond.methodLink "CaseTables$Compiler" (104 : Nat) ({ cls := "CaseTables$Compiler", name := "readInput", desc := "()V" } : Jvm.MethodName) ∈ bm_ALL := bm_moA wT_646 rfl
theorem wA_648 : Jvm.Cond.instanceMethod ({ cls := "CaseTables$Compiler", name := "readInput", desc := "()V" } : Jvm.MethodName) ∈ bm_ALL := bm_moA wT_648 rfl
theorem wA_10 : Jvm.Cond.selects "CaseTables$Compiler" ({ cls := "CaseTables$Compiler", name := "readInput", desc := "()V" } : Jvm.MethodName) ({ cls := "CaseTables$Compiler", name := "readInput", desc := "()V" } : Jvm.MethodName) ∈ bm_ALL := bm_inA 10 (by decide +kernel) rfl
theorem wA_667 : Jvm.Cond.methodLink "CaseTables$Compiler" (107 : Nat) ({ cls := "CaseTables$Compiler", name := "readBody", desc := "()V" } : Jvm.MethodName) ∈ bm_ALL := bm_moA wT_667 rfl
theorem wA_669 : Jvm.Cond.instanceMethod ({ cls := "CaseTables$Compiler", name := "readBody", desc := "()V" } : Jvm.MethodName) ∈ bm_ALL := bm_moA wT_669 rfl
theorem wA_12 : Jvm.Cond.selects "CaseTables$Compiler" ({ cls := "CaseTables$Compiler", name := "readBody", desc := "()V" } : Jvm.MethodName) ({ cls := "CaseTables$Compiler", name := "readBody", desc := "()V" } : Jvm.MethodName) ∈ bm_ALL := bm_inA 12 (by decide +kernel) rfl
theorem wN_266 : Jvm.Cond.fieldLinkNest "CaseTables$Compiler" (110 : Nat) "CaseTables$Fun" "size" "I" "CaseTables" ∈ bm_NW := bm_moN wT_266 rfl
theorem wA_741 : Jvm.Cond.methodLink "CaseTables$Compiler" (113 : Nat) ({ cls := "CaseTables$Program", name := "keepFun", desc := "()V" } : Jvm.MethodName) ∈ bm_ALL := bm_moA wT_741 rfl
theorem wA_742 : Jvm.Cond.instanceMethod ({ cls := "CaseTables$Program", name := "keepFun", desc := "()V" } : Jvm.MethodName) ∈ bm_ALL := bm_moA wT_742 rfl
theorem wA_743 : Jvm.Cond.selects "CaseTables$Program" ({ cls := "CaseTables$Program", name := "keepFun", desc := "()V" } : Jvm.MethodName) ({ cls := "CaseTables$Program", name := "keepFun", desc := "()V" } : Jvm.MethodName) ∈ bm_ALL := bm_moA wT_743 rfl
theorem wN_258 : Jvm.Cond.fieldLinkNest "CaseTables$Compiler" (116 : Nat) "CaseTables$Fun" "inputCount" "I" "CaseTables" ∈ bm_NW := bm_moN wT_258 rfl
theorem wA_650 : Jvm.Cond.methodLink "CaseTables$Compiler" (119 : Nat) ({ cls := "CaseTables$Fun", name := "inputNamed", desc := "(J)I" } : Jvm.MethodName) ∈ bm_ALL := bm_moA wT_650 rfl
theorem wA_651 : Jvm.Cond.instanceMethod ({ cls := "CaseTables$Fun", name := "inputNamed", desc := "(J)I" } : Jvm.MethodName) ∈ bm_ALL := bm_moA wT_651 rfl
theorem wA_652 : Jvm.Cond.selects "CaseTables$Fun" ({ cls := "CaseTables$Fun", name := "inputNamed", desc := "(J)I" } : Jvm.MethodName) ({ cls := "CaseTables$Fun", name := "inputNamed", desc := "(J)I" } : Jvm.MethodName) ∈ bm_ALL := bm_moA wT_652 rfl
theorem wA_654 : Jvm.Cond.methodLink "CaseTables$Compiler" (123 : Nat) ({ cls := "CaseTables$Compiler", name := "readWhole", desc := "(II)I" } : Jvm.MethodName) ∈ bm_ALL := bm_moA wT_654 rfl
theorem wA_656 : Jvm.Cond.instanceMethod ({ cls := "CaseTables$Compiler", name := "readWhole", desc := "(II)I" } : Jvm.MethodName) ∈ bm_ALL := bm_moA wT_656 rfl
theorem wA_11 : Jvm.Cond.selects "CaseTables$Compiler" ({ cls := "CaseTables$Compiler", name := "readWhole", desc := "(II)I" } : Jvm.MethodName) ({ cls := "CaseTables$Compiler", name := "readWhole", desc := "(II)I" } : Jvm.MethodName) ∈ bm_ALL := bm_inA 11 (by decide +kernel) rfl
theorem wA_662 : Jvm.Cond.methodLink "CaseTables$Compiler" (127 : Nat) ({ cls := "CaseTables$Fun", name := "addInput", desc := "(JII)V" } : Jvm.MethodName) ∈ bm_ALL := bm_moA wT_662 rfl
theorem wA_663 : Jvm.Cond.instanceMethod ({ cls := "CaseTables$Fun", name := "addInput", desc := "(JII)V" } : Jvm.MethodName) ∈ bm_ALL := bm_moA wT_663 rfl
theorem wA_664 : Jvm.Cond.selects "CaseTables$Fun" ({ cls := "CaseTables$Fun", name := "addInput", desc := "(JII)V" } : Jvm.MethodName) ({ cls := "CaseTables$Fun", name := "addInput", desc := "(JII)V" } : Jvm.MethodName) ∈ bm_ALL := bm_moA wT_664 rfl
theorem wN_374 : Jvm.Cond.fieldLinkNest "CaseTables$Compiler" (131 : Nat) "CaseTables$Program" "tableCount" "I" "CaseTables" ∈ bm_NW := bm_moN wT_374 rfl
theorem wA_749 : Jvm.Cond.methodLink "CaseTables$Compiler" (134 : Nat) ({ cls := "CaseTables$Program", name := "nextTable", desc := "()LCaseTables$Table;" } : Jvm.MethodName) ∈ bm_ALL := bm_moA wT_749 rfl
theorem wA_750 : Jvm.Cond.instanceMethod ({ cls := "CaseTables$Program", name := "nextTable", desc := "()LCaseTables$Table;" } : Jvm.MethodName) ∈ bm_ALL := bm_moA wT_750 rfl
theorem wA_751 : Jvm.Cond.selects "CaseTables$Program" ({ cls := "CaseTables$Program", name := "nextTable", desc := "()LCaseTables$Table;" } : Jvm.MethodName) ({ cls := "CaseTables$Program", name := "nextTable", desc := "()LCaseTables$Table;" } : Jvm.MethodName) ∈ bm_ALL := bm_moA wT_751 rfl
theorem wN_332 : Jvm.Cond.fieldLinkNest "CaseTables$Compiler" (138 : Nat) "CaseTables$Table" "name" "J" "CaseTables" ∈ bm_NW := bm_moN wT_332 rfl
theorem wA_728 : Jvm.Cond.methodLink "CaseTables$Compiler" (141 : Nat) ({ cls := "CaseTables$Program", name := "funNamed", desc := "(J)I" } : Jvm.MethodName) ∈ bm_ALL := bm_moA wT_728 rfl
theorem wA_643 : Jvm.Cond.instanceMethod ({ cls := "CaseTables$Program", name := "funNamed", desc := "(J)I" } : Jvm.MethodName) ∈ bm_ALL := bm_moA wT_643 rfl
theorem wA_644 : Jvm.Cond.selects "CaseTables$Program" ({ cls := "CaseTables$Program", name := "funNamed", desc := "(J)I" } : Jvm.MethodName) ({ cls := "CaseTables$Program", name := "funNamed", desc := "(J)I" } : Jvm.MethodName) ∈ bm_ALL := bm_moA wT_644 rfl
theorem wN_336 : Jvm.Cond.fieldLinkNest "CaseTables$Compiler" (144 : Nat) "CaseTables$Table" "fun" "I" "CaseTables" ∈ bm_NW := bm_moN wT_336 rfl
theorem wA_757 : Jvm.Cond.methodLink "CaseTables$Compiler" (146 : Nat) ({ cls := "CaseTables$Compiler", name := "readRow", desc := "()V" } : Jvm.MethodName) ∈ bm_ALL := bm_moA wT_757 rfl
theorem wA_759 : Jvm.Cond.instanceMethod ({ cls := "CaseTables$Compiler", name := "readRow", desc := "()V" } : Jvm.MethodName) ∈ bm_ALL := bm_moA wT_759 rfl
theorem wA_24 : Jvm.Cond.selects "CaseTables$Compiler" ({ cls := "CaseTables$Compiler", name := "readRow", desc := "()V" } : Jvm.MethodName) ({ cls := "CaseTables$Compiler", name := "readRow", desc := "()V" } : Jvm.MethodName) ∈ bm_ALL := bm_inA 24 (by decide +kernel) rfl
theorem wA_805 : Jvm.Cond.methodLink "CaseTables$Compiler" (149 : Nat) ({ cls := "CaseTables$Program", name := "keepTable", desc := "()V" } : Jvm.MethodName) ∈ bm_ALL := bm_moA wT_805 rfl
theorem wA_806 : Jvm.Cond.instanceMethod ({ cls := "CaseTables$Program", name := "keepTable", desc := "()V" } : Jvm.MethodName) ∈ bm_ALL := bm_moA wT_806 rfl
theorem wA_807 : Jvm.Cond.selects "CaseTables$Program" ({ cls := "CaseTables$Program", name := "keepTable", desc := "()V" } : Jvm.MethodName) ({ cls := "CaseTables$Program", name := "keepTable", desc := "()V" } : Jvm.MethodName) ∈ bm_ALL := bm_moA wT_807 rfl
theorem wN_342 : Jvm.Cond.fieldLinkNest "CaseTables$Compiler" (152 : Nat) "CaseTables$Table" "rowCount" "I" "CaseTables" ∈ bm_NW := bm_moN wT_342 rfl
theorem wA_761 : Jvm.Cond.methodLink "CaseTables$Compiler" (155 : Nat) ({ cls := "CaseTables$Table", name := "nextRow", desc := "()LCaseTables$Row;" } : Jvm.MethodName) ∈ bm_ALL := bm_moA wT_761 rfl
theorem wA_762 : Jvm.Cond.instanceMethod ({ cls := "CaseTables$Table", name := "nextRow", desc := "()LCaseTables$Row;" } : Jvm.MethodName) ∈ bm_ALL := bm_moA wT_762 rfl
theorem wA_763 : Jvm.Cond.selects "CaseTables$Table" ({ cls := "CaseTables$Table", name := "nextRow", desc := "()LCaseTables$Row;" } : Jvm.MethodName) ({ cls := "CaseTables$Table", name := "nextRow", desc := "()LCaseTables$Row;" } : Jvm.MethodName) ∈ bm_ALL := bm_moA wT_763 rfl
theorem wA_774 : Jvm.Cond.methodLink "CaseTables$Compiler" (159 : Nat) ({ cls := "CaseTables$Compiler", name := "readCell", desc := "(LCaseTables$Row;I)V" } : Jvm.MethodName) ∈ bm_ALL := bm_moA wT_774 rfl
theorem wA_776 : Jvm.Cond.instanceMethod ({ cls := "CaseTables$Compiler", name := "readCell", desc := "(LCaseTables$Row;I)V" } : Jvm.MethodName) ∈ bm_ALL := bm_moA wT_776 rfl
theorem wA_25 : Jvm.Cond.selects "CaseTables$Compiler" ({ cls := "CaseTables$Compiler", name := "readCell", desc := "(LCaseTables$Row;I)V" } : Jvm.MethodName) ({ cls := "CaseTables$Compiler", name := "readCell", desc := "(LCaseTables$Row;I)V" } : Jvm.MethodName) ∈ bm_ALL := bm_inA 25 (by decide +kernel) rfl
theorem wA_787 : Jvm.Cond.methodLink "CaseTables$Compiler" (163 : Nat) ({ cls := "CaseTables$Compiler", name := "readResult", desc := "(LCaseTables$Row;)V" } : Jvm.MethodName) ∈ bm_ALL := bm_moA wT_787 rfl
theorem wA_789 : Jvm.Cond.instanceMethod ({ cls := "CaseTables$Compiler", name := "readResult", desc := "(LCaseTables$Row;)V" } : Jvm.MethodName) ∈ bm_ALL := bm_moA wT_789 rfl
theorem wA_26 : Jvm.Cond.selects "CaseTables$Compiler" ({ cls := "CaseTables$Compiler", name := "readResult", desc := "(LCaseTables$Row;)V" } : Jvm.MethodName) ({ cls := "CaseTables$Compiler", name := "readResult", desc := "(LCaseTables$Row;)V" } : Jvm.MethodName) ∈ bm_ALL := bm_inA 26 (by decide +kernel) rfl
theorem wA_791 : Jvm.Cond.methodLink "CaseTables$Compiler" (167 : Nat) ({ cls := "CaseTables$Table", name := "keepRow", desc := "()V" } : Jvm.MethodName) ∈ bm_ALL := bm_moA wT_791 rfl
theorem wA_792 : Jvm.Cond.instanceMethod ({ cls := "CaseTables$Table", name := "keepRow", desc := "()V" } : Jvm.MethodName) ∈ bm_ALL := bm_moA wT_792 rfl
theorem wA_793 : Jvm.Cond.selects "CaseTables$Table" ({ cls := "CaseTables$Table", name := "keepRow", desc := "()V" } : Jvm.MethodName) ({ cls := "CaseTables$Table", name := "keepRow", desc := "()V" } : Jvm.MethodName) ∈ bm_ALL := bm_moA wT_793 rfl
theorem wN_345 : Jvm.Cond.fieldLinkNest "CaseTables$Compiler" (170 : Nat) "CaseTables$Table" "caseCount" "I" "CaseTables" ∈ bm_NW := bm_moN wT_345 rfl
theorem wN_248 : Jvm.Cond.fieldLinkNest "CaseTables$Compiler" (173 : Nat) "CaseTables$Fun" "ranges" "LCaseTables$Ranges;" "CaseTables" ∈ bm_NW := bm_moN wT_248 rfl
theorem wA_778 : Jvm.Cond.methodLink "CaseTables$Compiler" (177 : Nat) ({ cls := "CaseTables$Ranges", name := "low", desc := "(I)I" } : Jvm.MethodName) ∈ bm_ALL := bm_moA wT_778 rfl
theorem wA_779 : Jvm.Cond.instanceMethod ({ cls := "CaseTables$Ranges", name := "low", desc := "(I)I" } : Jvm.MethodName) ∈ bm_ALL := bm_moA wT_779 rfl
theorem wA_780 : Jvm.Cond.selects "CaseTables$Ranges" ({ cls := "CaseTables$Ranges", name := "low", desc := "(I)I" } : Jvm.MethodName) ({ cls := "CaseTables$Ranges", name := "low", desc := "(I)I" } : Jvm.MethodName) ∈ bm_ALL := bm_moA wT_780 rfl
theorem wA_782 : Jvm.Cond.methodLink "CaseTables$Compiler" (183 : Nat) ({ cls := "CaseTables$Ranges", name := "high", desc := "(I)I" } : Jvm.MethodName) ∈ bm_ALL := bm_moA wT_782 rfl
theorem wA_783 : Jvm.Cond.instanceMethod ({ cls := "CaseTables$Ranges", name := "high", desc := "(I)I" } : Jvm.MethodName) ∈ bm_ALL := bm_moA wT_783 rfl
theorem wA_784 : Jvm.Cond.selects "CaseTables$Ranges" ({ cls := "CaseTables$Ranges", name := "high", desc := "(I)I" } : Jvm.MethodName) ({ cls := "CaseTables$Ranges", name := "high", desc := "(I)I" } : Jvm.MethodName) ∈ bm_ALL := bm_moA wT_784 rfl
theorem wN_306 : Jvm.Cond.fieldLinkNest "CaseTables$Compiler" (186 : Nat) "CaseTables$Row" "ranges" "LCaseTables$Ranges;" "CaseTables" ∈ bm_NW := bm_moN wT_306 rfl
theorem wA_786 : Jvm.Cond.methodLink "CaseTables$Compiler" (189 : Nat) ({ cls := "CaseTables$Ranges", name := "put", desc := "(III)V" } : Jvm.MethodName) ∈ bm_ALL := bm_moA wT_786 rfl
theorem wA_626 : Jvm.Cond.instanceMethod ({ cls := "CaseTables$Ranges", name := "put", desc := "(III)V" } : Jvm.MethodName) ∈ bm_ALL := bm_moA wT_626 rfl
theorem wA_627 : Jvm.Cond.selects "CaseTables$Ranges" ({ cls := "CaseTables$Ranges", name := "put", desc := "(III)V" } : Jvm.MethodName) ({ cls := "CaseTables$Ranges", name := "put", desc := "(III)V" } : Jvm.MethodName) ∈ bm_ALL := bm_moA wT_627 rfl
theorem wA_729 : Jvm.Cond.methodLink "CaseTables$Compiler" (193 : Nat) ({ cls := "CaseTables$Tokens", name := "oneOf", desc := "(II)I" } : Jvm.MethodName) ∈ bm_ALL := bm_moA wT_729 rfl
theorem wA_730 : Jvm.Cond.instanceMethod ({ cls := "CaseTables$Tokens", name := "oneOf", desc := "(II)I" } : Jvm.MethodName) ∈ bm_ALL := bm_moA wT_730 rfl
theorem wA_731 : Jvm.Cond.selects "CaseTables$Tokens" ({ cls := "CaseTables$Tokens", name := "oneOf", desc := "(II)I" } : Jvm.MethodName) ({ cls := "CaseTables$Tokens", name := "oneOf", desc := "(II)I" } : Jvm.MethodName) ∈ bm_ALL := bm_moA wT_731 rfl
theorem wN_309 : Jvm.Cond.fieldLinkNest "CaseTables$Compiler" (196 : Nat) "CaseTables$Row" "result" "I" "CaseTables" ∈ bm_NW := bm_moN wT_309 rfl
theorem wN_312 : Jvm.Cond.fieldLinkNest "CaseTables$Compiler" (199 : Nat) "CaseTables$Row" "number" "J" "CaseTables" ∈ bm_NW := bm_moN wT_312 rfl
theorem wN_187 : Jvm.Cond.fieldLinkNest "CaseTables$Compiler" (202 : Nat) "CaseTables$Tokens" "position" "I" "CaseTables" ∈ bm_NW := bm_moN wT_187 rfl
theorem wA_671 : Jvm.Cond.methodLink "CaseTables$Compiler" (205 : Nat) ({ cls := "CaseTables$Tokens", name := "allow", desc := "(I)V" } : Jvm.MethodName) ∈ bm_ALL := bm_moA wT_671 rfl
theorem wA_672 : Jvm.Cond.instanceMethod ({ cls := "CaseTables$Tokens", name := "allow", desc := "(I)V" } : Jvm.MethodName) ∈ bm_ALL := bm_moA wT_672 rfl
theorem wA_673 : Jvm.Cond.selects "CaseTables$Tokens" ({ cls := "CaseTables$Tokens", name := "allow", desc := "(I)V" } : Jvm.MethodName) ({ cls := "CaseTables$Tokens", name := "allow", desc := "(I)V" } : Jvm.MethodName) ∈ bm_ALL := bm_moA wT_673 rfl
theorem wA_675 : Jvm.Cond.methodLink "CaseTables$Compiler" (209 : Nat) ({ cls := "CaseTables$Compiler", name := "readExpression", desc := "(I)V" } : Jvm.MethodName) ∈ bm_ALL := bm_moA wT_675 rfl
theorem wA_677 : Jvm.Cond.instanceMethod ({ cls := "CaseTables$Compiler", name := "readExpression", desc := "(I)V" } : Jvm.MethodName) ∈ bm_ALL := bm_moA wT_677 rfl
theorem wA_13 : Jvm.Cond.selects "CaseTables$Compiler" ({ cls := "CaseTables$Compiler", name := "readExpression", desc := "(I)V" } : Jvm.MethodName) ({ cls := "CaseTables$Compiler", name := "readExpression", desc := "(I)V" } : Jvm.MethodName) ∈ bm_ALL := bm_inA 13 (by decide +kernel) rfl
theorem wA_737 : Jvm.Cond.methodLink "CaseTables$Compiler" (212 : Nat) ({ cls := "CaseTables$Tokens", name := "allowAll", desc := "()V" } : Jvm.MethodName) ∈ bm_ALL := bm_moA wT_737 rfl
theorem wA_738 : Jvm.Cond.instanceMethod ({ cls := "CaseTables$Tokens", name := "allowAll", desc := "()V" } : Jvm.MethodName) ∈ bm_ALL := bm_moA wT_738 rfl
theorem wA_739 : Jvm.Cond.selects "CaseTables$Tokens" ({ cls := "CaseTables$Tokens", name := "allowAll", desc := "()V" } : Jvm.MethodName) ({ cls := "CaseTables$Tokens", name := "allowAll", desc := "()V" } : Jvm.MethodName) ∈ bm_ALL := bm_moA wT_739 rfl
theorem wA_679 : Jvm.Cond.methodLink "CaseTables$Compiler" (215 : Nat) ({ cls := "CaseTables$Compiler", name := "readChoice", desc := "(I)V" } : Jvm.MethodName) ∈ bm_ALL := bm_moA wT_679 rfl
theorem wA_681 : Jvm.Cond.instanceMethod ({ cls := "CaseTables$Compiler", name := "readChoice", desc := "(I)V" } : Jvm.MethodName) ∈ bm_ALL := bm_moA wT_681 rfl
theorem wA_14 : Jvm.Cond.selects "CaseTables$Compiler" ({ cls := "CaseTables$Compiler", name := "readChoice", desc := "(I)V" } : Jvm.MethodName) ({ cls := "CaseTables$Compiler", name := "readChoice", desc := "(I)V" } : Jvm.MethodName) ∈ bm_ALL := bm_inA 14 (by decide +kernel) rfl
theorem wA_700 : Jvm.Cond.methodLink "CaseTables$Compiler" (218 : Nat) ({ cls := "CaseTables$Compiler", name := "readBoth", desc := "(I)V" } : Jvm.MethodName) ∈ bm_ALL := bm_moA wT_700 rfl
theorem wA_702 : Jvm.Cond.instanceMethod ({ cls := "CaseTables$Compiler", name := "readBoth", desc := "(I)V" } : Jvm.MethodName) ∈ bm_ALL := bm_moA wT_702 rfl
theorem wA_15 : Jvm.Cond.selects "CaseTables$Compiler" ({ cls := "CaseTables$Compiler", name := "readBoth", desc := "(I)V" } : Jvm.MethodName) ({ cls := "CaseTables$Compiler", name := "readBoth", desc := "(I)V" } : Jvm.MethodName) ∈ bm_ALL := bm_inA 15 (by decide +kernel) rfl
theorem wA_684 : Jvm.Cond.methodLink "CaseTables$Compiler" (221 : Nat) ({ cls := "CaseTables$Fun", name := "nextPlace", desc := "()I" } : Jvm.MethodName) ∈ bm_ALL := bm_moA wT_684 rfl
theorem wA_685 : Jvm.Cond.instanceMethod ({ cls := "CaseTables$Fun", name := "nextPlace", desc := "()I" } : Jvm.MethodName) ∈ bm_ALL := bm_moA wT_685 rfl
theorem wA_686 : Jvm.Cond.selects "CaseTables$Fun" ({ cls := "CaseTables$Fun", name := "nextPlace", desc := "()I" } : Jvm.MethodName) ({ cls := "CaseTables$Fun", name := "nextPlace", desc := "()I" } : Jvm.MethodName) ∈ bm_ALL := bm_moA wT_686 rfl
theorem wA_692 : Jvm.Cond.methodLink "CaseTables$Compiler" (224 : Nat) ({ cls := "CaseTables$Fun", name := "emit", desc := "(III)I" } : Jvm.MethodName) ∈ bm_ALL := bm_moA wT_692 rfl
theorem wA_693 : Jvm.Cond.instanceMethod ({ cls := "CaseTables$Fun", name := "emit", desc := "(III)I" } : Jvm.MethodName) ∈ bm_ALL := bm_moA wT_693 rfl
theorem wA_694 : Jvm.Cond.selects "CaseTables$Fun" ({ cls := "CaseTables$Fun", name := "emit", desc := "(III)I" } : Jvm.MethodName) ({ cls := "CaseTables$Fun", name := "emit", desc := "(III)I" } : Jvm.MethodName) ∈ bm_ALL := bm_moA wT_694 rfl
theorem wA_733 : Jvm.Cond.methodLink "CaseTables$Compiler" (228 : Nat) ({ cls := "CaseTables$Compiler", name := "endSecond", desc := "(I)V" } : Jvm.MethodName) ∈ bm_ALL := bm_moA wT_733 rfl
theorem wA_735 : Jvm.Cond.instanceMethod ({ cls := "CaseTables$Compiler", name := "endSecond", desc := "(I)V" } : Jvm.MethodName) ∈ bm_ALL := bm_moA wT_735 rfl
theorem wA_22 : Jvm.Cond.selects "CaseTables$Compiler" ({ cls := "CaseTables$Compiler", name := "endSecond", desc := "(I)V" } : Jvm.MethodName) ({ cls := "CaseTables$Compiler", name := "endSecond", desc := "(I)V" } : Jvm.MethodName) ∈ bm_ALL := bm_inA 22 (by decide +kernel) rfl
theorem wA_704 : Jvm.Cond.methodLink "CaseTables$Compiler" (231 : Nat) ({ cls := "CaseTables$Compiler", name := "readRelation", desc := "(I)V" } : Jvm.MethodName) ∈ bm_ALL := bm_moA wT_704 rfl
theorem wA_706 : Jvm.Cond.instanceMethod ({ cls := "CaseTables$Compiler", name := "readRelation", desc := "(I)V" } : Jvm.MethodName) ∈ bm_ALL := bm_moA wT_706 rfl
theorem wA_16 : Jvm.Cond.selects "CaseTables$Compiler" ({ cls := "CaseTables$Compiler", name := "readRelation", desc := "(I)V" } : Jvm.MethodName) ({ cls := "CaseTables$Compiler", name := "readRelation", desc := "(I)V" } : Jvm.MethodName) ∈ bm_ALL := bm_inA 16 (by decide +kernel) rfl
theorem wA_696 : Jvm.Cond.methodLink "CaseTables$Compiler" (234 : Nat) ({ cls := "CaseTables$Fun", name := "aimHere", desc := "(I)V" } : Jvm.MethodName) ∈ bm_ALL := bm_moA wT_696 rfl
theorem wA_697 : Jvm.Cond.instanceMethod ({ cls := "CaseTables$Fun", name := "aimHere", desc := "(I)V" } : Jvm.MethodName) ∈ bm_ALL := bm_moA wT_697 rfl
theorem wA_698 : Jvm.Cond.selects "CaseTables$Fun" ({ cls := "CaseTables$Fun", name := "aimHere", desc := "(I)V" } : Jvm.MethodName) ({ cls := "CaseTables$Fun", name := "aimHere", desc := "(I)V" } : Jvm.MethodName) ∈ bm_ALL := bm_moA wT_698 rfl
theorem wA_688 : Jvm.Cond.methodLink "CaseTables$Compiler" (237 : Nat) ({ cls := "CaseTables$Program", name := "nextIf", desc := "()I" } : Jvm.MethodName) ∈ bm_ALL := bm_moA wT_688 rfl
theorem wA_689 : Jvm.Cond.instanceMethod ({ cls := "CaseTables$Program", name := "nextIf", desc := "()I" } : Jvm.MethodName) ∈ bm_ALL := bm_moA wT_689 rfl
theorem wA_690 : Jvm.Cond.selects "CaseTables$Program" ({ cls := "CaseTables$Program", name := "nextIf", desc := "()I" } : Jvm.MethodName) ({ cls := "CaseTables$Program", name := "nextIf", desc := "()I" } : Jvm.MethodName) ∈ bm_ALL := bm_moA wT_690 rfl
theorem wA_708 : Jvm.Cond.methodLink "CaseTables$Compiler" (240 : Nat) ({ cls := "CaseTables$Compiler", name := "readSum", desc := "(I)V" } : Jvm.MethodName) ∈ bm_ALL := bm_moA wT_708 rfl
theorem wA_710 : Jvm.Cond.instanceMethod ({ cls := "CaseTables$Compiler", name := "readSum", desc := "(I)V" } : Jvm.MethodName) ∈ bm_ALL := bm_moA wT_710 rfl
theorem wA_17 : Jvm.Cond.selects "CaseTables$Compiler" ({ cls := "CaseTables$Compiler", name := "readSum", desc := "(I)V" } : Jvm.MethodName) ({ cls := "CaseTables$Compiler", name := "readSum", desc := "(I)V" } : Jvm.MethodName) ∈ bm_ALL := bm_inA 17 (by decide +kernel) rfl
theorem wA_712 : Jvm.Cond.methodLink "CaseTables$Compiler" (243 : Nat) ({ cls := "CaseTables$Compiler", name := "readProduct", desc := "(I)V" } : Jvm.MethodName) ∈ bm_ALL := bm_moA wT_712 rfl
theorem wA_714 : Jvm.Cond.instanceMethod ({ cls := "CaseTables$Compiler", name := "readProduct", desc := "(I)V" } : Jvm.MethodName) ∈ bm_ALL := bm_moA wT_714 rfl
theorem wA_18 : Jvm.Cond.selects "CaseTables$Compiler" ({ cls := "CaseTables$Compiler", name := "readProduct", desc := "(I)V" } : Jvm.MethodName) ({ cls := "CaseTables$Compiler", name := "readProduct", desc := "(I)V" } : Jvm.MethodName) ∈ bm_ALL := bm_inA 18 (by decide +kernel) rfl
theorem wA_716 : Jvm.Cond.methodLink "CaseTables$Compiler" (246 : Nat) ({ cls := "CaseTables$Compiler", name := "readFactor", desc := "(I)V" } : Jvm.MethodName) ∈ bm_ALL := bm_moA wT_716 rfl
theorem wA_718 : Jvm.Cond.instanceMethod ({ cls := "CaseTables$Compiler", name := "readFactor", desc := "(I)V" } : Jvm.MethodName) ∈ bm_ALL := bm_moA wT_718 rfl
theorem wA_19 : Jvm.Cond.selects "CaseTables$Compiler" ({ cls := "CaseTables$Compiler", name := "readFactor", desc := "(I)V" } : Jvm.MethodName) ({ cls := "CaseTables$Compiler", name := "readFactor", desc := "(I)V" } : Jvm.MethodName) ∈ bm_ALL := bm_inA 19 (by decide +kernel) rfl
theorem wA_720 : Jvm.Cond.methodLink "CaseTables$Compiler" (249 : Nat) ({ cls := "CaseTables$Compiler", name := "readNamed", desc := "(JII)V" } : Jvm.MethodName) ∈ bm_ALL := bm_moA wT_720 rfl
theorem wA_722 : Jvm.Cond.instanceMethod ({ cls := "CaseTables$Compiler", name := "readNamed", desc := "(JII)V" } : Jvm.MethodName) ∈ bm_ALL := bm_moA wT_722 rfl
theorem wA_20 : Jvm.Cond.selects "CaseTables$Compiler" ({ cls := "CaseTables$Compiler", name := "readNamed", desc := "(JII)V" } : Jvm.MethodName) ({ cls := "CaseTables$Compiler", name := "readNamed", desc := "(JII)V" } : Jvm.MethodName) ∈ bm_ALL := bm_inA 20 (by decide +kernel) rfl
theorem wA_724 : Jvm.Cond.methodLink "CaseTables$Compiler" (252 : Nat) ({ cls := "CaseTables$Compiler", name := "readArguments", desc := "(JII)V" } : Jvm.MethodName) ∈ bm_ALL := bm_moA wT_724 rfl
theorem wA_726 : Jvm.Cond.instanceMethod ({ cls := "CaseTables$Compiler", name := "readArguments", desc := "(JII)V" } : Jvm.MethodName) ∈ bm_ALL := bm_moA wT_726 rfl
theorem wA_21 : Jvm.Cond.selects "CaseTables$Compiler" ({ cls := "CaseTables$Compiler", name := "readArguments", desc := "(JII)V" } : Jvm.MethodName) ({ cls := "CaseTables$Compiler", name := "readArguments", desc := "(JII)V" } : Jvm.MethodName) ∈ bm_ALL := bm_inA 21 (by decide +kernel) rfl
theorem wA_230 : Jvm.Cond.methodLink "CaseTables$Fun" (3 : Nat) ({ cls := "java/lang/Object", name := "<init>", desc := "()V" } : Jvm.MethodName) ∈ bm_ALL := bm_moA wT_230 rfl
theorem wA_215 : Jvm.Cond.arrayClass Jvm.ClassFile.FieldType.long ∈ bm_ALL := bm_moA wT_215 rfl
theorem wA_244 : Jvm.Cond.fieldLink "CaseTables$Fun" (9 : Nat) "CaseTables$Fun" "inputNames" "[J" ∈ bm_ALL := bm_moA wT_244 rfl
theorem wA_231 : Jvm.Cond.classLink "CaseTables$Fun" (15 : Nat) "CaseTables$Ranges" ∈ bm_ALL := bm_moA wT_231 rfl
theorem wA_232 : Jvm.Cond.instantiable "CaseTables$Ranges" (2 : Nat) ∈ bm_ALL := bm_moA wT_232 rfl
theorem wA_128 : Jvm.Cond.initialized "CaseTables$Ranges" ∈ bm_ALL := bm_moA wT_128 rfl
theorem wN_233 : Jvm.Cond.methodLinkNest "CaseTables$Fun" (17 : Nat) ({ cls := "CaseTables$Ranges", name := "<init>", desc := "()V" } : Jvm.MethodName) "CaseTables" ∈ bm_NW := bm_moN wT_233 rfl
theorem wA_234 : Jvm.Cond.instanceMethod ({ cls := "CaseTables$Ranges", name := "<init>", desc := "()V" } : Jvm.MethodName) ∈ bm_ALL := bm_moA wT_234 rfl
theorem wA_245 : Jvm.Cond.fieldLink "CaseTables$Fun" (18 : Nat) "CaseTables$Fun" "ranges" "LCaseTables$Ranges;" ∈ bm_ALL := bm_moA wT_245 rfl
theorem wA_214 : Jvm.Cond.arrayClass Jvm.ClassFile.FieldType.int ∈ bm_ALL := bm_moA wT_214 rfl
theorem wA_249 : Jvm.Cond.fieldLink "CaseTables$Fun" (22 : Nat) "CaseTables$Fun" "operations" "[I" ∈ bm_ALL := bm_moA wT_249 rfl
theorem wA_250 : Jvm.Cond.fieldLink "CaseTables$Fun" (26 : Nat) "CaseTables$Fun" "operands" "[I" ∈ bm_ALL := bm_moA wT_250 rfl
theorem wA_251 : Jvm.Cond.fieldLink "CaseTables$Fun" (29 : Nat) "CaseTables$Fun" "places" "[I" ∈ bm_ALL := bm_moA wT_251 rfl
theorem wA_621 : Jvm.Cond.methodLink "CaseTables$Fun" (32 : Nat) ({ cls := "CaseTables$Ranges", name := "clear", desc := "()V" } : Jvm.MethodName) ∈ bm_ALL := bm_moA wT_621 rfl
theorem wA_622 : Jvm.Cond.instanceMethod ({ cls := "CaseTables$Ranges", name := "clear", desc := "()V" } : Jvm.MethodName) ∈ bm_ALL := bm_moA wT_622 rfl
theorem wA_623 : Jvm.Cond.selects "CaseTables$Ranges" ({ cls := "CaseTables$Ranges", name := "clear", desc := "()V" } : Jvm.MethodName) ({ cls := "CaseTables$Ranges", name := "clear", desc := "()V" } : Jvm.MethodName) ∈ bm_ALL := bm_moA wT_623 rfl
theorem wA_252 : Jvm.Cond.fieldLink "CaseTables$Fun" (35 : Nat) "CaseTables$Fun" "name" "J" ∈ bm_ALL := bm_moA wT_252 rfl
theorem wA_255 : Jvm.Cond.fieldLink "CaseTables$Fun" (39 : Nat) "CaseTables$Fun" "inputCount" "I" ∈ bm_ALL := bm_moA wT_255 rfl
theorem wA_260 : Jvm.Cond.fieldLink "CaseTables$Fun" (43 : Nat) "CaseTables$Fun" "codeLength" "I" ∈ bm_ALL := bm_moA wT_260 rfl
theorem wA_262 : Jvm.Cond.fieldLink "CaseTables$Fun" (46 : Nat) "CaseTables$Fun" "placeCount" "I" ∈ bm_ALL := bm_moA wT_262 rfl
theorem wA_265 : Jvm.Cond.fieldLink "CaseTables$Fun" (49 : Nat) "CaseTables$Fun" "size" "I" ∈ bm_ALL := bm_moA wT_265 rfl
theorem wA_666 : Jvm.Cond.methodLink "CaseTables$Fun" (52 : Nat) ({ cls := "CaseTables$Ranges", name := "put", desc := "(III)V" } : Jvm.MethodName) ∈ bm_ALL := bm_moA wT_666 rfl
theorem wA_1023 : Jvm.Cond.methodLink "CaseTables$Fun" (56 : Nat) ({ cls := "CaseTables$Ranges", name := "width", desc := "(I)I" } : Jvm.MethodName) ∈ bm_ALL := bm_moA wT_1023 rfl
theorem wA_800 : Jvm.Cond.instanceMethod ({ cls := "CaseTables$Ranges", name := "width", desc := "(I)I" } : Jvm.MethodName) ∈ bm_ALL := bm_moA wT_800 rfl
theorem wA_801 : Jvm.Cond.selects "CaseTables$Ranges" ({ cls := "CaseTables$Ranges", name := "width", desc := "(I)I" } : Jvm.MethodName) ({ cls := "CaseTables$Ranges", name := "width", desc := "(I)I" } : Jvm.MethodName) ∈ bm_ALL := bm_moA wT_801 rfl
theorem wA_430 : Jvm.Cond.methodLink "CaseTables$Machine" (3 : Nat) ({ cls := "java/lang/Object", name := "<init>", desc := "()V" } : Jvm.MethodName) ∈ bm_ALL := bm_moA wT_430 rfl
theorem wA_432 : Jvm.Cond.fieldLink "CaseTables$Machine" (9 : Nat) "CaseTables$Machine" "stack" "[J" ∈ bm_ALL := bm_moA wT_432 rfl
theorem wA_433 : Jvm.Cond.fieldLink "CaseTables$Machine" (15 : Nat) "CaseTables$Machine" "thenCounts" "[I" ∈ bm_ALL := bm_moA wT_433 rfl
theorem wA_434 : Jvm.Cond.fieldLink "CaseTables$Machine" (19 : Nat) "CaseTables$Machine" "elseCounts" "[I" ∈ bm_ALL := bm_moA wT_434 rfl
theorem wA_431 : Jvm.Cond.fieldLink "CaseTables$Machine" (22 : Nat) "CaseTables$Machine" "program" "LCaseTables$Program;" ∈ bm_ALL := bm_moA wT_431 rfl
theorem wA_436 : Jvm.Cond.fieldLink "CaseTables$Machine" (26 : Nat) "CaseTables$Machine" "failed" "Z" ∈ bm_ALL := bm_moA wT_436 rfl
theorem wA_435 : Jvm.Cond.fieldLink "CaseTables$Machine" (30 : Nat) "CaseTables$Machine" "top" "I" ∈ bm_ALL := bm_moA wT_435 rfl
theorem wA_856 : Jvm.Cond.methodLink "CaseTables$Machine" (34 : Nat) ({ cls := "CaseTables$Machine", name := "push", desc := "(J)V" } : Jvm.MethodName) ∈ bm_ALL := bm_moA wT_856 rfl
theorem wA_858 : Jvm.Cond.instanceMethod ({ cls := "CaseTables$Machine", name := "push", desc := "(J)V" } : Jvm.MethodName) ∈ bm_ALL := bm_moA wT_858 rfl
theorem wA_29 : Jvm.Cond.selects "CaseTables$Machine" ({ cls := "CaseTables$Machine", name := "push", desc := "(J)V" } : Jvm.MethodName) ({ cls := "CaseTables$Machine", name := "push", desc := "(J)V" } : Jvm.MethodName) ∈ bm_ALL := bm_inA 29 (by decide +kernel) rfl
theorem wA_860 : Jvm.Cond.methodLink "CaseTables$Machine" (38 : Nat) ({ cls := "CaseTables$Machine", name := "run", desc := "(III)V" } : Jvm.MethodName) ∈ bm_ALL := bm_moA wT_860 rfl
theorem wA_862 : Jvm.Cond.instanceMethod ({ cls := "CaseTables$Machine", name := "run", desc := "(III)V" } : Jvm.MethodName) ∈ bm_ALL := bm_moA wT_862 rfl
theorem wA_30 : Jvm.Cond.selects "CaseTables$Machine" ({ cls := "CaseTables$Machine", name := "run", desc := "(III)V" } : Jvm.MethodName) ({ cls := "CaseTables$Machine", name := "run", desc := "(III)V" } : Jvm.MethodName) ∈ bm_ALL := bm_inA 30 (by decide +kernel) rfl
theorem wA_885 : Jvm.Cond.methodLink "CaseTables$Machine" (42 : Nat) ({ cls := "CaseTables$Machine", name := "pop", desc := "()J" } : Jvm.MethodName) ∈ bm_ALL := bm_moA wT_885 rfl
theorem wA_887 : Jvm.Cond.instanceMethod ({ cls := "CaseTables$Machine", name := "pop", desc := "()J" } : Jvm.MethodName) ∈ bm_ALL := bm_moA wT_887 rfl
theorem wA_33 : Jvm.Cond.selects "CaseTables$Machine" ({ cls := "CaseTables$Machine", name := "pop", desc := "()J" } : Jvm.MethodName) ({ cls := "CaseTables$Machine", name := "pop", desc := "()J" } : Jvm.MethodName) ∈ bm_ALL := bm_inA 33 (by decide +kernel) rfl
theorem wA_437 : Jvm.Cond.fieldLink "CaseTables$Machine" (46 : Nat) "CaseTables$Machine" "isCounting" "Z" ∈ bm_ALL := bm_moA wT_437 rfl
theorem wA_864 : Jvm.Cond.methodLink "CaseTables$Machine" (49 : Nat) ({ cls := "CaseTables$Program", name := "funAt", desc := "(I)LCaseTables$Fun;" } : Jvm.MethodName) ∈ bm_ALL := bm_moA wT_864 rfl
theorem wN_261 : Jvm.Cond.fieldLinkNest "CaseTables$Machine" (55 : Nat) "CaseTables$Fun" "codeLength" "I" "CaseTables" ∈ bm_NW := bm_moN wT_261 rfl
theorem wA_865 : Jvm.Cond.methodLink "CaseTables$Machine" (60 : Nat) ({ cls := "CaseTables$Fun", name := "operationAt", desc := "(I)I" } : Jvm.MethodName) ∈ bm_ALL := bm_moA wT_865 rfl
theorem wA_866 : Jvm.Cond.instanceMethod ({ cls := "CaseTables$Fun", name := "operationAt", desc := "(I)I" } : Jvm.MethodName) ∈ bm_ALL := bm_moA wT_866 rfl
theorem wA_867 : Jvm.Cond.selects "CaseTables$Fun" ({ cls := "CaseTables$Fun", name := "operationAt", desc := "(I)I" } : Jvm.MethodName) ({ cls := "CaseTables$Fun", name := "operationAt", desc := "(I)I" } : Jvm.MethodName) ∈ bm_ALL := bm_moA wT_867 rfl
theorem wA_869 : Jvm.Cond.methodLink "CaseTables$Machine" (64 : Nat) ({ cls := "CaseTables$Fun", name := "operandAt", desc := "(I)I" } : Jvm.MethodName) ∈ bm_ALL := bm_moA wT_869 rfl
theorem wA_870 : Jvm.Cond.instanceMethod ({ cls := "CaseTables$Fun", name := "operandAt", desc := "(I)I" } : Jvm.MethodName) ∈ bm_ALL := bm_moA wT_870 rfl
theorem wA_871 : Jvm.Cond.selects "CaseTables$Fun" ({ cls := "CaseTables$Fun", name := "operandAt", desc := "(I)I" } : Jvm.MethodName) ({ cls := "CaseTables$Fun", name := "operandAt", desc := "(I)I" } : Jvm.MethodName) ∈ bm_ALL := bm_moA wT_871 rfl
theorem wA_873 : Jvm.Cond.methodLink "CaseTables$Machine" (67 : Nat) ({ cls := "CaseTables$Fun", name := "placeAt", desc := "(I)I" } : Jvm.MethodName) ∈ bm_ALL := bm_moA wT_873 rfl
theorem wA_874 : Jvm.Cond.instanceMethod ({ cls := "CaseTables$Fun", name := "placeAt", desc := "(I)I" } : Jvm.MethodName) ∈ bm_ALL := bm_moA wT_874 rfl
theorem wA_875 : Jvm.Cond.selects "CaseTables$Fun" ({ cls := "CaseTables$Fun", name := "placeAt", desc := "(I)I" } : Jvm.MethodName) ({ cls := "CaseTables$Fun", name := "placeAt", desc := "(I)I" } : Jvm.MethodName) ∈ bm_ALL := bm_moA wT_875 rfl
theorem wA_877 : Jvm.Cond.methodLink "CaseTables$Machine" (70 : Nat) ({ cls := "CaseTables$Machine", name := "valueAt", desc := "(I)J" } : Jvm.MethodName) ∈ bm_ALL := bm_moA wT_877 rfl
theorem wA_879 : Jvm.Cond.instanceMethod ({ cls := "CaseTables$Machine", name := "valueAt", desc := "(I)J" } : Jvm.MethodName) ∈ bm_ALL := bm_moA wT_879 rfl
theorem wA_31 : Jvm.Cond.selects "CaseTables$Machine" ({ cls := "CaseTables$Machine", name := "valueAt", desc := "(I)J" } : Jvm.MethodName) ({ cls := "CaseTables$Machine", name := "valueAt", desc := "(I)J" } : Jvm.MethodName) ∈ bm_ALL := bm_inA 31 (by decide +kernel) rfl
theorem wA_881 : Jvm.Cond.methodLink "CaseTables$Machine" (74 : Nat) ({ cls := "CaseTables$Machine", name := "runCalled", desc := "(II)V" } : Jvm.MethodName) ∈ bm_ALL := bm_moA wT_881 rfl
theorem wA_883 : Jvm.Cond.instanceMethod ({ cls := "CaseTables$Machine", name := "runCalled", desc := "(II)V" } : Jvm.MethodName) ∈ bm_ALL := bm_moA wT_883 rfl
theorem wA_32 : Jvm.Cond.selects "CaseTables$Machine" ({ cls := "CaseTables$Machine", name := "runCalled", desc := "(II)V" } : Jvm.MethodName) ({ cls := "CaseTables$Machine", name := "runCalled", desc := "(II)V" } : Jvm.MethodName) ∈ bm_ALL := bm_inA 32 (by decide +kernel) rfl
theorem wA_889 : Jvm.Cond.methodLink "CaseTables$Machine" (78 : Nat) ({ cls := "CaseTables$Machine", name := "takesThen", desc := "(IZ)Z" } : Jvm.MethodName) ∈ bm_ALL := bm_moA wT_889 rfl
theorem wA_891 : Jvm.Cond.instanceMethod ({ cls := "CaseTables$Machine", name := "takesThen", desc := "(IZ)Z" } : Jvm.MethodName) ∈ bm_ALL := bm_moA wT_891 rfl
theorem wA_34 : Jvm.Cond.selects "CaseTables$Machine" ({ cls := "CaseTables$Machine", name := "takesThen", desc := "(IZ)Z" } : Jvm.MethodName) ({ cls := "CaseTables$Machine", name := "takesThen", desc := "(IZ)Z" } : Jvm.MethodName) ∈ bm_ALL := bm_inA 34 (by decide +kernel) rfl
theorem wA_897 : Jvm.Cond.methodLink "CaseTables$Machine" (82 : Nat) ({ cls := "CaseTables$Machine", name := "isDecided", desc := "(Z)Z" } : Jvm.MethodName) ∈ bm_ALL := bm_moA wT_897 rfl
theorem wA_899 : Jvm.Cond.instanceMethod ({ cls := "CaseTables$Machine", name := "isDecided", desc := "(Z)Z" } : Jvm.MethodName) ∈ bm_ALL := bm_moA wT_899 rfl
theorem wA_36 : Jvm.Cond.selects "CaseTables$Machine" ({ cls := "CaseTables$Machine", name := "isDecided", desc := "(Z)Z" } : Jvm.MethodName) ({ cls := "CaseTables$Machine", name := "isDecided", desc := "(Z)Z" } : Jvm.MethodName) ∈ bm_ALL := bm_inA 36 (by decide +kernel) rfl
theorem wA_901 : Jvm.Cond.methodLink "CaseTables$Machine" (86 : Nat) ({ cls := "CaseTables$Machine", name := "changedOperator", desc := "(I)I" } : Jvm.MethodName) ∈ bm_ALL := bm_moA wT_901 rfl
theorem wA_902 : Jvm.Cond.static ({ cls := "CaseTables$Machine", name := "changedOperator", desc := "(I)I" } : Jvm.MethodName) ∈ bm_ALL := bm_moA wT_902 rfl
theorem wA_904 : Jvm.Cond.methodLink "CaseTables$Machine" (89 : Nat) ({ cls := "CaseTables$Machine", name := "apply", desc := "(I)V" } : Jvm.MethodName) ∈ bm_ALL := bm_moA wT_904 rfl
theorem wA_906 : Jvm.Cond.instanceMethod ({ cls := "CaseTables$Machine", name := "apply", desc := "(I)V" } : Jvm.MethodName) ∈ bm_ALL := bm_moA wT_906 rfl
theorem wA_37 : Jvm.Cond.selects "CaseTables$Machine" ({ cls := "CaseTables$Machine", name := "apply", desc := "(I)V" } : Jvm.MethodName) ({ cls := "CaseTables$Machine", name := "apply", desc := "(I)V" } : Jvm.MethodName) ∈ bm_ALL := bm_inA 37 (by decide +kernel) rfl
theorem wN_259 : Jvm.Cond.fieldLinkNest "CaseTables$Machine" (93 : Nat) "CaseTables$Fun" "inputCount" "I" "CaseTables" ∈ bm_NW := bm_moN wT_259 rfl
theorem wA_893 : Jvm.Cond.methodLink "CaseTables$Machine" (96 : Nat) ({ cls := "CaseTables$Machine", name := "countBranch", desc := "(IZ)V" } : Jvm.MethodName) ∈ bm_ALL := bm_moA wT_893 rfl
theorem wA_895 : Jvm.Cond.instanceMethod ({ cls := "CaseTables$Machine", name := "countBranch", desc := "(IZ)V" } : Jvm.MethodName) ∈ bm_ALL := bm_moA wT_895 rfl
theorem wA_35 : Jvm.Cond.selects "CaseTables$Machine" ({ cls := "CaseTables$Machine", name := "countBranch", desc := "(IZ)V" } : Jvm.MethodName) ({ cls := "CaseTables$Machine", name := "countBranch", desc := "(IZ)V" } : Jvm.MethodName) ∈ bm_ALL := bm_inA 35 (by decide +kernel) rfl
theorem wN_908 : Jvm.Cond.methodLinkNest "CaseTables$Machine" (100 : Nat) ({ cls := "CaseTables", name := "isRelated", desc := "(IJJ)Z" } : Jvm.MethodName) "CaseTables" ∈ bm_NW := bm_moN wT_908 rfl
theorem wA_909 : Jvm.Cond.static ({ cls := "CaseTables", name := "isRelated", desc := "(IJJ)Z" } : Jvm.MethodName) ∈ bm_ALL := bm_moA wT_909 rfl
theorem wA_221 : Jvm.Cond.methodLink "CaseTables$Program" (3 : Nat) ({ cls := "java/lang/Object", name := "<init>", desc := "()V" } : Jvm.MethodName) ∈ bm_ALL := bm_moA wT_221 rfl
theorem wA_222 : Jvm.Cond.classLink "CaseTables$Program" (9 : Nat) "CaseTables$Fun" ∈ bm_ALL := bm_moA wT_222 rfl
theorem wN_223 : Jvm.Cond.arrayOver (Jvm.ClassFile.FieldType.object "CaseTables$Fun") ∈ bm_NW := bm_moN wT_223 rfl
theorem wA_364 : Jvm.Cond.fieldLink "CaseTables$Program" (11 : Nat) "CaseTables$Program" "funs" "[LCaseTables$Fun;" ∈ bm_ALL := bm_moA wT_364 rfl
theorem wA_224 : Jvm.Cond.classLink "CaseTables$Program" (17 : Nat) "CaseTables$Table" ∈ bm_ALL := bm_moA wT_224 rfl
theorem wN_225 : Jvm.Cond.arrayOver (Jvm.ClassFile.FieldType.object "CaseTables$Table") ∈ bm_NW := bm_moN wT_225 rfl
theorem wA_365 : Jvm.Cond.fieldLink "CaseTables$Program" (19 : Nat) "CaseTables$Program" "tables" "[LCaseTables$Table;" ∈ bm_ALL := bm_moA wT_365 rfl
theorem wA_226 : Jvm.Cond.instantiable "CaseTables$Fun" (10 : Nat) ∈ bm_ALL := bm_moA wT_226 rfl
theorem wA_127 : Jvm.Cond.initialized "CaseTables$Fun" ∈ bm_ALL := bm_moA wT_127 rfl
theorem wN_227 : Jvm.Cond.methodLinkNest "CaseTables$Program" (23 : Nat) ({ cls := "CaseTables$Fun", name := "<init>", desc := "()V" } : Jvm.MethodName) "CaseTables" ∈ bm_NW := bm_moN wT_227 rfl
theorem wA_228 : Jvm.Cond.instanceMethod ({ cls := "CaseTables$Fun", name := "<init>", desc := "()V" } : Jvm.MethodName) ∈ bm_ALL := bm_moA wT_228 rfl
theorem wA_366 : Jvm.Cond.fieldLink "CaseTables$Program" (24 : Nat) "CaseTables$Program" "spareFun" "LCaseTables$Fun;" ∈ bm_ALL := bm_moA wT_366 rfl
theorem wA_288 : Jvm.Cond.instantiable "CaseTables$Table" (7 : Nat) ∈ bm_ALL := bm_moA wT_288 rfl
theorem wA_129 : Jvm.Cond.initialized "CaseTables$Table" ∈ bm_ALL := bm_moA wT_129 rfl
theorem wN_289 : Jvm.Cond.methodLinkNest "CaseTables$Program" (28 : Nat) ({ cls := "CaseTables$Table", name := "<init>", desc := "()V" } : Jvm.MethodName) "CaseTables" ∈ bm_NW := bm_moN wT_289 rfl
theorem wA_290 : Jvm.Cond.instanceMethod ({ cls := "CaseTables$Table", name := "<init>", desc := "()V" } : Jvm.MethodName) ∈ bm_ALL := bm_moA wT_290 rfl
theorem wA_367 : Jvm.Cond.fieldLink "CaseTables$Program" (29 : Nat) "CaseTables$Program" "spareTable" "LCaseTables$Table;" ∈ bm_ALL := bm_moA wT_367 rfl
theorem wA_368 : Jvm.Cond.fieldLink "CaseTables$Program" (33 : Nat) "CaseTables$Program" "funCount" "I" ∈ bm_ALL := bm_moA wT_368 rfl
theorem wA_371 : Jvm.Cond.fieldLink "CaseTables$Program" (37 : Nat) "CaseTables$Program" "tableCount" "I" ∈ bm_ALL := bm_moA wT_371 rfl
theorem wA_375 : Jvm.Cond.fieldLink "CaseTables$Program" (40 : Nat) "CaseTables$Program" "ifCount" "I" ∈ bm_ALL := bm_moA wT_375 rfl
theorem wA_616 : Jvm.Cond.methodLink "CaseTables$Program" (43 : Nat) ({ cls := "CaseTables$Program", name := "funAt", desc := "(I)LCaseTables$Fun;" } : Jvm.MethodName) ∈ bm_ALL := bm_moA wT_616 rfl
theorem wA_617 : Jvm.Cond.methodLink "CaseTables$Program" (47 : Nat) ({ cls := "CaseTables$Fun", name := "clear", desc := "()V" } : Jvm.MethodName) ∈ bm_ALL := bm_moA wT_617 rfl
theorem wA_618 : Jvm.Cond.instanceMethod ({ cls := "CaseTables$Fun", name := "clear", desc := "()V" } : Jvm.MethodName) ∈ bm_ALL := bm_moA wT_618 rfl
theorem wA_619 : Jvm.Cond.selects "CaseTables$Fun" ({ cls := "CaseTables$Fun", name := "clear", desc := "()V" } : Jvm.MethodName) ({ cls := "CaseTables$Fun", name := "clear", desc := "()V" } : Jvm.MethodName) ∈ bm_ALL := bm_moA wT_619 rfl
theorem wA_641 : Jvm.Cond.methodLink "CaseTables$Program" (50 : Nat) ({ cls := "CaseTables$Program", name := "tableAt", desc := "(I)LCaseTables$Table;" } : Jvm.MethodName) ∈ bm_ALL := bm_moA wT_641 rfl
theorem wA_753 : Jvm.Cond.methodLink "CaseTables$Program" (54 : Nat) ({ cls := "CaseTables$Table", name := "clear", desc := "()V" } : Jvm.MethodName) ∈ bm_ALL := bm_moA wT_753 rfl
theorem wA_754 : Jvm.Cond.instanceMethod ({ cls := "CaseTables$Table", name := "clear", desc := "()V" } : Jvm.MethodName) ∈ bm_ALL := bm_moA wT_754 rfl
theorem wA_755 : Jvm.Cond.selects "CaseTables$Table" ({ cls := "CaseTables$Table", name := "clear", desc := "()V" } : Jvm.MethodName) ({ cls := "CaseTables$Table", name := "clear", desc := "()V" } : Jvm.MethodName) ∈ bm_ALL := bm_moA wT_755 rfl
theorem wN_254 : Jvm.Cond.fieldLinkNest "CaseTables$Program" (55 : Nat) "CaseTables$Fun" "name" "J" "CaseTables" ∈ bm_NW := bm_moN wT_254 rfl
theorem wN_333 : Jvm.Cond.fieldLinkNest "CaseTables$Program" (59 : Nat) "CaseTables$Table" "name" "J" "CaseTables" ∈ bm_NW := bm_moN wT_333 rfl
theorem wA_642 : Jvm.Cond.methodLink "CaseTables$Program" (60 : Nat) ({ cls := "CaseTables$Program", name := "funNamed", desc := "(J)I" } : Jvm.MethodName) ∈ bm_ALL := bm_moA wT_642 rfl
theorem wN_337 : Jvm.Cond.fieldLinkNest "CaseTables$Program" (64 : Nat) "CaseTables$Table" "fun" "I" "CaseTables" ∈ bm_NW := bm_moN wT_337 rfl
theorem wN_347 : Jvm.Cond.fieldLinkNest "CaseTables$Program" (67 : Nat) "CaseTables$Table" "caseCount" "I" "CaseTables" ∈ bm_NW := bm_moN wT_347 rfl
theorem wA_236 : Jvm.Cond.methodLink "CaseTables$Ranges" (3 : Nat) ({ cls := "java/lang/Object", name := "<init>", desc := "()V" } : Jvm.MethodName) ∈ bm_ALL := bm_moA wT_236 rfl
theorem wA_237 : Jvm.Cond.fieldLink "CaseTables$Ranges" (9 : Nat) "CaseTables$Ranges" "lows" "[I" ∈ bm_ALL := bm_moA wT_237 rfl
theorem wA_238 : Jvm.Cond.fieldLink "CaseTables$Ranges" (15 : Nat) "CaseTables$Ranges" "highs" "[I" ∈ bm_ALL := bm_moA wT_238 rfl
theorem wA_625 : Jvm.Cond.methodLink "CaseTables$Ranges" (18 : Nat) ({ cls := "CaseTables$Ranges", name := "put", desc := "(III)V" } : Jvm.MethodName) ∈ bm_ALL := bm_moA wT_625 rfl
theorem wA_803 : Jvm.Cond.methodLink "CaseTables$Ranges" (22 : Nat) ({ cls := "CaseTables$Ranges", name := "high", desc := "(I)I" } : Jvm.MethodName) ∈ bm_ALL := bm_moA wT_803 rfl
theorem wA_804 : Jvm.Cond.methodLink "CaseTables$Ranges" (26 : Nat) ({ cls := "CaseTables$Ranges", name := "low", desc := "(I)I" } : Jvm.MethodName) ∈ bm_ALL := bm_moA wT_804 rfl
theorem wA_799 : Jvm.Cond.methodLink "CaseTables$Ranges" (29 : Nat) ({ cls := "CaseTables$Ranges", name := "width", desc := "(I)I" } : Jvm.MethodName) ∈ bm_ALL := bm_moA wT_799 rfl
theorem wA_299 : Jvm.Cond.methodLink "CaseTables$Row" (3 : Nat) ({ cls := "java/lang/Object", name := "<init>", desc := "()V" } : Jvm.MethodName) ∈ bm_ALL := bm_moA wT_299 rfl
theorem wA_300 : Jvm.Cond.classLink "CaseTables$Row" (9 : Nat) "CaseTables$Ranges" ∈ bm_ALL := bm_moA wT_300 rfl
theorem wN_301 : Jvm.Cond.methodLinkNest "CaseTables$Row" (11 : Nat) ({ cls := "CaseTables$Ranges", name := "<init>", desc := "()V" } : Jvm.MethodName) "CaseTables" ∈ bm_NW := bm_moN wT_301 rfl
theorem wA_302 : Jvm.Cond.fieldLink "CaseTables$Row" (12 : Nat) "CaseTables$Row" "ranges" "LCaseTables$Ranges;" ∈ bm_ALL := bm_moA wT_302 rfl
theorem wA_773 : Jvm.Cond.methodLink "CaseTables$Row" (18 : Nat) ({ cls := "CaseTables$Ranges", name := "clear", desc := "()V" } : Jvm.MethodName) ∈ bm_ALL := bm_moA wT_773 rfl
theorem wA_308 : Jvm.Cond.fieldLink "CaseTables$Row" (21 : Nat) "CaseTables$Row" "result" "I" ∈ bm_ALL := bm_moA wT_308 rfl
theorem wA_311 : Jvm.Cond.fieldLink "CaseTables$Row" (25 : Nat) "CaseTables$Row" "number" "J" ∈ bm_ALL := bm_moA wT_311 rfl
theorem wA_315 : Jvm.Cond.fieldLink "CaseTables$Row" (29 : Nat) "CaseTables$Row" "isSearched" "Z" ∈ bm_ALL := bm_moA wT_315 rfl
theorem wN_919 : Jvm.Cond.methodLinkNest "CaseTables$Row" (33 : Nat) ({ cls := "CaseTables", name := "isRelated", desc := "(IJJ)Z" } : Jvm.MethodName) "CaseTables" ∈ bm_NW := bm_moN wT_919 rfl
theorem wA_458 : Jvm.Cond.methodLink "CaseTables$Runner" (3 : Nat) ({ cls := "java/lang/Object", name := "<init>", desc := "()V" } : Jvm.MethodName) ∈ bm_ALL := bm_moA wT_458 rfl
theorem wA_459 : Jvm.Cond.fieldLink "CaseTables$Runner" (9 : Nat) "CaseTables$Runner" "program" "LCaseTables$Program;" ∈ bm_ALL := bm_moA wT_459 rfl
theorem wA_460 : Jvm.Cond.fieldLink "CaseTables$Runner" (15 : Nat) "CaseTables$Runner" "machine" "LCaseTables$Machine;" ∈ bm_ALL := bm_moA wT_460 rfl
theorem wA_461 : Jvm.Cond.fieldLink "CaseTables$Runner" (19 : Nat) "CaseTables$Runner" "isFresh" "Z" ∈ bm_ALL := bm_moA wT_461 rfl
theorem wA_833 : Jvm.Cond.methodLink "CaseTables$Runner" (23 : Nat) ({ cls := "CaseTables$Machine", name := "startCounting", desc := "()V" } : Jvm.MethodName) ∈ bm_ALL := bm_moA wT_833 rfl
theorem wA_834 : Jvm.Cond.instanceMethod ({ cls := "CaseTables$Machine", name := "startCounting", desc := "()V" } : Jvm.MethodName) ∈ bm_ALL := bm_moA wT_834 rfl
theorem wA_835 : Jvm.Cond.selects "CaseTables$Machine" ({ cls := "CaseTables$Machine", name := "startCounting", desc := "()V" } : Jvm.MethodName) ({ cls := "CaseTables$Machine", name := "startCounting", desc := "()V" } : Jvm.MethodName) ∈ bm_ALL := bm_moA wT_835 rfl
theorem wN_372 : Jvm.Cond.fieldLinkNest "CaseTables$Runner" (28 : Nat) "CaseTables$Program" "tableCount" "I" "CaseTables" ∈ bm_NW := bm_moN wT_372 rfl
theorem wA_837 : Jvm.Cond.methodLink "CaseTables$Runner" (34 : Nat) ({ cls := "CaseTables$Program", name := "tableAt", desc := "(I)LCaseTables$Table;" } : Jvm.MethodName) ∈ bm_ALL := bm_moA wT_837 rfl
theorem wA_838 : Jvm.Cond.methodLink "CaseTables$Runner" (38 : Nat) ({ cls := "CaseTables$Runner", name := "runTable", desc := "(LCaseTables$Table;)V" } : Jvm.MethodName) ∈ bm_ALL := bm_moA wT_838 rfl
theorem wA_840 : Jvm.Cond.instanceMethod ({ cls := "CaseTables$Runner", name := "runTable", desc := "(LCaseTables$Table;)V" } : Jvm.MethodName) ∈ bm_ALL := bm_moA wT_840 rfl
theorem wA_27 : Jvm.Cond.selects "CaseTables$Runner" ({ cls := "CaseTables$Runner", name := "runTable", desc := "(LCaseTables$Table;)V" } : Jvm.MethodName) ({ cls := "CaseTables$Runner", name := "runTable", desc := "(LCaseTables$Table;)V" } : Jvm.MethodName) ∈ bm_ALL := bm_inA 27 (by decide +kernel) rfl
theorem wA_924 : Jvm.Cond.methodLink "CaseTables$Runner" (42 : Nat) ({ cls := "CaseTables$Machine", name := "stopCounting", desc := "()V" } : Jvm.MethodName) ∈ bm_ALL := bm_moA wT_924 rfl
theorem wA_925 : Jvm.Cond.instanceMethod ({ cls := "CaseTables$Machine", name := "stopCounting", desc := "()V" } : Jvm.MethodName) ∈ bm_ALL := bm_moA wT_925 rfl
theorem wA_926 : Jvm.Cond.selects "CaseTables$Machine" ({ cls := "CaseTables$Machine", name := "stopCounting", desc := "()V" } : Jvm.MethodName) ({ cls := "CaseTables$Machine", name := "stopCounting", desc := "()V" } : Jvm.MethodName) ∈ bm_ALL := bm_moA wT_926 rfl
theorem wN_341 : Jvm.Cond.fieldLinkNest "CaseTables$Runner" (45 : Nat) "CaseTables$Table" "rowCount" "I" "CaseTables" ∈ bm_NW := bm_moN wT_341 rfl
theorem wA_842 : Jvm.Cond.methodLink "CaseTables$Runner" (50 : Nat) ({ cls := "CaseTables$Table", name := "rowAt", desc := "(I)LCaseTables$Row;" } : Jvm.MethodName) ∈ bm_ALL := bm_moA wT_842 rfl
theorem wA_766 : Jvm.Cond.instanceMethod ({ cls := "CaseTables$Table", name := "rowAt", desc := "(I)LCaseTables$Row;" } : Jvm.MethodName) ∈ bm_ALL := bm_moA wT_766 rfl
theorem wA_767 : Jvm.Cond.selects "CaseTables$Table" ({ cls := "CaseTables$Table", name := "rowAt", desc := "(I)LCaseTables$Row;" } : Jvm.MethodName) ({ cls := "CaseTables$Table", name := "rowAt", desc := "(I)LCaseTables$Row;" } : Jvm.MethodName) ∈ bm_ALL := bm_moA wT_767 rfl
theorem wN_304 : Jvm.Cond.fieldLinkNest "CaseTables$Runner" (54 : Nat) "CaseTables$Row" "ranges" "LCaseTables$Ranges;" "CaseTables" ∈ bm_NW := bm_moN wT_304 rfl
theorem wA_843 : Jvm.Cond.methodLink "CaseTables$Runner" (60 : Nat) ({ cls := "CaseTables$Ranges", name := "rowCount", desc := "()I" } : Jvm.MethodName) ∈ bm_ALL := bm_moA wT_843 rfl
theorem wA_796 : Jvm.Cond.instanceMethod ({ cls := "CaseTables$Ranges", name := "rowCount", desc := "()I" } : Jvm.MethodName) ∈ bm_ALL := bm_moA wT_796 rfl
theorem wA_797 : Jvm.Cond.selects "CaseTables$Ranges" ({ cls := "CaseTables$Ranges", name := "rowCount", desc := "()I" } : Jvm.MethodName) ({ cls := "CaseTables$Ranges", name := "rowCount", desc := "()I" } : Jvm.MethodName) ∈ bm_ALL := bm_moA wT_797 rfl
theorem wN_335 : Jvm.Cond.fieldLinkNest "CaseTables$Runner" (65 : Nat) "CaseTables$Table" "fun" "I" "CaseTables" ∈ bm_NW := bm_moN wT_335 rfl
theorem wA_844 : Jvm.Cond.methodLink "CaseTables$Runner" (68 : Nat) ({ cls := "CaseTables$Runner", name := "isHolding", desc := "(ILCaseTables$Row;II)Z" } : Jvm.MethodName) ∈ bm_ALL := bm_moA wT_844 rfl
theorem wA_846 : Jvm.Cond.instanceMethod ({ cls := "CaseTables$Runner", name := "isHolding", desc := "(ILCaseTables$Row;II)Z" } : Jvm.MethodName) ∈ bm_ALL := bm_moA wT_846 rfl
theorem wA_28 : Jvm.Cond.selects "CaseTables$Runner" ({ cls := "CaseTables$Runner", name := "isHolding", desc := "(ILCaseTables$Row;II)Z" } : Jvm.MethodName) ({ cls := "CaseTables$Runner", name := "isHolding", desc := "(ILCaseTables$Row;II)Z" } : Jvm.MethodName) ∈ bm_ALL := bm_inA 28 (by decide +kernel) rfl
theorem wA_920 : Jvm.Cond.methodLink "CaseTables$Runner" (72 : Nat) ({ cls := "CaseTables$Table", name := "note", desc := "(IZ)V" } : Jvm.MethodName) ∈ bm_ALL := bm_moA wT_920 rfl
theorem wA_921 : Jvm.Cond.instanceMethod ({ cls := "CaseTables$Table", name := "note", desc := "(IZ)V" } : Jvm.MethodName) ∈ bm_ALL := bm_moA wT_921 rfl
theorem wA_922 : Jvm.Cond.selects "CaseTables$Table" ({ cls := "CaseTables$Table", name := "note", desc := "(IZ)V" } : Jvm.MethodName) ({ cls := "CaseTables$Table", name := "note", desc := "(IZ)V" } : Jvm.MethodName) ∈ bm_ALL := bm_moA wT_922 rfl
theorem wA_848 : Jvm.Cond.methodLink "CaseTables$Runner" (76 : Nat) ({ cls := "CaseTables$Ranges", name := "valueAt", desc := "(II)I" } : Jvm.MethodName) ∈ bm_ALL := bm_moA wT_848 rfl
theorem wA_849 : Jvm.Cond.instanceMethod ({ cls := "CaseTables$Ranges", name := "valueAt", desc := "(II)I" } : Jvm.MethodName) ∈ bm_ALL := bm_moA wT_849 rfl
theorem wA_850 : Jvm.Cond.selects "CaseTables$Ranges" ({ cls := "CaseTables$Ranges", name := "valueAt", desc := "(II)I" } : Jvm.MethodName) ({ cls := "CaseTables$Ranges", name := "valueAt", desc := "(II)I" } : Jvm.MethodName) ∈ bm_ALL := bm_moA wT_850 rfl
theorem wA_852 : Jvm.Cond.methodLink "CaseTables$Runner" (80 : Nat) ({ cls := "CaseTables$Machine", name := "reckon", desc := "(IIJJJ)J" } : Jvm.MethodName) ∈ bm_ALL := bm_moA wT_852 rfl
theorem wA_853 : Jvm.Cond.instanceMethod ({ cls := "CaseTables$Machine", name := "reckon", desc := "(IIJJJ)J" } : Jvm.MethodName) ∈ bm_ALL := bm_moA wT_853 rfl
theorem wA_854 : Jvm.Cond.selects "CaseTables$Machine" ({ cls := "CaseTables$Machine", name := "reckon", desc := "(IIJJJ)J" } : Jvm.MethodName) ({ cls := "CaseTables$Machine", name := "reckon", desc := "(IIJJJ)J" } : Jvm.MethodName) ∈ bm_ALL := bm_moA wT_854 rfl
theorem wA_911 : Jvm.Cond.methodLink "CaseTables$Runner" (84 : Nat) ({ cls := "CaseTables$Machine", name := "hasFailed", desc := "()Z" } : Jvm.MethodName) ∈ bm_ALL := bm_moA wT_911 rfl
theorem wA_912 : Jvm.Cond.instanceMethod ({ cls := "CaseTables$Machine", name := "hasFailed", desc := "()Z" } : Jvm.MethodName) ∈ bm_ALL := bm_moA wT_912 rfl
theorem wA_913 : Jvm.Cond.selects "CaseTables$Machine" ({ cls := "CaseTables$Machine", name := "hasFailed", desc := "()Z" } : Jvm.MethodName) ({ cls := "CaseTables$Machine", name := "hasFailed", desc := "()Z" } : Jvm.MethodName) ∈ bm_ALL := bm_moA wT_913 rfl
theorem wA_915 : Jvm.Cond.methodLink "CaseTables$Runner" (88 : Nat) ({ cls := "CaseTables$Row", name := "admits", desc := "(ZJ)Z" } : Jvm.MethodName) ∈ bm_ALL := bm_moA wT_915 rfl
theorem wA_916 : Jvm.Cond.instanceMethod ({ cls := "CaseTables$Row", name := "admits", desc := "(ZJ)Z" } : Jvm.MethodName) ∈ bm_ALL := bm_moA wT_916 rfl
theorem wA_917 : Jvm.Cond.selects "CaseTables$Row" ({ cls := "CaseTables$Row", name := "admits", desc := "(ZJ)Z" } : Jvm.MethodName) ({ cls := "CaseTables$Row", name := "admits", desc := "(ZJ)Z" } : Jvm.MethodName) ∈ bm_ALL := bm_moA wT_917 rfl
theorem wA_1256 : Jvm.Cond.methodLink "CaseTables$Runner" (92 : Nat) ({ cls := "CaseTables$Runner", name := "search", desc := "(ILCaseTables$Row;)V" } : Jvm.MethodName) ∈ bm_ALL := bm_moA wT_1256 rfl
theorem wA_1258 : Jvm.Cond.instanceMethod ({ cls := "CaseTables$Runner", name := "search", desc := "(ILCaseTables$Row;)V" } : Jvm.MethodName) ∈ bm_ALL := bm_moA wT_1258 rfl
theorem wA_46 : Jvm.Cond.selects "CaseTables$Runner" ({ cls := "CaseTables$Runner", name := "search", desc := "(ILCaseTables$Row;)V" } : Jvm.MethodName) ({ cls := "CaseTables$Runner", name := "search", desc := "(ILCaseTables$Row;)V" } : Jvm.MethodName) ∈ bm_ALL := bm_inA 46 (by decide +kernel) rfl
theorem wN_314 : Jvm.Cond.fieldLinkNest "CaseTables$Runner" (96 : Nat) "CaseTables$Row" "found" "J" "CaseTables" ∈ bm_NW := bm_moN wT_314 rfl
theorem wN_316 : Jvm.Cond.fieldLinkNest "CaseTables$Runner" (100 : Nat) "CaseTables$Row" "isSearched" "Z" "CaseTables" ∈ bm_NW := bm_moN wT_316 rfl
theorem wA_1260 : Jvm.Cond.methodLink "CaseTables$Runner" (103 : Nat) ({ cls := "CaseTables$Program", name := "funAt", desc := "(I)LCaseTables$Fun;" } : Jvm.MethodName) ∈ bm_ALL := bm_moA wT_1260 rfl
theorem wN_263 : Jvm.Cond.fieldLinkNest "CaseTables$Runner" (107 : Nat) "CaseTables$Fun" "placeCount" "I" "CaseTables" ∈ bm_NW := bm_moN wT_263 rfl
theorem wA_292 : Jvm.Cond.methodLink "CaseTables$Table" (3 : Nat) ({ cls := "java/lang/Object", name := "<init>", desc := "()V" } : Jvm.MethodName) ∈ bm_ALL := bm_moA wT_292 rfl
theorem wA_293 : Jvm.Cond.classLink "CaseTables$Table" (9 : Nat) "CaseTables$Row" ∈ bm_ALL := bm_moA wT_293 rfl
theorem wN_294 : Jvm.Cond.arrayOver (Jvm.ClassFile.FieldType.object "CaseTables$Row") ∈ bm_NW := bm_moN wT_294 rfl
theorem wA_328 : Jvm.Cond.fieldLink "CaseTables$Table" (11 : Nat) "CaseTables$Table" "rows" "[LCaseTables$Row;" ∈ bm_ALL := bm_moA wT_328 rfl
theorem wA_295 : Jvm.Cond.instantiable "CaseTables$Row" (5 : Nat) ∈ bm_ALL := bm_moA wT_295 rfl
theorem wA_130 : Jvm.Cond.initialized "CaseTables$Row" ∈ bm_ALL := bm_moA wT_130 rfl
theorem wN_296 : Jvm.Cond.methodLinkNest "CaseTables$Table" (17 : Nat) ({ cls := "CaseTables$Row", name := "<init>", desc := "()V" } : Jvm.MethodName) "CaseTables" ∈ bm_NW := bm_moN wT_296 rfl
theorem wA_297 : Jvm.Cond.instanceMethod ({ cls := "CaseTables$Row", name := "<init>", desc := "()V" } : Jvm.MethodName) ∈ bm_ALL := bm_moA wT_297 rfl
theorem wA_329 : Jvm.Cond.fieldLink "CaseTables$Table" (18 : Nat) "CaseTables$Table" "spareRow" "LCaseTables$Row;" ∈ bm_ALL := bm_moA wT_329 rfl
theorem wA_363 : Jvm.Cond.arrayClass Jvm.ClassFile.FieldType.boolean ∈ bm_ALL := bm_moA wT_363 rfl
theorem wA_330 : Jvm.Cond.fieldLink "CaseTables$Table" (22 : Nat) "CaseTables$Table" "holding" "[Z" ∈ bm_ALL := bm_moA wT_330 rfl
theorem wA_331 : Jvm.Cond.fieldLink "CaseTables$Table" (26 : Nat) "CaseTables$Table" "name" "J" ∈ bm_ALL := bm_moA wT_331 rfl
theorem wA_334 : Jvm.Cond.fieldLink "CaseTables$Table" (30 : Nat) "CaseTables$Table" "fun" "I" ∈ bm_ALL := bm_moA wT_334 rfl
theorem wA_339 : Jvm.Cond.fieldLink "CaseTables$Table" (34 : Nat) "CaseTables$Table" "rowCount" "I" ∈ bm_ALL := bm_moA wT_339 rfl
theorem wA_344 : Jvm.Cond.fieldLink "CaseTables$Table" (37 : Nat) "CaseTables$Table" "caseCount" "I" ∈ bm_ALL := bm_moA wT_344 rfl
theorem wA_765 : Jvm.Cond.methodLink "CaseTables$Table" (40 : Nat) ({ cls := "CaseTables$Table", name := "rowAt", desc := "(I)LCaseTables$Row;" } : Jvm.MethodName) ∈ bm_ALL := bm_moA wT_765 rfl
theorem wA_769 : Jvm.Cond.methodLink "CaseTables$Table" (44 : Nat) ({ cls := "CaseTables$Row", name := "clear", desc := "()V" } : Jvm.MethodName) ∈ bm_ALL := bm_moA wT_769 rfl
theorem wA_770 : Jvm.Cond.instanceMethod ({ cls := "CaseTables$Row", name := "clear", desc := "()V" } : Jvm.MethodName) ∈ bm_ALL := bm_moA wT_770 rfl
theorem wA_771 : Jvm.Cond.selects "CaseTables$Row" ({ cls := "CaseTables$Row", name := "clear", desc := "()V" } : Jvm.MethodName) ({ cls := "CaseTables$Row", name := "clear", desc := "()V" } : Jvm.MethodName) ∈ bm_ALL := bm_moA wT_771 rfl
theorem wN_305 : Jvm.Cond.fieldLinkNest "CaseTables$Table" (47 : Nat) "CaseTables$Row" "ranges" "LCaseTables$Ranges;" "CaseTables" ∈ bm_NW := bm_moN wT_305 rfl
theorem wA_795 : Jvm.Cond.methodLink "CaseTables$Table" (51 : Nat) ({ cls := "CaseTables$Ranges", name := "rowCount", desc := "()I" } : Jvm.MethodName) ∈ bm_ALL := bm_moA wT_795 rfl
theorem wA_1088 : Jvm.Cond.methodLink "CaseTables$Table" (56 : Nat) ({ cls := "CaseTables$Ranges", name := "valueAt", desc := "(II)I" } : Jvm.MethodName) ∈ bm_ALL := bm_moA wT_1088 rfl
theorem wA_1072 : Jvm.Cond.methodLink "CaseTables$Table" (60 : Nat) ({ cls := "CaseTables$Table", name := "holdingCount", desc := "()I" } : Jvm.MethodName) ∈ bm_ALL := bm_moA wT_1072 rfl
theorem wA_1073 : Jvm.Cond.instanceMethod ({ cls := "CaseTables$Table", name := "holdingCount", desc := "()I" } : Jvm.MethodName) ∈ bm_ALL := bm_moA wT_1073 rfl
theorem wA_1074 : Jvm.Cond.selects "CaseTables$Table" ({ cls := "CaseTables$Table", name := "holdingCount", desc := "()I" } : Jvm.MethodName) ({ cls := "CaseTables$Table", name := "holdingCount", desc := "()I" } : Jvm.MethodName) ∈ bm_ALL := bm_moA wT_1074 rfl
theorem wA_1080 : Jvm.Cond.methodLink "CaseTables$Table" (63 : Nat) ({ cls := "CaseTables$Table", name := "firstNotHolding", desc := "()I" } : Jvm.MethodName) ∈ bm_ALL := bm_moA wT_1080 rfl
theorem wA_1081 : Jvm.Cond.instanceMethod ({ cls := "CaseTables$Table", name := "firstNotHolding", desc := "()I" } : Jvm.MethodName) ∈ bm_ALL := bm_moA wT_1081 rfl
theorem wA_1082 : Jvm.Cond.selects "CaseTables$Table" ({ cls := "CaseTables$Table", name := "firstNotHolding", desc := "()I" } : Jvm.MethodName) ({ cls := "CaseTables$Table", name := "firstNotHolding", desc := "()I" } : Jvm.MethodName) ∈ bm_ALL := bm_moA wT_1082 rfl
theorem wA_1076 : Jvm.Cond.methodLink "CaseTables$Table" (66 : Nat) ({ cls := "CaseTables$Table", name := "isHolding", desc := "(I)Z" } : Jvm.MethodName) ∈ bm_ALL := bm_moA wT_1076 rfl
theorem wA_1077 : Jvm.Cond.instanceMethod ({ cls := "CaseTables$Table", name := "isHolding", desc := "(I)Z" } : Jvm.MethodName) ∈ bm_ALL := bm_moA wT_1077 rfl
theorem wA_1078 : Jvm.Cond.selects "CaseTables$Table" ({ cls := "CaseTables$Table", name := "isHolding", desc := "(I)Z" } : Jvm.MethodName) ({ cls := "CaseTables$Table", name := "isHolding", desc := "(I)Z" } : Jvm.MethodName) ∈ bm_ALL := bm_moA wT_1078 rfl
theorem wA_163 : Jvm.Cond.methodLink "CaseTables$Tape" (3 : Nat) ({ cls := "java/lang/Object", name := "<init>", desc := "()V" } : Jvm.MethodName) ∈ bm_ALL := bm_moA wT_163 rfl
theorem wA_171 : Jvm.Cond.arrayClass Jvm.ClassFile.FieldType.byte ∈ bm_ALL := bm_moA wT_171 rfl
theorem wA_164 : Jvm.Cond.fieldLink "CaseTables$Tape" (9 : Nat) "CaseTables$Tape" "bytes" "[B" ∈ bm_ALL := bm_moA wT_164 rfl
theorem wA_165 : Jvm.Cond.fieldLink "CaseTables$Tape" (15 : Nat) "CaseTables$Tape" "length" "I" ∈ bm_ALL := bm_moA wT_165 rfl
theorem wA_177 : Jvm.Cond.methodLink "CaseTables$Tokens" (3 : Nat) ({ cls := "java/lang/Object", name := "<init>", desc := "()V" } : Jvm.MethodName) ∈ bm_ALL := bm_moA wT_177 rfl
theorem wA_179 : Jvm.Cond.fieldLink "CaseTables$Tokens" (9 : Nat) "CaseTables$Tokens" "kinds" "[I" ∈ bm_ALL := bm_moA wT_179 rfl
theorem wA_180 : Jvm.Cond.fieldLink "CaseTables$Tokens" (15 : Nat) "CaseTables$Tokens" "starts" "[I" ∈ bm_ALL := bm_moA wT_180 rfl
theorem wA_181 : Jvm.Cond.fieldLink "CaseTables$Tokens" (18 : Nat) "CaseTables$Tokens" "values" "[J" ∈ bm_ALL := bm_moA wT_181 rfl
theorem wA_178 : Jvm.Cond.fieldLink "CaseTables$Tokens" (22 : Nat) "CaseTables$Tokens" "tape" "LCaseTables$Tape;" ∈ bm_ALL := bm_moA wT_178 rfl
theorem wA_182 : Jvm.Cond.fieldLink "CaseTables$Tokens" (26 : Nat) "CaseTables$Tokens" "next" "I" ∈ bm_ALL := bm_moA wT_182 rfl
theorem wA_186 : Jvm.Cond.fieldLink "CaseTables$Tokens" (30 : Nat) "CaseTables$Tokens" "position" "I" ∈ bm_ALL := bm_moA wT_186 rfl
theorem wA_188 : Jvm.Cond.fieldLink "CaseTables$Tokens" (33 : Nat) "CaseTables$Tokens" "limit" "I" ∈ bm_ALL := bm_moA wT_188 rfl
theorem wA_189 : Jvm.Cond.fieldLink "CaseTables$Tokens" (36 : Nat) "CaseTables$Tokens" "failed" "Z" ∈ bm_ALL := bm_moA wT_189 rfl
theorem wA_183 : Jvm.Cond.fieldLink "CaseTables$Tokens" (40 : Nat) "CaseTables$Tokens" "kind" "I" ∈ bm_ALL := bm_moA wT_183 rfl
theorem wA_527 : Jvm.Cond.methodLink "CaseTables$Tokens" (43 : Nat) ({ cls := "CaseTables$Tokens", name := "scanOne", desc := "()V" } : Jvm.MethodName) ∈ bm_ALL := bm_moA wT_527 rfl
theorem wA_529 : Jvm.Cond.instanceMethod ({ cls := "CaseTables$Tokens", name := "scanOne", desc := "()V" } : Jvm.MethodName) ∈ bm_ALL := bm_moA wT_529 rfl
theorem wA_0 : Jvm.Cond.selects "CaseTables$Tokens" ({ cls := "CaseTables$Tokens", name := "scanOne", desc := "()V" } : Jvm.MethodName) ({ cls := "CaseTables$Tokens", name := "scanOne", desc := "()V" } : Jvm.MethodName) ∈ bm_ALL := bm_inA 0 (by decide +kernel) rfl
theorem wA_184 : Jvm.Cond.fieldLink "CaseTables$Tokens" (46 : Nat) "CaseTables$Tokens" "start" "I" ∈ bm_ALL := bm_moA wT_184 rfl
theorem wA_185 : Jvm.Cond.fieldLink "CaseTables$Tokens" (49 : Nat) "CaseTables$Tokens" "value" "J" ∈ bm_ALL := bm_moA wT_185 rfl
theorem wA_607 : Jvm.Cond.methodLink "CaseTables$Tokens" (53 : Nat) ({ cls := "CaseTables$Tokens", name := "sees", desc := "(I)Z" } : Jvm.MethodName) ∈ bm_ALL := bm_moA wT_607 rfl
theorem wA_608 : Jvm.Cond.methodLink "CaseTables$Tokens" (57 : Nat) ({ cls := "CaseTables$Tokens", name := "fail", desc := "()V" } : Jvm.MethodName) ∈ bm_ALL := bm_moA wT_608 rfl
theorem wA_531 : Jvm.Cond.methodLink "CaseTables$Tokens" (60 : Nat) ({ cls := "CaseTables$Tokens", name := "skipBlanks", desc := "()V" } : Jvm.MethodName) ∈ bm_ALL := bm_moA wT_531 rfl
theorem wA_533 : Jvm.Cond.instanceMethod ({ cls := "CaseTables$Tokens", name := "skipBlanks", desc := "()V" } : Jvm.MethodName) ∈ bm_ALL := bm_moA wT_533 rfl
theorem wA_1 : Jvm.Cond.selects "CaseTables$Tokens" ({ cls := "CaseTables$Tokens", name := "skipBlanks", desc := "()V" } : Jvm.MethodName) ({ cls := "CaseTables$Tokens", name := "skipBlanks", desc := "()V" } : Jvm.MethodName) ∈ bm_ALL := bm_inA 1 (by decide +kernel) rfl
theorem wA_539 : Jvm.Cond.methodLink "CaseTables$Tokens" (63 : Nat) ({ cls := "CaseTables$Tape", name := "byteAt", desc := "(I)I" } : Jvm.MethodName) ∈ bm_ALL := bm_moA wT_539 rfl
theorem wA_540 : Jvm.Cond.instanceMethod ({ cls := "CaseTables$Tape", name := "byteAt", desc := "(I)I" } : Jvm.MethodName) ∈ bm_ALL := bm_moA wT_540 rfl
theorem wA_541 : Jvm.Cond.selects "CaseTables$Tape" ({ cls := "CaseTables$Tape", name := "byteAt", desc := "(I)I" } : Jvm.MethodName) ({ cls := "CaseTables$Tape", name := "byteAt", desc := "(I)I" } : Jvm.MethodName) ∈ bm_ALL := bm_moA wT_541 rfl
theorem wA_546 : Jvm.Cond.methodLink "CaseTables$Tokens" (69 : Nat) ({ cls := "CaseTables$Tokens", name := "isLetter", desc := "(I)Z" } : Jvm.MethodName) ∈ bm_ALL := bm_moA wT_546 rfl
theorem wA_547 : Jvm.Cond.static ({ cls := "CaseTables$Tokens", name := "isLetter", desc := "(I)Z" } : Jvm.MethodName) ∈ bm_ALL := bm_moA wT_547 rfl
theorem wA_549 : Jvm.Cond.methodLink "CaseTables$Tokens" (72 : Nat) ({ cls := "CaseTables$Tokens", name := "scanWord", desc := "()V" } : Jvm.MethodName) ∈ bm_ALL := bm_moA wT_549 rfl
theorem wA_551 : Jvm.Cond.instanceMethod ({ cls := "CaseTables$Tokens", name := "scanWord", desc := "()V" } : Jvm.MethodName) ∈ bm_ALL := bm_moA wT_551 rfl
theorem wA_2 : Jvm.Cond.selects "CaseTables$Tokens" ({ cls := "CaseTables$Tokens", name := "scanWord", desc := "()V" } : Jvm.MethodName) ({ cls := "CaseTables$Tokens", name := "scanWord", desc := "()V" } : Jvm.MethodName) ∈ bm_ALL := bm_inA 2 (by decide +kernel) rfl
theorem wA_556 : Jvm.Cond.methodLink "CaseTables$Tokens" (75 : Nat) ({ cls := "CaseTables$Tokens", name := "isDigit", desc := "(I)Z" } : Jvm.MethodName) ∈ bm_ALL := bm_moA wT_556 rfl
theorem wA_557 : Jvm.Cond.static ({ cls := "CaseTables$Tokens", name := "isDigit", desc := "(I)Z" } : Jvm.MethodName) ∈ bm_ALL := bm_moA wT_557 rfl
theorem wA_565 : Jvm.Cond.methodLink "CaseTables$Tokens" (78 : Nat) ({ cls := "CaseTables$Tokens", name := "scanNumber", desc := "()V" } : Jvm.MethodName) ∈ bm_ALL := bm_moA wT_565 rfl
theorem wA_567 : Jvm.Cond.instanceMethod ({ cls := "CaseTables$Tokens", name := "scanNumber", desc := "()V" } : Jvm.MethodName) ∈ bm_ALL := bm_moA wT_567 rfl
theorem wA_4 : Jvm.Cond.selects "CaseTables$Tokens" ({ cls := "CaseTables$Tokens", name := "scanNumber", desc := "()V" } : Jvm.MethodName) ({ cls := "CaseTables$Tokens", name := "scanNumber", desc := "()V" } : Jvm.MethodName) ∈ bm_ALL := bm_inA 4 (by decide +kernel) rfl
theorem wA_571 : Jvm.Cond.methodLink "CaseTables$Tokens" (81 : Nat) ({ cls := "CaseTables$Tokens", name := "symbolKind", desc := "(I)I" } : Jvm.MethodName) ∈ bm_ALL := bm_moA wT_571 rfl
theorem wA_573 : Jvm.Cond.instanceMethod ({ cls := "CaseTables$Tokens", name := "symbolKind", desc := "(I)I" } : Jvm.MethodName) ∈ bm_ALL := bm_moA wT_573 rfl
theorem wA_5 : Jvm.Cond.selects "CaseTables$Tokens" ({ cls := "CaseTables$Tokens", name := "symbolKind", desc := "(I)I" } : Jvm.MethodName) ({ cls := "CaseTables$Tokens", name := "symbolKind", desc := "(I)I" } : Jvm.MethodName) ∈ bm_ALL := bm_inA 5 (by decide +kernel) rfl
theorem wA_535 : Jvm.Cond.methodLink "CaseTables$Tokens" (84 : Nat) ({ cls := "CaseTables$Tape", name := "length", desc := "()I" } : Jvm.MethodName) ∈ bm_ALL := bm_moA wT_535 rfl
theorem wA_536 : Jvm.Cond.instanceMethod ({ cls := "CaseTables$Tape", name := "length", desc := "()I" } : Jvm.MethodName) ∈ bm_ALL := bm_moA wT_536 rfl
theorem wA_537 : Jvm.Cond.selects "CaseTables$Tape" ({ cls := "CaseTables$Tape", name := "length", desc := "()I" } : Jvm.MethodName) ({ cls := "CaseTables$Tape", name := "length", desc := "()I" } : Jvm.MethodName) ∈ bm_ALL := bm_moA wT_537 rfl
theorem wA_543 : Jvm.Cond.methodLink "CaseTables$Tokens" (88 : Nat) ({ cls := "CaseTables$Tokens", name := "isBlank", desc := "(I)Z" } : Jvm.MethodName) ∈ bm_ALL := bm_moA wT_543 rfl
theorem wA_544 : Jvm.Cond.static ({ cls := "CaseTables$Tokens", name := "isBlank", desc := "(I)Z" } : Jvm.MethodName) ∈ bm_ALL := bm_moA wT_544 rfl
theorem wA_553 : Jvm.Cond.methodLink "CaseTables$Tokens" (91 : Nat) ({ cls := "CaseTables$Tokens", name := "isWordSign", desc := "(I)Z" } : Jvm.MethodName) ∈ bm_ALL := bm_moA wT_553 rfl
theorem wA_554 : Jvm.Cond.static ({ cls := "CaseTables$Tokens", name := "isWordSign", desc := "(I)Z" } : Jvm.MethodName) ∈ bm_ALL := bm_moA wT_554 rfl
theorem wA_559 : Jvm.Cond.methodLink "CaseTables$Tokens" (94 : Nat) ({ cls := "CaseTables$Tokens", name := "wordKind", desc := "()I" } : Jvm.MethodName) ∈ bm_ALL := bm_moA wT_559 rfl
theorem wA_561 : Jvm.Cond.instanceMethod ({ cls := "CaseTables$Tokens", name := "wordKind", desc := "()I" } : Jvm.MethodName) ∈ bm_ALL := bm_moA wT_561 rfl
theorem wA_3 : Jvm.Cond.selects "CaseTables$Tokens" ({ cls := "CaseTables$Tokens", name := "wordKind", desc := "()I" } : Jvm.MethodName) ({ cls := "CaseTables$Tokens", name := "wordKind", desc := "()I" } : Jvm.MethodName) ∈ bm_ALL := bm_inA 3 (by decide +kernel) rfl
theorem wN_563 : Jvm.Cond.fieldLinkNest "CaseTables$Tokens" (97 : Nat) "CaseTables" "KEYWORDS" "[J" "CaseTables" ∈ bm_NW := bm_moN wT_563 rfl
theorem wA_569 : Jvm.Cond.constantLong "CaseTables$Tokens" (100 : Nat) (10 : Int64) ∈ bm_ALL := bm_moA wT_569 rfl
theorem wA_570 : Jvm.Cond.constantLong "CaseTables$Tokens" (102 : Nat) (48 : Int64) ∈ bm_ALL := bm_moA wT_570 rfl
theorem wA_575 : Jvm.Cond.methodLink "CaseTables$Tokens" (104 : Nat) ({ cls := "CaseTables$Tokens", name := "follows", desc := "(I)Z" } : Jvm.MethodName) ∈ bm_ALL := bm_moA wT_575 rfl
theorem wA_577 : Jvm.Cond.instanceMethod ({ cls := "CaseTables$Tokens", name := "follows", desc := "(I)Z" } : Jvm.MethodName) ∈ bm_ALL := bm_moA wT_577 rfl
theorem wA_6 : Jvm.Cond.selects "CaseTables$Tokens" ({ cls := "CaseTables$Tokens", name := "follows", desc := "(I)Z" } : Jvm.MethodName) ({ cls := "CaseTables$Tokens", name := "follows", desc := "(I)Z" } : Jvm.MethodName) ∈ bm_ALL := bm_inA 6 (by decide +kernel) rfl
theorem wA_474 : Jvm.Cond.methodLink "CaseTables$Untried" (3 : Nat) ({ cls := "java/lang/Object", name := "<init>", desc := "()V" } : Jvm.MethodName) ∈ bm_ALL := bm_moA wT_474 rfl
theorem wA_475 : Jvm.Cond.fieldLink "CaseTables$Untried" (9 : Nat) "CaseTables$Untried" "firstSecond" "[J" ∈ bm_ALL := bm_moA wT_475 rfl
theorem wA_476 : Jvm.Cond.fieldLink "CaseTables$Untried" (15 : Nat) "CaseTables$Untried" "firstThird" "[J" ∈ bm_ALL := bm_moA wT_476 rfl
theorem wA_477 : Jvm.Cond.fieldLink "CaseTables$Untried" (18 : Nat) "CaseTables$Untried" "secondThird" "[J" ∈ bm_ALL := bm_moA wT_477 rfl
theorem wN_246 : Jvm.Cond.fieldLinkNest "CaseTables$Untried" (21 : Nat) "CaseTables$Fun" "ranges" "LCaseTables$Ranges;" "CaseTables" ∈ bm_NW := bm_moN wT_246 rfl
theorem wA_1032 : Jvm.Cond.methodLink "CaseTables$Untried" (27 : Nat) ({ cls := "CaseTables$Ranges", name := "width", desc := "(I)I" } : Jvm.MethodName) ∈ bm_ALL := bm_moA wT_1032 rfl
theorem wA_478 : Jvm.Cond.fieldLink "CaseTables$Untried" (33 : Nat) "CaseTables$Untried" "firstWidth" "I" ∈ bm_ALL := bm_moA wT_478 rfl
theorem wA_479 : Jvm.Cond.fieldLink "CaseTables$Untried" (37 : Nat) "CaseTables$Untried" "secondWidth" "I" ∈ bm_ALL := bm_moA wT_479 rfl
theorem wA_480 : Jvm.Cond.fieldLink "CaseTables$Untried" (40 : Nat) "CaseTables$Untried" "thirdWidth" "I" ∈ bm_ALL := bm_moA wT_480 rfl
theorem wN_256 : Jvm.Cond.fieldLinkNest "CaseTables$Untried" (43 : Nat) "CaseTables$Fun" "inputCount" "I" "CaseTables" ∈ bm_NW := bm_moN wT_256 rfl
theorem wA_1033 : Jvm.Cond.methodLink "CaseTables$Untried" (46 : Nat) ({ cls := "CaseTables$Untried", name := "fill", desc := "([JII)V" } : Jvm.MethodName) ∈ bm_ALL := bm_moA wT_1033 rfl
theorem wA_1034 : Jvm.Cond.static ({ cls := "CaseTables$Untried", name := "fill", desc := "([JII)V" } : Jvm.MethodName) ∈ bm_ALL := bm_moA wT_1034 rfl
theorem wN_340 : Jvm.Cond.fieldLinkNest "CaseTables$Untried" (50 : Nat) "CaseTables$Table" "rowCount" "I" "CaseTables" ∈ bm_NW := bm_moN wT_340 rfl
theorem wA_1044 : Jvm.Cond.methodLink "CaseTables$Untried" (55 : Nat) ({ cls := "CaseTables$Table", name := "rowAt", desc := "(I)LCaseTables$Row;" } : Jvm.MethodName) ∈ bm_ALL := bm_moA wT_1044 rfl
theorem wN_303 : Jvm.Cond.fieldLinkNest "CaseTables$Untried" (59 : Nat) "CaseTables$Row" "ranges" "LCaseTables$Ranges;" "CaseTables" ∈ bm_NW := bm_moN wT_303 rfl
theorem wA_1045 : Jvm.Cond.methodLink "CaseTables$Untried" (62 : Nat) ({ cls := "CaseTables$Untried", name := "strike", desc := "([JLCaseTables$Ranges;LCaseTables$Ranges;II)V" } : Jvm.MethodName) ∈ bm_ALL := bm_moA wT_1045 rfl
theorem wA_1046 : Jvm.Cond.static ({ cls := "CaseTables$Untried", name := "strike", desc := "([JLCaseTables$Ranges;LCaseTables$Ranges;II)V" } : Jvm.MethodName) ∈ bm_ALL := bm_moA wT_1046 rfl
theorem wA_1055 : Jvm.Cond.methodLink "CaseTables$Untried" (66 : Nat) ({ cls := "CaseTables$Untried", name := "bits", desc := "([J)I" } : Jvm.MethodName) ∈ bm_ALL := bm_moA wT_1055 rfl
theorem wA_1056 : Jvm.Cond.static ({ cls := "CaseTables$Untried", name := "bits", desc := "([J)I" } : Jvm.MethodName) ∈ bm_ALL := bm_moA wT_1056 rfl
theorem wA_1195 : Jvm.Cond.methodLink "CaseTables$Untried" (70 : Nat) ({ cls := "CaseTables$Untried", name := "bestThird", desc := "(II)I" } : Jvm.MethodName) ∈ bm_ALL := bm_moA wT_1195 rfl
theorem wA_1197 : Jvm.Cond.instanceMethod ({ cls := "CaseTables$Untried", name := "bestThird", desc := "(II)I" } : Jvm.MethodName) ∈ bm_ALL := bm_moA wT_1197 rfl
theorem wA_43 : Jvm.Cond.selects "CaseTables$Untried" ({ cls := "CaseTables$Untried", name := "bestThird", desc := "(II)I" } : Jvm.MethodName) ({ cls := "CaseTables$Untried", name := "bestThird", desc := "(II)I" } : Jvm.MethodName) ∈ bm_ALL := bm_inA 43 (by decide +kernel) rfl
theorem wA_1205 : Jvm.Cond.methodLink "CaseTables$Untried" (74 : Nat) ({ cls := "CaseTables$Untried", name := "pairsIn", desc := "(III)I" } : Jvm.MethodName) ∈ bm_ALL := bm_moA wT_1205 rfl
theorem wA_1207 : Jvm.Cond.instanceMethod ({ cls := "CaseTables$Untried", name := "pairsIn", desc := "(III)I" } : Jvm.MethodName) ∈ bm_ALL := bm_moA wT_1207 rfl
theorem wA_44 : Jvm.Cond.selects "CaseTables$Untried" ({ cls := "CaseTables$Untried", name := "pairsIn", desc := "(III)I" } : Jvm.MethodName) ({ cls := "CaseTables$Untried", name := "pairsIn", desc := "(III)I" } : Jvm.MethodName) ∈ bm_ALL := bm_inA 44 (by decide +kernel) rfl
theorem wA_1199 : Jvm.Cond.methodLink "CaseTables$Untried" (78 : Nat) ({ cls := "CaseTables$Untried", name := "maskAt", desc := "([JI)J" } : Jvm.MethodName) ∈ bm_ALL := bm_moA wT_1199 rfl
theorem wA_1200 : Jvm.Cond.static ({ cls := "CaseTables$Untried", name := "maskAt", desc := "([JI)J" } : Jvm.MethodName) ∈ bm_ALL := bm_moA wT_1200 rfl
theorem wA_1202 : Jvm.Cond.methodLink "CaseTables$Untried" (82 : Nat) ({ cls := "CaseTables$Untried", name := "lowestBit", desc := "(J)I" } : Jvm.MethodName) ∈ bm_ALL := bm_moA wT_1202 rfl
theorem wA_1203 : Jvm.Cond.static ({ cls := "CaseTables$Untried", name := "lowestBit", desc := "(J)I" } : Jvm.MethodName) ∈ bm_ALL := bm_moA wT_1203 rfl
theorem wA_1209 : Jvm.Cond.methodLink "CaseTables$Untried" (86 : Nat) ({ cls := "CaseTables$Untried", name := "bitAt", desc := "([JII)I" } : Jvm.MethodName) ∈ bm_ALL := bm_moA wT_1209 rfl
theorem wA_1210 : Jvm.Cond.static ({ cls := "CaseTables$Untried", name := "bitAt", desc := "([JII)I" } : Jvm.MethodName) ∈ bm_ALL := bm_moA wT_1210 rfl
theorem wA_1036 : Jvm.Cond.methodLink "CaseTables$Untried" (90 : Nat) ({ cls := "CaseTables$Untried", name := "upTo", desc := "(I)J" } : Jvm.MethodName) ∈ bm_ALL := bm_moA wT_1036 rfl
theorem wA_1037 : Jvm.Cond.static ({ cls := "CaseTables$Untried", name := "upTo", desc := "(I)J" } : Jvm.MethodName) ∈ bm_ALL := bm_moA wT_1037 rfl
theorem wA_1048 : Jvm.Cond.methodLink "CaseTables$Untried" (94 : Nat) ({ cls := "CaseTables$Ranges", name := "high", desc := "(I)I" } : Jvm.MethodName) ∈ bm_ALL := bm_moA wT_1048 rfl
theorem wA_1049 : Jvm.Cond.methodLink "CaseTables$Untried" (97 : Nat) ({ cls := "CaseTables$Ranges", name := "low", desc := "(I)I" } : Jvm.MethodName) ∈ bm_ALL := bm_moA wT_1049 rfl
theorem wA_1050 : Jvm.Cond.constantLong "CaseTables$Untried" (100 : Nat) (-1 : Int64) ∈ bm_ALL := bm_moA wT_1050 rfl
theorem wA_1058 : Jvm.Cond.methodLink "CaseTables$Untried" (102 : Nat) ({ cls := "java/lang/Long", name := "bitCount", desc := "(J)I" } : Jvm.MethodName) ∈ bm_ALL := bm_moA wT_1058 rfl
theorem wA_1059 : Jvm.Cond.static ({ cls := "java/lang/Long", name := "bitCount", desc := "(J)I" } : Jvm.MethodName) ∈ bm_ALL := bm_moA wT_1059 rfl
theorem wA_155 : Jvm.Cond.methodLink "CaseTables" (3 : Nat) ({ cls := "java/lang/Object", name := "<init>", desc := "()V" } : Jvm.MethodName) ∈ bm_ALL := bm_moA wT_155 rfl
theorem wA_158 : Jvm.Cond.classLink "CaseTables" (9 : Nat) "CaseTables$Tape" ∈ bm_ALL := bm_moA wT_158 rfl
theorem wA_159 : Jvm.Cond.instantiable "CaseTables$Tape" (2 : Nat) ∈ bm_ALL := bm_moA wT_159 rfl
theorem wA_124 : Jvm.Cond.initialized "CaseTables$Tape" ∈ bm_ALL := bm_moA wT_124 rfl
theorem wN_160 : Jvm.Cond.methodLinkNest "CaseTables" (11 : Nat) ({ cls := "CaseTables$Tape", name := "<init>", desc := "()V" } : Jvm.MethodName) "CaseTables" ∈ bm_NW := bm_moN wT_160 rfl
theorem wA_161 : Jvm.Cond.instanceMethod ({ cls := "CaseTables$Tape", name := "<init>", desc := "()V" } : Jvm.MethodName) ∈ bm_ALL := bm_moA wT_161 rfl
theorem wA_494 : Jvm.Cond.fieldLink "CaseTables" (12 : Nat) "CaseTables" "tape" "LCaseTables$Tape;" ∈ bm_ALL := bm_moA wT_494 rfl
theorem wA_172 : Jvm.Cond.classLink "CaseTables" (16 : Nat) "CaseTables$Tokens" ∈ bm_ALL := bm_moA wT_172 rfl
theorem wA_173 : Jvm.Cond.instantiable "CaseTables$Tokens" (11 : Nat) ∈ bm_ALL := bm_moA wT_173 rfl
theorem wA_125 : Jvm.Cond.initialized "CaseTables$Tokens" ∈ bm_ALL := bm_moA wT_125 rfl
theorem wA_174 : Jvm.Cond.methodLink "CaseTables" (18 : Nat) ({ cls := "CaseTables$Tokens", name := "<init>", desc := "(LCaseTables$Tape;)V" } : Jvm.MethodName) ∈ bm_ALL := bm_moA wT_174 rfl
theorem wA_175 : Jvm.Cond.instanceMethod ({ cls := "CaseTables$Tokens", name := "<init>", desc := "(LCaseTables$Tape;)V" } : Jvm.MethodName) ∈ bm_ALL := bm_moA wT_175 rfl
theorem wA_495 : Jvm.Cond.fieldLink "CaseTables" (21 : Nat) "CaseTables" "tokens" "LCaseTables$Tokens;" ∈ bm_ALL := bm_moA wT_495 rfl
theorem wA_216 : Jvm.Cond.classLink "CaseTables" (25 : Nat) "CaseTables$Program" ∈ bm_ALL := bm_moA wT_216 rfl
theorem wA_217 : Jvm.Cond.instantiable "CaseTables$Program" (7 : Nat) ∈ bm_ALL := bm_moA wT_217 rfl
theorem wA_126 : Jvm.Cond.initialized "CaseTables$Program" ∈ bm_ALL := bm_moA wT_126 rfl
theorem wA_218 : Jvm.Cond.methodLink "CaseTables" (27 : Nat) ({ cls := "CaseTables$Program", name := "<init>", desc := "()V" } : Jvm.MethodName) ∈ bm_ALL := bm_moA wT_218 rfl
theorem wA_219 : Jvm.Cond.instanceMethod ({ cls := "CaseTables$Program", name := "<init>", desc := "()V" } : Jvm.MethodName) ∈ bm_ALL := bm_moA wT_219 rfl
theorem wA_496 : Jvm.Cond.fieldLink "CaseTables" (28 : Nat) "CaseTables" "program" "LCaseTables$Program;" ∈ bm_ALL := bm_moA wT_496 rfl
theorem wA_392 : Jvm.Cond.classLink "CaseTables" (32 : Nat) "CaseTables$Compiler" ∈ bm_ALL := bm_moA wT_392 rfl
theorem wA_393 : Jvm.Cond.instantiable "CaseTables$Compiler" (6 : Nat) ∈ bm_ALL := bm_moA wT_393 rfl
theorem wA_131 : Jvm.Cond.initialized "CaseTables$Compiler" ∈ bm_ALL := bm_moA wT_131 rfl
theorem wA_394 : Jvm.Cond.methodLink "CaseTables" (34 : Nat) ({ cls := "CaseTables$Compiler", name := "<init>", desc := "(LCaseTables$Tokens;LCaseTables$Program;)V" } : Jvm.MethodName) ∈ bm_ALL := bm_moA wT_394 rfl
theorem wA_395 : Jvm.Cond.instanceMethod ({ cls := "CaseTables$Compiler", name := "<init>", desc := "(LCaseTables$Tokens;LCaseTables$Program;)V" } : Jvm.MethodName) ∈ bm_ALL := bm_moA wT_395 rfl
theorem wA_497 : Jvm.Cond.fieldLink "CaseTables" (37 : Nat) "CaseTables" "compiler" "LCaseTables$Compiler;" ∈ bm_ALL := bm_moA wT_497 rfl
theorem wA_425 : Jvm.Cond.classLink "CaseTables" (41 : Nat) "CaseTables$Machine" ∈ bm_ALL := bm_moA wT_425 rfl
theorem wA_426 : Jvm.Cond.instantiable "CaseTables$Machine" (7 : Nat) ∈ bm_ALL := bm_moA wT_426 rfl
theorem wA_132 : Jvm.Cond.initialized "CaseTables$Machine" ∈ bm_ALL := bm_moA wT_132 rfl
theorem wA_427 : Jvm.Cond.methodLink "CaseTables" (43 : Nat) ({ cls := "CaseTables$Machine", name := "<init>", desc := "(LCaseTables$Program;)V" } : Jvm.MethodName) ∈ bm_ALL := bm_moA wT_427 rfl
theorem wA_428 : Jvm.Cond.instanceMethod ({ cls := "CaseTables$Machine", name := "<init>", desc := "(LCaseTables$Program;)V" } : Jvm.MethodName) ∈ bm_ALL := bm_moA wT_428 rfl
theorem wA_498 : Jvm.Cond.fieldLink "CaseTables" (46 : Nat) "CaseTables" "machine" "LCaseTables$Machine;" ∈ bm_ALL := bm_moA wT_498 rfl
theorem wA_453 : Jvm.Cond.classLink "CaseTables" (50 : Nat) "CaseTables$Runner" ∈ bm_ALL := bm_moA wT_453 rfl
theorem wA_454 : Jvm.Cond.instantiable "CaseTables$Runner" (3 : Nat) ∈ bm_ALL := bm_moA wT_454 rfl
theorem wA_133 : Jvm.Cond.initialized "CaseTables$Runner" ∈ bm_ALL := bm_moA wT_133 rfl
theorem wA_455 : Jvm.Cond.methodLink "CaseTables" (52 : Nat) ({ cls := "CaseTables$Runner", name := "<init>", desc := "(LCaseTables$Program;LCaseTables$Machine;)V" } : Jvm.MethodName) ∈ bm_ALL := bm_moA wT_455 rfl
theorem wA_456 : Jvm.Cond.instanceMethod ({ cls := "CaseTables$Runner", name := "<init>", desc := "(LCaseTables$Program;LCaseTables$Machine;)V" } : Jvm.MethodName) ∈ bm_ALL := bm_moA wT_456 rfl
theorem wA_499 : Jvm.Cond.fieldLink "CaseTables" (55 : Nat) "CaseTables" "runner" "LCaseTables$Runner;" ∈ bm_ALL := bm_moA wT_499 rfl
theorem wA_469 : Jvm.Cond.classLink "CaseTables" (59 : Nat) "CaseTables$Untried" ∈ bm_ALL := bm_moA wT_469 rfl
theorem wA_470 : Jvm.Cond.instantiable "CaseTables$Untried" (6 : Nat) ∈ bm_ALL := bm_moA wT_470 rfl
theorem wA_134 : Jvm.Cond.initialized "CaseTables$Untried" ∈ bm_ALL := bm_moA wT_134 rfl
theorem wN_471 : Jvm.Cond.methodLinkNest "CaseTables" (61 : Nat) ({ cls := "CaseTables$Untried", name := "<init>", desc := "()V" } : Jvm.MethodName) "CaseTables" ∈ bm_NW := bm_moN wT_471 rfl
theorem wA_472 : Jvm.Cond.instanceMethod ({ cls := "CaseTables$Untried", name := "<init>", desc := "()V" } : Jvm.MethodName) ∈ bm_ALL := bm_moA wT_472 rfl
theorem wA_500 : Jvm.Cond.fieldLink "CaseTables" (62 : Nat) "CaseTables" "untried" "LCaseTables$Untried;" ∈ bm_ALL := bm_moA wT_500 rfl
theorem wA_501 : Jvm.Cond.fieldLink "CaseTables" (66 : Nat) "CaseTables" "latestErrorAt" "I" ∈ bm_ALL := bm_moA wT_501 rfl
theorem wA_1101 : Jvm.Cond.methodLink "CaseTables" (70 : Nat) ({ cls := "CaseTables$Tape", name := "room", desc := "()I" } : Jvm.MethodName) ∈ bm_ALL := bm_moA wT_1101 rfl
theorem wA_1102 : Jvm.Cond.instanceMethod ({ cls := "CaseTables$Tape", name := "room", desc := "()I" } : Jvm.MethodName) ∈ bm_ALL := bm_moA wT_1102 rfl
theorem wA_1103 : Jvm.Cond.selects "CaseTables$Tape" ({ cls := "CaseTables$Tape", name := "room", desc := "()I" } : Jvm.MethodName) ({ cls := "CaseTables$Tape", name := "room", desc := "()I" } : Jvm.MethodName) ∈ bm_ALL := bm_moA wT_1103 rfl
theorem wA_1105 : Jvm.Cond.classLink "CaseTables" (74 : Nat) "java/lang/IllegalStateException" ∈ bm_ALL := bm_moA wT_1105 rfl
theorem wA_139 : Jvm.Cond.initialized "java/lang/IllegalStateException" ∈ bm_ALL := bm_moA wT_139 rfl
theorem wA_1120 : Jvm.Cond.methodLink "CaseTables" (77 : Nat) ({ cls := "CaseTables$Tape", name := "append", desc := "(I)V" } : Jvm.MethodName) ∈ bm_ALL := bm_moA wT_1120 rfl
theorem wA_1121 : Jvm.Cond.instanceMethod ({ cls := "CaseTables$Tape", name := "append", desc := "(I)V" } : Jvm.MethodName) ∈ bm_ALL := bm_moA wT_1121 rfl
theorem wA_1122 : Jvm.Cond.selects "CaseTables$Tape" ({ cls := "CaseTables$Tape", name := "append", desc := "(I)V" } : Jvm.MethodName) ({ cls := "CaseTables$Tape", name := "append", desc := "(I)V" } : Jvm.MethodName) ∈ bm_ALL := bm_moA wT_1122 rfl
theorem wA_938 : Jvm.Cond.methodLink "CaseTables" (81 : Nat) ({ cls := "CaseTables$Tape", name := "length", desc := "()I" } : Jvm.MethodName) ∈ bm_ALL := bm_moA wT_938 rfl
theorem wA_1132 : Jvm.Cond.classLink "CaseTables" (84 : Nat) "java/lang/IllegalArgumentException" ∈ bm_ALL := bm_moA wT_1132 rfl
theorem wA_140 : Jvm.Cond.initialized "java/lang/IllegalArgumentException" ∈ bm_ALL := bm_moA wT_140 rfl
theorem wA_817 : Jvm.Cond.methodLink "CaseTables" (87 : Nat) ({ cls := "CaseTables$Tape", name := "cutTo", desc := "(I)V" } : Jvm.MethodName) ∈ bm_ALL := bm_moA wT_817 rfl
theorem wA_818 : Jvm.Cond.instanceMethod ({ cls := "CaseTables$Tape", name := "cutTo", desc := "(I)V" } : Jvm.MethodName) ∈ bm_ALL := bm_moA wT_818 rfl
theorem wA_819 : Jvm.Cond.selects "CaseTables$Tape" ({ cls := "CaseTables$Tape", name := "cutTo", desc := "(I)V" } : Jvm.MethodName) ({ cls := "CaseTables$Tape", name := "cutTo", desc := "(I)V" } : Jvm.MethodName) ∈ bm_ALL := bm_moA wT_819 rfl
theorem wA_523 : Jvm.Cond.methodLink "CaseTables" (90 : Nat) ({ cls := "CaseTables$Tokens", name := "scan", desc := "()V" } : Jvm.MethodName) ∈ bm_ALL := bm_moA wT_523 rfl
theorem wA_524 : Jvm.Cond.instanceMethod ({ cls := "CaseTables$Tokens", name := "scan", desc := "()V" } : Jvm.MethodName) ∈ bm_ALL := bm_moA wT_524 rfl
theorem wA_525 : Jvm.Cond.selects "CaseTables$Tokens" ({ cls := "CaseTables$Tokens", name := "scan", desc := "()V" } : Jvm.MethodName) ({ cls := "CaseTables$Tokens", name := "scan", desc := "()V" } : Jvm.MethodName) ∈ bm_ALL := bm_moA wT_525 rfl
theorem wA_579 : Jvm.Cond.methodLink "CaseTables" (93 : Nat) ({ cls := "CaseTables$Compiler", name := "translate", desc := "()I" } : Jvm.MethodName) ∈ bm_ALL := bm_moA wT_579 rfl
theorem wA_580 : Jvm.Cond.instanceMethod ({ cls := "CaseTables$Compiler", name := "translate", desc := "()I" } : Jvm.MethodName) ∈ bm_ALL := bm_moA wT_580 rfl
theorem wA_581 : Jvm.Cond.selects "CaseTables$Compiler" ({ cls := "CaseTables$Compiler", name := "translate", desc := "()I" } : Jvm.MethodName) ({ cls := "CaseTables$Compiler", name := "translate", desc := "()I" } : Jvm.MethodName) ∈ bm_ALL := bm_moA wT_581 rfl
theorem wA_809 : Jvm.Cond.methodLink "CaseTables" (96 : Nat) ({ cls := "CaseTables$Compiler", name := "errorPlace", desc := "()I" } : Jvm.MethodName) ∈ bm_ALL := bm_moA wT_809 rfl
theorem wA_810 : Jvm.Cond.instanceMethod ({ cls := "CaseTables$Compiler", name := "errorPlace", desc := "()I" } : Jvm.MethodName) ∈ bm_ALL := bm_moA wT_810 rfl
theorem wA_811 : Jvm.Cond.selects "CaseTables$Compiler" ({ cls := "CaseTables$Compiler", name := "errorPlace", desc := "()I" } : Jvm.MethodName) ({ cls := "CaseTables$Compiler", name := "errorPlace", desc := "()I" } : Jvm.MethodName) ∈ bm_ALL := bm_moA wT_811 rfl
theorem wA_813 : Jvm.Cond.methodLink "CaseTables" (99 : Nat) ({ cls := "CaseTables$Runner", name := "forget", desc := "()V" } : Jvm.MethodName) ∈ bm_ALL := bm_moA wT_813 rfl
theorem wA_814 : Jvm.Cond.instanceMethod ({ cls := "CaseTables$Runner", name := "forget", desc := "()V" } : Jvm.MethodName) ∈ bm_ALL := bm_moA wT_814 rfl
theorem wA_815 : Jvm.Cond.selects "CaseTables$Runner" ({ cls := "CaseTables$Runner", name := "forget", desc := "()V" } : Jvm.MethodName) ({ cls := "CaseTables$Runner", name := "forget", desc := "()V" } : Jvm.MethodName) ∈ bm_ALL := bm_moA wT_815 rfl
theorem wN_369 : Jvm.Cond.fieldLinkNest "CaseTables" (102 : Nat) "CaseTables$Program" "funCount" "I" "CaseTables" ∈ bm_NW := bm_moN wT_369 rfl
theorem wN_373 : Jvm.Cond.fieldLinkNest "CaseTables" (105 : Nat) "CaseTables$Program" "tableCount" "I" "CaseTables" ∈ bm_NW := bm_moN wT_373 rfl
theorem wN_376 : Jvm.Cond.fieldLinkNest "CaseTables" (108 : Nat) "CaseTables$Program" "ifCount" "I" "CaseTables" ∈ bm_NW := bm_moN wT_376 rfl
theorem wA_934 : Jvm.Cond.methodLink "CaseTables" (111 : Nat) ({ cls := "CaseTables$Program", name := "caseCount", desc := "()I" } : Jvm.MethodName) ∈ bm_ALL := bm_moA wT_934 rfl
theorem wA_935 : Jvm.Cond.instanceMethod ({ cls := "CaseTables$Program", name := "caseCount", desc := "()I" } : Jvm.MethodName) ∈ bm_ALL := bm_moA wT_935 rfl
theorem wA_936 : Jvm.Cond.selects "CaseTables$Program" ({ cls := "CaseTables$Program", name := "caseCount", desc := "()I" } : Jvm.MethodName) ({ cls := "CaseTables$Program", name := "caseCount", desc := "()I" } : Jvm.MethodName) ∈ bm_ALL := bm_moA wT_936 rfl
theorem wA_939 : Jvm.Cond.classLink "CaseTables" (114 : Nat) "java/lang/IndexOutOfBoundsException" ∈ bm_ALL := bm_moA wT_939 rfl
theorem wA_147 : Jvm.Cond.initialized "java/lang/IndexOutOfBoundsException" ∈ bm_ALL := bm_moA wT_147 rfl
theorem wA_1006 : Jvm.Cond.methodLink "CaseTables" (117 : Nat) ({ cls := "CaseTables", name := "existingFun", desc := "(I)LCaseTables$Fun;" } : Jvm.MethodName) ∈ bm_ALL := bm_moA wT_1006 rfl
theorem wA_1008 : Jvm.Cond.instanceMethod ({ cls := "CaseTables", name := "existingFun", desc := "(I)LCaseTables$Fun;" } : Jvm.MethodName) ∈ bm_ALL := bm_moA wT_1008 rfl
theorem wA_39 : Jvm.Cond.selects "CaseTables" ({ cls := "CaseTables", name := "existingFun", desc := "(I)LCaseTables$Fun;" } : Jvm.MethodName) ({ cls := "CaseTables", name := "existingFun", desc := "(I)LCaseTables$Fun;" } : Jvm.MethodName) ∈ bm_ALL := bm_inA 39 (by decide +kernel) rfl
theorem wN_257 : Jvm.Cond.fieldLinkNest "CaseTables" (121 : Nat) "CaseTables$Fun" "inputCount" "I" "CaseTables" ∈ bm_NW := bm_moN wT_257 rfl
theorem wN_264 : Jvm.Cond.fieldLinkNest "CaseTables" (126 : Nat) "CaseTables$Fun" "placeCount" "I" "CaseTables" ∈ bm_NW := bm_moN wT_264 rfl
theorem wA_1014 : Jvm.Cond.methodLink "CaseTables" (129 : Nat) ({ cls := "CaseTables$Program", name := "tablesOf", desc := "(I)I" } : Jvm.MethodName) ∈ bm_ALL := bm_moA wT_1014 rfl
theorem wA_1015 : Jvm.Cond.instanceMethod ({ cls := "CaseTables$Program", name := "tablesOf", desc := "(I)I" } : Jvm.MethodName) ∈ bm_ALL := bm_moA wT_1015 rfl
theorem wA_1016 : Jvm.Cond.selects "CaseTables$Program" ({ cls := "CaseTables$Program", name := "tablesOf", desc := "(I)I" } : Jvm.MethodName) ({ cls := "CaseTables$Program", name := "tablesOf", desc := "(I)I" } : Jvm.MethodName) ∈ bm_ALL := bm_moA wT_1016 rfl
theorem wN_247 : Jvm.Cond.fieldLinkNest "CaseTables" (133 : Nat) "CaseTables$Fun" "ranges" "LCaseTables$Ranges;" "CaseTables" ∈ bm_NW := bm_moN wT_247 rfl
theorem wA_1018 : Jvm.Cond.methodLink "CaseTables" (137 : Nat) ({ cls := "CaseTables$Ranges", name := "rowCount", desc := "()I" } : Jvm.MethodName) ∈ bm_ALL := bm_moA wT_1018 rfl
theorem wA_1019 : Jvm.Cond.methodLink "CaseTables" (142 : Nat) ({ cls := "CaseTables$Fun", name := "pairCount", desc := "()I" } : Jvm.MethodName) ∈ bm_ALL := bm_moA wT_1019 rfl
theorem wA_1020 : Jvm.Cond.instanceMethod ({ cls := "CaseTables$Fun", name := "pairCount", desc := "()I" } : Jvm.MethodName) ∈ bm_ALL := bm_moA wT_1020 rfl
theorem wA_1021 : Jvm.Cond.selects "CaseTables$Fun" ({ cls := "CaseTables$Fun", name := "pairCount", desc := "()I" } : Jvm.MethodName) ({ cls := "CaseTables$Fun", name := "pairCount", desc := "()I" } : Jvm.MethodName) ∈ bm_ALL := bm_moA wT_1021 rfl
theorem wA_1024 : Jvm.Cond.methodLink "CaseTables" (145 : Nat) ({ cls := "CaseTables", name := "findUntried", desc := "(I)V" } : Jvm.MethodName) ∈ bm_ALL := bm_moA wT_1024 rfl
theorem wA_1026 : Jvm.Cond.instanceMethod ({ cls := "CaseTables", name := "findUntried", desc := "(I)V" } : Jvm.MethodName) ∈ bm_ALL := bm_moA wT_1026 rfl
theorem wA_40 : Jvm.Cond.selects "CaseTables" ({ cls := "CaseTables", name := "findUntried", desc := "(I)V" } : Jvm.MethodName) ({ cls := "CaseTables", name := "findUntried", desc := "(I)V" } : Jvm.MethodName) ∈ bm_ALL := bm_inA 40 (by decide +kernel) rfl
theorem wA_1051 : Jvm.Cond.methodLink "CaseTables" (148 : Nat) ({ cls := "CaseTables$Untried", name := "pairCount", desc := "()I" } : Jvm.MethodName) ∈ bm_ALL := bm_moA wT_1051 rfl
theorem wA_1052 : Jvm.Cond.instanceMethod ({ cls := "CaseTables$Untried", name := "pairCount", desc := "()I" } : Jvm.MethodName) ∈ bm_ALL := bm_moA wT_1052 rfl
theorem wA_1053 : Jvm.Cond.selects "CaseTables$Untried" ({ cls := "CaseTables$Untried", name := "pairCount", desc := "()I" } : Jvm.MethodName) ({ cls := "CaseTables$Untried", name := "pairCount", desc := "()I" } : Jvm.MethodName) ∈ bm_ALL := bm_moA wT_1053 rfl
theorem wA_1163 : Jvm.Cond.methodLink "CaseTables" (149 : Nat) ({ cls := "CaseTables", name := "valueOrThrow", desc := "(IIIII)J" } : Jvm.MethodName) ∈ bm_ALL := bm_moA wT_1163 rfl
theorem wA_1165 : Jvm.Cond.instanceMethod ({ cls := "CaseTables", name := "valueOrThrow", desc := "(IIIII)J" } : Jvm.MethodName) ∈ bm_ALL := bm_moA wT_1165 rfl
theorem wA_42 : Jvm.Cond.selects "CaseTables" ({ cls := "CaseTables", name := "valueOrThrow", desc := "(IIIII)J" } : Jvm.MethodName) ({ cls := "CaseTables", name := "valueOrThrow", desc := "(IIIII)J" } : Jvm.MethodName) ∈ bm_ALL := bm_inA 42 (by decide +kernel) rfl
theorem wA_1010 : Jvm.Cond.methodLink "CaseTables" (153 : Nat) ({ cls := "CaseTables", name := "requireBelow", desc := "(II)V" } : Jvm.MethodName) ∈ bm_ALL := bm_moA wT_1010 rfl
theorem wA_1011 : Jvm.Cond.static ({ cls := "CaseTables", name := "requireBelow", desc := "(II)V" } : Jvm.MethodName) ∈ bm_ALL := bm_moA wT_1011 rfl
theorem wA_1183 : Jvm.Cond.methodLink "CaseTables" (157 : Nat) ({ cls := "CaseTables$Ranges", name := "valueAt", desc := "(II)I" } : Jvm.MethodName) ∈ bm_ALL := bm_moA wT_1183 rfl
theorem wA_1191 : Jvm.Cond.methodLink "CaseTables" (161 : Nat) ({ cls := "CaseTables$Untried", name := "bestRow", desc := "()I" } : Jvm.MethodName) ∈ bm_ALL := bm_moA wT_1191 rfl
theorem wA_1192 : Jvm.Cond.instanceMethod ({ cls := "CaseTables$Untried", name := "bestRow", desc := "()I" } : Jvm.MethodName) ∈ bm_ALL := bm_moA wT_1192 rfl
theorem wA_1193 : Jvm.Cond.selects "CaseTables$Untried" ({ cls := "CaseTables$Untried", name := "bestRow", desc := "()I" } : Jvm.MethodName) ({ cls := "CaseTables$Untried", name := "bestRow", desc := "()I" } : Jvm.MethodName) ∈ bm_ALL := bm_moA wT_1193 rfl
theorem wA_1219 : Jvm.Cond.methodLink "CaseTables" (164 : Nat) ({ cls := "CaseTables", name := "existingTable", desc := "(I)LCaseTables$Table;" } : Jvm.MethodName) ∈ bm_ALL := bm_moA wT_1219 rfl
theorem wA_1221 : Jvm.Cond.instanceMethod ({ cls := "CaseTables", name := "existingTable", desc := "(I)LCaseTables$Table;" } : Jvm.MethodName) ∈ bm_ALL := bm_moA wT_1221 rfl
theorem wA_45 : Jvm.Cond.selects "CaseTables" ({ cls := "CaseTables", name := "existingTable", desc := "(I)LCaseTables$Table;" } : Jvm.MethodName) ({ cls := "CaseTables", name := "existingTable", desc := "(I)LCaseTables$Table;" } : Jvm.MethodName) ∈ bm_ALL := bm_inA 45 (by decide +kernel) rfl
theorem wA_829 : Jvm.Cond.methodLink "CaseTables" (168 : Nat) ({ cls := "CaseTables$Runner", name := "refresh", desc := "()V" } : Jvm.MethodName) ∈ bm_ALL := bm_moA wT_829 rfl
theorem wA_830 : Jvm.Cond.instanceMethod ({ cls := "CaseTables$Runner", name := "refresh", desc := "()V" } : Jvm.MethodName) ∈ bm_ALL := bm_moA wT_830 rfl
theorem wA_831 : Jvm.Cond.selects "CaseTables$Runner" ({ cls := "CaseTables$Runner", name := "refresh", desc := "()V" } : Jvm.MethodName) ({ cls := "CaseTables$Runner", name := "refresh", desc := "()V" } : Jvm.MethodName) ∈ bm_ALL := bm_moA wT_831 rfl
theorem wA_1068 : Jvm.Cond.methodLink "CaseTables" (171 : Nat) ({ cls := "CaseTables$Table", name := "tell", desc := "(I)I" } : Jvm.MethodName) ∈ bm_ALL := bm_moA wT_1068 rfl
theorem wA_1069 : Jvm.Cond.instanceMethod ({ cls := "CaseTables$Table", name := "tell", desc := "(I)I" } : Jvm.MethodName) ∈ bm_ALL := bm_moA wT_1069 rfl
theorem wA_1070 : Jvm.Cond.selects "CaseTables$Table" ({ cls := "CaseTables$Table", name := "tell", desc := "(I)I" } : Jvm.MethodName) ({ cls := "CaseTables$Table", name := "tell", desc := "(I)I" } : Jvm.MethodName) ∈ bm_ALL := bm_moA wT_1070 rfl
theorem wN_346 : Jvm.Cond.fieldLinkNest "CaseTables" (176 : Nat) "CaseTables$Table" "caseCount" "I" "CaseTables" ∈ bm_NW := bm_moN wT_346 rfl
theorem wN_338 : Jvm.Cond.fieldLinkNest "CaseTables" (178 : Nat) "CaseTables$Table" "fun" "I" "CaseTables" ∈ bm_NW := bm_moN wT_338 rfl
theorem wA_1013 : Jvm.Cond.methodLink "CaseTables" (181 : Nat) ({ cls := "CaseTables$Program", name := "funAt", desc := "(I)LCaseTables$Fun;" } : Jvm.MethodName) ∈ bm_ALL := bm_moA wT_1013 rfl
theorem wA_1084 : Jvm.Cond.methodLink "CaseTables" (184 : Nat) ({ cls := "CaseTables$Table", name := "valueAt", desc := "(II)I" } : Jvm.MethodName) ∈ bm_ALL := bm_moA wT_1084 rfl
theorem wA_1085 : Jvm.Cond.instanceMethod ({ cls := "CaseTables$Table", name := "valueAt", desc := "(II)I" } : Jvm.MethodName) ∈ bm_ALL := bm_moA wT_1085 rfl
theorem wA_1086 : Jvm.Cond.selects "CaseTables$Table" ({ cls := "CaseTables$Table", name := "valueAt", desc := "(II)I" } : Jvm.MethodName) ({ cls := "CaseTables$Table", name := "valueAt", desc := "(II)I" } : Jvm.MethodName) ∈ bm_ALL := bm_moA wT_1086 rfl
theorem wA_1237 : Jvm.Cond.methodLink "CaseTables" (185 : Nat) ({ cls := "CaseTables$Table", name := "isHolding", desc := "(I)Z" } : Jvm.MethodName) ∈ bm_ALL := bm_moA wT_1237 rfl
theorem wA_1089 : Jvm.Cond.methodLink "CaseTables" (189 : Nat) ({ cls := "CaseTables$Machine", name := "branchCount", desc := "(IZ)I" } : Jvm.MethodName) ∈ bm_ALL := bm_moA wT_1089 rfl
theorem wA_1090 : Jvm.Cond.instanceMethod ({ cls := "CaseTables$Machine", name := "branchCount", desc := "(IZ)I" } : Jvm.MethodName) ∈ bm_ALL := bm_moA wT_1090 rfl
theorem wA_1091 : Jvm.Cond.selects "CaseTables$Machine" ({ cls := "CaseTables$Machine", name := "branchCount", desc := "(IZ)I" } : Jvm.MethodName) ({ cls := "CaseTables$Machine", name := "branchCount", desc := "(IZ)I" } : Jvm.MethodName) ∈ bm_ALL := bm_moA wT_1091 rfl
theorem wA_1252 : Jvm.Cond.methodLink "CaseTables" (193 : Nat) ({ cls := "CaseTables$Runner", name := "changesFound", desc := "(LCaseTables$Table;LCaseTables$Row;)J" } : Jvm.MethodName) ∈ bm_ALL := bm_moA wT_1252 rfl
theorem wA_1253 : Jvm.Cond.instanceMethod ({ cls := "CaseTables$Runner", name := "changesFound", desc := "(LCaseTables$Table;LCaseTables$Row;)J" } : Jvm.MethodName) ∈ bm_ALL := bm_moA wT_1253 rfl
theorem wA_1254 : Jvm.Cond.selects "CaseTables$Runner" ({ cls := "CaseTables$Runner", name := "changesFound", desc := "(LCaseTables$Table;LCaseTables$Row;)J" } : Jvm.MethodName) ({ cls := "CaseTables$Runner", name := "changesFound", desc := "(LCaseTables$Table;LCaseTables$Row;)J" } : Jvm.MethodName) ∈ bm_ALL := bm_moA wT_1254 rfl
theorem wA_1268 : Jvm.Cond.methodLink "CaseTables" (197 : Nat) ({ cls := "java/lang/Long", name := "bitCount", desc := "(J)I" } : Jvm.MethodName) ∈ bm_ALL := bm_moA wT_1268 rfl
theorem wN_343 : Jvm.Cond.fieldLinkNest "CaseTables" (203 : Nat) "CaseTables$Table" "rowCount" "I" "CaseTables" ∈ bm_NW := bm_moN wT_343 rfl
theorem wA_1276 : Jvm.Cond.methodLink "CaseTables" (205 : Nat) ({ cls := "CaseTables", name := "addCase", desc := "(LCaseTables$Table;I)V" } : Jvm.MethodName) ∈ bm_ALL := bm_moA wT_1276 rfl
theorem wA_1278 : Jvm.Cond.instanceMethod ({ cls := "CaseTables", name := "addCase", desc := "(LCaseTables$Table;I)V" } : Jvm.MethodName) ∈ bm_ALL := bm_moA wT_1278 rfl
theorem wA_47 : Jvm.Cond.selects "CaseTables" ({ cls := "CaseTables", name := "addCase", desc := "(LCaseTables$Table;I)V" } : Jvm.MethodName) ({ cls := "CaseTables", name := "addCase", desc := "(LCaseTables$Table;I)V" } : Jvm.MethodName) ∈ bm_ALL := bm_inA 47 (by decide +kernel) rfl
theorem wA_1291 : Jvm.Cond.methodLink "CaseTables" (209 : Nat) ({ cls := "CaseTables$Table", name := "rowAt", desc := "(I)LCaseTables$Row;" } : Jvm.MethodName) ∈ bm_ALL := bm_moA wT_1291 rfl
theorem wA_1292 : Jvm.Cond.methodLink "CaseTables" (213 : Nat) ({ cls := "CaseTables$Table", name := "drop", desc := "(I)V" } : Jvm.MethodName) ∈ bm_ALL := bm_moA wT_1292 rfl
theorem wA_1293 : Jvm.Cond.instanceMethod ({ cls := "CaseTables$Table", name := "drop", desc := "(I)V" } : Jvm.MethodName) ∈ bm_ALL := bm_moA wT_1293 rfl
theorem wA_1294 : Jvm.Cond.selects "CaseTables$Table" ({ cls := "CaseTables$Table", name := "drop", desc := "(I)V" } : Jvm.MethodName) ({ cls := "CaseTables$Table", name := "drop", desc := "(I)V" } : Jvm.MethodName) ∈ bm_ALL := bm_moA wT_1294 rfl
theorem wA_928 : Jvm.Cond.constantLong "CaseTables" (216 : Nat) (373 : Int64) ∈ bm_ALL := bm_moA wT_928 rfl
theorem wA_929 : Jvm.Cond.constantLong "CaseTables" (218 : Nat) (31 : Int64) ∈ bm_ALL := bm_moA wT_929 rfl
theorem wA_930 : Jvm.Cond.methodLink "CaseTables" (220 : Nat) ({ cls := "CaseTables", name := "count", desc := "(I)I" } : Jvm.MethodName) ∈ bm_ALL := bm_moA wT_930 rfl
theorem wA_931 : Jvm.Cond.instanceMethod ({ cls := "CaseTables", name := "count", desc := "(I)I" } : Jvm.MethodName) ∈ bm_ALL := bm_moA wT_931 rfl
theorem wA_932 : Jvm.Cond.selects "CaseTables" ({ cls := "CaseTables", name := "count", desc := "(I)I" } : Jvm.MethodName) ({ cls := "CaseTables", name := "count", desc := "(I)I" } : Jvm.MethodName) ∈ bm_ALL := bm_moA wT_932 rfl
theorem wA_1002 : Jvm.Cond.methodLink "CaseTables" (223 : Nat) ({ cls := "CaseTables", name := "fun", desc := "(II)I" } : Jvm.MethodName) ∈ bm_ALL := bm_moA wT_1002 rfl
theorem wA_1003 : Jvm.Cond.instanceMethod ({ cls := "CaseTables", name := "fun", desc := "(II)I" } : Jvm.MethodName) ∈ bm_ALL := bm_moA wT_1003 rfl
theorem wA_1004 : Jvm.Cond.selects "CaseTables" ({ cls := "CaseTables", name := "fun", desc := "(II)I" } : Jvm.MethodName) ({ cls := "CaseTables", name := "fun", desc := "(II)I" } : Jvm.MethodName) ∈ bm_ALL := bm_moA wT_1004 rfl
theorem wA_1039 : Jvm.Cond.methodLink "CaseTables" (225 : Nat) ({ cls := "CaseTables$Program", name := "tableAt", desc := "(I)LCaseTables$Table;" } : Jvm.MethodName) ∈ bm_ALL := bm_moA wT_1039 rfl
theorem wA_1064 : Jvm.Cond.methodLink "CaseTables" (228 : Nat) ({ cls := "CaseTables", name := "addTable", desc := "(JLCaseTables$Table;)J" } : Jvm.MethodName) ∈ bm_ALL := bm_moA wT_1064 rfl
theorem wA_1066 : Jvm.Cond.instanceMethod ({ cls := "CaseTables", name := "addTable", desc := "(JLCaseTables$Table;)J" } : Jvm.MethodName) ∈ bm_ALL := bm_moA wT_1066 rfl
theorem wA_41 : Jvm.Cond.selects "CaseTables" ({ cls := "CaseTables", name := "addTable", desc := "(JLCaseTables$Table;)J" } : Jvm.MethodName) ({ cls := "CaseTables", name := "addTable", desc := "(JLCaseTables$Table;)J" } : Jvm.MethodName) ∈ bm_ALL := bm_inA 41 (by decide +kernel) rfl
theorem wA_1167 : Jvm.Cond.methodLink "CaseTables" (232 : Nat) ({ cls := "CaseTables$Machine", name := "reckon", desc := "(IIJJJ)J" } : Jvm.MethodName) ∈ bm_ALL := bm_moA wT_1167 rfl
theorem wA_1168 : Jvm.Cond.methodLink "CaseTables" (236 : Nat) ({ cls := "CaseTables$Machine", name := "hasFailed", desc := "()Z" } : Jvm.MethodName) ∈ bm_ALL := bm_moA wT_1168 rfl
theorem wA_1028 : Jvm.Cond.methodLink "CaseTables" (240 : Nat) ({ cls := "CaseTables$Untried", name := "begin", desc := "(LCaseTables$Fun;)V" } : Jvm.MethodName) ∈ bm_ALL := bm_moA wT_1028 rfl
theorem wA_1029 : Jvm.Cond.instanceMethod ({ cls := "CaseTables$Untried", name := "begin", desc := "(LCaseTables$Fun;)V" } : Jvm.MethodName) ∈ bm_ALL := bm_moA wT_1029 rfl
theorem wA_1030 : Jvm.Cond.selects "CaseTables$Untried" ({ cls := "CaseTables$Untried", name := "begin", desc := "(LCaseTables$Fun;)V" } : Jvm.MethodName) ({ cls := "CaseTables$Untried", name := "begin", desc := "(LCaseTables$Fun;)V" } : Jvm.MethodName) ∈ bm_ALL := bm_moA wT_1030 rfl
theorem wA_1040 : Jvm.Cond.methodLink "CaseTables" (244 : Nat) ({ cls := "CaseTables$Untried", name := "strikeTable", desc := "(LCaseTables$Ranges;LCaseTables$Table;)V" } : Jvm.MethodName) ∈ bm_ALL := bm_moA wT_1040 rfl
theorem wA_1041 : Jvm.Cond.instanceMethod ({ cls := "CaseTables$Untried", name := "strikeTable", desc := "(LCaseTables$Ranges;LCaseTables$Table;)V" } : Jvm.MethodName) ∈ bm_ALL := bm_moA wT_1041 rfl
theorem wA_1042 : Jvm.Cond.selects "CaseTables$Untried" ({ cls := "CaseTables$Untried", name := "strikeTable", desc := "(LCaseTables$Ranges;LCaseTables$Table;)V" } : Jvm.MethodName) ({ cls := "CaseTables$Untried", name := "strikeTable", desc := "(LCaseTables$Ranges;LCaseTables$Table;)V" } : Jvm.MethodName) ∈ bm_ALL := bm_moA wT_1042 rfl
theorem wA_1280 : Jvm.Cond.methodLink "CaseTables" (248 : Nat) ({ cls := "CaseTables$Table", name := "nextRow", desc := "()LCaseTables$Row;" } : Jvm.MethodName) ∈ bm_ALL := bm_moA wT_1280 rfl
theorem wN_307 : Jvm.Cond.fieldLinkNest "CaseTables" (252 : Nat) "CaseTables$Row" "ranges" "LCaseTables$Ranges;" "CaseTables" ∈ bm_NW := bm_moN wT_307 rfl
theorem wA_1281 : Jvm.Cond.methodLink "CaseTables" (255 : Nat) ({ cls := "CaseTables$Ranges", name := "put", desc := "(III)V" } : Jvm.MethodName) ∈ bm_ALL := bm_moA wT_1281 rfl
theorem wA_1282 : Jvm.Cond.methodLink "CaseTables" (259 : Nat) ({ cls := "CaseTables$Ranges", name := "low", desc := "(I)I" } : Jvm.MethodName) ∈ bm_ALL := bm_moA wT_1282 rfl
theorem wN_313 : Jvm.Cond.fieldLinkNest "CaseTables" (262 : Nat) "CaseTables$Row" "number" "J" "CaseTables" ∈ bm_NW := bm_moN wT_313 rfl
theorem wN_310 : Jvm.Cond.fieldLinkNest "CaseTables" (266 : Nat) "CaseTables$Row" "result" "I" "CaseTables" ∈ bm_NW := bm_moN wT_310 rfl
theorem wA_1283 : Jvm.Cond.methodLink "CaseTables" (269 : Nat) ({ cls := "CaseTables$Table", name := "keepRow", desc := "()V" } : Jvm.MethodName) ∈ bm_ALL := bm_moA wT_1283 rfl
theorem wA_1301 : Jvm.Cond.methodLink "CaseTablesModel" (3 : Nat) ({ cls := "java/lang/Object", name := "<init>", desc := "()V" } : Jvm.MethodName) ∈ bm_ALL := bm_moA wT_1301 rfl
theorem wA_1303 : Jvm.Cond.fieldLink "CaseTablesModel" (9 : Nat) "CaseTablesModel" "tape" "[I" ∈ bm_ALL := bm_moA wT_1303 rfl
theorem wA_1305 : Jvm.Cond.fieldLink "CaseTablesModel" (13 : Nat) "CaseTablesModel" "errorAt" "I" ∈ bm_ALL := bm_moA wT_1305 rfl
theorem wA_1306 : Jvm.Cond.fieldLink "CaseTablesModel" (17 : Nat) "CaseTablesModel" "kinds" "[I" ∈ bm_ALL := bm_moA wT_1306 rfl
theorem wA_1307 : Jvm.Cond.fieldLink "CaseTablesModel" (20 : Nat) "CaseTablesModel" "froms" "[I" ∈ bm_ALL := bm_moA wT_1307 rfl
theorem wA_1308 : Jvm.Cond.fieldLink "CaseTablesModel" (23 : Nat) "CaseTablesModel" "ends" "[I" ∈ bm_ALL := bm_moA wT_1308 rfl
theorem wA_1309 : Jvm.Cond.fieldLink "CaseTablesModel" (26 : Nat) "CaseTablesModel" "placeOf" "[I" ∈ bm_ALL := bm_moA wT_1309 rfl
theorem wA_1310 : Jvm.Cond.fieldLink "CaseTablesModel" (29 : Nat) "CaseTablesModel" "ifOf" "[I" ∈ bm_ALL := bm_moA wT_1310 rfl
theorem wA_1314 : Jvm.Cond.fieldLink "CaseTablesModel" (32 : Nat) "CaseTablesModel" "nodeKind" "[I" ∈ bm_ALL := bm_moA wT_1314 rfl
theorem wA_1315 : Jvm.Cond.fieldLink "CaseTablesModel" (35 : Nat) "CaseTablesModel" "nodeA" "[I" ∈ bm_ALL := bm_moA wT_1315 rfl
theorem wA_1316 : Jvm.Cond.fieldLink "CaseTablesModel" (38 : Nat) "CaseTablesModel" "nodeB" "[I" ∈ bm_ALL := bm_moA wT_1316 rfl
theorem wA_1317 : Jvm.Cond.fieldLink "CaseTablesModel" (41 : Nat) "CaseTablesModel" "nodeC" "[I" ∈ bm_ALL := bm_moA wT_1317 rfl
theorem wA_1318 : Jvm.Cond.fieldLink "CaseTablesModel" (44 : Nat) "CaseTablesModel" "nodeIs" "[I" ∈ bm_ALL := bm_moA wT_1318 rfl
theorem wA_1319 : Jvm.Cond.fieldLink "CaseTablesModel" (47 : Nat) "CaseTablesModel" "nodePlace" "[I" ∈ bm_ALL := bm_moA wT_1319 rfl
theorem wA_1321 : Jvm.Cond.fieldLink "CaseTablesModel" (50 : Nat) "CaseTablesModel" "funNames" "[J" ∈ bm_ALL := bm_moA wT_1321 rfl
theorem wA_1322 : Jvm.Cond.fieldLink "CaseTablesModel" (54 : Nat) "CaseTablesModel" "inputs" "[I" ∈ bm_ALL := bm_moA wT_1322 rfl
theorem wA_1323 : Jvm.Cond.fieldLink "CaseTablesModel" (57 : Nat) "CaseTablesModel" "inputNames" "[J" ∈ bm_ALL := bm_moA wT_1323 rfl
theorem wA_1324 : Jvm.Cond.fieldLink "CaseTablesModel" (60 : Nat) "CaseTablesModel" "lows" "[I" ∈ bm_ALL := bm_moA wT_1324 rfl
theorem wA_1325 : Jvm.Cond.fieldLink "CaseTablesModel" (63 : Nat) "CaseTablesModel" "highs" "[I" ∈ bm_ALL := bm_moA wT_1325 rfl
theorem wA_1326 : Jvm.Cond.fieldLink "CaseTablesModel" (66 : Nat) "CaseTablesModel" "tops" "[I" ∈ bm_ALL := bm_moA wT_1326 rfl
theorem wA_1327 : Jvm.Cond.fieldLink "CaseTablesModel" (69 : Nat) "CaseTablesModel" "places" "[I" ∈ bm_ALL := bm_moA wT_1327 rfl
theorem wA_1328 : Jvm.Cond.fieldLink "CaseTablesModel" (72 : Nat) "CaseTablesModel" "sizes" "[I" ∈ bm_ALL := bm_moA wT_1328 rfl
theorem wA_1331 : Jvm.Cond.fieldLink "CaseTablesModel" (75 : Nat) "CaseTablesModel" "tableNames" "[J" ∈ bm_ALL := bm_moA wT_1331 rfl
theorem wA_1332 : Jvm.Cond.fieldLink "CaseTablesModel" (78 : Nat) "CaseTablesModel" "funOf" "[I" ∈ bm_ALL := bm_moA wT_1332 rfl
theorem wA_1333 : Jvm.Cond.fieldLink "CaseTablesModel" (81 : Nat) "CaseTablesModel" "rows" "[I" ∈ bm_ALL := bm_moA wT_1333 rfl
theorem wA_1334 : Jvm.Cond.fieldLink "CaseTablesModel" (84 : Nat) "CaseTablesModel" "cellLows" "[I" ∈ bm_ALL := bm_moA wT_1334 rfl
theorem wA_1335 : Jvm.Cond.fieldLink "CaseTablesModel" (87 : Nat) "CaseTablesModel" "cellHighs" "[I" ∈ bm_ALL := bm_moA wT_1335 rfl
theorem wA_1336 : Jvm.Cond.fieldLink "CaseTablesModel" (90 : Nat) "CaseTablesModel" "results" "[I" ∈ bm_ALL := bm_moA wT_1336 rfl
theorem wA_1337 : Jvm.Cond.fieldLink "CaseTablesModel" (93 : Nat) "CaseTablesModel" "numbers" "[J" ∈ bm_ALL := bm_moA wT_1337 rfl
theorem wA_1340 : Jvm.Cond.fieldLink "CaseTablesModel" (96 : Nat) "CaseTablesModel" "thens" "[I" ∈ bm_ALL := bm_moA wT_1340 rfl
theorem wA_1341 : Jvm.Cond.fieldLink "CaseTablesModel" (99 : Nat) "CaseTablesModel" "elses" "[I" ∈ bm_ALL := bm_moA wT_1341 rfl
theorem wA_1343 : Jvm.Cond.fieldLink "CaseTablesModel" (102 : Nat) "CaseTablesModel" "tried" "[Z" ∈ bm_ALL := bm_moA wT_1343 rfl
theorem wA_1344 : Jvm.Cond.fieldLink "CaseTablesModel" (106 : Nat) "CaseTablesModel" "caseNow" "[I" ∈ bm_ALL := bm_moA wT_1344 rfl
theorem wA_1302 : Jvm.Cond.fieldLink "CaseTablesModel" (109 : Nat) "CaseTablesModel" "thrown" "I" ∈ bm_ALL := bm_moA wT_1302 rfl
theorem wA_1304 : Jvm.Cond.fieldLink "CaseTablesModel" (112 : Nat) "CaseTablesModel" "length" "I" ∈ bm_ALL := bm_moA wT_1304 rfl
theorem wA_1440 : Jvm.Cond.methodLink "CaseTablesModel" (115 : Nat) ({ cls := "CaseTablesModel", name := "no", desc := "(I)I" } : Jvm.MethodName) ∈ bm_ALL := bm_moA wT_1440 rfl
theorem wA_1442 : Jvm.Cond.instanceMethod ({ cls := "CaseTablesModel", name := "no", desc := "(I)I" } : Jvm.MethodName) ∈ bm_ALL := bm_moA wT_1442 rfl
theorem wA_48 : Jvm.Cond.selects "CaseTablesModel" ({ cls := "CaseTablesModel", name := "no", desc := "(I)I" } : Jvm.MethodName) ({ cls := "CaseTablesModel", name := "no", desc := "(I)I" } : Jvm.MethodName) ∈ bm_ALL := bm_inA 48 (by decide +kernel) rfl
theorem wA_1448 : Jvm.Cond.methodLink "CaseTablesModel" (119 : Nat) ({ cls := "CaseTablesModel", name := "isIn", desc := "(III)Z" } : Jvm.MethodName) ∈ bm_ALL := bm_moA wT_1448 rfl
theorem wA_1449 : Jvm.Cond.static ({ cls := "CaseTablesModel", name := "isIn", desc := "(III)Z" } : Jvm.MethodName) ∈ bm_ALL := bm_moA wT_1449 rfl
theorem wA_1463 : Jvm.Cond.methodLink "CaseTablesModel" (123 : Nat) ({ cls := "CaseTablesModel", name := "byteAt", desc := "(I)I" } : Jvm.MethodName) ∈ bm_ALL := bm_moA wT_1463 rfl
theorem wA_1465 : Jvm.Cond.instanceMethod ({ cls := "CaseTablesModel", name := "byteAt", desc := "(I)I" } : Jvm.MethodName) ∈ bm_ALL := bm_moA wT_1465 rfl
theorem wA_51 : Jvm.Cond.selects "CaseTablesModel" ({ cls := "CaseTablesModel", name := "byteAt", desc := "(I)I" } : Jvm.MethodName) ({ cls := "CaseTablesModel", name := "byteAt", desc := "(I)I" } : Jvm.MethodName) ∈ bm_ALL := bm_inA 51 (by decide +kernel) rfl
theorem wA_1478 : Jvm.Cond.methodLink "CaseTablesModel" (128 : Nat) ({ cls := "java/lang/String", name := "indexOf", desc := "(I)I" } : Jvm.MethodName) ∈ bm_ALL := bm_moA wT_1478 rfl
theorem wA_1479 : Jvm.Cond.instanceMethod ({ cls := "java/lang/String", name := "indexOf", desc := "(I)I" } : Jvm.MethodName) ∈ bm_ALL := bm_moA wT_1479 rfl
theorem wA_1480 : Jvm.Cond.selects "java/lang/String" ({ cls := "java/lang/String", name := "indexOf", desc := "(I)I" } : Jvm.MethodName) ({ cls := "java/lang/String", name := "indexOf", desc := "(I)I" } : Jvm.MethodName) ∈ bm_ALL := bm_moA wT_1480 rfl
theorem wA_1467 : Jvm.Cond.methodLink "CaseTablesModel" (133 : Nat) ({ cls := "CaseTablesModel", name := "isLetter", desc := "(I)Z" } : Jvm.MethodName) ∈ bm_ALL := bm_moA wT_1467 rfl
theorem wA_1468 : Jvm.Cond.static ({ cls := "CaseTablesModel", name := "isLetter", desc := "(I)Z" } : Jvm.MethodName) ∈ bm_ALL := bm_moA wT_1468 rfl
theorem wA_1470 : Jvm.Cond.methodLink "CaseTablesModel" (137 : Nat) ({ cls := "CaseTablesModel", name := "isDigit", desc := "(I)Z" } : Jvm.MethodName) ∈ bm_ALL := bm_moA wT_1470 rfl
theorem wA_1471 : Jvm.Cond.static ({ cls := "CaseTablesModel", name := "isDigit", desc := "(I)Z" } : Jvm.MethodName) ∈ bm_ALL := bm_moA wT_1471 rfl
theorem wA_1473 : Jvm.Cond.methodLink "CaseTablesModel" (140 : Nat) ({ cls := "CaseTablesModel", name := "symbolAt", desc := "(I)I" } : Jvm.MethodName) ∈ bm_ALL := bm_moA wT_1473 rfl
theorem wA_1475 : Jvm.Cond.instanceMethod ({ cls := "CaseTablesModel", name := "symbolAt", desc := "(I)I" } : Jvm.MethodName) ∈ bm_ALL := bm_moA wT_1475 rfl
theorem wA_52 : Jvm.Cond.selects "CaseTablesModel" ({ cls := "CaseTablesModel", name := "symbolAt", desc := "(I)I" } : Jvm.MethodName) ({ cls := "CaseTablesModel", name := "symbolAt", desc := "(I)I" } : Jvm.MethodName) ∈ bm_ALL := bm_inA 52 (by decide +kernel) rfl
theorem wA_1564 : Jvm.Cond.methodLink "CaseTablesModel" (143 : Nat) ({ cls := "java/lang/Math", name := "max", desc := "(II)I" } : Jvm.MethodName) ∈ bm_ALL := bm_moA wT_1564 rfl
theorem wA_1507 : Jvm.Cond.static ({ cls := "java/lang/Math", name := "max", desc := "(II)I" } : Jvm.MethodName) ∈ bm_ALL := bm_moA wT_1507 rfl
theorem wA_143 : Jvm.Cond.initialized "java/lang/Math" ∈ bm_ALL := bm_moA wT_143 rfl
theorem wA_1508 : Jvm.Cond.code ({ cls := "java/lang/Math", name := "max", desc := "(II)I" } : Jvm.MethodName) prog_22_method_65_code (2 : Nat) (Option.some Jvm.ClassFile.FieldType.int) ∈ bm_ALL := bm_moA wT_1508 rfl
theorem wA_1586 : Jvm.Cond.methodLink "CaseTablesModel" (149 : Nat) ({ cls := "java/lang/String", name := "length", desc := "()I" } : Jvm.MethodName) ∈ bm_ALL := bm_moA wT_1586 rfl
theorem wA_1493 : Jvm.Cond.instanceMethod ({ cls := "java/lang/String", name := "length", desc := "()I" } : Jvm.MethodName) ∈ bm_ALL := bm_moA wT_1493 rfl
theorem wA_1494 : Jvm.Cond.selects "java/lang/String" ({ cls := "java/lang/String", name := "length", desc := "()I" } : Jvm.MethodName) ({ cls := "java/lang/String", name := "length", desc := "()I" } : Jvm.MethodName) ∈ bm_ALL := bm_moA wT_1494 rfl
theorem wA_1587 : Jvm.Cond.methodLink "CaseTablesModel" (152 : Nat) ({ cls := "java/lang/String", name := "charAt", desc := "(I)C" } : Jvm.MethodName) ∈ bm_ALL := bm_moA wT_1587 rfl
theorem wA_1588 : Jvm.Cond.instanceMethod ({ cls := "java/lang/String", name := "charAt", desc := "(I)C" } : Jvm.MethodName) ∈ bm_ALL := bm_moA wT_1588 rfl
theorem wA_1589 : Jvm.Cond.selects "java/lang/String" ({ cls := "java/lang/String", name := "charAt", desc := "(I)C" } : Jvm.MethodName) ({ cls := "java/lang/String", name := "charAt", desc := "(I)C" } : Jvm.MethodName) ∈ bm_ALL := bm_moA wT_1589 rfl
theorem wA_1615 : Jvm.Cond.fieldLink "CaseTablesModel" (156 : Nat) "CaseTablesModel" "KEYWORDS" "[Ljava/lang/String;" ∈ bm_ALL := bm_moA wT_1615 rfl
theorem wA_1582 : Jvm.Cond.methodLink "CaseTablesModel" (160 : Nat) ({ cls := "CaseTablesModel", name := "is", desc := "(ILjava/lang/String;)Z" } : Jvm.MethodName) ∈ bm_ALL := bm_moA wT_1582 rfl
theorem wA_1584 : Jvm.Cond.instanceMethod ({ cls := "CaseTablesModel", name := "is", desc := "(ILjava/lang/String;)Z" } : Jvm.MethodName) ∈ bm_ALL := bm_moA wT_1584 rfl
theorem wA_57 : Jvm.Cond.selects "CaseTablesModel" ({ cls := "CaseTablesModel", name := "is", desc := "(ILjava/lang/String;)Z" } : Jvm.MethodName) ({ cls := "CaseTablesModel", name := "is", desc := "(ILjava/lang/String;)Z" } : Jvm.MethodName) ∈ bm_ALL := bm_inA 57 (by decide +kernel) rfl
theorem wA_1706 : Jvm.Cond.constantLong "CaseTablesModel" (164 : Nat) (37 : Int64) ∈ bm_ALL := bm_moA wT_1706 rfl
theorem wA_1666 : Jvm.Cond.fieldLink "CaseTablesModel" (166 : Nat) "CaseTablesModel" "OPERATORS" "[Ljava/lang/String;" ∈ bm_ALL := bm_moA wT_1666 rfl
theorem wA_1311 : Jvm.Cond.fieldLink "CaseTablesModel" (169 : Nat) "CaseTablesModel" "at" "I" ∈ bm_ALL := bm_moA wT_1311 rfl
theorem wA_1578 : Jvm.Cond.methodLink "CaseTablesModel" (172 : Nat) ({ cls := "CaseTablesModel", name := "sees", desc := "(Ljava/lang/String;)Z" } : Jvm.MethodName) ∈ bm_ALL := bm_moA wT_1578 rfl
theorem wA_1580 : Jvm.Cond.instanceMethod ({ cls := "CaseTablesModel", name := "sees", desc := "(Ljava/lang/String;)Z" } : Jvm.MethodName) ∈ bm_ALL := bm_moA wT_1580 rfl
theorem wA_56 : Jvm.Cond.selects "CaseTablesModel" ({ cls := "CaseTablesModel", name := "sees", desc := "(Ljava/lang/String;)Z" } : Jvm.MethodName) ({ cls := "CaseTablesModel", name := "sees", desc := "(Ljava/lang/String;)Z" } : Jvm.MethodName) ∈ bm_ALL := bm_inA 56 (by decide +kernel) rfl
theorem wA_1611 : Jvm.Cond.methodLink "CaseTablesModel" (176 : Nat) ({ cls := "CaseTablesModel", name := "isName", desc := "(I)Z" } : Jvm.MethodName) ∈ bm_ALL := bm_moA wT_1611 rfl
theorem wA_1613 : Jvm.Cond.instanceMethod ({ cls := "CaseTablesModel", name := "isName", desc := "(I)Z" } : Jvm.MethodName) ∈ bm_ALL := bm_moA wT_1613 rfl
theorem wA_59 : Jvm.Cond.selects "CaseTablesModel" ({ cls := "CaseTablesModel", name := "isName", desc := "(I)Z" } : Jvm.MethodName) ({ cls := "CaseTablesModel", name := "isName", desc := "(I)Z" } : Jvm.MethodName) ∈ bm_ALL := bm_inA 59 (by decide +kernel) rfl
theorem wA_1574 : Jvm.Cond.methodLink "CaseTablesModel" (181 : Nat) ({ cls := "CaseTablesModel", name := "takes", desc := "(Ljava/lang/String;)Z" } : Jvm.MethodName) ∈ bm_ALL := bm_moA wT_1574 rfl
theorem wA_1576 : Jvm.Cond.instanceMethod ({ cls := "CaseTablesModel", name := "takes", desc := "(Ljava/lang/String;)Z" } : Jvm.MethodName) ∈ bm_ALL := bm_moA wT_1576 rfl
theorem wA_55 : Jvm.Cond.selects "CaseTablesModel" ({ cls := "CaseTablesModel", name := "takes", desc := "(Ljava/lang/String;)Z" } : Jvm.MethodName) ({ cls := "CaseTablesModel", name := "takes", desc := "(Ljava/lang/String;)Z" } : Jvm.MethodName) ∈ bm_ALL := bm_inA 55 (by decide +kernel) rfl
theorem wA_1569 : Jvm.Cond.methodLink "CaseTablesModel" (184 : Nat) ({ cls := "CaseTablesModel", name := "item", desc := "()Z" } : Jvm.MethodName) ∈ bm_ALL := bm_moA wT_1569 rfl
theorem wA_1571 : Jvm.Cond.instanceMethod ({ cls := "CaseTablesModel", name := "item", desc := "()Z" } : Jvm.MethodName) ∈ bm_ALL := bm_moA wT_1571 rfl
theorem wA_54 : Jvm.Cond.selects "CaseTablesModel" ({ cls := "CaseTablesModel", name := "item", desc := "()Z" } : Jvm.MethodName) ({ cls := "CaseTablesModel", name := "item", desc := "()Z" } : Jvm.MethodName) ∈ bm_ALL := bm_inA 54 (by decide +kernel) rfl
theorem wA_1607 : Jvm.Cond.methodLink "CaseTablesModel" (190 : Nat) ({ cls := "CaseTablesModel", name := "takesName", desc := "()Z" } : Jvm.MethodName) ∈ bm_ALL := bm_moA wT_1607 rfl
theorem wA_1609 : Jvm.Cond.instanceMethod ({ cls := "CaseTablesModel", name := "takesName", desc := "()Z" } : Jvm.MethodName) ∈ bm_ALL := bm_moA wT_1609 rfl
theorem wA_58 : Jvm.Cond.selects "CaseTablesModel" ({ cls := "CaseTablesModel", name := "takesName", desc := "()Z" } : Jvm.MethodName) ({ cls := "CaseTablesModel", name := "takesName", desc := "()Z" } : Jvm.MethodName) ∈ bm_ALL := bm_inA 58 (by decide +kernel) rfl
theorem wA_1618 : Jvm.Cond.methodLink "CaseTablesModel" (195 : Nat) ({ cls := "CaseTablesModel", name := "inputsForm", desc := "()Z" } : Jvm.MethodName) ∈ bm_ALL := bm_moA wT_1618 rfl
theorem wA_1620 : Jvm.Cond.instanceMethod ({ cls := "CaseTablesModel", name := "inputsForm", desc := "()Z" } : Jvm.MethodName) ∈ bm_ALL := bm_moA wT_1620 rfl
theorem wA_60 : Jvm.Cond.selects "CaseTablesModel" ({ cls := "CaseTablesModel", name := "inputsForm", desc := "()Z" } : Jvm.MethodName) ({ cls := "CaseTablesModel", name := "inputsForm", desc := "()Z" } : Jvm.MethodName) ∈ bm_ALL := bm_inA 60 (by decide +kernel) rfl
theorem wA_1632 : Jvm.Cond.methodLink "CaseTablesModel" (202 : Nat) ({ cls := "CaseTablesModel", name := "wholeExpression", desc := "()Z" } : Jvm.MethodName) ∈ bm_ALL := bm_moA wT_1632 rfl
theorem wA_1634 : Jvm.Cond.instanceMethod ({ cls := "CaseTablesModel", name := "wholeExpression", desc := "()Z" } : Jvm.MethodName) ∈ bm_ALL := bm_moA wT_1634 rfl
theorem wA_62 : Jvm.Cond.selects "CaseTablesModel" ({ cls := "CaseTablesModel", name := "wholeExpression", desc := "()Z" } : Jvm.MethodName) ({ cls := "CaseTablesModel", name := "wholeExpression", desc := "()Z" } : Jvm.MethodName) ∈ bm_ALL := bm_inA 62 (by decide +kernel) rfl
theorem wA_1674 : Jvm.Cond.methodLink "CaseTablesModel" (213 : Nat) ({ cls := "CaseTablesModel", name := "rowsForm", desc := "()Z" } : Jvm.MethodName) ∈ bm_ALL := bm_moA wT_1674 rfl
theorem wA_1676 : Jvm.Cond.instanceMethod ({ cls := "CaseTablesModel", name := "rowsForm", desc := "()Z" } : Jvm.MethodName) ∈ bm_ALL := bm_moA wT_1676 rfl
theorem wA_70 : Jvm.Cond.selects "CaseTablesModel" ({ cls := "CaseTablesModel", name := "rowsForm", desc := "()Z" } : Jvm.MethodName) ({ cls := "CaseTablesModel", name := "rowsForm", desc := "()Z" } : Jvm.MethodName) ∈ bm_ALL := bm_inA 70 (by decide +kernel) rfl
theorem wA_1623 : Jvm.Cond.methodLink "CaseTablesModel" (218 : Nat) ({ cls := "CaseTablesModel", name := "takesWhole", desc := "()Z" } : Jvm.MethodName) ∈ bm_ALL := bm_moA wT_1623 rfl
theorem wA_1625 : Jvm.Cond.instanceMethod ({ cls := "CaseTablesModel", name := "takesWhole", desc := "()Z" } : Jvm.MethodName) ∈ bm_ALL := bm_moA wT_1625 rfl
theorem wA_61 : Jvm.Cond.selects "CaseTablesModel" ({ cls := "CaseTablesModel", name := "takesWhole", desc := "()Z" } : Jvm.MethodName) ({ cls := "CaseTablesModel", name := "takesWhole", desc := "()Z" } : Jvm.MethodName) ∈ bm_ALL := bm_inA 61 (by decide +kernel) rfl
theorem wA_1678 : Jvm.Cond.methodLink "CaseTablesModel" (225 : Nat) ({ cls := "CaseTablesModel", name := "cellsForm", desc := "()Z" } : Jvm.MethodName) ∈ bm_ALL := bm_moA wT_1678 rfl
theorem wA_1680 : Jvm.Cond.instanceMethod ({ cls := "CaseTablesModel", name := "cellsForm", desc := "()Z" } : Jvm.MethodName) ∈ bm_ALL := bm_moA wT_1680 rfl
theorem wA_71 : Jvm.Cond.selects "CaseTablesModel" ({ cls := "CaseTablesModel", name := "cellsForm", desc := "()Z" } : Jvm.MethodName) ({ cls := "CaseTablesModel", name := "cellsForm", desc := "()Z" } : Jvm.MethodName) ∈ bm_ALL := bm_inA 71 (by decide +kernel) rfl
theorem wA_1683 : Jvm.Cond.methodLink "CaseTablesModel" (228 : Nat) ({ cls := "CaseTablesModel", name := "resultForm", desc := "()Z" } : Jvm.MethodName) ∈ bm_ALL := bm_moA wT_1683 rfl
theorem wA_1685 : Jvm.Cond.instanceMethod ({ cls := "CaseTablesModel", name := "resultForm", desc := "()Z" } : Jvm.MethodName) ∈ bm_ALL := bm_moA wT_1685 rfl
theorem wA_72 : Jvm.Cond.selects "CaseTablesModel" ({ cls := "CaseTablesModel", name := "resultForm", desc := "()Z" } : Jvm.MethodName) ({ cls := "CaseTablesModel", name := "resultForm", desc := "()Z" } : Jvm.MethodName) ∈ bm_ALL := bm_inA 72 (by decide +kernel) rfl
theorem wA_1662 : Jvm.Cond.methodLink "CaseTablesModel" (239 : Nat) ({ cls := "CaseTablesModel", name := "operator", desc := "(III)I" } : Jvm.MethodName) ∈ bm_ALL := bm_moA wT_1662 rfl
theorem wA_1664 : Jvm.Cond.instanceMethod ({ cls := "CaseTablesModel", name := "operator", desc := "(III)I" } : Jvm.MethodName) ∈ bm_ALL := bm_moA wT_1664 rfl
theorem wA_69 : Jvm.Cond.selects "CaseTablesModel" ({ cls := "CaseTablesModel", name := "operator", desc := "(III)I" } : Jvm.MethodName) ({ cls := "CaseTablesModel", name := "operator", desc := "(III)I" } : Jvm.MethodName) ∈ bm_ALL := bm_inA 69 (by decide +kernel) rfl
theorem wA_1312 : Jvm.Cond.fieldLink "CaseTablesModel" (243 : Nat) "CaseTablesModel" "expressionFrom" "I" ∈ bm_ALL := bm_moA wT_1312 rfl
theorem wA_1636 : Jvm.Cond.methodLink "CaseTablesModel" (246 : Nat) ({ cls := "CaseTablesModel", name := "expressionForm", desc := "(I)Z" } : Jvm.MethodName) ∈ bm_ALL := bm_moA wT_1636 rfl
theorem wA_1638 : Jvm.Cond.instanceMethod ({ cls := "CaseTablesModel", name := "expressionForm", desc := "(I)Z" } : Jvm.MethodName) ∈ bm_ALL := bm_moA wT_1638 rfl
theorem wA_63 : Jvm.Cond.selects "CaseTablesModel" ({ cls := "CaseTablesModel", name := "expressionForm", desc := "(I)Z" } : Jvm.MethodName) ({ cls := "CaseTablesModel", name := "expressionForm", desc := "(I)Z" } : Jvm.MethodName) ∈ bm_ALL := bm_inA 63 (by decide +kernel) rfl
theorem wA_1649 : Jvm.Cond.methodLink "CaseTablesModel" (249 : Nat) ({ cls := "CaseTablesModel", name := "goes", desc := "()Z" } : Jvm.MethodName) ∈ bm_ALL := bm_moA wT_1649 rfl
theorem wA_1651 : Jvm.Cond.instanceMethod ({ cls := "CaseTablesModel", name := "goes", desc := "()Z" } : Jvm.MethodName) ∈ bm_ALL := bm_moA wT_1651 rfl
theorem wA_66 : Jvm.Cond.selects "CaseTablesModel" ({ cls := "CaseTablesModel", name := "goes", desc := "()Z" } : Jvm.MethodName) ({ cls := "CaseTablesModel", name := "goes", desc := "()Z" } : Jvm.MethodName) ∈ bm_ALL := bm_inA 66 (by decide +kernel) rfl
theorem wA_1641 : Jvm.Cond.methodLink "CaseTablesModel" (254 : Nat) ({ cls := "CaseTablesModel", name := "levelForm", desc := "(II)Z" } : Jvm.MethodName) ∈ bm_ALL := bm_moA wT_1641 rfl
theorem wA_1643 : Jvm.Cond.instanceMethod ({ cls := "CaseTablesModel", name := "levelForm", desc := "(II)Z" } : Jvm.MethodName) ∈ bm_ALL := bm_moA wT_1643 rfl
theorem wA_64 : Jvm.Cond.selects "CaseTablesModel" ({ cls := "CaseTablesModel", name := "levelForm", desc := "(II)Z" } : Jvm.MethodName) ({ cls := "CaseTablesModel", name := "levelForm", desc := "(II)Z" } : Jvm.MethodName) ∈ bm_ALL := bm_inA 64 (by decide +kernel) rfl
theorem wA_1657 : Jvm.Cond.methodLink "CaseTablesModel" (260 : Nat) ({ cls := "CaseTablesModel", name := "goes", desc := "(Ljava/lang/String;)Z" } : Jvm.MethodName) ∈ bm_ALL := bm_moA wT_1657 rfl
theorem wA_1659 : Jvm.Cond.instanceMethod ({ cls := "CaseTablesModel", name := "goes", desc := "(Ljava/lang/String;)Z" } : Jvm.MethodName) ∈ bm_ALL := bm_moA wT_1659 rfl
theorem wA_68 : Jvm.Cond.selects "CaseTablesModel" ({ cls := "CaseTablesModel", name := "goes", desc := "(Ljava/lang/String;)Z" } : Jvm.MethodName) ({ cls := "CaseTablesModel", name := "goes", desc := "(Ljava/lang/String;)Z" } : Jvm.MethodName) ∈ bm_ALL := bm_inA 68 (by decide +kernel) rfl
theorem wA_1645 : Jvm.Cond.methodLink "CaseTablesModel" (264 : Nat) ({ cls := "CaseTablesModel", name := "factorForm", desc := "(I)Z" } : Jvm.MethodName) ∈ bm_ALL := bm_moA wT_1645 rfl
theorem wA_1647 : Jvm.Cond.instanceMethod ({ cls := "CaseTablesModel", name := "factorForm", desc := "(I)Z" } : Jvm.MethodName) ∈ bm_ALL := bm_moA wT_1647 rfl
theorem wA_65 : Jvm.Cond.selects "CaseTablesModel" ({ cls := "CaseTablesModel", name := "factorForm", desc := "(I)Z" } : Jvm.MethodName) ({ cls := "CaseTablesModel", name := "factorForm", desc := "(I)Z" } : Jvm.MethodName) ∈ bm_ALL := bm_inA 65 (by decide +kernel) rfl
theorem wA_1653 : Jvm.Cond.methodLink "CaseTablesModel" (267 : Nat) ({ cls := "CaseTablesModel", name := "argumentsForm", desc := "(I)Z" } : Jvm.MethodName) ∈ bm_ALL := bm_moA wT_1653 rfl
theorem wA_1655 : Jvm.Cond.instanceMethod ({ cls := "CaseTablesModel", name := "argumentsForm", desc := "(I)Z" } : Jvm.MethodName) ∈ bm_ALL := bm_moA wT_1655 rfl
theorem wA_67 : Jvm.Cond.selects "CaseTablesModel" ({ cls := "CaseTablesModel", name := "argumentsForm", desc := "(I)Z" } : Jvm.MethodName) ({ cls := "CaseTablesModel", name := "argumentsForm", desc := "(I)Z" } : Jvm.MethodName) ∈ bm_ALL := bm_inA 67 (by decide +kernel) rfl
theorem wA_1329 : Jvm.Cond.fieldLink "CaseTablesModel" (272 : Nat) "CaseTablesModel" "ifs" "I" ∈ bm_ALL := bm_moA wT_1329 rfl
theorem wA_1320 : Jvm.Cond.fieldLink "CaseTablesModel" (275 : Nat) "CaseTablesModel" "funs" "I" ∈ bm_ALL := bm_moA wT_1320 rfl
theorem wA_1711 : Jvm.Cond.methodLink "CaseTablesModel" (278 : Nat) ({ cls := "CaseTablesModel", name := "find", desc := "([JIIJ)I" } : Jvm.MethodName) ∈ bm_ALL := bm_moA wT_1711 rfl
theorem wA_1712 : Jvm.Cond.static ({ cls := "CaseTablesModel", name := "find", desc := "([JIIJ)I" } : Jvm.MethodName) ∈ bm_ALL := bm_moA wT_1712 rfl
theorem wA_1330 : Jvm.Cond.fieldLink "CaseTablesModel" (282 : Nat) "CaseTablesModel" "tables" "I" ∈ bm_ALL := bm_moA wT_1330 rfl
theorem wA_1722 : Jvm.Cond.methodLink "CaseTablesModel" (285 : Nat) ({ cls := "CaseTablesModel", name := "numberOf", desc := "(I)I" } : Jvm.MethodName) ∈ bm_ALL := bm_moA wT_1722 rfl
theorem wA_1724 : Jvm.Cond.instanceMethod ({ cls := "CaseTablesModel", name := "numberOf", desc := "(I)I" } : Jvm.MethodName) ∈ bm_ALL := bm_moA wT_1724 rfl
theorem wA_80 : Jvm.Cond.selects "CaseTablesModel" ({ cls := "CaseTablesModel", name := "numberOf", desc := "(I)I" } : Jvm.MethodName) ({ cls := "CaseTablesModel", name := "numberOf", desc := "(I)I" } : Jvm.MethodName) ∈ bm_ALL := bm_inA 80 (by decide +kernel) rfl
theorem wA_1698 : Jvm.Cond.methodLink "CaseTablesModel" (288 : Nat) ({ cls := "CaseTablesModel", name := "fun", desc := "(I)I" } : Jvm.MethodName) ∈ bm_ALL := bm_moA wT_1698 rfl
theorem wA_1700 : Jvm.Cond.instanceMethod ({ cls := "CaseTablesModel", name := "fun", desc := "(I)I" } : Jvm.MethodName) ∈ bm_ALL := bm_moA wT_1700 rfl
theorem wA_75 : Jvm.Cond.selects "CaseTablesModel" ({ cls := "CaseTablesModel", name := "fun", desc := "(I)I" } : Jvm.MethodName) ({ cls := "CaseTablesModel", name := "fun", desc := "(I)I" } : Jvm.MethodName) ∈ bm_ALL := bm_inA 75 (by decide +kernel) rfl
theorem wA_1754 : Jvm.Cond.methodLink "CaseTablesModel" (290 : Nat) ({ cls := "CaseTablesModel", name := "table", desc := "(I)I" } : Jvm.MethodName) ∈ bm_ALL := bm_moA wT_1754 rfl
theorem wA_1756 : Jvm.Cond.instanceMethod ({ cls := "CaseTablesModel", name := "table", desc := "(I)I" } : Jvm.MethodName) ∈ bm_ALL := bm_moA wT_1756 rfl
theorem wA_88 : Jvm.Cond.selects "CaseTablesModel" ({ cls := "CaseTablesModel", name := "table", desc := "(I)I" } : Jvm.MethodName) ({ cls := "CaseTablesModel", name := "table", desc := "(I)I" } : Jvm.MethodName) ∈ bm_ALL := bm_inA 88 (by decide +kernel) rfl
theorem wA_1690 : Jvm.Cond.methodLink "CaseTablesModel" (292 : Nat) ({ cls := "CaseTablesModel", name := "wrong", desc := "(II)I" } : Jvm.MethodName) ∈ bm_ALL := bm_moA wT_1690 rfl
theorem wA_1692 : Jvm.Cond.instanceMethod ({ cls := "CaseTablesModel", name := "wrong", desc := "(II)I" } : Jvm.MethodName) ∈ bm_ALL := bm_moA wT_1692 rfl
theorem wA_73 : Jvm.Cond.selects "CaseTablesModel" ({ cls := "CaseTablesModel", name := "wrong", desc := "(II)I" } : Jvm.MethodName) ({ cls := "CaseTablesModel", name := "wrong", desc := "(II)I" } : Jvm.MethodName) ∈ bm_ALL := bm_inA 73 (by decide +kernel) rfl
theorem wA_1702 : Jvm.Cond.methodLink "CaseTablesModel" (295 : Nat) ({ cls := "CaseTablesModel", name := "nameOf", desc := "(I)J" } : Jvm.MethodName) ∈ bm_ALL := bm_moA wT_1702 rfl
theorem wA_1704 : Jvm.Cond.instanceMethod ({ cls := "CaseTablesModel", name := "nameOf", desc := "(I)J" } : Jvm.MethodName) ∈ bm_ALL := bm_moA wT_1704 rfl
theorem wA_76 : Jvm.Cond.selects "CaseTablesModel" ({ cls := "CaseTablesModel", name := "nameOf", desc := "(I)J" } : Jvm.MethodName) ({ cls := "CaseTablesModel", name := "nameOf", desc := "(I)J" } : Jvm.MethodName) ∈ bm_ALL := bm_inA 76 (by decide +kernel) rfl
theorem wA_1707 : Jvm.Cond.methodLink "CaseTablesModel" (299 : Nat) ({ cls := "CaseTablesModel", name := "isTaken", desc := "(J)Z" } : Jvm.MethodName) ∈ bm_ALL := bm_moA wT_1707 rfl
theorem wA_1709 : Jvm.Cond.instanceMethod ({ cls := "CaseTablesModel", name := "isTaken", desc := "(J)Z" } : Jvm.MethodName) ∈ bm_ALL := bm_moA wT_1709 rfl
theorem wA_77 : Jvm.Cond.selects "CaseTablesModel" ({ cls := "CaseTablesModel", name := "isTaken", desc := "(J)Z" } : Jvm.MethodName) ({ cls := "CaseTablesModel", name := "isTaken", desc := "(J)Z" } : Jvm.MethodName) ∈ bm_ALL := bm_inA 77 (by decide +kernel) rfl
theorem wA_1714 : Jvm.Cond.methodLink "CaseTablesModel" (303 : Nat) ({ cls := "CaseTablesModel", name := "input", desc := "()I" } : Jvm.MethodName) ∈ bm_ALL := bm_moA wT_1714 rfl
theorem wA_1716 : Jvm.Cond.instanceMethod ({ cls := "CaseTablesModel", name := "input", desc := "()I" } : Jvm.MethodName) ∈ bm_ALL := bm_moA wT_1716 rfl
theorem wA_78 : Jvm.Cond.selects "CaseTablesModel" ({ cls := "CaseTablesModel", name := "input", desc := "()I" } : Jvm.MethodName) ({ cls := "CaseTablesModel", name := "input", desc := "()I" } : Jvm.MethodName) ∈ bm_ALL := bm_inA 78 (by decide +kernel) rfl
theorem wA_1726 : Jvm.Cond.methodLink "CaseTablesModel" (306 : Nat) ({ cls := "CaseTablesModel", name := "markPlaces", desc := "(II)V" } : Jvm.MethodName) ∈ bm_ALL := bm_moA wT_1726 rfl
theorem wA_1728 : Jvm.Cond.instanceMethod ({ cls := "CaseTablesModel", name := "markPlaces", desc := "(II)V" } : Jvm.MethodName) ∈ bm_ALL := bm_moA wT_1728 rfl
theorem wA_81 : Jvm.Cond.selects "CaseTablesModel" ({ cls := "CaseTablesModel", name := "markPlaces", desc := "(II)V" } : Jvm.MethodName) ({ cls := "CaseTablesModel", name := "markPlaces", desc := "(II)V" } : Jvm.MethodName) ∈ bm_ALL := bm_inA 81 (by decide +kernel) rfl
theorem wA_1730 : Jvm.Cond.methodLink "CaseTablesModel" (310 : Nat) ({ cls := "CaseTablesModel", name := "expression", desc := "()I" } : Jvm.MethodName) ∈ bm_ALL := bm_moA wT_1730 rfl
theorem wA_1732 : Jvm.Cond.instanceMethod ({ cls := "CaseTablesModel", name := "expression", desc := "()I" } : Jvm.MethodName) ∈ bm_ALL := bm_moA wT_1732 rfl
theorem wA_82 : Jvm.Cond.selects "CaseTablesModel" ({ cls := "CaseTablesModel", name := "expression", desc := "()I" } : Jvm.MethodName) ({ cls := "CaseTablesModel", name := "expression", desc := "()I" } : Jvm.MethodName) ∈ bm_ALL := bm_inA 82 (by decide +kernel) rfl
theorem wA_1342 : Jvm.Cond.fieldLink "CaseTablesModel" (313 : Nat) "CaseTablesModel" "made" "I" ∈ bm_ALL := bm_moA wT_1342 rfl
theorem wA_1718 : Jvm.Cond.methodLink "CaseTablesModel" (316 : Nat) ({ cls := "CaseTablesModel", name := "whole", desc := "()I" } : Jvm.MethodName) ∈ bm_ALL := bm_moA wT_1718 rfl
theorem wA_1720 : Jvm.Cond.instanceMethod ({ cls := "CaseTablesModel", name := "whole", desc := "()I" } : Jvm.MethodName) ∈ bm_ALL := bm_moA wT_1720 rfl
theorem wA_79 : Jvm.Cond.selects "CaseTablesModel" ({ cls := "CaseTablesModel", name := "whole", desc := "()I" } : Jvm.MethodName) ({ cls := "CaseTablesModel", name := "whole", desc := "()I" } : Jvm.MethodName) ∈ bm_ALL := bm_inA 79 (by decide +kernel) rfl
theorem wA_1313 : Jvm.Cond.fieldLink "CaseTablesModel" (319 : Nat) "CaseTablesModel" "nodes" "I" ∈ bm_ALL := bm_moA wT_1313 rfl
theorem wA_1734 : Jvm.Cond.methodLink "CaseTablesModel" (322 : Nat) ({ cls := "CaseTablesModel", name := "level", desc := "(I)I" } : Jvm.MethodName) ∈ bm_ALL := bm_moA wT_1734 rfl
theorem wA_1736 : Jvm.Cond.instanceMethod ({ cls := "CaseTablesModel", name := "level", desc := "(I)I" } : Jvm.MethodName) ∈ bm_ALL := bm_moA wT_1736 rfl
theorem wA_83 : Jvm.Cond.selects "CaseTablesModel" ({ cls := "CaseTablesModel", name := "level", desc := "(I)I" } : Jvm.MethodName) ({ cls := "CaseTablesModel", name := "level", desc := "(I)I" } : Jvm.MethodName) ∈ bm_ALL := bm_inA 83 (by decide +kernel) rfl
theorem wA_1742 : Jvm.Cond.methodLink "CaseTablesModel" (325 : Nat) ({ cls := "CaseTablesModel", name := "node", desc := "(IIIIII)I" } : Jvm.MethodName) ∈ bm_ALL := bm_moA wT_1742 rfl
theorem wA_1744 : Jvm.Cond.instanceMethod ({ cls := "CaseTablesModel", name := "node", desc := "(IIIIII)I" } : Jvm.MethodName) ∈ bm_ALL := bm_moA wT_1744 rfl
theorem wA_85 : Jvm.Cond.selects "CaseTablesModel" ({ cls := "CaseTablesModel", name := "node", desc := "(IIIIII)I" } : Jvm.MethodName) ({ cls := "CaseTablesModel", name := "node", desc := "(IIIIII)I" } : Jvm.MethodName) ∈ bm_ALL := bm_inA 85 (by decide +kernel) rfl
theorem wA_1738 : Jvm.Cond.methodLink "CaseTablesModel" (329 : Nat) ({ cls := "CaseTablesModel", name := "factor", desc := "()I" } : Jvm.MethodName) ∈ bm_ALL := bm_moA wT_1738 rfl
theorem wA_1740 : Jvm.Cond.instanceMethod ({ cls := "CaseTablesModel", name := "factor", desc := "()I" } : Jvm.MethodName) ∈ bm_ALL := bm_moA wT_1740 rfl
theorem wA_84 : Jvm.Cond.selects "CaseTablesModel" ({ cls := "CaseTablesModel", name := "factor", desc := "()I" } : Jvm.MethodName) ({ cls := "CaseTablesModel", name := "factor", desc := "()I" } : Jvm.MethodName) ∈ bm_ALL := bm_inA 84 (by decide +kernel) rfl
theorem wA_1746 : Jvm.Cond.methodLink "CaseTablesModel" (332 : Nat) ({ cls := "CaseTablesModel", name := "call", desc := "(I)I" } : Jvm.MethodName) ∈ bm_ALL := bm_moA wT_1746 rfl
theorem wA_1748 : Jvm.Cond.instanceMethod ({ cls := "CaseTablesModel", name := "call", desc := "(I)I" } : Jvm.MethodName) ∈ bm_ALL := bm_moA wT_1748 rfl
theorem wA_86 : Jvm.Cond.selects "CaseTablesModel" ({ cls := "CaseTablesModel", name := "call", desc := "(I)I" } : Jvm.MethodName) ({ cls := "CaseTablesModel", name := "call", desc := "(I)I" } : Jvm.MethodName) ∈ bm_ALL := bm_inA 86 (by decide +kernel) rfl
theorem wA_1750 : Jvm.Cond.methodLink "CaseTablesModel" (335 : Nat) ({ cls := "CaseTablesModel", name := "inputNamed", desc := "(I)I" } : Jvm.MethodName) ∈ bm_ALL := bm_moA wT_1750 rfl
theorem wA_1752 : Jvm.Cond.instanceMethod ({ cls := "CaseTablesModel", name := "inputNamed", desc := "(I)I" } : Jvm.MethodName) ∈ bm_ALL := bm_moA wT_1752 rfl
theorem wA_87 : Jvm.Cond.selects "CaseTablesModel" ({ cls := "CaseTablesModel", name := "inputNamed", desc := "(I)I" } : Jvm.MethodName) ({ cls := "CaseTablesModel", name := "inputNamed", desc := "(I)I" } : Jvm.MethodName) ∈ bm_ALL := bm_inA 87 (by decide +kernel) rfl
theorem wA_1758 : Jvm.Cond.methodLink "CaseTablesModel" (338 : Nat) ({ cls := "CaseTablesModel", name := "row", desc := "()I" } : Jvm.MethodName) ∈ bm_ALL := bm_moA wT_1758 rfl
theorem wA_1760 : Jvm.Cond.instanceMethod ({ cls := "CaseTablesModel", name := "row", desc := "()I" } : Jvm.MethodName) ∈ bm_ALL := bm_moA wT_1760 rfl
theorem wA_89 : Jvm.Cond.selects "CaseTablesModel" ({ cls := "CaseTablesModel", name := "row", desc := "()I" } : Jvm.MethodName) ({ cls := "CaseTablesModel", name := "row", desc := "()I" } : Jvm.MethodName) ∈ bm_ALL := bm_inA 89 (by decide +kernel) rfl
theorem wA_1762 : Jvm.Cond.methodLink "CaseTablesModel" (341 : Nat) ({ cls := "CaseTablesModel", name := "cell", desc := "(III)I" } : Jvm.MethodName) ∈ bm_ALL := bm_moA wT_1762 rfl
theorem wA_1764 : Jvm.Cond.instanceMethod ({ cls := "CaseTablesModel", name := "cell", desc := "(III)I" } : Jvm.MethodName) ∈ bm_ALL := bm_moA wT_1764 rfl
theorem wA_90 : Jvm.Cond.selects "CaseTablesModel" ({ cls := "CaseTablesModel", name := "cell", desc := "(III)I" } : Jvm.MethodName) ({ cls := "CaseTablesModel", name := "cell", desc := "(III)I" } : Jvm.MethodName) ∈ bm_ALL := bm_inA 90 (by decide +kernel) rfl
theorem wA_1770 : Jvm.Cond.methodLink "CaseTablesModel" (344 : Nat) ({ cls := "CaseTablesModel", name := "cases", desc := "(I)I" } : Jvm.MethodName) ∈ bm_ALL := bm_moA wT_1770 rfl
theorem wA_1772 : Jvm.Cond.instanceMethod ({ cls := "CaseTablesModel", name := "cases", desc := "(I)I" } : Jvm.MethodName) ∈ bm_ALL := bm_moA wT_1772 rfl
theorem wA_92 : Jvm.Cond.selects "CaseTablesModel" ({ cls := "CaseTablesModel", name := "cases", desc := "(I)I" } : Jvm.MethodName) ({ cls := "CaseTablesModel", name := "cases", desc := "(I)I" } : Jvm.MethodName) ∈ bm_ALL := bm_inA 92 (by decide +kernel) rfl
theorem wA_1766 : Jvm.Cond.methodLink "CaseTablesModel" (347 : Nat) ({ cls := "CaseTablesModel", name := "setCell", desc := "(IIZII)V" } : Jvm.MethodName) ∈ bm_ALL := bm_moA wT_1766 rfl
theorem wA_1768 : Jvm.Cond.instanceMethod ({ cls := "CaseTablesModel", name := "setCell", desc := "(IIZII)V" } : Jvm.MethodName) ∈ bm_ALL := bm_moA wT_1768 rfl
theorem wA_91 : Jvm.Cond.selects "CaseTablesModel" ({ cls := "CaseTablesModel", name := "setCell", desc := "(IIZII)V" } : Jvm.MethodName) ({ cls := "CaseTablesModel", name := "setCell", desc := "(IIZII)V" } : Jvm.MethodName) ∈ bm_ALL := bm_inA 91 (by decide +kernel) rfl
theorem wA_1455 : Jvm.Cond.methodLink "CaseTablesModel" (351 : Nat) ({ cls := "CaseTablesModel", name := "forget", desc := "()V" } : Jvm.MethodName) ∈ bm_ALL := bm_moA wT_1455 rfl
theorem wA_1457 : Jvm.Cond.instanceMethod ({ cls := "CaseTablesModel", name := "forget", desc := "()V" } : Jvm.MethodName) ∈ bm_ALL := bm_moA wT_1457 rfl
theorem wA_49 : Jvm.Cond.selects "CaseTablesModel" ({ cls := "CaseTablesModel", name := "forget", desc := "()V" } : Jvm.MethodName) ({ cls := "CaseTablesModel", name := "forget", desc := "()V" } : Jvm.MethodName) ∈ bm_ALL := bm_inA 49 (by decide +kernel) rfl
theorem wA_1459 : Jvm.Cond.methodLink "CaseTablesModel" (354 : Nat) ({ cls := "CaseTablesModel", name := "scan", desc := "()V" } : Jvm.MethodName) ∈ bm_ALL := bm_moA wT_1459 rfl
theorem wA_1461 : Jvm.Cond.instanceMethod ({ cls := "CaseTablesModel", name := "scan", desc := "()V" } : Jvm.MethodName) ∈ bm_ALL := bm_moA wT_1461 rfl
theorem wA_50 : Jvm.Cond.selects "CaseTablesModel" ({ cls := "CaseTablesModel", name := "scan", desc := "()V" } : Jvm.MethodName) ({ cls := "CaseTablesModel", name := "scan", desc := "()V" } : Jvm.MethodName) ∈ bm_ALL := bm_inA 50 (by decide +kernel) rfl
theorem wA_1565 : Jvm.Cond.methodLink "CaseTablesModel" (357 : Nat) ({ cls := "CaseTablesModel", name := "program", desc := "()Z" } : Jvm.MethodName) ∈ bm_ALL := bm_moA wT_1565 rfl
theorem wA_1567 : Jvm.Cond.instanceMethod ({ cls := "CaseTablesModel", name := "program", desc := "()Z" } : Jvm.MethodName) ∈ bm_ALL := bm_moA wT_1567 rfl
theorem wA_53 : Jvm.Cond.selects "CaseTablesModel" ({ cls := "CaseTablesModel", name := "program", desc := "()Z" } : Jvm.MethodName) ({ cls := "CaseTablesModel", name := "program", desc := "()Z" } : Jvm.MethodName) ∈ bm_ALL := bm_inA 53 (by decide +kernel) rfl
theorem wA_1694 : Jvm.Cond.methodLink "CaseTablesModel" (360 : Nat) ({ cls := "CaseTablesModel", name := "meaning", desc := "()I" } : Jvm.MethodName) ∈ bm_ALL := bm_moA wT_1694 rfl
theorem wA_1696 : Jvm.Cond.instanceMethod ({ cls := "CaseTablesModel", name := "meaning", desc := "()I" } : Jvm.MethodName) ∈ bm_ALL := bm_moA wT_1696 rfl
theorem wA_74 : Jvm.Cond.selects "CaseTablesModel" ({ cls := "CaseTablesModel", name := "meaning", desc := "()I" } : Jvm.MethodName) ({ cls := "CaseTablesModel", name := "meaning", desc := "()I" } : Jvm.MethodName) ∈ bm_ALL := bm_inA 74 (by decide +kernel) rfl
theorem wA_1338 : Jvm.Cond.fieldLink "CaseTablesModel" (363 : Nat) "CaseTablesModel" "isFault" "Z" ∈ bm_ALL := bm_moA wT_1338 rfl
theorem wA_1849 : Jvm.Cond.methodLink "CaseTablesModel" (367 : Nat) ({ cls := "CaseTablesModel", name := "called", desc := "(IJJJI)J" } : Jvm.MethodName) ∈ bm_ALL := bm_moA wT_1849 rfl
theorem wA_1851 : Jvm.Cond.instanceMethod ({ cls := "CaseTablesModel", name := "called", desc := "(IJJJI)J" } : Jvm.MethodName) ∈ bm_ALL := bm_moA wT_1851 rfl
theorem wA_107 : Jvm.Cond.selects "CaseTablesModel" ({ cls := "CaseTablesModel", name := "called", desc := "(IJJJI)J" } : Jvm.MethodName) ({ cls := "CaseTablesModel", name := "called", desc := "(IJJJI)J" } : Jvm.MethodName) ∈ bm_ALL := bm_inA 107 (by decide +kernel) rfl
theorem wA_1845 : Jvm.Cond.methodLink "CaseTablesModel" (371 : Nat) ({ cls := "CaseTablesModel", name := "worth", desc := "(IJJJI)J" } : Jvm.MethodName) ∈ bm_ALL := bm_moA wT_1845 rfl
theorem wA_1847 : Jvm.Cond.instanceMethod ({ cls := "CaseTablesModel", name := "worth", desc := "(IJJJI)J" } : Jvm.MethodName) ∈ bm_ALL := bm_moA wT_1847 rfl
theorem wA_106 : Jvm.Cond.selects "CaseTablesModel" ({ cls := "CaseTablesModel", name := "worth", desc := "(IJJJI)J" } : Jvm.MethodName) ({ cls := "CaseTablesModel", name := "worth", desc := "(IJJJI)J" } : Jvm.MethodName) ∈ bm_ALL := bm_inA 106 (by decide +kernel) rfl
theorem wA_1853 : Jvm.Cond.methodLink "CaseTablesModel" (374 : Nat) ({ cls := "CaseTablesModel", name := "truth", desc := "(Z)J" } : Jvm.MethodName) ∈ bm_ALL := bm_moA wT_1853 rfl
theorem wA_1854 : Jvm.Cond.static ({ cls := "CaseTablesModel", name := "truth", desc := "(Z)J" } : Jvm.MethodName) ∈ bm_ALL := bm_moA wT_1854 rfl
theorem wA_1856 : Jvm.Cond.methodLink "CaseTablesModel" (378 : Nat) ({ cls := "CaseTablesModel", name := "changed", desc := "(I)I" } : Jvm.MethodName) ∈ bm_ALL := bm_moA wT_1856 rfl
theorem wA_1857 : Jvm.Cond.static ({ cls := "CaseTablesModel", name := "changed", desc := "(I)I" } : Jvm.MethodName) ∈ bm_ALL := bm_moA wT_1857 rfl
theorem wA_1859 : Jvm.Cond.methodLink "CaseTablesModel" (381 : Nat) ({ cls := "CaseTablesModel", name := "both", desc := "(IIJJJJI)J" } : Jvm.MethodName) ∈ bm_ALL := bm_moA wT_1859 rfl
theorem wA_1861 : Jvm.Cond.instanceMethod ({ cls := "CaseTablesModel", name := "both", desc := "(IIJJJJI)J" } : Jvm.MethodName) ∈ bm_ALL := bm_moA wT_1861 rfl
theorem wA_108 : Jvm.Cond.selects "CaseTablesModel" ({ cls := "CaseTablesModel", name := "both", desc := "(IIJJJJI)J" } : Jvm.MethodName) ({ cls := "CaseTablesModel", name := "both", desc := "(IIJJJJI)J" } : Jvm.MethodName) ∈ bm_ALL := bm_inA 108 (by decide +kernel) rfl
theorem wA_1339 : Jvm.Cond.fieldLink "CaseTablesModel" (385 : Nat) "CaseTablesModel" "isCounting" "Z" ∈ bm_ALL := bm_moA wT_1339 rfl
theorem wA_1863 : Jvm.Cond.methodLink "CaseTablesModel" (388 : Nat) ({ cls := "CaseTablesModel", name := "holds", desc := "(IJJ)Z" } : Jvm.MethodName) ∈ bm_ALL := bm_moA wT_1863 rfl
theorem wA_1864 : Jvm.Cond.static ({ cls := "CaseTablesModel", name := "holds", desc := "(IJJ)Z" } : Jvm.MethodName) ∈ bm_ALL := bm_moA wT_1864 rfl
theorem wA_1866 : Jvm.Cond.methodLink "CaseTablesModel" (392 : Nat) ({ cls := "CaseTablesModel", name := "fault", desc := "()J" } : Jvm.MethodName) ∈ bm_ALL := bm_moA wT_1866 rfl
theorem wA_1868 : Jvm.Cond.instanceMethod ({ cls := "CaseTablesModel", name := "fault", desc := "()J" } : Jvm.MethodName) ∈ bm_ALL := bm_moA wT_1868 rfl
theorem wA_109 : Jvm.Cond.selects "CaseTablesModel" ({ cls := "CaseTablesModel", name := "fault", desc := "()J" } : Jvm.MethodName) ({ cls := "CaseTablesModel", name := "fault", desc := "()J" } : Jvm.MethodName) ∈ bm_ALL := bm_inA 109 (by decide +kernel) rfl
theorem wA_1774 : Jvm.Cond.methodLink "CaseTablesModel" (396 : Nat) ({ cls := "CaseTablesModel", name := "casesOf", desc := "(II)I" } : Jvm.MethodName) ∈ bm_ALL := bm_moA wT_1774 rfl
theorem wA_1776 : Jvm.Cond.instanceMethod ({ cls := "CaseTablesModel", name := "casesOf", desc := "(II)I" } : Jvm.MethodName) ∈ bm_ALL := bm_moA wT_1776 rfl
theorem wA_93 : Jvm.Cond.selects "CaseTablesModel" ({ cls := "CaseTablesModel", name := "casesOf", desc := "(II)I" } : Jvm.MethodName) ({ cls := "CaseTablesModel", name := "casesOf", desc := "(II)I" } : Jvm.MethodName) ∈ bm_ALL := bm_inA 93 (by decide +kernel) rfl
theorem wA_1786 : Jvm.Cond.methodLink "CaseTablesModel" (399 : Nat) ({ cls := "CaseTablesModel", name := "counted", desc := "(I)I" } : Jvm.MethodName) ∈ bm_ALL := bm_moA wT_1786 rfl
theorem wA_1788 : Jvm.Cond.instanceMethod ({ cls := "CaseTablesModel", name := "counted", desc := "(I)I" } : Jvm.MethodName) ∈ bm_ALL := bm_moA wT_1788 rfl
theorem wA_94 : Jvm.Cond.selects "CaseTablesModel" ({ cls := "CaseTablesModel", name := "counted", desc := "(I)I" } : Jvm.MethodName) ({ cls := "CaseTablesModel", name := "counted", desc := "(I)I" } : Jvm.MethodName) ∈ bm_ALL := bm_inA 94 (by decide +kernel) rfl
theorem wA_1810 : Jvm.Cond.methodLink "CaseTablesModel" (402 : Nat) ({ cls := "CaseTablesModel", name := "span", desc := "(II)I" } : Jvm.MethodName) ∈ bm_ALL := bm_moA wT_1810 rfl
theorem wA_1812 : Jvm.Cond.instanceMethod ({ cls := "CaseTablesModel", name := "span", desc := "(II)I" } : Jvm.MethodName) ∈ bm_ALL := bm_moA wT_1812 rfl
theorem wA_99 : Jvm.Cond.selects "CaseTablesModel" ({ cls := "CaseTablesModel", name := "span", desc := "(II)I" } : Jvm.MethodName) ({ cls := "CaseTablesModel", name := "span", desc := "(II)I" } : Jvm.MethodName) ∈ bm_ALL := bm_inA 99 (by decide +kernel) rfl
theorem wA_1834 : Jvm.Cond.methodLink "CaseTablesModel" (405 : Nat) ({ cls := "CaseTablesModel", name := "pairAt", desc := "(IIII)I" } : Jvm.MethodName) ∈ bm_ALL := bm_moA wT_1834 rfl
theorem wA_1835 : Jvm.Cond.static ({ cls := "CaseTablesModel", name := "pairAt", desc := "(IIII)I" } : Jvm.MethodName) ∈ bm_ALL := bm_moA wT_1835 rfl
theorem wA_1826 : Jvm.Cond.methodLink "CaseTablesModel" (409 : Nat) ({ cls := "CaseTablesModel", name := "caseInputs", desc := "(II)[I" } : Jvm.MethodName) ∈ bm_ALL := bm_moA wT_1826 rfl
theorem wA_1828 : Jvm.Cond.instanceMethod ({ cls := "CaseTablesModel", name := "caseInputs", desc := "(II)[I" } : Jvm.MethodName) ∈ bm_ALL := bm_moA wT_1828 rfl
theorem wA_103 : Jvm.Cond.selects "CaseTablesModel" ({ cls := "CaseTablesModel", name := "caseInputs", desc := "(II)[I" } : Jvm.MethodName) ({ cls := "CaseTablesModel", name := "caseInputs", desc := "(II)[I" } : Jvm.MethodName) ∈ bm_ALL := bm_inA 103 (by decide +kernel) rfl
theorem wA_1830 : Jvm.Cond.methodLink "CaseTablesModel" (413 : Nat) ({ cls := "CaseTablesModel", name := "mark", desc := "(I[I)V" } : Jvm.MethodName) ∈ bm_ALL := bm_moA wT_1830 rfl
theorem wA_1832 : Jvm.Cond.instanceMethod ({ cls := "CaseTablesModel", name := "mark", desc := "(I[I)V" } : Jvm.MethodName) ∈ bm_ALL := bm_moA wT_1832 rfl
theorem wA_104 : Jvm.Cond.selects "CaseTablesModel" ({ cls := "CaseTablesModel", name := "mark", desc := "(I[I)V" } : Jvm.MethodName) ({ cls := "CaseTablesModel", name := "mark", desc := "(I[I)V" } : Jvm.MethodName) ∈ bm_ALL := bm_inA 104 (by decide +kernel) rfl
theorem wA_1822 : Jvm.Cond.methodLink "CaseTablesModel" (417 : Nat) ({ cls := "CaseTablesModel", name := "markAll", desc := "(I)V" } : Jvm.MethodName) ∈ bm_ALL := bm_moA wT_1822 rfl
theorem wA_1824 : Jvm.Cond.instanceMethod ({ cls := "CaseTablesModel", name := "markAll", desc := "(I)V" } : Jvm.MethodName) ∈ bm_ALL := bm_moA wT_1824 rfl
theorem wA_102 : Jvm.Cond.selects "CaseTablesModel" ({ cls := "CaseTablesModel", name := "markAll", desc := "(I)V" } : Jvm.MethodName) ({ cls := "CaseTablesModel", name := "markAll", desc := "(I)V" } : Jvm.MethodName) ∈ bm_ALL := bm_inA 102 (by decide +kernel) rfl
theorem wA_1802 : Jvm.Cond.methodLink "CaseTablesModel" (421 : Nat) ({ cls := "CaseTablesModel", name := "tablesOf", desc := "(I)I" } : Jvm.MethodName) ∈ bm_ALL := bm_moA wT_1802 rfl
theorem wA_1804 : Jvm.Cond.instanceMethod ({ cls := "CaseTablesModel", name := "tablesOf", desc := "(I)I" } : Jvm.MethodName) ∈ bm_ALL := bm_moA wT_1804 rfl
theorem wA_97 : Jvm.Cond.selects "CaseTablesModel" ({ cls := "CaseTablesModel", name := "tablesOf", desc := "(I)I" } : Jvm.MethodName) ({ cls := "CaseTablesModel", name := "tablesOf", desc := "(I)I" } : Jvm.MethodName) ∈ bm_ALL := bm_inA 97 (by decide +kernel) rfl
theorem wA_1806 : Jvm.Cond.methodLink "CaseTablesModel" (424 : Nat) ({ cls := "CaseTablesModel", name := "all", desc := "(I)I" } : Jvm.MethodName) ∈ bm_ALL := bm_moA wT_1806 rfl
theorem wA_1808 : Jvm.Cond.instanceMethod ({ cls := "CaseTablesModel", name := "all", desc := "(I)I" } : Jvm.MethodName) ∈ bm_ALL := bm_moA wT_1808 rfl
theorem wA_98 : Jvm.Cond.selects "CaseTablesModel" ({ cls := "CaseTablesModel", name := "all", desc := "(I)I" } : Jvm.MethodName) ({ cls := "CaseTablesModel", name := "all", desc := "(I)I" } : Jvm.MethodName) ∈ bm_ALL := bm_inA 98 (by decide +kernel) rfl
theorem wA_1814 : Jvm.Cond.methodLink "CaseTablesModel" (427 : Nat) ({ cls := "CaseTablesModel", name := "pairs", desc := "(I)I" } : Jvm.MethodName) ∈ bm_ALL := bm_moA wT_1814 rfl
theorem wA_1816 : Jvm.Cond.instanceMethod ({ cls := "CaseTablesModel", name := "pairs", desc := "(I)I" } : Jvm.MethodName) ∈ bm_ALL := bm_moA wT_1816 rfl
theorem wA_100 : Jvm.Cond.selects "CaseTablesModel" ({ cls := "CaseTablesModel", name := "pairs", desc := "(I)I" } : Jvm.MethodName) ({ cls := "CaseTablesModel", name := "pairs", desc := "(I)I" } : Jvm.MethodName) ∈ bm_ALL := bm_inA 100 (by decide +kernel) rfl
theorem wA_1818 : Jvm.Cond.methodLink "CaseTablesModel" (430 : Nat) ({ cls := "CaseTablesModel", name := "pairsTried", desc := "(I)I" } : Jvm.MethodName) ∈ bm_ALL := bm_moA wT_1818 rfl
theorem wA_1820 : Jvm.Cond.instanceMethod ({ cls := "CaseTablesModel", name := "pairsTried", desc := "(I)I" } : Jvm.MethodName) ∈ bm_ALL := bm_moA wT_1820 rfl
theorem wA_101 : Jvm.Cond.selects "CaseTablesModel" ({ cls := "CaseTablesModel", name := "pairsTried", desc := "(I)I" } : Jvm.MethodName) ({ cls := "CaseTablesModel", name := "pairsTried", desc := "(I)I" } : Jvm.MethodName) ∈ bm_ALL := bm_inA 101 (by decide +kernel) rfl
theorem wA_1794 : Jvm.Cond.methodLink "CaseTablesModel" (433 : Nat) ({ cls := "CaseTablesModel", name := "isFun", desc := "(I)Z" } : Jvm.MethodName) ∈ bm_ALL := bm_moA wT_1794 rfl
theorem wA_1796 : Jvm.Cond.instanceMethod ({ cls := "CaseTablesModel", name := "isFun", desc := "(I)Z" } : Jvm.MethodName) ∈ bm_ALL := bm_moA wT_1796 rfl
theorem wA_95 : Jvm.Cond.selects "CaseTablesModel" ({ cls := "CaseTablesModel", name := "isFun", desc := "(I)Z" } : Jvm.MethodName) ({ cls := "CaseTablesModel", name := "isFun", desc := "(I)Z" } : Jvm.MethodName) ∈ bm_ALL := bm_inA 95 (by decide +kernel) rfl
theorem wA_1798 : Jvm.Cond.methodLink "CaseTablesModel" (436 : Nat) ({ cls := "CaseTablesModel", name := "funTold", desc := "(II)I" } : Jvm.MethodName) ∈ bm_ALL := bm_moA wT_1798 rfl
theorem wA_1800 : Jvm.Cond.instanceMethod ({ cls := "CaseTablesModel", name := "funTold", desc := "(II)I" } : Jvm.MethodName) ∈ bm_ALL := bm_moA wT_1800 rfl
theorem wA_96 : Jvm.Cond.selects "CaseTablesModel" ({ cls := "CaseTablesModel", name := "funTold", desc := "(II)I" } : Jvm.MethodName) ({ cls := "CaseTablesModel", name := "funTold", desc := "(II)I" } : Jvm.MethodName) ∈ bm_ALL := bm_inA 96 (by decide +kernel) rfl
theorem wA_1841 : Jvm.Cond.methodLink "CaseTablesModel" (439 : Nat) ({ cls := "CaseTablesModel", name := "run", desc := "(I[II)J" } : Jvm.MethodName) ∈ bm_ALL := bm_moA wT_1841 rfl
theorem wA_1843 : Jvm.Cond.instanceMethod ({ cls := "CaseTablesModel", name := "run", desc := "(I[II)J" } : Jvm.MethodName) ∈ bm_ALL := bm_moA wT_1843 rfl
theorem wA_105 : Jvm.Cond.selects "CaseTablesModel" ({ cls := "CaseTablesModel", name := "run", desc := "(I[II)J" } : Jvm.MethodName) ({ cls := "CaseTablesModel", name := "run", desc := "(I[II)J" } : Jvm.MethodName) ∈ bm_ALL := bm_inA 105 (by decide +kernel) rfl
theorem wA_1878 : Jvm.Cond.methodLink "CaseTablesModel" (443 : Nat) ({ cls := "CaseTablesModel", name := "rowOf", desc := "(II)[I" } : Jvm.MethodName) ∈ bm_ALL := bm_moA wT_1878 rfl
theorem wA_1880 : Jvm.Cond.instanceMethod ({ cls := "CaseTablesModel", name := "rowOf", desc := "(II)[I" } : Jvm.MethodName) ∈ bm_ALL := bm_moA wT_1880 rfl
theorem wA_110 : Jvm.Cond.selects "CaseTablesModel" ({ cls := "CaseTablesModel", name := "rowOf", desc := "(II)[I" } : Jvm.MethodName) ({ cls := "CaseTablesModel", name := "rowOf", desc := "(II)[I" } : Jvm.MethodName) ∈ bm_ALL := bm_inA 110 (by decide +kernel) rfl
theorem wA_1890 : Jvm.Cond.methodLink "CaseTablesModel" (446 : Nat) ({ cls := "CaseTablesModel", name := "untried", desc := "(I[I)I" } : Jvm.MethodName) ∈ bm_ALL := bm_moA wT_1890 rfl
theorem wA_1892 : Jvm.Cond.instanceMethod ({ cls := "CaseTablesModel", name := "untried", desc := "(I[I)I" } : Jvm.MethodName) ∈ bm_ALL := bm_moA wT_1892 rfl
theorem wA_112 : Jvm.Cond.selects "CaseTablesModel" ({ cls := "CaseTablesModel", name := "untried", desc := "(I[I)I" } : Jvm.MethodName) ({ cls := "CaseTablesModel", name := "untried", desc := "(I[I)I" } : Jvm.MethodName) ∈ bm_ALL := bm_inA 112 (by decide +kernel) rfl
theorem wA_1886 : Jvm.Cond.methodLink "CaseTablesModel" (450 : Nat) ({ cls := "CaseTablesModel", name := "proposed", desc := "(I)I" } : Jvm.MethodName) ∈ bm_ALL := bm_moA wT_1886 rfl
theorem wA_1888 : Jvm.Cond.instanceMethod ({ cls := "CaseTablesModel", name := "proposed", desc := "(I)I" } : Jvm.MethodName) ∈ bm_ALL := bm_moA wT_1888 rfl
theorem wA_111 : Jvm.Cond.selects "CaseTablesModel" ({ cls := "CaseTablesModel", name := "proposed", desc := "(I)I" } : Jvm.MethodName) ({ cls := "CaseTablesModel", name := "proposed", desc := "(I)I" } : Jvm.MethodName) ∈ bm_ALL := bm_inA 111 (by decide +kernel) rfl
theorem wA_1910 : Jvm.Cond.methodLink "CaseTablesModel" (453 : Nat) ({ cls := "CaseTablesModel", name := "rowAt", desc := "(II)I" } : Jvm.MethodName) ∈ bm_ALL := bm_moA wT_1910 rfl
theorem wA_1912 : Jvm.Cond.instanceMethod ({ cls := "CaseTablesModel", name := "rowAt", desc := "(II)I" } : Jvm.MethodName) ∈ bm_ALL := bm_moA wT_1912 rfl
theorem wA_116 : Jvm.Cond.selects "CaseTablesModel" ({ cls := "CaseTablesModel", name := "rowAt", desc := "(II)I" } : Jvm.MethodName) ({ cls := "CaseTablesModel", name := "rowAt", desc := "(II)I" } : Jvm.MethodName) ∈ bm_ALL := bm_inA 116 (by decide +kernel) rfl
theorem wA_1906 : Jvm.Cond.methodLink "CaseTablesModel" (456 : Nat) ({ cls := "CaseTablesModel", name := "holdsAt", desc := "(III)Z" } : Jvm.MethodName) ∈ bm_ALL := bm_moA wT_1906 rfl
theorem wA_1908 : Jvm.Cond.instanceMethod ({ cls := "CaseTablesModel", name := "holdsAt", desc := "(III)Z" } : Jvm.MethodName) ∈ bm_ALL := bm_moA wT_1908 rfl
theorem wA_115 : Jvm.Cond.selects "CaseTablesModel" ({ cls := "CaseTablesModel", name := "holdsAt", desc := "(III)Z" } : Jvm.MethodName) ({ cls := "CaseTablesModel", name := "holdsAt", desc := "(III)Z" } : Jvm.MethodName) ∈ bm_ALL := bm_inA 115 (by decide +kernel) rfl
theorem wA_1898 : Jvm.Cond.methodLink "CaseTablesModel" (459 : Nat) ({ cls := "CaseTablesModel", name := "isTable", desc := "(I)Z" } : Jvm.MethodName) ∈ bm_ALL := bm_moA wT_1898 rfl
theorem wA_1900 : Jvm.Cond.instanceMethod ({ cls := "CaseTablesModel", name := "isTable", desc := "(I)Z" } : Jvm.MethodName) ∈ bm_ALL := bm_moA wT_1900 rfl
theorem wA_113 : Jvm.Cond.selects "CaseTablesModel" ({ cls := "CaseTablesModel", name := "isTable", desc := "(I)Z" } : Jvm.MethodName) ({ cls := "CaseTablesModel", name := "isTable", desc := "(I)Z" } : Jvm.MethodName) ∈ bm_ALL := bm_inA 113 (by decide +kernel) rfl
theorem wA_1902 : Jvm.Cond.methodLink "CaseTablesModel" (462 : Nat) ({ cls := "CaseTablesModel", name := "tableTold", desc := "(II)I" } : Jvm.MethodName) ∈ bm_ALL := bm_moA wT_1902 rfl
theorem wA_1904 : Jvm.Cond.instanceMethod ({ cls := "CaseTablesModel", name := "tableTold", desc := "(II)I" } : Jvm.MethodName) ∈ bm_ALL := bm_moA wT_1904 rfl
theorem wA_114 : Jvm.Cond.selects "CaseTablesModel" ({ cls := "CaseTablesModel", name := "tableTold", desc := "(II)I" } : Jvm.MethodName) ({ cls := "CaseTablesModel", name := "tableTold", desc := "(II)I" } : Jvm.MethodName) ∈ bm_ALL := bm_inA 114 (by decide +kernel) rfl
theorem wA_1918 : Jvm.Cond.methodLink "CaseTablesModel" (465 : Nat) ({ cls := "CaseTablesModel", name := "isCase", desc := "(II)Z" } : Jvm.MethodName) ∈ bm_ALL := bm_moA wT_1918 rfl
theorem wA_1920 : Jvm.Cond.instanceMethod ({ cls := "CaseTablesModel", name := "isCase", desc := "(II)Z" } : Jvm.MethodName) ∈ bm_ALL := bm_moA wT_1920 rfl
theorem wA_117 : Jvm.Cond.selects "CaseTablesModel" ({ cls := "CaseTablesModel", name := "isCase", desc := "(II)Z" } : Jvm.MethodName) ({ cls := "CaseTablesModel", name := "isCase", desc := "(II)Z" } : Jvm.MethodName) ∈ bm_ALL := bm_inA 117 (by decide +kernel) rfl
theorem wA_1930 : Jvm.Cond.methodLink "CaseTablesModel" (468 : Nat) ({ cls := "CaseTablesModel", name := "countBranches", desc := "()V" } : Jvm.MethodName) ∈ bm_ALL := bm_moA wT_1930 rfl
theorem wA_1932 : Jvm.Cond.instanceMethod ({ cls := "CaseTablesModel", name := "countBranches", desc := "()V" } : Jvm.MethodName) ∈ bm_ALL := bm_moA wT_1932 rfl
theorem wA_118 : Jvm.Cond.selects "CaseTablesModel" ({ cls := "CaseTablesModel", name := "countBranches", desc := "()V" } : Jvm.MethodName) ({ cls := "CaseTablesModel", name := "countBranches", desc := "()V" } : Jvm.MethodName) ∈ bm_ALL := bm_inA 118 (by decide +kernel) rfl
theorem wA_1938 : Jvm.Cond.methodLink "CaseTablesModel" (471 : Nat) ({ cls := "CaseTablesModel", name := "findsAt", desc := "(II)Z" } : Jvm.MethodName) ∈ bm_ALL := bm_moA wT_1938 rfl
theorem wA_1940 : Jvm.Cond.instanceMethod ({ cls := "CaseTablesModel", name := "findsAt", desc := "(II)Z" } : Jvm.MethodName) ∈ bm_ALL := bm_moA wT_1940 rfl
theorem wA_119 : Jvm.Cond.selects "CaseTablesModel" ({ cls := "CaseTablesModel", name := "findsAt", desc := "(II)Z" } : Jvm.MethodName) ({ cls := "CaseTablesModel", name := "findsAt", desc := "(II)Z" } : Jvm.MethodName) ∈ bm_ALL := bm_inA 119 (by decide +kernel) rfl
theorem wA_1946 : Jvm.Cond.methodLink "CaseTablesModel" (474 : Nat) ({ cls := "CaseTablesModel", name := "found", desc := "(I)I" } : Jvm.MethodName) ∈ bm_ALL := bm_moA wT_1946 rfl
theorem wA_1948 : Jvm.Cond.instanceMethod ({ cls := "CaseTablesModel", name := "found", desc := "(I)I" } : Jvm.MethodName) ∈ bm_ALL := bm_moA wT_1948 rfl
theorem wA_120 : Jvm.Cond.selects "CaseTablesModel" ({ cls := "CaseTablesModel", name := "found", desc := "(I)I" } : Jvm.MethodName) ({ cls := "CaseTablesModel", name := "found", desc := "(I)I" } : Jvm.MethodName) ∈ bm_ALL := bm_inA 120 (by decide +kernel) rfl
theorem wA_1958 : Jvm.Cond.methodLink "CaseTablesModel" (477 : Nat) ({ cls := "[I", name := "clone", desc := "()Ljava/lang/Object;" } : Jvm.MethodName) ∈ bm_ALL := bm_moA wT_1958 rfl
theorem wA_1959 : Jvm.Cond.sameMethod "[I" "java/lang/Object" "clone" "()Ljava/lang/Object;" ∈ bm_ALL := bm_moA wT_1959 rfl
theorem wA_1960 : Jvm.Cond.native ({ cls := "java/lang/Object", name := "clone", desc := "()Ljava/lang/Object;" } : Jvm.MethodName) ∈ bm_ALL := bm_moA wT_1960 rfl
theorem wA_1961 : Jvm.Cond.instanceMethod ({ cls := "java/lang/Object", name := "clone", desc := "()Ljava/lang/Object;" } : Jvm.MethodName) ∈ bm_ALL := bm_moA wT_1961 rfl
theorem wA_1962 : Jvm.Cond.selects "[I" ({ cls := "[I", name := "clone", desc := "()Ljava/lang/Object;" } : Jvm.MethodName) ({ cls := "java/lang/Object", name := "clone", desc := "()Ljava/lang/Object;" } : Jvm.MethodName) ∈ bm_ALL := bm_moA wT_1962 rfl
theorem wN_1963 : Jvm.Cond.castable "[I" "java/lang/Cloneable" ∈ bm_NW := bm_moN wT_1963 rfl
theorem wA_1964 : Jvm.Cond.classLink "CaseTablesModel" (478 : Nat) "[I" ∈ bm_ALL := bm_moA wT_1964 rfl
theorem wA_1965 : Jvm.Cond.methodLink "CaseTablesModel" (482 : Nat) ({ cls := "[J", name := "clone", desc := "()Ljava/lang/Object;" } : Jvm.MethodName) ∈ bm_ALL := bm_moA wT_1965 rfl
theorem wA_1966 : Jvm.Cond.sameMethod "[J" "java/lang/Object" "clone" "()Ljava/lang/Object;" ∈ bm_ALL := bm_moA wT_1966 rfl
theorem wA_1967 : Jvm.Cond.selects "[J" ({ cls := "[J", name := "clone", desc := "()Ljava/lang/Object;" } : Jvm.MethodName) ({ cls := "java/lang/Object", name := "clone", desc := "()Ljava/lang/Object;" } : Jvm.MethodName) ∈ bm_ALL := bm_moA wT_1967 rfl
theorem wN_1968 : Jvm.Cond.castable "[J" "java/lang/Cloneable" ∈ bm_NW := bm_moN wT_1968 rfl
theorem wA_1969 : Jvm.Cond.classLink "CaseTablesModel" (483 : Nat) "[J" ∈ bm_ALL := bm_moA wT_1969 rfl
theorem wA_1970 : Jvm.Cond.methodLink "CaseTablesModel" (484 : Nat) ({ cls := "CaseTablesModel", name := "copyRow", desc := "(III)V" } : Jvm.MethodName) ∈ bm_ALL := bm_moA wT_1970 rfl
theorem wA_1972 : Jvm.Cond.instanceMethod ({ cls := "CaseTablesModel", name := "copyRow", desc := "(III)V" } : Jvm.MethodName) ∈ bm_ALL := bm_moA wT_1972 rfl
theorem wA_121 : Jvm.Cond.selects "CaseTablesModel" ({ cls := "CaseTablesModel", name := "copyRow", desc := "(III)V" } : Jvm.MethodName) ({ cls := "CaseTablesModel", name := "copyRow", desc := "(III)V" } : Jvm.MethodName) ∈ bm_ALL := bm_inA 121 (by decide +kernel) rfl
theorem wA_1974 : Jvm.Cond.methodLink "CaseTablesModel" (488 : Nat) ({ cls := "java/lang/System", name := "arraycopy", desc := "(Ljava/lang/Object;ILjava/lang/Object;II)V" } : Jvm.MethodName) ∈ bm_ALL := bm_moA wT_1974 rfl
theorem wA_1976 : Jvm.Cond.native ({ cls := "java/lang/System", name := "arraycopy", desc := "(Ljava/lang/Object;ILjava/lang/Object;II)V" } : Jvm.MethodName) ∈ bm_ALL := bm_moA wT_1976 rfl
theorem wA_1975 : Jvm.Cond.static ({ cls := "java/lang/System", name := "arraycopy", desc := "(Ljava/lang/Object;ILjava/lang/Object;II)V" } : Jvm.MethodName) ∈ bm_ALL := bm_moA wT_1975 rfl
theorem wA_149 : Jvm.Cond.initialized "java/lang/System" ∈ bm_ALL := bm_moA wT_149 rfl
theorem wA_1981 : Jvm.Cond.constantLong "CaseTablesModel" (494 : Nat) (373 : Int64) ∈ bm_ALL := bm_moA wT_1981 rfl
theorem wA_1982 : Jvm.Cond.constantLong "CaseTablesModel" (496 : Nat) (31 : Int64) ∈ bm_ALL := bm_moA wT_1982 rfl
theorem wA_1986 : Jvm.Cond.fieldLink "java/lang/String" (9 : Nat) "java/lang/String" "value" "[B" ∈ bm_ALL := bm_moA wT_1986 rfl
theorem wA_1496 : Jvm.Cond.methodLink "java/lang/String" (335 : Nat) ({ cls := "java/lang/String", name := "coder", desc := "()B" } : Jvm.MethodName) ∈ bm_ALL := bm_moA wT_1496 rfl
theorem wA_1497 : Jvm.Cond.instanceMethod ({ cls := "java/lang/String", name := "coder", desc := "()B" } : Jvm.MethodName) ∈ bm_ALL := bm_moA wT_1497 rfl
theorem wA_1498 : Jvm.Cond.selects "java/lang/String" ({ cls := "java/lang/String", name := "coder", desc := "()B" } : Jvm.MethodName) ({ cls := "java/lang/String", name := "coder", desc := "()B" } : Jvm.MethodName) ∈ bm_ALL := bm_moA wT_1498 rfl
theorem wA_1490 : Jvm.Cond.fieldLink "java/lang/String" (38 : Nat) "java/lang/String" "COMPACT_STRINGS" "Z" ∈ bm_ALL := bm_moA wT_1490 rfl
theorem wA_1985 : Jvm.Cond.fieldLink "java/lang/String" (15 : Nat) "java/lang/String" "coder" "B" ∈ bm_ALL := bm_moA wT_1985 rfl
theorem wA_1486 : Jvm.Cond.methodLink "java/lang/String" (492 : Nat) ({ cls := "java/lang/String", name := "isLatin1", desc := "()Z" } : Jvm.MethodName) ∈ bm_ALL := bm_moA wT_1486 rfl
theorem wA_1487 : Jvm.Cond.instanceMethod ({ cls := "java/lang/String", name := "isLatin1", desc := "()Z" } : Jvm.MethodName) ∈ bm_ALL := bm_moA wT_1487 rfl
theorem wA_1488 : Jvm.Cond.selects "java/lang/String" ({ cls := "java/lang/String", name := "isLatin1", desc := "()Z" } : Jvm.MethodName) ({ cls := "java/lang/String", name := "isLatin1", desc := "()Z" } : Jvm.MethodName) ∈ bm_ALL := bm_moA wT_1488 rfl
theorem wA_1591 : Jvm.Cond.methodLink "java/lang/String" (495 : Nat) ({ cls := "java/lang/StringLatin1", name := "charAt", desc := "([BI)C" } : Jvm.MethodName) ∈ bm_ALL := bm_moA wT_1591 rfl
theorem wA_1592 : Jvm.Cond.static ({ cls := "java/lang/StringLatin1", name := "charAt", desc := "([BI)C" } : Jvm.MethodName) ∈ bm_ALL := bm_moA wT_1592 rfl
theorem wA_1482 : Jvm.Cond.methodLink "java/lang/String" (633 : Nat) ({ cls := "java/lang/String", name := "indexOf", desc := "(II)I" } : Jvm.MethodName) ∈ bm_ALL := bm_moA wT_1482 rfl
theorem wA_1483 : Jvm.Cond.instanceMethod ({ cls := "java/lang/String", name := "indexOf", desc := "(II)I" } : Jvm.MethodName) ∈ bm_ALL := bm_moA wT_1483 rfl
theorem wA_1484 : Jvm.Cond.selects "java/lang/String" ({ cls := "java/lang/String", name := "indexOf", desc := "(II)I" } : Jvm.MethodName) ({ cls := "java/lang/String", name := "indexOf", desc := "(II)I" } : Jvm.MethodName) ∈ bm_ALL := bm_moA wT_1484 rfl
theorem wA_1492 : Jvm.Cond.methodLink "java/lang/String" (505 : Nat) ({ cls := "java/lang/String", name := "length", desc := "()I" } : Jvm.MethodName) ∈ bm_ALL := bm_moA wT_1492 rfl
theorem wA_1500 : Jvm.Cond.methodLink "java/lang/String" (637 : Nat) ({ cls := "java/lang/StringLatin1", name := "indexOf", desc := "([BIII)I" } : Jvm.MethodName) ∈ bm_ALL := bm_moA wT_1500 rfl
theorem wA_1501 : Jvm.Cond.static ({ cls := "java/lang/StringLatin1", name := "indexOf", desc := "([BIII)I" } : Jvm.MethodName) ∈ bm_ALL := bm_moA wT_1501 rfl
theorem wA_1594 : Jvm.Cond.methodLink "java/lang/StringLatin1" (9 : Nat) ({ cls := "java/lang/String", name := "checkIndex", desc := "(II)V" } : Jvm.MethodName) ∈ bm_ALL := bm_moA wT_1594 rfl
theorem wA_1595 : Jvm.Cond.static ({ cls := "java/lang/String", name := "checkIndex", desc := "(II)V" } : Jvm.MethodName) ∈ bm_ALL := bm_moA wT_1595 rfl
theorem wA_1503 : Jvm.Cond.methodLink "java/lang/StringLatin1" (88 : Nat) ({ cls := "java/lang/StringLatin1", name := "canEncode", desc := "(I)Z" } : Jvm.MethodName) ∈ bm_ALL := bm_moA wT_1503 rfl
theorem wA_1504 : Jvm.Cond.static ({ cls := "java/lang/StringLatin1", name := "canEncode", desc := "(I)Z" } : Jvm.MethodName) ∈ bm_ALL := bm_moA wT_1504 rfl
theorem wA_1506 : Jvm.Cond.methodLink "java/lang/StringLatin1" (92 : Nat) ({ cls := "java/lang/Math", name := "max", desc := "(II)I" } : Jvm.MethodName) ∈ bm_ALL := bm_moA wT_1506 rfl
theorem wA_1509 : Jvm.Cond.methodLink "java/lang/StringLatin1" (38 : Nat) ({ cls := "java/lang/Math", name := "min", desc := "(II)I" } : Jvm.MethodName) ∈ bm_ALL := bm_moA wT_1509 rfl
theorem wA_1510 : Jvm.Cond.static ({ cls := "java/lang/Math", name := "min", desc := "(II)I" } : Jvm.MethodName) ∈ bm_ALL := bm_moA wT_1510 rfl
theorem wA_1511 : Jvm.Cond.code ({ cls := "java/lang/Math", name := "min", desc := "(II)I" } : Jvm.MethodName) prog_22_method_69_code (2 : Nat) (Option.some Jvm.ClassFile.FieldType.int) ∈ bm_ALL := bm_moA wT_1511 rfl
theorem wA_1512 : Jvm.Cond.methodLink "java/lang/StringLatin1" (95 : Nat) ({ cls := "java/lang/StringLatin1", name := "indexOfChar", desc := "([BIII)I" } : Jvm.MethodName) ∈ bm_ALL := bm_moA wT_1512 rfl
theorem wA_1513 : Jvm.Cond.static ({ cls := "java/lang/StringLatin1", name := "indexOfChar", desc := "([BIII)I" } : Jvm.MethodName) ∈ bm_ALL := bm_moA wT_1513 rfl
theorem wA_1061 : Jvm.Cond.constantLong "java/lang/Long" (314 : Nat) (6148914691236517205 : Int64) ∈ bm_ALL := bm_moA wT_1061 rfl
theorem wA_1062 : Jvm.Cond.constantLong "java/lang/Long" (316 : Nat) (3689348814741910323 : Int64) ∈ bm_ALL := bm_moA wT_1062 rfl
theorem wA_1063 : Jvm.Cond.constantLong "java/lang/Long" (318 : Nat) (1085102592571150095 : Int64) ∈ bm_ALL := bm_moA wT_1063 rfl
theorem wA_1533 : Jvm.Cond.fieldLink "java/lang/String" (1053 : Nat) "jdk/internal/util/Preconditions" "SIOOBE_FORMATTER" "Ljava/util/function/BiFunction;" ∈ bm_ALL := bm_moA wT_1533 rfl
theorem wA_1597 : Jvm.Cond.methodLink "java/lang/String" (1059 : Nat) ({ cls := "jdk/internal/util/Preconditions", name := "checkIndex", desc := "(IILjava/util/function/BiFunction;)I" } : Jvm.MethodName) ∈ bm_ALL := bm_moA wT_1597 rfl
theorem wA_1598 : Jvm.Cond.static ({ cls := "jdk/internal/util/Preconditions", name := "checkIndex", desc := "(IILjava/util/function/BiFunction;)I" } : Jvm.MethodName) ∈ bm_ALL := bm_moA wT_1598 rfl
theorem wA_396 : Jvm.Cond.code ({ cls := "CaseTables$Compiler", name := "<init>", desc := "(LCaseTables$Tokens;LCaseTables$Program;)V" } : Jvm.MethodName) prog_2_method_1_code (3 : Nat) (Option.none : Option Jvm.ClassFile.FieldType) ∈ bm_ALL := bm_moA wT_396 rfl
theorem wA_582 : Jvm.Cond.code ({ cls := "CaseTables$Compiler", name := "translate", desc := "()I" } : Jvm.MethodName) prog_2_method_2_code (3 : Nat) (Option.some Jvm.ClassFile.FieldType.int) ∈ bm_ALL := bm_moA wT_582 rfl
theorem wA_812 : Jvm.Cond.code ({ cls := "CaseTables$Compiler", name := "errorPlace", desc := "()I" } : Jvm.MethodName) prog_2_method_3_code (1 : Nat) (Option.some Jvm.ClassFile.FieldType.int) ∈ bm_ALL := bm_moA wT_812 rfl
theorem wA_602 : Jvm.Cond.code ({ cls := "CaseTables$Compiler", name := "complain", desc := "(II)V" } : Jvm.MethodName) prog_2_method_4_code (3 : Nat) (Option.none : Option Jvm.ClassFile.FieldType) ∈ bm_ALL := bm_moA wT_602 rfl
theorem wA_657 : Jvm.Cond.code ({ cls := "CaseTables$Compiler", name := "readWhole", desc := "(II)I" } : Jvm.MethodName) prog_2_method_5_code (7 : Nat) (Option.some Jvm.ClassFile.FieldType.int) ∈ bm_ALL := bm_moA wT_657 rfl
theorem wA_632 : Jvm.Cond.code ({ cls := "CaseTables$Compiler", name := "readItemName", desc := "()J" } : Jvm.MethodName) prog_2_method_6_code (4 : Nat) (Option.some Jvm.ClassFile.FieldType.long) ∈ bm_ALL := bm_moA wT_632 rfl
theorem wA_594 : Jvm.Cond.code ({ cls := "CaseTables$Compiler", name := "readFun", desc := "()V" } : Jvm.MethodName) prog_2_method_7_code (3 : Nat) (Option.none : Option Jvm.ClassFile.FieldType) ∈ bm_ALL := bm_moA wT_594 rfl
theorem wA_649 : Jvm.Cond.code ({ cls := "CaseTables$Compiler", name := "readInput", desc := "()V" } : Jvm.MethodName) prog_2_method_8_code (6 : Nat) (Option.none : Option Jvm.ClassFile.FieldType) ∈ bm_ALL := bm_moA wT_649 rfl
theorem wA_748 : Jvm.Cond.code ({ cls := "CaseTables$Compiler", name := "readTable", desc := "()V" } : Jvm.MethodName) prog_2_method_9_code (3 : Nat) (Option.none : Option Jvm.ClassFile.FieldType) ∈ bm_ALL := bm_moA wT_748 rfl
theorem wA_760 : Jvm.Cond.code ({ cls := "CaseTables$Compiler", name := "readRow", desc := "()V" } : Jvm.MethodName) prog_2_method_10_code (4 : Nat) (Option.none : Option Jvm.ClassFile.FieldType) ∈ bm_ALL := bm_moA wT_760 rfl
theorem wA_777 : Jvm.Cond.code ({ cls := "CaseTables$Compiler", name := "readCell", desc := "(LCaseTables$Row;I)V" } : Jvm.MethodName) prog_2_method_11_code (8 : Nat) (Option.none : Option Jvm.ClassFile.FieldType) ∈ bm_ALL := bm_moA wT_777 rfl
theorem wA_790 : Jvm.Cond.code ({ cls := "CaseTables$Compiler", name := "readResult", desc := "(LCaseTables$Row;)V" } : Jvm.MethodName) prog_2_method_12_code (3 : Nat) (Option.none : Option Jvm.ClassFile.FieldType) ∈ bm_ALL := bm_moA wT_790 rfl
theorem wA_670 : Jvm.Cond.code ({ cls := "CaseTables$Compiler", name := "readBody", desc := "()V" } : Jvm.MethodName) prog_2_method_13_code (2 : Nat) (Option.none : Option Jvm.ClassFile.FieldType) ∈ bm_ALL := bm_moA wT_670 rfl
theorem wA_678 : Jvm.Cond.code ({ cls := "CaseTables$Compiler", name := "readExpression", desc := "(I)V" } : Jvm.MethodName) prog_2_method_14_code (4 : Nat) (Option.none : Option Jvm.ClassFile.FieldType) ∈ bm_ALL := bm_moA wT_678 rfl
theorem wA_703 : Jvm.Cond.code ({ cls := "CaseTables$Compiler", name := "readBoth", desc := "(I)V" } : Jvm.MethodName) prog_2_method_15_code (4 : Nat) (Option.none : Option Jvm.ClassFile.FieldType) ∈ bm_ALL := bm_moA wT_703 rfl
theorem wA_736 : Jvm.Cond.code ({ cls := "CaseTables$Compiler", name := "endSecond", desc := "(I)V" } : Jvm.MethodName) prog_2_method_16_code (2 : Nat) (Option.none : Option Jvm.ClassFile.FieldType) ∈ bm_ALL := bm_moA wT_736 rfl
theorem wA_682 : Jvm.Cond.code ({ cls := "CaseTables$Compiler", name := "readChoice", desc := "(I)V" } : Jvm.MethodName) prog_2_method_17_code (6 : Nat) (Option.none : Option Jvm.ClassFile.FieldType) ∈ bm_ALL := bm_moA wT_682 rfl
theorem wA_707 : Jvm.Cond.code ({ cls := "CaseTables$Compiler", name := "readRelation", desc := "(I)V" } : Jvm.MethodName) prog_2_method_18_code (4 : Nat) (Option.none : Option Jvm.ClassFile.FieldType) ∈ bm_ALL := bm_moA wT_707 rfl
theorem wA_711 : Jvm.Cond.code ({ cls := "CaseTables$Compiler", name := "readSum", desc := "(I)V" } : Jvm.MethodName) prog_2_method_19_code (5 : Nat) (Option.none : Option Jvm.ClassFile.FieldType) ∈ bm_ALL := bm_moA wT_711 rfl
theorem wA_715 : Jvm.Cond.code ({ cls := "CaseTables$Compiler", name := "readProduct", desc := "(I)V" } : Jvm.MethodName) prog_2_method_20_code (5 : Nat) (Option.none : Option Jvm.ClassFile.FieldType) ∈ bm_ALL := bm_moA wT_715 rfl
theorem wA_719 : Jvm.Cond.code ({ cls := "CaseTables$Compiler", name := "readFactor", desc := "(I)V" } : Jvm.MethodName) prog_2_method_21_code (5 : Nat) (Option.none : Option Jvm.ClassFile.FieldType) ∈ bm_ALL := bm_moA wT_719 rfl
theorem wA_723 : Jvm.Cond.code ({ cls := "CaseTables$Compiler", name := "readNamed", desc := "(JII)V" } : Jvm.MethodName) prog_2_method_22_code (6 : Nat) (Option.none : Option Jvm.ClassFile.FieldType) ∈ bm_ALL := bm_moA wT_723 rfl
theorem wA_727 : Jvm.Cond.code ({ cls := "CaseTables$Compiler", name := "readArguments", desc := "(JII)V" } : Jvm.MethodName) prog_2_method_23_code (8 : Nat) (Option.none : Option Jvm.ClassFile.FieldType) ∈ bm_ALL := bm_moA wT_727 rfl
theorem wA_229 : Jvm.Cond.code ({ cls := "CaseTables$Fun", name := "<init>", desc := "()V" } : Jvm.MethodName) prog_3_method_1_code (1 : Nat) (Option.none : Option Jvm.ClassFile.FieldType) ∈ bm_ALL := bm_moA wT_229 rfl
theorem wA_620 : Jvm.Cond.code ({ cls := "CaseTables$Fun", name := "clear", desc := "()V" } : Jvm.MethodName) prog_3_method_2_code (1 : Nat) (Option.none : Option Jvm.ClassFile.FieldType) ∈ bm_ALL := bm_moA wT_620 rfl
theorem wA_665 : Jvm.Cond.code ({ cls := "CaseTables$Fun", name := "addInput", desc := "(JII)V" } : Jvm.MethodName) prog_3_method_3_code (5 : Nat) (Option.none : Option Jvm.ClassFile.FieldType) ∈ bm_ALL := bm_moA wT_665 rfl
theorem wA_653 : Jvm.Cond.code ({ cls := "CaseTables$Fun", name := "inputNamed", desc := "(J)I" } : Jvm.MethodName) prog_3_method_4_code (4 : Nat) (Option.some Jvm.ClassFile.FieldType.int) ∈ bm_ALL := bm_moA wT_653 rfl
theorem wA_687 : Jvm.Cond.code ({ cls := "CaseTables$Fun", name := "nextPlace", desc := "()I" } : Jvm.MethodName) prog_3_method_5_code (1 : Nat) (Option.some Jvm.ClassFile.FieldType.int) ∈ bm_ALL := bm_moA wT_687 rfl
theorem wA_695 : Jvm.Cond.code ({ cls := "CaseTables$Fun", name := "emit", desc := "(III)I" } : Jvm.MethodName) prog_3_method_6_code (5 : Nat) (Option.some Jvm.ClassFile.FieldType.int) ∈ bm_ALL := bm_moA wT_695 rfl
theorem wA_699 : Jvm.Cond.code ({ cls := "CaseTables$Fun", name := "aimHere", desc := "(I)V" } : Jvm.MethodName) prog_3_method_7_code (2 : Nat) (Option.none : Option Jvm.ClassFile.FieldType) ∈ bm_ALL := bm_moA wT_699 rfl
theorem wA_868 : Jvm.Cond.code ({ cls := "CaseTables$Fun", name := "operationAt", desc := "(I)I" } : Jvm.MethodName) prog_3_method_8_code (2 : Nat) (Option.some Jvm.ClassFile.FieldType.int) ∈ bm_ALL := bm_moA wT_868 rfl
theorem wA_872 : Jvm.Cond.code ({ cls := "CaseTables$Fun", name := "operandAt", desc := "(I)I" } : Jvm.MethodName) prog_3_method_9_code (2 : Nat) (Option.some Jvm.ClassFile.FieldType.int) ∈ bm_ALL := bm_moA wT_872 rfl
theorem wA_876 : Jvm.Cond.code ({ cls := "CaseTables$Fun", name := "placeAt", desc := "(I)I" } : Jvm.MethodName) prog_3_method_10_code (2 : Nat) (Option.some Jvm.ClassFile.FieldType.int) ∈ bm_ALL := bm_moA wT_876 rfl
theorem wA_1022 : Jvm.Cond.code ({ cls := "CaseTables$Fun", name := "pairCount", desc := "()I" } : Jvm.MethodName) prog_3_method_11_code (2 : Nat) (Option.some Jvm.ClassFile.FieldType.int) ∈ bm_ALL := bm_moA wT_1022 rfl
theorem wA_429 : Jvm.Cond.code ({ cls := "CaseTables$Machine", name := "<init>", desc := "(LCaseTables$Program;)V" } : Jvm.MethodName) prog_4_method_1_code (2 : Nat) (Option.none : Option Jvm.ClassFile.FieldType) ∈ bm_ALL := bm_moA wT_429 rfl
theorem wA_855 : Jvm.Cond.code ({ cls := "CaseTables$Machine", name := "reckon", desc := "(IIJJJ)J" } : Jvm.MethodName) prog_4_method_2_code (9 : Nat) (Option.some Jvm.ClassFile.FieldType.long) ∈ bm_ALL := bm_moA wT_855 rfl
theorem wA_914 : Jvm.Cond.code ({ cls := "CaseTables$Machine", name := "hasFailed", desc := "()Z" } : Jvm.MethodName) prog_4_method_3_code (1 : Nat) (Option.some Jvm.ClassFile.FieldType.boolean) ∈ bm_ALL := bm_moA wT_914 rfl
theorem wA_836 : Jvm.Cond.code ({ cls := "CaseTables$Machine", name := "startCounting", desc := "()V" } : Jvm.MethodName) prog_4_method_4_code (2 : Nat) (Option.none : Option Jvm.ClassFile.FieldType) ∈ bm_ALL := bm_moA wT_836 rfl
theorem wA_927 : Jvm.Cond.code ({ cls := "CaseTables$Machine", name := "stopCounting", desc := "()V" } : Jvm.MethodName) prog_4_method_5_code (1 : Nat) (Option.none : Option Jvm.ClassFile.FieldType) ∈ bm_ALL := bm_moA wT_927 rfl
theorem wA_1092 : Jvm.Cond.code ({ cls := "CaseTables$Machine", name := "branchCount", desc := "(IZ)I" } : Jvm.MethodName) prog_4_method_6_code (4 : Nat) (Option.some Jvm.ClassFile.FieldType.int) ∈ bm_ALL := bm_moA wT_1092 rfl
theorem wA_896 : Jvm.Cond.code ({ cls := "CaseTables$Machine", name := "countBranch", desc := "(IZ)V" } : Jvm.MethodName) prog_4_method_7_code (4 : Nat) (Option.none : Option Jvm.ClassFile.FieldType) ∈ bm_ALL := bm_moA wT_896 rfl
theorem wA_859 : Jvm.Cond.code ({ cls := "CaseTables$Machine", name := "push", desc := "(J)V" } : Jvm.MethodName) prog_4_method_8_code (3 : Nat) (Option.none : Option Jvm.ClassFile.FieldType) ∈ bm_ALL := bm_moA wT_859 rfl
theorem wA_888 : Jvm.Cond.code ({ cls := "CaseTables$Machine", name := "pop", desc := "()J" } : Jvm.MethodName) prog_4_method_9_code (1 : Nat) (Option.some Jvm.ClassFile.FieldType.long) ∈ bm_ALL := bm_moA wT_888 rfl
theorem wA_880 : Jvm.Cond.code ({ cls := "CaseTables$Machine", name := "valueAt", desc := "(I)J" } : Jvm.MethodName) prog_4_method_10_code (2 : Nat) (Option.some Jvm.ClassFile.FieldType.long) ∈ bm_ALL := bm_moA wT_880 rfl
theorem wA_863 : Jvm.Cond.code ({ cls := "CaseTables$Machine", name := "run", desc := "(III)V" } : Jvm.MethodName) prog_4_method_11_code (10 : Nat) (Option.none : Option Jvm.ClassFile.FieldType) ∈ bm_ALL := bm_moA wT_863 rfl
theorem wA_884 : Jvm.Cond.code ({ cls := "CaseTables$Machine", name := "runCalled", desc := "(II)V" } : Jvm.MethodName) prog_4_method_12_code (6 : Nat) (Option.none : Option Jvm.ClassFile.FieldType) ∈ bm_ALL := bm_moA wT_884 rfl
theorem wA_892 : Jvm.Cond.code ({ cls := "CaseTables$Machine", name := "takesThen", desc := "(IZ)Z" } : Jvm.MethodName) prog_4_method_13_code (5 : Nat) (Option.some Jvm.ClassFile.FieldType.boolean) ∈ bm_ALL := bm_moA wT_892 rfl
theorem wA_900 : Jvm.Cond.code ({ cls := "CaseTables$Machine", name := "isDecided", desc := "(Z)Z" } : Jvm.MethodName) prog_4_method_14_code (3 : Nat) (Option.some Jvm.ClassFile.FieldType.boolean) ∈ bm_ALL := bm_moA wT_900 rfl
theorem wA_907 : Jvm.Cond.code ({ cls := "CaseTables$Machine", name := "apply", desc := "(I)V" } : Jvm.MethodName) prog_4_method_15_code (6 : Nat) (Option.none : Option Jvm.ClassFile.FieldType) ∈ bm_ALL := bm_moA wT_907 rfl
theorem wA_903 : Jvm.Cond.code ({ cls := "CaseTables$Machine", name := "changedOperator", desc := "(I)I" } : Jvm.MethodName) prog_4_method_16_code (1 : Nat) (Option.some Jvm.ClassFile.FieldType.int) ∈ bm_ALL := bm_moA wT_903 rfl
theorem wA_220 : Jvm.Cond.code ({ cls := "CaseTables$Program", name := "<init>", desc := "()V" } : Jvm.MethodName) prog_5_method_1_code (2 : Nat) (Option.none : Option Jvm.ClassFile.FieldType) ∈ bm_ALL := bm_moA wT_220 rfl
theorem wA_586 : Jvm.Cond.code ({ cls := "CaseTables$Program", name := "clear", desc := "()V" } : Jvm.MethodName) prog_5_method_2_code (1 : Nat) (Option.none : Option Jvm.ClassFile.FieldType) ∈ bm_ALL := bm_moA wT_586 rfl
theorem wA_401 : Jvm.Cond.code ({ cls := "CaseTables$Program", name := "funAt", desc := "(I)LCaseTables$Fun;" } : Jvm.MethodName) prog_5_method_3_code (3 : Nat) (Option.some (Jvm.ClassFile.FieldType.object "CaseTables$Fun")) ∈ bm_ALL := bm_moA wT_401 rfl
theorem wA_405 : Jvm.Cond.code ({ cls := "CaseTables$Program", name := "tableAt", desc := "(I)LCaseTables$Table;" } : Jvm.MethodName) prog_5_method_4_code (3 : Nat) (Option.some (Jvm.ClassFile.FieldType.object "CaseTables$Table")) ∈ bm_ALL := bm_moA wT_405 rfl
theorem wA_615 : Jvm.Cond.code ({ cls := "CaseTables$Program", name := "nextFun", desc := "()LCaseTables$Fun;" } : Jvm.MethodName) prog_5_method_5_code (2 : Nat) (Option.some (Jvm.ClassFile.FieldType.object "CaseTables$Fun")) ∈ bm_ALL := bm_moA wT_615 rfl
theorem wA_744 : Jvm.Cond.code ({ cls := "CaseTables$Program", name := "keepFun", desc := "()V" } : Jvm.MethodName) prog_5_method_6_code (1 : Nat) (Option.none : Option Jvm.ClassFile.FieldType) ∈ bm_ALL := bm_moA wT_744 rfl
theorem wA_752 : Jvm.Cond.code ({ cls := "CaseTables$Program", name := "nextTable", desc := "()LCaseTables$Table;" } : Jvm.MethodName) prog_5_method_7_code (2 : Nat) (Option.some (Jvm.ClassFile.FieldType.object "CaseTables$Table")) ∈ bm_ALL := bm_moA wT_752 rfl
theorem wA_808 : Jvm.Cond.code ({ cls := "CaseTables$Program", name := "keepTable", desc := "()V" } : Jvm.MethodName) prog_5_method_8_code (1 : Nat) (Option.none : Option Jvm.ClassFile.FieldType) ∈ bm_ALL := bm_moA wT_808 rfl
theorem wA_691 : Jvm.Cond.code ({ cls := "CaseTables$Program", name := "nextIf", desc := "()I" } : Jvm.MethodName) prog_5_method_9_code (1 : Nat) (Option.some Jvm.ClassFile.FieldType.int) ∈ bm_ALL := bm_moA wT_691 rfl
theorem wA_645 : Jvm.Cond.code ({ cls := "CaseTables$Program", name := "funNamed", desc := "(J)I" } : Jvm.MethodName) prog_5_method_10_code (4 : Nat) (Option.some Jvm.ClassFile.FieldType.int) ∈ bm_ALL := bm_moA wT_645 rfl
theorem wA_640 : Jvm.Cond.code ({ cls := "CaseTables$Program", name := "hasItem", desc := "(J)Z" } : Jvm.MethodName) prog_5_method_11_code (4 : Nat) (Option.some Jvm.ClassFile.FieldType.boolean) ∈ bm_ALL := bm_moA wT_640 rfl
theorem wA_1017 : Jvm.Cond.code ({ cls := "CaseTables$Program", name := "tablesOf", desc := "(I)I" } : Jvm.MethodName) prog_5_method_12_code (4 : Nat) (Option.some Jvm.ClassFile.FieldType.int) ∈ bm_ALL := bm_moA wT_1017 rfl
theorem wA_937 : Jvm.Cond.code ({ cls := "CaseTables$Program", name := "caseCount", desc := "()I" } : Jvm.MethodName) prog_5_method_13_code (3 : Nat) (Option.some Jvm.ClassFile.FieldType.int) ∈ bm_ALL := bm_moA wT_937 rfl
theorem wA_235 : Jvm.Cond.code ({ cls := "CaseTables$Ranges", name := "<init>", desc := "()V" } : Jvm.MethodName) prog_6_method_1_code (1 : Nat) (Option.none : Option Jvm.ClassFile.FieldType) ∈ bm_ALL := bm_moA wT_235 rfl
theorem wA_624 : Jvm.Cond.code ({ cls := "CaseTables$Ranges", name := "clear", desc := "()V" } : Jvm.MethodName) prog_6_method_2_code (2 : Nat) (Option.none : Option Jvm.ClassFile.FieldType) ∈ bm_ALL := bm_moA wT_624 rfl
theorem wA_628 : Jvm.Cond.code ({ cls := "CaseTables$Ranges", name := "put", desc := "(III)V" } : Jvm.MethodName) prog_6_method_3_code (4 : Nat) (Option.none : Option Jvm.ClassFile.FieldType) ∈ bm_ALL := bm_moA wT_628 rfl
theorem wA_781 : Jvm.Cond.code ({ cls := "CaseTables$Ranges", name := "low", desc := "(I)I" } : Jvm.MethodName) prog_6_method_4_code (2 : Nat) (Option.some Jvm.ClassFile.FieldType.int) ∈ bm_ALL := bm_moA wT_781 rfl
theorem wA_785 : Jvm.Cond.code ({ cls := "CaseTables$Ranges", name := "high", desc := "(I)I" } : Jvm.MethodName) prog_6_method_5_code (2 : Nat) (Option.some Jvm.ClassFile.FieldType.int) ∈ bm_ALL := bm_moA wT_785 rfl
theorem wA_802 : Jvm.Cond.code ({ cls := "CaseTables$Ranges", name := "width", desc := "(I)I" } : Jvm.MethodName) prog_6_method_6_code (2 : Nat) (Option.some Jvm.ClassFile.FieldType.int) ∈ bm_ALL := bm_moA wT_802 rfl
theorem wA_798 : Jvm.Cond.code ({ cls := "CaseTables$Ranges", name := "rowCount", desc := "()I" } : Jvm.MethodName) prog_6_method_7_code (1 : Nat) (Option.some Jvm.ClassFile.FieldType.int) ∈ bm_ALL := bm_moA wT_798 rfl
theorem wA_851 : Jvm.Cond.code ({ cls := "CaseTables$Ranges", name := "valueAt", desc := "(II)I" } : Jvm.MethodName) prog_6_method_8_code (5 : Nat) (Option.some Jvm.ClassFile.FieldType.int) ∈ bm_ALL := bm_moA wT_851 rfl
theorem wA_298 : Jvm.Cond.code ({ cls := "CaseTables$Row", name := "<init>", desc := "()V" } : Jvm.MethodName) prog_7_method_1_code (1 : Nat) (Option.none : Option Jvm.ClassFile.FieldType) ∈ bm_ALL := bm_moA wT_298 rfl
theorem wA_772 : Jvm.Cond.code ({ cls := "CaseTables$Row", name := "clear", desc := "()V" } : Jvm.MethodName) prog_7_method_2_code (1 : Nat) (Option.none : Option Jvm.ClassFile.FieldType) ∈ bm_ALL := bm_moA wT_772 rfl
theorem wA_918 : Jvm.Cond.code ({ cls := "CaseTables$Row", name := "admits", desc := "(ZJ)Z" } : Jvm.MethodName) prog_7_method_3_code (4 : Nat) (Option.some Jvm.ClassFile.FieldType.boolean) ∈ bm_ALL := bm_moA wT_918 rfl
theorem wA_457 : Jvm.Cond.code ({ cls := "CaseTables$Runner", name := "<init>", desc := "(LCaseTables$Program;LCaseTables$Machine;)V" } : Jvm.MethodName) prog_8_method_1_code (3 : Nat) (Option.none : Option Jvm.ClassFile.FieldType) ∈ bm_ALL := bm_moA wT_457 rfl
theorem wA_816 : Jvm.Cond.code ({ cls := "CaseTables$Runner", name := "forget", desc := "()V" } : Jvm.MethodName) prog_8_method_2_code (1 : Nat) (Option.none : Option Jvm.ClassFile.FieldType) ∈ bm_ALL := bm_moA wT_816 rfl
theorem wA_832 : Jvm.Cond.code ({ cls := "CaseTables$Runner", name := "refresh", desc := "()V" } : Jvm.MethodName) prog_8_method_3_code (2 : Nat) (Option.none : Option Jvm.ClassFile.FieldType) ∈ bm_ALL := bm_moA wT_832 rfl
theorem wA_841 : Jvm.Cond.code ({ cls := "CaseTables$Runner", name := "runTable", desc := "(LCaseTables$Table;)V" } : Jvm.MethodName) prog_8_method_4_code (7 : Nat) (Option.none : Option Jvm.ClassFile.FieldType) ∈ bm_ALL := bm_moA wT_841 rfl
theorem wA_847 : Jvm.Cond.code ({ cls := "CaseTables$Runner", name := "isHolding", desc := "(ILCaseTables$Row;II)Z" } : Jvm.MethodName) prog_8_method_5_code (8 : Nat) (Option.some Jvm.ClassFile.FieldType.boolean) ∈ bm_ALL := bm_moA wT_847 rfl
theorem wA_1255 : Jvm.Cond.code ({ cls := "CaseTables$Runner", name := "changesFound", desc := "(LCaseTables$Table;LCaseTables$Row;)J" } : Jvm.MethodName) prog_8_method_6_code (7 : Nat) (Option.some Jvm.ClassFile.FieldType.long) ∈ bm_ALL := bm_moA wT_1255 rfl
theorem wA_1259 : Jvm.Cond.code ({ cls := "CaseTables$Runner", name := "search", desc := "(ILCaseTables$Row;)V" } : Jvm.MethodName) prog_8_method_7_code (9 : Nat) (Option.none : Option Jvm.ClassFile.FieldType) ∈ bm_ALL := bm_moA wT_1259 rfl
theorem wA_291 : Jvm.Cond.code ({ cls := "CaseTables$Table", name := "<init>", desc := "()V" } : Jvm.MethodName) prog_9_method_1_code (1 : Nat) (Option.none : Option Jvm.ClassFile.FieldType) ∈ bm_ALL := bm_moA wT_291 rfl
theorem wA_756 : Jvm.Cond.code ({ cls := "CaseTables$Table", name := "clear", desc := "()V" } : Jvm.MethodName) prog_9_method_2_code (1 : Nat) (Option.none : Option Jvm.ClassFile.FieldType) ∈ bm_ALL := bm_moA wT_756 rfl
theorem wA_768 : Jvm.Cond.code ({ cls := "CaseTables$Table", name := "rowAt", desc := "(I)LCaseTables$Row;" } : Jvm.MethodName) prog_9_method_3_code (3 : Nat) (Option.some (Jvm.ClassFile.FieldType.object "CaseTables$Row")) ∈ bm_ALL := bm_moA wT_768 rfl
theorem wA_764 : Jvm.Cond.code ({ cls := "CaseTables$Table", name := "nextRow", desc := "()LCaseTables$Row;" } : Jvm.MethodName) prog_9_method_4_code (2 : Nat) (Option.some (Jvm.ClassFile.FieldType.object "CaseTables$Row")) ∈ bm_ALL := bm_moA wT_764 rfl
theorem wA_794 : Jvm.Cond.code ({ cls := "CaseTables$Table", name := "keepRow", desc := "()V" } : Jvm.MethodName) prog_9_method_5_code (1 : Nat) (Option.none : Option Jvm.ClassFile.FieldType) ∈ bm_ALL := bm_moA wT_794 rfl
theorem wA_1295 : Jvm.Cond.code ({ cls := "CaseTables$Table", name := "drop", desc := "(I)V" } : Jvm.MethodName) prog_9_method_6_code (4 : Nat) (Option.none : Option Jvm.ClassFile.FieldType) ∈ bm_ALL := bm_moA wT_1295 rfl
theorem wA_1087 : Jvm.Cond.code ({ cls := "CaseTables$Table", name := "valueAt", desc := "(II)I" } : Jvm.MethodName) prog_9_method_7_code (6 : Nat) (Option.some Jvm.ClassFile.FieldType.int) ∈ bm_ALL := bm_moA wT_1087 rfl
theorem wA_923 : Jvm.Cond.code ({ cls := "CaseTables$Table", name := "note", desc := "(IZ)V" } : Jvm.MethodName) prog_9_method_8_code (3 : Nat) (Option.none : Option Jvm.ClassFile.FieldType) ∈ bm_ALL := bm_moA wT_923 rfl
theorem wA_1079 : Jvm.Cond.code ({ cls := "CaseTables$Table", name := "isHolding", desc := "(I)Z" } : Jvm.MethodName) prog_9_method_9_code (2 : Nat) (Option.some Jvm.ClassFile.FieldType.boolean) ∈ bm_ALL := bm_moA wT_1079 rfl
theorem wA_1071 : Jvm.Cond.code ({ cls := "CaseTables$Table", name := "tell", desc := "(I)I" } : Jvm.MethodName) prog_9_method_10_code (2 : Nat) (Option.some Jvm.ClassFile.FieldType.int) ∈ bm_ALL := bm_moA wT_1071 rfl
theorem wA_1075 : Jvm.Cond.code ({ cls := "CaseTables$Table", name := "holdingCount", desc := "()I" } : Jvm.MethodName) prog_9_method_11_code (3 : Nat) (Option.some Jvm.ClassFile.FieldType.int) ∈ bm_ALL := bm_moA wT_1075 rfl
theorem wA_1083 : Jvm.Cond.code ({ cls := "CaseTables$Table", name := "firstNotHolding", desc := "()I" } : Jvm.MethodName) prog_9_method_12_code (2 : Nat) (Option.some Jvm.ClassFile.FieldType.int) ∈ bm_ALL := bm_moA wT_1083 rfl
theorem wA_162 : Jvm.Cond.code ({ cls := "CaseTables$Tape", name := "<init>", desc := "()V" } : Jvm.MethodName) prog_10_method_1_code (1 : Nat) (Option.none : Option Jvm.ClassFile.FieldType) ∈ bm_ALL := bm_moA wT_162 rfl
theorem wA_538 : Jvm.Cond.code ({ cls := "CaseTables$Tape", name := "length", desc := "()I" } : Jvm.MethodName) prog_10_method_2_code (1 : Nat) (Option.some Jvm.ClassFile.FieldType.int) ∈ bm_ALL := bm_moA wT_538 rfl
theorem wA_1104 : Jvm.Cond.code ({ cls := "CaseTables$Tape", name := "room", desc := "()I" } : Jvm.MethodName) prog_10_method_3_code (1 : Nat) (Option.some Jvm.ClassFile.FieldType.int) ∈ bm_ALL := bm_moA wT_1104 rfl
theorem wA_820 : Jvm.Cond.code ({ cls := "CaseTables$Tape", name := "cutTo", desc := "(I)V" } : Jvm.MethodName) prog_10_method_4_code (2 : Nat) (Option.none : Option Jvm.ClassFile.FieldType) ∈ bm_ALL := bm_moA wT_820 rfl
theorem wA_1123 : Jvm.Cond.code ({ cls := "CaseTables$Tape", name := "append", desc := "(I)V" } : Jvm.MethodName) prog_10_method_5_code (3 : Nat) (Option.none : Option Jvm.ClassFile.FieldType) ∈ bm_ALL := bm_moA wT_1123 rfl
theorem wA_542 : Jvm.Cond.code ({ cls := "CaseTables$Tape", name := "byteAt", desc := "(I)I" } : Jvm.MethodName) prog_10_method_6_code (2 : Nat) (Option.some Jvm.ClassFile.FieldType.int) ∈ bm_ALL := bm_moA wT_542 rfl
theorem wA_176 : Jvm.Cond.code ({ cls := "CaseTables$Tokens", name := "<init>", desc := "(LCaseTables$Tape;)V" } : Jvm.MethodName) prog_11_method_1_code (2 : Nat) (Option.none : Option Jvm.ClassFile.FieldType) ∈ bm_ALL := bm_moA wT_176 rfl
theorem wA_526 : Jvm.Cond.code ({ cls := "CaseTables$Tokens", name := "scan", desc := "()V" } : Jvm.MethodName) prog_11_method_2_code (2 : Nat) (Option.none : Option Jvm.ClassFile.FieldType) ∈ bm_ALL := bm_moA wT_526 rfl
theorem wA_590 : Jvm.Cond.code ({ cls := "CaseTables$Tokens", name := "sees", desc := "(I)Z" } : Jvm.MethodName) prog_11_method_3_code (2 : Nat) (Option.some Jvm.ClassFile.FieldType.boolean) ∈ bm_ALL := bm_moA wT_590 rfl
theorem wA_661 : Jvm.Cond.code ({ cls := "CaseTables$Tokens", name := "passes", desc := "(I)Z" } : Jvm.MethodName) prog_11_method_4_code (2 : Nat) (Option.some Jvm.ClassFile.FieldType.boolean) ∈ bm_ALL := bm_moA wT_661 rfl
theorem wA_606 : Jvm.Cond.code ({ cls := "CaseTables$Tokens", name := "expect", desc := "(I)Z" } : Jvm.MethodName) prog_11_method_5_code (2 : Nat) (Option.some Jvm.ClassFile.FieldType.boolean) ∈ bm_ALL := bm_moA wT_606 rfl
theorem wA_732 : Jvm.Cond.code ({ cls := "CaseTables$Tokens", name := "oneOf", desc := "(II)I" } : Jvm.MethodName) prog_11_method_6_code (3 : Nat) (Option.some Jvm.ClassFile.FieldType.int) ∈ bm_ALL := bm_moA wT_732 rfl
theorem wA_611 : Jvm.Cond.code ({ cls := "CaseTables$Tokens", name := "fail", desc := "()V" } : Jvm.MethodName) prog_11_method_7_code (1 : Nat) (Option.none : Option Jvm.ClassFile.FieldType) ∈ bm_ALL := bm_moA wT_611 rfl
theorem wA_598 : Jvm.Cond.code ({ cls := "CaseTables$Tokens", name := "startHere", desc := "()I" } : Jvm.MethodName) prog_11_method_8_code (1 : Nat) (Option.some Jvm.ClassFile.FieldType.int) ∈ bm_ALL := bm_moA wT_598 rfl
theorem wA_636 : Jvm.Cond.code ({ cls := "CaseTables$Tokens", name := "valueHere", desc := "()J" } : Jvm.MethodName) prog_11_method_9_code (1 : Nat) (Option.some Jvm.ClassFile.FieldType.long) ∈ bm_ALL := bm_moA wT_636 rfl
theorem wA_674 : Jvm.Cond.code ({ cls := "CaseTables$Tokens", name := "allow", desc := "(I)V" } : Jvm.MethodName) prog_11_method_10_code (2 : Nat) (Option.none : Option Jvm.ClassFile.FieldType) ∈ bm_ALL := bm_moA wT_674 rfl
theorem wA_740 : Jvm.Cond.code ({ cls := "CaseTables$Tokens", name := "allowAll", desc := "()V" } : Jvm.MethodName) prog_11_method_11_code (1 : Nat) (Option.none : Option Jvm.ClassFile.FieldType) ∈ bm_ALL := bm_moA wT_740 rfl
theorem wA_530 : Jvm.Cond.code ({ cls := "CaseTables$Tokens", name := "scanOne", desc := "()V" } : Jvm.MethodName) prog_11_method_12_code (2 : Nat) (Option.none : Option Jvm.ClassFile.FieldType) ∈ bm_ALL := bm_moA wT_530 rfl
theorem wA_534 : Jvm.Cond.code ({ cls := "CaseTables$Tokens", name := "skipBlanks", desc := "()V" } : Jvm.MethodName) prog_11_method_13_code (1 : Nat) (Option.none : Option Jvm.ClassFile.FieldType) ∈ bm_ALL := bm_moA wT_534 rfl
theorem wA_552 : Jvm.Cond.code ({ cls := "CaseTables$Tokens", name := "scanWord", desc := "()V" } : Jvm.MethodName) prog_11_method_14_code (1 : Nat) (Option.none : Option Jvm.ClassFile.FieldType) ∈ bm_ALL := bm_moA wT_552 rfl
theorem wA_562 : Jvm.Cond.code ({ cls := "CaseTables$Tokens", name := "wordKind", desc := "()I" } : Jvm.MethodName) prog_11_method_15_code (2 : Nat) (Option.some Jvm.ClassFile.FieldType.int) ∈ bm_ALL := bm_moA wT_562 rfl
theorem wA_568 : Jvm.Cond.code ({ cls := "CaseTables$Tokens", name := "scanNumber", desc := "()V" } : Jvm.MethodName) prog_11_method_16_code (1 : Nat) (Option.none : Option Jvm.ClassFile.FieldType) ∈ bm_ALL := bm_moA wT_568 rfl
theorem wA_574 : Jvm.Cond.code ({ cls := "CaseTables$Tokens", name := "symbolKind", desc := "(I)I" } : Jvm.MethodName) prog_11_method_17_code (2 : Nat) (Option.some Jvm.ClassFile.FieldType.int) ∈ bm_ALL := bm_moA wT_574 rfl
theorem wA_578 : Jvm.Cond.code ({ cls := "CaseTables$Tokens", name := "follows", desc := "(I)Z" } : Jvm.MethodName) prog_11_method_18_code (2 : Nat) (Option.some Jvm.ClassFile.FieldType.boolean) ∈ bm_ALL := bm_moA wT_578 rfl
theorem wA_545 : Jvm.Cond.code ({ cls := "CaseTables$Tokens", name := "isBlank", desc := "(I)Z" } : Jvm.MethodName) prog_11_method_19_code (1 : Nat) (Option.some Jvm.ClassFile.FieldType.boolean) ∈ bm_ALL := bm_moA wT_545 rfl
theorem wA_548 : Jvm.Cond.code ({ cls := "CaseTables$Tokens", name := "isLetter", desc := "(I)Z" } : Jvm.MethodName) prog_11_method_20_code (1 : Nat) (Option.some Jvm.ClassFile.FieldType.boolean) ∈ bm_ALL := bm_moA wT_548 rfl
theorem wA_558 : Jvm.Cond.code ({ cls := "CaseTables$Tokens", name := "isDigit", desc := "(I)Z" } : Jvm.MethodName) prog_11_method_21_code (1 : Nat) (Option.some Jvm.ClassFile.FieldType.boolean) ∈ bm_ALL := bm_moA wT_558 rfl
theorem wA_555 : Jvm.Cond.code ({ cls := "CaseTables$Tokens", name := "isWordSign", desc := "(I)Z" } : Jvm.MethodName) prog_11_method_22_code (1 : Nat) (Option.some Jvm.ClassFile.FieldType.boolean) ∈ bm_ALL := bm_moA wT_555 rfl
theorem wA_473 : Jvm.Cond.code ({ cls := "CaseTables$Untried", name := "<init>", desc := "()V" } : Jvm.MethodName) prog_12_method_1_code (1 : Nat) (Option.none : Option Jvm.ClassFile.FieldType) ∈ bm_ALL := bm_moA wT_473 rfl
theorem wA_1031 : Jvm.Cond.code ({ cls := "CaseTables$Untried", name := "begin", desc := "(LCaseTables$Fun;)V" } : Jvm.MethodName) prog_12_method_2_code (3 : Nat) (Option.none : Option Jvm.ClassFile.FieldType) ∈ bm_ALL := bm_moA wT_1031 rfl
theorem wA_1043 : Jvm.Cond.code ({ cls := "CaseTables$Untried", name := "strikeTable", desc := "(LCaseTables$Ranges;LCaseTables$Table;)V" } : Jvm.MethodName) prog_12_method_3_code (5 : Nat) (Option.none : Option Jvm.ClassFile.FieldType) ∈ bm_ALL := bm_moA wT_1043 rfl
theorem wA_1054 : Jvm.Cond.code ({ cls := "CaseTables$Untried", name := "pairCount", desc := "()I" } : Jvm.MethodName) prog_12_method_4_code (1 : Nat) (Option.some Jvm.ClassFile.FieldType.int) ∈ bm_ALL := bm_moA wT_1054 rfl
theorem wA_1194 : Jvm.Cond.code ({ cls := "CaseTables$Untried", name := "bestRow", desc := "()I" } : Jvm.MethodName) prog_12_method_5_code (7 : Nat) (Option.some Jvm.ClassFile.FieldType.int) ∈ bm_ALL := bm_moA wT_1194 rfl
theorem wA_1198 : Jvm.Cond.code ({ cls := "CaseTables$Untried", name := "bestThird", desc := "(II)I" } : Jvm.MethodName) prog_12_method_6_code (9 : Nat) (Option.some Jvm.ClassFile.FieldType.int) ∈ bm_ALL := bm_moA wT_1198 rfl
theorem wA_1208 : Jvm.Cond.code ({ cls := "CaseTables$Untried", name := "pairsIn", desc := "(III)I" } : Jvm.MethodName) prog_12_method_7_code (4 : Nat) (Option.some Jvm.ClassFile.FieldType.int) ∈ bm_ALL := bm_moA wT_1208 rfl
theorem wA_1035 : Jvm.Cond.code ({ cls := "CaseTables$Untried", name := "fill", desc := "([JII)V" } : Jvm.MethodName) prog_12_method_8_code (4 : Nat) (Option.none : Option Jvm.ClassFile.FieldType) ∈ bm_ALL := bm_moA wT_1035 rfl
theorem wA_1047 : Jvm.Cond.code ({ cls := "CaseTables$Untried", name := "strike", desc := "([JLCaseTables$Ranges;LCaseTables$Ranges;II)V" } : Jvm.MethodName) prog_12_method_9_code (9 : Nat) (Option.none : Option Jvm.ClassFile.FieldType) ∈ bm_ALL := bm_moA wT_1047 rfl
theorem wA_1204 : Jvm.Cond.code ({ cls := "CaseTables$Untried", name := "lowestBit", desc := "(J)I" } : Jvm.MethodName) prog_12_method_10_code (2 : Nat) (Option.some Jvm.ClassFile.FieldType.int) ∈ bm_ALL := bm_moA wT_1204 rfl
theorem wA_1038 : Jvm.Cond.code ({ cls := "CaseTables$Untried", name := "upTo", desc := "(I)J" } : Jvm.MethodName) prog_12_method_11_code (1 : Nat) (Option.some Jvm.ClassFile.FieldType.long) ∈ bm_ALL := bm_moA wT_1038 rfl
theorem wA_1057 : Jvm.Cond.code ({ cls := "CaseTables$Untried", name := "bits", desc := "([J)I" } : Jvm.MethodName) prog_12_method_12_code (3 : Nat) (Option.some Jvm.ClassFile.FieldType.int) ∈ bm_ALL := bm_moA wT_1057 rfl
theorem wA_1201 : Jvm.Cond.code ({ cls := "CaseTables$Untried", name := "maskAt", desc := "([JI)J" } : Jvm.MethodName) prog_12_method_13_code (2 : Nat) (Option.some Jvm.ClassFile.FieldType.long) ∈ bm_ALL := bm_moA wT_1201 rfl
theorem wA_1211 : Jvm.Cond.code ({ cls := "CaseTables$Untried", name := "bitAt", desc := "([JII)I" } : Jvm.MethodName) prog_12_method_14_code (3 : Nat) (Option.some Jvm.ClassFile.FieldType.int) ∈ bm_ALL := bm_moA wT_1211 rfl
theorem wA_154 : Jvm.Cond.code ({ cls := "CaseTables", name := "<init>", desc := "()V" } : Jvm.MethodName) prog_1_method_1_code (1 : Nat) (Option.none : Option Jvm.ClassFile.FieldType) ∈ bm_ALL := bm_moA wT_154 rfl
theorem wA_123 : Jvm.Cond.initialized "CaseTables" ∈ bm_ALL := bm_moA wT_123 rfl
theorem wA_1100 : Jvm.Cond.code ({ cls := "CaseTables", name := "feed", desc := "(IIIII)I" } : Jvm.MethodName) prog_1_method_2_code (6 : Nat) (Option.some Jvm.ClassFile.FieldType.int) ∈ bm_ALL := bm_moA wT_1100 rfl
theorem wA_1131 : Jvm.Cond.code ({ cls := "CaseTables", name := "trim", desc := "(I)I" } : Jvm.MethodName) prog_1_method_3_code (2 : Nat) (Option.some Jvm.ClassFile.FieldType.int) ∈ bm_ALL := bm_moA wT_1131 rfl
theorem wA_522 : Jvm.Cond.code ({ cls := "CaseTables", name := "compile", desc := "()I" } : Jvm.MethodName) prog_1_method_4_code (2 : Nat) (Option.some Jvm.ClassFile.FieldType.int) ∈ bm_ALL := bm_moA wT_522 rfl
theorem wA_824 : Jvm.Cond.code ({ cls := "CaseTables", name := "errorAt", desc := "()I" } : Jvm.MethodName) prog_1_method_5_code (1 : Nat) (Option.some Jvm.ClassFile.FieldType.int) ∈ bm_ALL := bm_moA wT_824 rfl
theorem wA_933 : Jvm.Cond.code ({ cls := "CaseTables", name := "count", desc := "(I)I" } : Jvm.MethodName) prog_1_method_6_code (2 : Nat) (Option.some Jvm.ClassFile.FieldType.int) ∈ bm_ALL := bm_moA wT_933 rfl
theorem wA_1005 : Jvm.Cond.code ({ cls := "CaseTables", name := "fun", desc := "(II)I" } : Jvm.MethodName) prog_1_method_7_code (4 : Nat) (Option.some Jvm.ClassFile.FieldType.int) ∈ bm_ALL := bm_moA wT_1005 rfl
theorem wA_1162 : Jvm.Cond.code ({ cls := "CaseTables", name := "call", desc := "(IIII)J" } : Jvm.MethodName) prog_1_method_8_code (5 : Nat) (Option.some Jvm.ClassFile.FieldType.long) ∈ bm_ALL := bm_moA wT_1162 rfl
theorem wA_1175 : Jvm.Cond.code ({ cls := "CaseTables", name := "callChanged", desc := "(IIIII)J" } : Jvm.MethodName) prog_1_method_9_code (6 : Nat) (Option.some Jvm.ClassFile.FieldType.long) ∈ bm_ALL := bm_moA wT_1175 rfl
theorem wA_1182 : Jvm.Cond.code ({ cls := "CaseTables", name := "inputOf", desc := "(III)I" } : Jvm.MethodName) prog_1_method_10_code (5 : Nat) (Option.some Jvm.ClassFile.FieldType.int) ∈ bm_ALL := bm_moA wT_1182 rfl
theorem wA_1190 : Jvm.Cond.code ({ cls := "CaseTables", name := "propose", desc := "(I)I" } : Jvm.MethodName) prog_1_method_11_code (2 : Nat) (Option.some Jvm.ClassFile.FieldType.int) ∈ bm_ALL := bm_moA wT_1190 rfl
theorem wA_1218 : Jvm.Cond.code ({ cls := "CaseTables", name := "table", desc := "(II)I" } : Jvm.MethodName) prog_1_method_12_code (4 : Nat) (Option.some Jvm.ClassFile.FieldType.int) ∈ bm_ALL := bm_moA wT_1218 rfl
theorem wA_1229 : Jvm.Cond.code ({ cls := "CaseTables", name := "caseOf", desc := "(III)I" } : Jvm.MethodName) prog_1_method_13_code (5 : Nat) (Option.some Jvm.ClassFile.FieldType.int) ∈ bm_ALL := bm_moA wT_1229 rfl
theorem wA_1236 : Jvm.Cond.code ({ cls := "CaseTables", name := "holds", desc := "(II)Z" } : Jvm.MethodName) prog_1_method_14_code (4 : Nat) (Option.some Jvm.ClassFile.FieldType.boolean) ∈ bm_ALL := bm_moA wT_1236 rfl
theorem wA_1244 : Jvm.Cond.code ({ cls := "CaseTables", name := "taken", desc := "(IZ)I" } : Jvm.MethodName) prog_1_method_15_code (3 : Nat) (Option.some Jvm.ClassFile.FieldType.int) ∈ bm_ALL := bm_moA wT_1244 rfl
theorem wA_1251 : Jvm.Cond.code ({ cls := "CaseTables", name := "finds", desc := "(II)Z" } : Jvm.MethodName) prog_1_method_16_code (4 : Nat) (Option.some Jvm.ClassFile.FieldType.boolean) ∈ bm_ALL := bm_moA wT_1251 rfl
theorem wA_1267 : Jvm.Cond.code ({ cls := "CaseTables", name := "score", desc := "(I)D" } : Jvm.MethodName) prog_1_method_17_code (4 : Nat) (Option.some Jvm.ClassFile.FieldType.double) ∈ bm_ALL := bm_moA wT_1267 rfl
theorem wA_1275 : Jvm.Cond.code ({ cls := "CaseTables", name := "grow", desc := "(I)I" } : Jvm.MethodName) prog_1_method_18_code (4 : Nat) (Option.some Jvm.ClassFile.FieldType.int) ∈ bm_ALL := bm_moA wT_1275 rfl
theorem wA_1290 : Jvm.Cond.code ({ cls := "CaseTables", name := "shorten", desc := "(I)I" } : Jvm.MethodName) prog_1_method_19_code (6 : Nat) (Option.some Jvm.ClassFile.FieldType.int) ∈ bm_ALL := bm_moA wT_1290 rfl
theorem wA_828 : Jvm.Cond.code ({ cls := "CaseTables", name := "digest", desc := "()J" } : Jvm.MethodName) prog_1_method_20_code (5 : Nat) (Option.some Jvm.ClassFile.FieldType.long) ∈ bm_ALL := bm_moA wT_828 rfl
theorem wA_1067 : Jvm.Cond.code ({ cls := "CaseTables", name := "addTable", desc := "(JLCaseTables$Table;)J" } : Jvm.MethodName) prog_1_method_21_code (9 : Nat) (Option.some Jvm.ClassFile.FieldType.long) ∈ bm_ALL := bm_moA wT_1067 rfl
theorem wA_1012 : Jvm.Cond.code ({ cls := "CaseTables", name := "requireBelow", desc := "(II)V" } : Jvm.MethodName) prog_1_method_22_code (2 : Nat) (Option.none : Option Jvm.ClassFile.FieldType) ∈ bm_ALL := bm_moA wT_1012 rfl
theorem wA_1009 : Jvm.Cond.code ({ cls := "CaseTables", name := "existingFun", desc := "(I)LCaseTables$Fun;" } : Jvm.MethodName) prog_1_method_23_code (2 : Nat) (Option.some (Jvm.ClassFile.FieldType.object "CaseTables$Fun")) ∈ bm_ALL := bm_moA wT_1009 rfl
theorem wA_1222 : Jvm.Cond.code ({ cls := "CaseTables", name := "existingTable", desc := "(I)LCaseTables$Table;" } : Jvm.MethodName) prog_1_method_24_code (2 : Nat) (Option.some (Jvm.ClassFile.FieldType.object "CaseTables$Table")) ∈ bm_ALL := bm_moA wT_1222 rfl
theorem wA_1166 : Jvm.Cond.code ({ cls := "CaseTables", name := "valueOrThrow", desc := "(IIIII)J" } : Jvm.MethodName) prog_1_method_25_code (8 : Nat) (Option.some Jvm.ClassFile.FieldType.long) ∈ bm_ALL := bm_moA wT_1166 rfl
theorem wA_1027 : Jvm.Cond.code ({ cls := "CaseTables", name := "findUntried", desc := "(I)V" } : Jvm.MethodName) prog_1_method_26_code (5 : Nat) (Option.none : Option Jvm.ClassFile.FieldType) ∈ bm_ALL := bm_moA wT_1027 rfl
theorem wA_1279 : Jvm.Cond.code ({ cls := "CaseTables", name := "addCase", desc := "(LCaseTables$Table;I)V" } : Jvm.MethodName) prog_1_method_27_code (7 : Nat) (Option.none : Option Jvm.ClassFile.FieldType) ∈ bm_ALL := bm_moA wT_1279 rfl
theorem wA_910 : Jvm.Cond.code ({ cls := "CaseTables", name := "isRelated", desc := "(IJJ)Z" } : Jvm.MethodName) prog_1_method_28_code (5 : Nat) (Option.some Jvm.ClassFile.FieldType.boolean) ∈ bm_ALL := bm_moA wT_910 rfl
theorem wA_1300 : Jvm.Cond.code ({ cls := "CaseTablesModel", name := "<init>", desc := "()V" } : Jvm.MethodName) prog_14_method_1_code (1 : Nat) (Option.none : Option Jvm.ClassFile.FieldType) ∈ bm_ALL := bm_moA wT_1300 rfl
theorem wA_135 : Jvm.Cond.initialized "CaseTablesModel" ∈ bm_ALL := bm_moA wT_135 rfl
theorem wA_1435 : Jvm.Cond.code ({ cls := "CaseTablesModel", name := "thrown", desc := "()I" } : Jvm.MethodName) prog_14_method_2_code (1 : Nat) (Option.some Jvm.ClassFile.FieldType.int) ∈ bm_ALL := bm_moA wT_1435 rfl
theorem wA_1443 : Jvm.Cond.code ({ cls := "CaseTablesModel", name := "no", desc := "(I)I" } : Jvm.MethodName) prog_14_method_3_code (2 : Nat) (Option.some Jvm.ClassFile.FieldType.int) ∈ bm_ALL := bm_moA wT_1443 rfl
theorem wA_1450 : Jvm.Cond.code ({ cls := "CaseTablesModel", name := "isIn", desc := "(III)Z" } : Jvm.MethodName) prog_14_method_4_code (3 : Nat) (Option.some Jvm.ClassFile.FieldType.boolean) ∈ bm_ALL := bm_moA wT_1450 rfl
theorem wA_1439 : Jvm.Cond.code ({ cls := "CaseTablesModel", name := "feed", desc := "(IIIII)I" } : Jvm.MethodName) prog_14_method_5_code (12 : Nat) (Option.some Jvm.ClassFile.FieldType.int) ∈ bm_ALL := bm_moA wT_1439 rfl
theorem wA_1447 : Jvm.Cond.code ({ cls := "CaseTablesModel", name := "trim", desc := "(I)I" } : Jvm.MethodName) prog_14_method_6_code (2 : Nat) (Option.some Jvm.ClassFile.FieldType.int) ∈ bm_ALL := bm_moA wT_1447 rfl
theorem wA_1466 : Jvm.Cond.code ({ cls := "CaseTablesModel", name := "byteAt", desc := "(I)I" } : Jvm.MethodName) prog_14_method_7_code (2 : Nat) (Option.some Jvm.ClassFile.FieldType.int) ∈ bm_ALL := bm_moA wT_1466 rfl
theorem wA_1469 : Jvm.Cond.code ({ cls := "CaseTablesModel", name := "isLetter", desc := "(I)Z" } : Jvm.MethodName) prog_14_method_8_code (1 : Nat) (Option.some Jvm.ClassFile.FieldType.boolean) ∈ bm_ALL := bm_moA wT_1469 rfl
theorem wA_1472 : Jvm.Cond.code ({ cls := "CaseTablesModel", name := "isDigit", desc := "(I)Z" } : Jvm.MethodName) prog_14_method_9_code (1 : Nat) (Option.some Jvm.ClassFile.FieldType.boolean) ∈ bm_ALL := bm_moA wT_1472 rfl
theorem wA_1476 : Jvm.Cond.code ({ cls := "CaseTablesModel", name := "symbolAt", desc := "(I)I" } : Jvm.MethodName) prog_14_method_10_code (4 : Nat) (Option.some Jvm.ClassFile.FieldType.int) ∈ bm_ALL := bm_moA wT_1476 rfl
theorem wA_1462 : Jvm.Cond.code ({ cls := "CaseTablesModel", name := "scan", desc := "()V" } : Jvm.MethodName) prog_14_method_11_code (6 : Nat) (Option.none : Option Jvm.ClassFile.FieldType) ∈ bm_ALL := bm_moA wT_1462 rfl
theorem wA_1585 : Jvm.Cond.code ({ cls := "CaseTablesModel", name := "is", desc := "(ILjava/lang/String;)Z" } : Jvm.MethodName) prog_14_method_12_code (5 : Nat) (Option.some Jvm.ClassFile.FieldType.boolean) ∈ bm_ALL := bm_moA wT_1585 rfl
theorem wA_1614 : Jvm.Cond.code ({ cls := "CaseTablesModel", name := "isName", desc := "(I)Z" } : Jvm.MethodName) prog_14_method_13_code (7 : Nat) (Option.some Jvm.ClassFile.FieldType.boolean) ∈ bm_ALL := bm_moA wT_1614 rfl
theorem wA_1705 : Jvm.Cond.code ({ cls := "CaseTablesModel", name := "nameOf", desc := "(I)J" } : Jvm.MethodName) prog_14_method_14_code (5 : Nat) (Option.some Jvm.ClassFile.FieldType.long) ∈ bm_ALL := bm_moA wT_1705 rfl
theorem wA_1725 : Jvm.Cond.code ({ cls := "CaseTablesModel", name := "numberOf", desc := "(I)I" } : Jvm.MethodName) prog_14_method_15_code (4 : Nat) (Option.some Jvm.ClassFile.FieldType.int) ∈ bm_ALL := bm_moA wT_1725 rfl
theorem wA_1665 : Jvm.Cond.code ({ cls := "CaseTablesModel", name := "operator", desc := "(III)I" } : Jvm.MethodName) prog_14_method_16_code (6 : Nat) (Option.some Jvm.ClassFile.FieldType.int) ∈ bm_ALL := bm_moA wT_1665 rfl
theorem wA_1581 : Jvm.Cond.code ({ cls := "CaseTablesModel", name := "sees", desc := "(Ljava/lang/String;)Z" } : Jvm.MethodName) prog_14_method_17_code (2 : Nat) (Option.some Jvm.ClassFile.FieldType.boolean) ∈ bm_ALL := bm_moA wT_1581 rfl
theorem wA_1577 : Jvm.Cond.code ({ cls := "CaseTablesModel", name := "takes", desc := "(Ljava/lang/String;)Z" } : Jvm.MethodName) prog_14_method_18_code (2 : Nat) (Option.some Jvm.ClassFile.FieldType.boolean) ∈ bm_ALL := bm_moA wT_1577 rfl
theorem wA_1610 : Jvm.Cond.code ({ cls := "CaseTablesModel", name := "takesName", desc := "()Z" } : Jvm.MethodName) prog_14_method_19_code (1 : Nat) (Option.some Jvm.ClassFile.FieldType.boolean) ∈ bm_ALL := bm_moA wT_1610 rfl
theorem wA_1626 : Jvm.Cond.code ({ cls := "CaseTablesModel", name := "takesWhole", desc := "()Z" } : Jvm.MethodName) prog_14_method_20_code (1 : Nat) (Option.some Jvm.ClassFile.FieldType.boolean) ∈ bm_ALL := bm_moA wT_1626 rfl
theorem wA_1568 : Jvm.Cond.code ({ cls := "CaseTablesModel", name := "program", desc := "()Z" } : Jvm.MethodName) prog_14_method_21_code (1 : Nat) (Option.some Jvm.ClassFile.FieldType.boolean) ∈ bm_ALL := bm_moA wT_1568 rfl
theorem wA_1572 : Jvm.Cond.code ({ cls := "CaseTablesModel", name := "item", desc := "()Z" } : Jvm.MethodName) prog_14_method_22_code (1 : Nat) (Option.some Jvm.ClassFile.FieldType.boolean) ∈ bm_ALL := bm_moA wT_1572 rfl
theorem wA_1621 : Jvm.Cond.code ({ cls := "CaseTablesModel", name := "inputsForm", desc := "()Z" } : Jvm.MethodName) prog_14_method_23_code (1 : Nat) (Option.some Jvm.ClassFile.FieldType.boolean) ∈ bm_ALL := bm_moA wT_1621 rfl
theorem wA_1677 : Jvm.Cond.code ({ cls := "CaseTablesModel", name := "rowsForm", desc := "()Z" } : Jvm.MethodName) prog_14_method_24_code (1 : Nat) (Option.some Jvm.ClassFile.FieldType.boolean) ∈ bm_ALL := bm_moA wT_1677 rfl
theorem wA_1681 : Jvm.Cond.code ({ cls := "CaseTablesModel", name := "cellsForm", desc := "()Z" } : Jvm.MethodName) prog_14_method_25_code (1 : Nat) (Option.some Jvm.ClassFile.FieldType.boolean) ∈ bm_ALL := bm_moA wT_1681 rfl
theorem wA_1686 : Jvm.Cond.code ({ cls := "CaseTablesModel", name := "resultForm", desc := "()Z" } : Jvm.MethodName) prog_14_method_26_code (1 : Nat) (Option.some Jvm.ClassFile.FieldType.boolean) ∈ bm_ALL := bm_moA wT_1686 rfl
theorem wA_1635 : Jvm.Cond.code ({ cls := "CaseTablesModel", name := "wholeExpression", desc := "()Z" } : Jvm.MethodName) prog_14_method_27_code (1 : Nat) (Option.some Jvm.ClassFile.FieldType.boolean) ∈ bm_ALL := bm_moA wT_1635 rfl
theorem wA_1652 : Jvm.Cond.code ({ cls := "CaseTablesModel", name := "goes", desc := "()Z" } : Jvm.MethodName) prog_14_method_28_code (1 : Nat) (Option.some Jvm.ClassFile.FieldType.boolean) ∈ bm_ALL := bm_moA wT_1652 rfl
theorem wA_1660 : Jvm.Cond.code ({ cls := "CaseTablesModel", name := "goes", desc := "(Ljava/lang/String;)Z" } : Jvm.MethodName) prog_14_method_29_code (2 : Nat) (Option.some Jvm.ClassFile.FieldType.boolean) ∈ bm_ALL := bm_moA wT_1660 rfl
theorem wA_1639 : Jvm.Cond.code ({ cls := "CaseTablesModel", name := "expressionForm", desc := "(I)Z" } : Jvm.MethodName) prog_14_method_30_code (2 : Nat) (Option.some Jvm.ClassFile.FieldType.boolean) ∈ bm_ALL := bm_moA wT_1639 rfl
theorem wA_1644 : Jvm.Cond.code ({ cls := "CaseTablesModel", name := "levelForm", desc := "(II)Z" } : Jvm.MethodName) prog_14_method_31_code (5 : Nat) (Option.some Jvm.ClassFile.FieldType.boolean) ∈ bm_ALL := bm_moA wT_1644 rfl
theorem wA_1648 : Jvm.Cond.code ({ cls := "CaseTablesModel", name := "factorForm", desc := "(I)Z" } : Jvm.MethodName) prog_14_method_32_code (3 : Nat) (Option.some Jvm.ClassFile.FieldType.boolean) ∈ bm_ALL := bm_moA wT_1648 rfl
theorem wA_1656 : Jvm.Cond.code ({ cls := "CaseTablesModel", name := "argumentsForm", desc := "(I)Z" } : Jvm.MethodName) prog_14_method_33_code (2 : Nat) (Option.some Jvm.ClassFile.FieldType.boolean) ∈ bm_ALL := bm_moA wT_1656 rfl
theorem wA_1729 : Jvm.Cond.code ({ cls := "CaseTablesModel", name := "markPlaces", desc := "(II)V" } : Jvm.MethodName) prog_14_method_34_code (7 : Nat) (Option.none : Option Jvm.ClassFile.FieldType) ∈ bm_ALL := bm_moA wT_1729 rfl
theorem wA_1693 : Jvm.Cond.code ({ cls := "CaseTablesModel", name := "wrong", desc := "(II)I" } : Jvm.MethodName) prog_14_method_35_code (3 : Nat) (Option.some Jvm.ClassFile.FieldType.int) ∈ bm_ALL := bm_moA wT_1693 rfl
theorem wA_1713 : Jvm.Cond.code ({ cls := "CaseTablesModel", name := "find", desc := "([JIIJ)I" } : Jvm.MethodName) prog_14_method_36_code (7 : Nat) (Option.some Jvm.ClassFile.FieldType.int) ∈ bm_ALL := bm_moA wT_1713 rfl
theorem wA_1710 : Jvm.Cond.code ({ cls := "CaseTablesModel", name := "isTaken", desc := "(J)Z" } : Jvm.MethodName) prog_14_method_37_code (3 : Nat) (Option.some Jvm.ClassFile.FieldType.boolean) ∈ bm_ALL := bm_moA wT_1710 rfl
theorem wA_1721 : Jvm.Cond.code ({ cls := "CaseTablesModel", name := "whole", desc := "()I" } : Jvm.MethodName) prog_14_method_38_code (2 : Nat) (Option.some Jvm.ClassFile.FieldType.int) ∈ bm_ALL := bm_moA wT_1721 rfl
theorem wA_1697 : Jvm.Cond.code ({ cls := "CaseTablesModel", name := "meaning", desc := "()I" } : Jvm.MethodName) prog_14_method_39_code (3 : Nat) (Option.some Jvm.ClassFile.FieldType.int) ∈ bm_ALL := bm_moA wT_1697 rfl
theorem wA_1701 : Jvm.Cond.code ({ cls := "CaseTablesModel", name := "fun", desc := "(I)I" } : Jvm.MethodName) prog_14_method_40_code (6 : Nat) (Option.some Jvm.ClassFile.FieldType.int) ∈ bm_ALL := bm_moA wT_1701 rfl
theorem wA_1717 : Jvm.Cond.code ({ cls := "CaseTablesModel", name := "input", desc := "()I" } : Jvm.MethodName) prog_14_method_41_code (4 : Nat) (Option.some Jvm.ClassFile.FieldType.int) ∈ bm_ALL := bm_moA wT_1717 rfl
theorem wA_1745 : Jvm.Cond.code ({ cls := "CaseTablesModel", name := "node", desc := "(IIIIII)I" } : Jvm.MethodName) prog_14_method_42_code (7 : Nat) (Option.some Jvm.ClassFile.FieldType.int) ∈ bm_ALL := bm_moA wT_1745 rfl
theorem wA_1733 : Jvm.Cond.code ({ cls := "CaseTablesModel", name := "expression", desc := "()I" } : Jvm.MethodName) prog_14_method_43_code (5 : Nat) (Option.some Jvm.ClassFile.FieldType.int) ∈ bm_ALL := bm_moA wT_1733 rfl
theorem wA_1737 : Jvm.Cond.code ({ cls := "CaseTablesModel", name := "level", desc := "(I)I" } : Jvm.MethodName) prog_14_method_44_code (6 : Nat) (Option.some Jvm.ClassFile.FieldType.int) ∈ bm_ALL := bm_moA wT_1737 rfl
theorem wA_1741 : Jvm.Cond.code ({ cls := "CaseTablesModel", name := "factor", desc := "()I" } : Jvm.MethodName) prog_14_method_45_code (3 : Nat) (Option.some Jvm.ClassFile.FieldType.int) ∈ bm_ALL := bm_moA wT_1741 rfl
theorem wA_1753 : Jvm.Cond.code ({ cls := "CaseTablesModel", name := "inputNamed", desc := "(I)I" } : Jvm.MethodName) prog_14_method_46_code (3 : Nat) (Option.some Jvm.ClassFile.FieldType.int) ∈ bm_ALL := bm_moA wT_1753 rfl
theorem wA_1749 : Jvm.Cond.code ({ cls := "CaseTablesModel", name := "call", desc := "(I)I" } : Jvm.MethodName) prog_14_method_47_code (6 : Nat) (Option.some Jvm.ClassFile.FieldType.int) ∈ bm_ALL := bm_moA wT_1749 rfl
theorem wA_1757 : Jvm.Cond.code ({ cls := "CaseTablesModel", name := "table", desc := "(I)I" } : Jvm.MethodName) prog_14_method_48_code (5 : Nat) (Option.some Jvm.ClassFile.FieldType.int) ∈ bm_ALL := bm_moA wT_1757 rfl
theorem wA_1761 : Jvm.Cond.code ({ cls := "CaseTablesModel", name := "row", desc := "()I" } : Jvm.MethodName) prog_14_method_49_code (7 : Nat) (Option.some Jvm.ClassFile.FieldType.int) ∈ bm_ALL := bm_moA wT_1761 rfl
theorem wA_1765 : Jvm.Cond.code ({ cls := "CaseTablesModel", name := "cell", desc := "(III)I" } : Jvm.MethodName) prog_14_method_50_code (9 : Nat) (Option.some Jvm.ClassFile.FieldType.int) ∈ bm_ALL := bm_moA wT_1765 rfl
theorem wA_1769 : Jvm.Cond.code ({ cls := "CaseTablesModel", name := "setCell", desc := "(IIZII)V" } : Jvm.MethodName) prog_14_method_51_code (6 : Nat) (Option.none : Option Jvm.ClassFile.FieldType) ∈ bm_ALL := bm_moA wT_1769 rfl
theorem wA_1458 : Jvm.Cond.code ({ cls := "CaseTablesModel", name := "forget", desc := "()V" } : Jvm.MethodName) prog_14_method_52_code (1 : Nat) (Option.none : Option Jvm.ClassFile.FieldType) ∈ bm_ALL := bm_moA wT_1458 rfl
theorem wA_1454 : Jvm.Cond.code ({ cls := "CaseTablesModel", name := "compile", desc := "()I" } : Jvm.MethodName) prog_14_method_53_code (2 : Nat) (Option.some Jvm.ClassFile.FieldType.int) ∈ bm_ALL := bm_moA wT_1454 rfl
theorem wA_1781 : Jvm.Cond.code ({ cls := "CaseTablesModel", name := "errorAt", desc := "()I" } : Jvm.MethodName) prog_14_method_54_code (1 : Nat) (Option.some Jvm.ClassFile.FieldType.int) ∈ bm_ALL := bm_moA wT_1781 rfl
theorem wA_1855 : Jvm.Cond.code ({ cls := "CaseTablesModel", name := "truth", desc := "(Z)J" } : Jvm.MethodName) prog_14_method_55_code (1 : Nat) (Option.some Jvm.ClassFile.FieldType.long) ∈ bm_ALL := bm_moA wT_1855 rfl
theorem wA_1858 : Jvm.Cond.code ({ cls := "CaseTablesModel", name := "changed", desc := "(I)I" } : Jvm.MethodName) prog_14_method_56_code (1 : Nat) (Option.some Jvm.ClassFile.FieldType.int) ∈ bm_ALL := bm_moA wT_1858 rfl
theorem wA_1869 : Jvm.Cond.code ({ cls := "CaseTablesModel", name := "fault", desc := "()J" } : Jvm.MethodName) prog_14_method_57_code (1 : Nat) (Option.some Jvm.ClassFile.FieldType.long) ∈ bm_ALL := bm_moA wT_1869 rfl
theorem wA_1865 : Jvm.Cond.code ({ cls := "CaseTablesModel", name := "holds", desc := "(IJJ)Z" } : Jvm.MethodName) prog_14_method_58_code (5 : Nat) (Option.some Jvm.ClassFile.FieldType.boolean) ∈ bm_ALL := bm_moA wT_1865 rfl
theorem wA_1848 : Jvm.Cond.code ({ cls := "CaseTablesModel", name := "worth", desc := "(IJJJI)J" } : Jvm.MethodName) prog_14_method_59_code (14 : Nat) (Option.some Jvm.ClassFile.FieldType.long) ∈ bm_ALL := bm_moA wT_1848 rfl
theorem wA_1862 : Jvm.Cond.code ({ cls := "CaseTablesModel", name := "both", desc := "(IIJJJJI)J" } : Jvm.MethodName) prog_14_method_60_code (14 : Nat) (Option.some Jvm.ClassFile.FieldType.long) ∈ bm_ALL := bm_moA wT_1862 rfl
theorem wA_1852 : Jvm.Cond.code ({ cls := "CaseTablesModel", name := "called", desc := "(IJJJI)J" } : Jvm.MethodName) prog_14_method_61_code (16 : Nat) (Option.some Jvm.ClassFile.FieldType.long) ∈ bm_ALL := bm_moA wT_1852 rfl
theorem wA_1844 : Jvm.Cond.code ({ cls := "CaseTablesModel", name := "run", desc := "(I[II)J" } : Jvm.MethodName) prog_14_method_62_code (4 : Nat) (Option.some Jvm.ClassFile.FieldType.long) ∈ bm_ALL := bm_moA wT_1844 rfl
theorem wA_1777 : Jvm.Cond.code ({ cls := "CaseTablesModel", name := "casesOf", desc := "(II)I" } : Jvm.MethodName) prog_14_method_63_code (6 : Nat) (Option.some Jvm.ClassFile.FieldType.int) ∈ bm_ALL := bm_moA wT_1777 rfl
theorem wA_1773 : Jvm.Cond.code ({ cls := "CaseTablesModel", name := "cases", desc := "(I)I" } : Jvm.MethodName) prog_14_method_64_code (4 : Nat) (Option.some Jvm.ClassFile.FieldType.int) ∈ bm_ALL := bm_moA wT_1773 rfl
theorem wA_1789 : Jvm.Cond.code ({ cls := "CaseTablesModel", name := "counted", desc := "(I)I" } : Jvm.MethodName) prog_14_method_65_code (4 : Nat) (Option.some Jvm.ClassFile.FieldType.int) ∈ bm_ALL := bm_moA wT_1789 rfl
theorem wA_1785 : Jvm.Cond.code ({ cls := "CaseTablesModel", name := "count", desc := "(I)I" } : Jvm.MethodName) prog_14_method_66_code (2 : Nat) (Option.some Jvm.ClassFile.FieldType.int) ∈ bm_ALL := bm_moA wT_1785 rfl
theorem wA_1813 : Jvm.Cond.code ({ cls := "CaseTablesModel", name := "span", desc := "(II)I" } : Jvm.MethodName) prog_14_method_67_code (3 : Nat) (Option.some Jvm.ClassFile.FieldType.int) ∈ bm_ALL := bm_moA wT_1813 rfl
theorem wA_1809 : Jvm.Cond.code ({ cls := "CaseTablesModel", name := "all", desc := "(I)I" } : Jvm.MethodName) prog_14_method_68_code (4 : Nat) (Option.some Jvm.ClassFile.FieldType.int) ∈ bm_ALL := bm_moA wT_1809 rfl
theorem wA_1881 : Jvm.Cond.code ({ cls := "CaseTablesModel", name := "rowOf", desc := "(II)[I" } : Jvm.MethodName) prog_14_method_69_code (6 : Nat) (Option.some (Jvm.ClassFile.FieldType.array Jvm.ClassFile.FieldType.int)) ∈ bm_ALL := bm_moA wT_1881 rfl
theorem wA_1836 : Jvm.Cond.code ({ cls := "CaseTablesModel", name := "pairAt", desc := "(IIII)I" } : Jvm.MethodName) prog_14_method_70_code (4 : Nat) (Option.some Jvm.ClassFile.FieldType.int) ∈ bm_ALL := bm_moA wT_1836 rfl
theorem wA_1833 : Jvm.Cond.code ({ cls := "CaseTablesModel", name := "mark", desc := "(I[I)V" } : Jvm.MethodName) prog_14_method_71_code (5 : Nat) (Option.none : Option Jvm.ClassFile.FieldType) ∈ bm_ALL := bm_moA wT_1833 rfl
theorem wA_1825 : Jvm.Cond.code ({ cls := "CaseTablesModel", name := "markAll", desc := "(I)V" } : Jvm.MethodName) prog_14_method_72_code (5 : Nat) (Option.none : Option Jvm.ClassFile.FieldType) ∈ bm_ALL := bm_moA wT_1825 rfl
theorem wA_1893 : Jvm.Cond.code ({ cls := "CaseTablesModel", name := "untried", desc := "(I[I)I" } : Jvm.MethodName) prog_14_method_73_code (6 : Nat) (Option.some Jvm.ClassFile.FieldType.int) ∈ bm_ALL := bm_moA wT_1893 rfl
theorem wA_1817 : Jvm.Cond.code ({ cls := "CaseTablesModel", name := "pairs", desc := "(I)I" } : Jvm.MethodName) prog_14_method_74_code (5 : Nat) (Option.some Jvm.ClassFile.FieldType.int) ∈ bm_ALL := bm_moA wT_1817 rfl
theorem wA_1821 : Jvm.Cond.code ({ cls := "CaseTablesModel", name := "pairsTried", desc := "(I)I" } : Jvm.MethodName) prog_14_method_75_code (7 : Nat) (Option.some Jvm.ClassFile.FieldType.int) ∈ bm_ALL := bm_moA wT_1821 rfl
theorem wA_1805 : Jvm.Cond.code ({ cls := "CaseTablesModel", name := "tablesOf", desc := "(I)I" } : Jvm.MethodName) prog_14_method_76_code (4 : Nat) (Option.some Jvm.ClassFile.FieldType.int) ∈ bm_ALL := bm_moA wT_1805 rfl
theorem wA_1801 : Jvm.Cond.code ({ cls := "CaseTablesModel", name := "funTold", desc := "(II)I" } : Jvm.MethodName) prog_14_method_77_code (3 : Nat) (Option.some Jvm.ClassFile.FieldType.int) ∈ bm_ALL := bm_moA wT_1801 rfl
theorem wA_1797 : Jvm.Cond.code ({ cls := "CaseTablesModel", name := "isFun", desc := "(I)Z" } : Jvm.MethodName) prog_14_method_78_code (2 : Nat) (Option.some Jvm.ClassFile.FieldType.boolean) ∈ bm_ALL := bm_moA wT_1797 rfl
theorem wA_1793 : Jvm.Cond.code ({ cls := "CaseTablesModel", name := "fun", desc := "(II)I" } : Jvm.MethodName) prog_14_method_79_code (3 : Nat) (Option.some Jvm.ClassFile.FieldType.int) ∈ bm_ALL := bm_moA wT_1793 rfl
theorem wA_1840 : Jvm.Cond.code ({ cls := "CaseTablesModel", name := "call", desc := "(IIII)J" } : Jvm.MethodName) prog_14_method_80_code (8 : Nat) (Option.some Jvm.ClassFile.FieldType.long) ∈ bm_ALL := bm_moA wT_1840 rfl
theorem wA_1873 : Jvm.Cond.code ({ cls := "CaseTablesModel", name := "callChanged", desc := "(IIIII)J" } : Jvm.MethodName) prog_14_method_81_code (9 : Nat) (Option.some Jvm.ClassFile.FieldType.long) ∈ bm_ALL := bm_moA wT_1873 rfl
theorem wA_1877 : Jvm.Cond.code ({ cls := "CaseTablesModel", name := "inputOf", desc := "(III)I" } : Jvm.MethodName) prog_14_method_82_code (4 : Nat) (Option.some Jvm.ClassFile.FieldType.int) ∈ bm_ALL := bm_moA wT_1877 rfl
theorem wA_1889 : Jvm.Cond.code ({ cls := "CaseTablesModel", name := "proposed", desc := "(I)I" } : Jvm.MethodName) prog_14_method_83_code (9 : Nat) (Option.some Jvm.ClassFile.FieldType.int) ∈ bm_ALL := bm_moA wT_1889 rfl
theorem wA_1885 : Jvm.Cond.code ({ cls := "CaseTablesModel", name := "propose", desc := "(I)I" } : Jvm.MethodName) prog_14_method_84_code (2 : Nat) (Option.some Jvm.ClassFile.FieldType.int) ∈ bm_ALL := bm_moA wT_1885 rfl
theorem wA_1913 : Jvm.Cond.code ({ cls := "CaseTablesModel", name := "rowAt", desc := "(II)I" } : Jvm.MethodName) prog_14_method_85_code (5 : Nat) (Option.some Jvm.ClassFile.FieldType.int) ∈ bm_ALL := bm_moA wT_1913 rfl
theorem wA_1829 : Jvm.Cond.code ({ cls := "CaseTablesModel", name := "caseInputs", desc := "(II)[I" } : Jvm.MethodName) prog_14_method_86_code (9 : Nat) (Option.some (Jvm.ClassFile.FieldType.array Jvm.ClassFile.FieldType.int)) ∈ bm_ALL := bm_moA wT_1829 rfl
theorem wA_1909 : Jvm.Cond.code ({ cls := "CaseTablesModel", name := "holdsAt", desc := "(III)Z" } : Jvm.MethodName) prog_14_method_87_code (7 : Nat) (Option.some Jvm.ClassFile.FieldType.boolean) ∈ bm_ALL := bm_moA wT_1909 rfl
theorem wA_1905 : Jvm.Cond.code ({ cls := "CaseTablesModel", name := "tableTold", desc := "(II)I" } : Jvm.MethodName) prog_14_method_88_code (6 : Nat) (Option.some Jvm.ClassFile.FieldType.int) ∈ bm_ALL := bm_moA wT_1905 rfl
theorem wA_1901 : Jvm.Cond.code ({ cls := "CaseTablesModel", name := "isTable", desc := "(I)Z" } : Jvm.MethodName) prog_14_method_89_code (2 : Nat) (Option.some Jvm.ClassFile.FieldType.boolean) ∈ bm_ALL := bm_moA wT_1901 rfl
theorem wA_1921 : Jvm.Cond.code ({ cls := "CaseTablesModel", name := "isCase", desc := "(II)Z" } : Jvm.MethodName) prog_14_method_90_code (3 : Nat) (Option.some Jvm.ClassFile.FieldType.boolean) ∈ bm_ALL := bm_moA wT_1921 rfl
theorem wA_1897 : Jvm.Cond.code ({ cls := "CaseTablesModel", name := "table", desc := "(II)I" } : Jvm.MethodName) prog_14_method_91_code (3 : Nat) (Option.some Jvm.ClassFile.FieldType.int) ∈ bm_ALL := bm_moA wT_1897 rfl
theorem wA_1917 : Jvm.Cond.code ({ cls := "CaseTablesModel", name := "caseOf", desc := "(III)I" } : Jvm.MethodName) prog_14_method_92_code (4 : Nat) (Option.some Jvm.ClassFile.FieldType.int) ∈ bm_ALL := bm_moA wT_1917 rfl
theorem wA_1925 : Jvm.Cond.code ({ cls := "CaseTablesModel", name := "holds", desc := "(II)Z" } : Jvm.MethodName) prog_14_method_93_code (3 : Nat) (Option.some Jvm.ClassFile.FieldType.boolean) ∈ bm_ALL := bm_moA wT_1925 rfl
theorem wA_1933 : Jvm.Cond.code ({ cls := "CaseTablesModel", name := "countBranches", desc := "()V" } : Jvm.MethodName) prog_14_method_94_code (4 : Nat) (Option.none : Option Jvm.ClassFile.FieldType) ∈ bm_ALL := bm_moA wT_1933 rfl
theorem wA_1929 : Jvm.Cond.code ({ cls := "CaseTablesModel", name := "taken", desc := "(IZ)I" } : Jvm.MethodName) prog_14_method_95_code (3 : Nat) (Option.some Jvm.ClassFile.FieldType.int) ∈ bm_ALL := bm_moA wT_1929 rfl
theorem wA_1941 : Jvm.Cond.code ({ cls := "CaseTablesModel", name := "findsAt", desc := "(II)Z" } : Jvm.MethodName) prog_14_method_96_code (5 : Nat) (Option.some Jvm.ClassFile.FieldType.boolean) ∈ bm_ALL := bm_moA wT_1941 rfl
theorem wA_1949 : Jvm.Cond.code ({ cls := "CaseTablesModel", name := "found", desc := "(I)I" } : Jvm.MethodName) prog_14_method_97_code (4 : Nat) (Option.some Jvm.ClassFile.FieldType.int) ∈ bm_ALL := bm_moA wT_1949 rfl
theorem wA_1937 : Jvm.Cond.code ({ cls := "CaseTablesModel", name := "finds", desc := "(II)Z" } : Jvm.MethodName) prog_14_method_98_code (3 : Nat) (Option.some Jvm.ClassFile.FieldType.boolean) ∈ bm_ALL := bm_moA wT_1937 rfl
theorem wA_1945 : Jvm.Cond.code ({ cls := "CaseTablesModel", name := "score", desc := "(I)D" } : Jvm.MethodName) prog_14_method_99_code (3 : Nat) (Option.some Jvm.ClassFile.FieldType.double) ∈ bm_ALL := bm_moA wT_1945 rfl
theorem wA_1953 : Jvm.Cond.code ({ cls := "CaseTablesModel", name := "grow", desc := "(I)I" } : Jvm.MethodName) prog_14_method_100_code (7 : Nat) (Option.some Jvm.ClassFile.FieldType.int) ∈ bm_ALL := bm_moA wT_1953 rfl
theorem wA_1973 : Jvm.Cond.code ({ cls := "CaseTablesModel", name := "copyRow", desc := "(III)V" } : Jvm.MethodName) prog_14_method_101_code (7 : Nat) (Option.none : Option Jvm.ClassFile.FieldType) ∈ bm_ALL := bm_moA wT_1973 rfl
theorem wA_1957 : Jvm.Cond.code ({ cls := "CaseTablesModel", name := "shorten", desc := "(I)I" } : Jvm.MethodName) prog_14_method_102_code (9 : Nat) (Option.some Jvm.ClassFile.FieldType.int) ∈ bm_ALL := bm_moA wT_1957 rfl
theorem wA_1980 : Jvm.Cond.code ({ cls := "CaseTablesModel", name := "digest", desc := "()J" } : Jvm.MethodName) prog_14_method_103_code (8 : Nat) (Option.some Jvm.ClassFile.FieldType.long) ∈ bm_ALL := bm_moA wT_1980 rfl
theorem wA_1495 : Jvm.Cond.code ({ cls := "java/lang/String", name := "length", desc := "()I" } : Jvm.MethodName) prog_24_method_54_code (1 : Nat) (Option.some Jvm.ClassFile.FieldType.int) ∈ bm_ALL := bm_moA wT_1495 rfl
theorem wA_141 : Jvm.Cond.initialized "java/lang/String" ∈ bm_ALL := bm_moA wT_141 rfl
theorem wA_1499 : Jvm.Cond.code ({ cls := "java/lang/String", name := "coder", desc := "()B" } : Jvm.MethodName) prog_24_method_152_code (1 : Nat) (Option.some Jvm.ClassFile.FieldType.byte) ∈ bm_ALL := bm_moA wT_1499 rfl
theorem wA_1590 : Jvm.Cond.code ({ cls := "java/lang/String", name := "charAt", desc := "(I)C" } : Jvm.MethodName) prog_24_method_56_code (2 : Nat) (Option.some Jvm.ClassFile.FieldType.char) ∈ bm_ALL := bm_moA wT_1590 rfl
theorem wA_1489 : Jvm.Cond.code ({ cls := "java/lang/String", name := "isLatin1", desc := "()Z" } : Jvm.MethodName) prog_24_method_154_code (1 : Nat) (Option.some Jvm.ClassFile.FieldType.boolean) ∈ bm_ALL := bm_moA wT_1489 rfl
theorem wA_1481 : Jvm.Cond.code ({ cls := "java/lang/String", name := "indexOf", desc := "(I)I" } : Jvm.MethodName) prog_24_method_79_code (2 : Nat) (Option.some Jvm.ClassFile.FieldType.int) ∈ bm_ALL := bm_moA wT_1481 rfl
theorem wA_1485 : Jvm.Cond.code ({ cls := "java/lang/String", name := "indexOf", desc := "(II)I" } : Jvm.MethodName) prog_24_method_80_code (3 : Nat) (Option.some Jvm.ClassFile.FieldType.int) ∈ bm_ALL := bm_moA wT_1485 rfl
theorem wA_1593 : Jvm.Cond.code ({ cls := "java/lang/StringLatin1", name := "charAt", desc := "([BI)C" } : Jvm.MethodName) prog_25_method_2_code (2 : Nat) (Option.some Jvm.ClassFile.FieldType.char) ∈ bm_ALL := bm_moA wT_1593 rfl
theorem wA_142 : Jvm.Cond.initialized "java/lang/StringLatin1" ∈ bm_ALL := bm_moA wT_142 rfl
theorem wA_1505 : Jvm.Cond.code ({ cls := "java/lang/StringLatin1", name := "canEncode", desc := "(I)Z" } : Jvm.MethodName) prog_25_method_4_code (1 : Nat) (Option.some Jvm.ClassFile.FieldType.boolean) ∈ bm_ALL := bm_moA wT_1505 rfl
theorem wA_1502 : Jvm.Cond.code ({ cls := "java/lang/StringLatin1", name := "indexOf", desc := "([BIII)I" } : Jvm.MethodName) prog_25_method_22_code (4 : Nat) (Option.some Jvm.ClassFile.FieldType.int) ∈ bm_ALL := bm_moA wT_1502 rfl
theorem wA_1514 : Jvm.Cond.code ({ cls := "java/lang/StringLatin1", name := "indexOfChar", desc := "([BIII)I" } : Jvm.MethodName) prog_25_method_23_code (6 : Nat) (Option.some Jvm.ClassFile.FieldType.int) ∈ bm_ALL := bm_moA wT_1514 rfl
theorem wA_1060 : Jvm.Cond.code ({ cls := "java/lang/Long", name := "bitCount", desc := "(J)I" } : Jvm.MethodName) prog_21_method_50_code (2 : Nat) (Option.some Jvm.ClassFile.FieldType.int) ∈ bm_ALL := bm_moA wT_1060 rfl
theorem wA_148 : Jvm.Cond.initialized "java/lang/Long" ∈ bm_ALL := bm_moA wT_148 rfl
theorem wA_1599 : Jvm.Cond.code ({ cls := "jdk/internal/util/Preconditions", name := "checkIndex", desc := "(IILjava/util/function/BiFunction;)I" } : Jvm.MethodName) prog_29_method_11_code (3 : Nat) (Option.some Jvm.ClassFile.FieldType.int) ∈ bm_ALL := bm_moA wT_1599 rfl
theorem wA_145 : Jvm.Cond.initialized "jdk/internal/util/Preconditions" ∈ bm_ALL := bm_moA wT_145 rfl
theorem wA_1596 : Jvm.Cond.code ({ cls := "java/lang/String", name := "checkIndex", desc := "(II)V" } : Jvm.MethodName) prog_24_method_155_code (2 : Nat) (Option.none : Option Jvm.ClassFile.FieldType) ∈ bm_ALL := bm_moA wT_1596 rfl
def bm_KK : bm_K := ((31, [14, 1, 3, 1, 1, 1, 1, 5, 2, 1, 2, 2, 1, 1, 1, 3, 5, 2, 4, 4, 3, 3, 2, 2, 1, 2, 1, 2, 1, 1, 1], [[40, 41, 44, 59, 58, 124, 61, 43, 45, 42, 47, 37, 60, 62], [45], [102, 117, 110], [40], [41], [61], [59], [116, 97, 98, 108, 101], [111, 102], [58], [105, 110], [46, 46], [44], [124], [42], [97, 110, 121], [101, 114, 114, 111, 114], [105, 102], [116, 104, 101, 110], [101, 108, 115, 101], [110, 111, 116], [97, 110, 100], [111, 114], [60, 62], [60], [60, 61], [62], [62, 61], [43], [47], [37]]), [("CaseTablesModel", 126, "(),;:|=+-*/%<>", 0), ("CaseTablesModel", 179, "-", 1), ("CaseTablesModel", 188, "fun", 2), ("CaseTablesModel", 193, "(", 3), ("CaseTablesModel", 198, ")", 4), ("CaseTablesModel", 200, "=", 5), ("CaseTablesModel", 205, ";", 6), ("CaseTablesModel", 207, "table", 7), ("CaseTablesModel", 209, "of", 8), ("CaseTablesModel", 211, ":", 9), ("CaseTablesModel", 216, "in", 10), ("CaseTablesModel", 221, "..", 11), ("CaseTablesModel", 223, ",", 12), ("CaseTablesModel", 231, "|", 13), ("CaseTablesModel", 233, "*", 14), ("CaseTablesModel", 235, "any", 15), ("CaseTablesModel", 237, "error", 16), ("CaseTablesModel", 252, "if", 17), ("CaseTablesModel", 258, "then", 18), ("CaseTablesModel", 262, "else", 19), ("CaseTablesModel", 270, "not", 20), ("CaseTablesModel", 498, "and", 21), ("CaseTablesModel", 500, "or", 22), ("CaseTablesModel", 502, "<>", 23), ("CaseTablesModel", 504, "<", 24), ("CaseTablesModel", 506, "<=", 25), ("CaseTablesModel", 508, ">", 26), ("CaseTablesModel", 510, ">=", 27), ("CaseTablesModel", 512, "+", 28), ("CaseTablesModel", 514, "/", 29), ("CaseTablesModel", 516, "%", 30)], [("CaseTables", "KEYWORDS", "[J", .inr (.inr (.inr (.inr (2, 0))))), ("CaseTablesModel", "KEYWORDS", "[Ljava/lang/String;", .inr (.inr (.inr (.inr (2, 1))))), ("CaseTablesModel", "OPERATORS", "[Ljava/lang/String;", .inr (.inr (.inr (.inr (2, 2))))), ("java/lang/String", "COMPACT_STRINGS", "Z", .inl 1), ("jdk/internal/util/Preconditions", "SIOOBE_FORMATTER", "Ljava/util/function/BiFunction;", .inr (.inr (.inr (.inr (3, 0)))))], ([6714734, 26990, 26982, 1952998766, 1701606245, 6385252, 28530, 7237492, 499850046565, 28518, 6385273, 435711799154], [2, 10, 17, 18, 19, 21, 22, 20, 7, 8, 15, 16], [22, 21, 5, 23, 24, 25, 26, 27, 28, 1, 14, 29, 30]))
theorem bm_KKok : bm_Kok bm_KK := by
  refine ⟨fun i => ?_, by decide, by decide, by decide⟩
  by_cases h : i < 31
  · exact (by decide : ∀ i, i < 31 → bm_KK.1.2.1.getD i 0 < 2147483648) i h
  · have e : bm_KK.1.2.1.getD i 0 = 0 := by
      rw [List.getD_eq_getElem?_getD, List.getElem?_eq_none (by show 31 ≤ i; omega)]
      rfl
    rw [e]; omega
def bm_thr (own : String) (ic : Nat) (E : String) (names : List String) : Bool := (vx_at0 own ic E names).all (fun w => decide (w ∈ lw_tbl) && (goodWord w || bm_nwk w))
theorem bm_hat {own : String} {ic : Nat} {E : String} {names : List String} (h : bm_thr own ic E names = true) : ∀ w ∈ vx_at0 own ic E names, w ∈ bm_ALL ∨ w ∈ bm_NW := by
  intro w hw
  have h2 := List.all_eq_true.mp h w hw
  simp only [Bool.and_eq_true, Bool.or_eq_true, decide_eq_true_eq] at h2
  exact h2.2.imp (fun g => List.mem_filter.mpr ⟨h2.1, g⟩) (fun g => List.mem_filter.mpr ⟨h2.1, g⟩)
theorem bm_hot {own : String} {ik ic : Nat} {E : String} {names : List String} (h : (Cond.classLink own ik E :: Cond.initialized E :: vx_at0 own ic E names).all vx_ot = true) : ∀ w ∈ Cond.classLink own ik E :: Cond.initialized E :: vx_at0 own ic E names, vx_ot w = true := List.all_eq_true.mp h
