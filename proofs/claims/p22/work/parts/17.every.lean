/-! ===== every method keeps its contract ===== -/
def bm_Ar (P : bm_If → Prop) : List bm_If → Prop
  | [] => True
  | q :: l => P q ∧ bm_Ar P l
theorem bm_Ar.at {P : bm_If → Prop} (h0 : P bm_dfl) : ∀ {l : List bm_If}, bm_Ar P l → ∀ n, P ((bm_nth l n).getD bm_dfl)
  | [], _, n => h0
  | q :: l, h, 0 => h.1
  | q :: l, h, n + 1 => bm_Ar.at h0 h.2 n
theorem sn_dfl : bm_Ro bm_dfl := ⟨by decide +kernel, trivial⟩
theorem sn_info0 : bm_Ar bm_Ro bm_info0 := ⟨sn_X0_init, ⟨sn_X0_translate, ⟨sn_X0_errorPlace, ⟨sn_X0_complain, ⟨sn_X0_readWhole, ⟨sn_X0_readItemName, ⟨sn_X0_readFun, ⟨sn_X0_readInput, ⟨sn_X0_readTable, ⟨sn_X0_readRow, ⟨sn_X0_readCell, ⟨sn_X0_readResult, ⟨sn_X0_readBody, ⟨sn_X0_readExpression, ⟨sn_X0_readBoth, ⟨sn_X0_endSecond, ⟨sn_X0_readChoice, ⟨sn_X0_readRelation, ⟨sn_X0_readSum, ⟨sn_X0_readProduct, ⟨sn_X0_readFactor, ⟨sn_X0_readNamed, ⟨sn_X0_readArguments, ⟨sn_X1_init, ⟨sn_X1_clear, ⟨sn_X1_addInput, ⟨sn_X1_inputNamed, ⟨sn_X1_nextPlace, ⟨sn_X1_emit, ⟨sn_X1_aimHere, ⟨sn_X1_operationAt, ⟨sn_X1_operandAt, ⟨sn_X1_placeAt, ⟨sn_X1_pairCount, ⟨sn_X2_init, ⟨sn_X2_reckon, ⟨sn_X2_hasFailed, ⟨sn_X2_startCounting, ⟨sn_X2_stopCounting, ⟨sn_X2_branchCount, trivial⟩⟩⟩⟩⟩⟩⟩⟩⟩⟩⟩⟩⟩⟩⟩⟩⟩⟩⟩⟩⟩⟩⟩⟩⟩⟩⟩⟩⟩⟩⟩⟩⟩⟩⟩⟩⟩⟩⟩⟩
theorem sn_info1 : bm_Ar bm_Ro bm_info1 := ⟨sn_X2_countBranch, ⟨sn_X2_push, ⟨sn_X2_pop, ⟨sn_X2_valueAt, ⟨sn_X2_run, ⟨sn_X2_runCalled, ⟨sn_X2_takesThen, ⟨sn_X2_isDecided, ⟨sn_X2_apply, ⟨sn_X2_changedOperator, ⟨sn_X3_init, ⟨sn_X3_clear, ⟨sn_X3_funAt, ⟨sn_X3_tableAt, ⟨sn_X3_nextFun, ⟨sn_X3_keepFun, ⟨sn_X3_nextTable, ⟨sn_X3_keepTable, ⟨sn_X3_nextIf, ⟨sn_X3_funNamed, ⟨sn_X3_hasItem, ⟨sn_X3_tablesOf, ⟨sn_X3_caseCount, ⟨sn_X4_init, ⟨sn_X4_clear, ⟨sn_X4_put, ⟨sn_X4_low, ⟨sn_X4_high, ⟨sn_X4_width, ⟨sn_X4_rowCount, ⟨sn_X4_valueAt, ⟨sn_X5_init, ⟨sn_X5_clear, ⟨sn_X5_admits, ⟨sn_X6_init, ⟨sn_X6_forget, ⟨sn_X6_refresh, ⟨sn_X6_runTable, ⟨sn_X6_isHolding, ⟨sn_X6_changesFound, trivial⟩⟩⟩⟩⟩⟩⟩⟩⟩⟩⟩⟩⟩⟩⟩⟩⟩⟩⟩⟩⟩⟩⟩⟩⟩⟩⟩⟩⟩⟩⟩⟩⟩⟩⟩⟩⟩⟩⟩⟩
theorem sn_info2 : bm_Ar bm_Ro bm_info2 := ⟨sn_X6_search, ⟨sn_X7_init, ⟨sn_X7_clear, ⟨sn_X7_rowAt, ⟨sn_X7_nextRow, ⟨sn_X7_keepRow, ⟨sn_X7_drop, ⟨sn_X7_valueAt, ⟨sn_X7_note, ⟨sn_X7_isHolding, ⟨sn_X7_tell, ⟨sn_X7_holdingCount, ⟨sn_X7_firstNotHolding, ⟨sn_X8_init, ⟨sn_X8_length, ⟨sn_X8_room, ⟨sn_X8_cutTo, ⟨sn_X8_append, ⟨sn_X8_byteAt, ⟨sn_X9_init, ⟨sn_X9_scan, ⟨sn_X9_sees, ⟨sn_X9_passes, ⟨sn_X9_expect, ⟨sn_X9_oneOf, ⟨sn_X9_fail, ⟨sn_X9_startHere, ⟨sn_X9_valueHere, ⟨sn_X9_allow, ⟨sn_X9_allowAll, ⟨sn_X9_scanOne, ⟨sn_X9_skipBlanks, ⟨sn_X9_scanWord, ⟨sn_X9_wordKind, ⟨sn_X9_scanNumber, ⟨sn_X9_symbolKind, ⟨sn_X9_follows, ⟨sn_X9_isBlank, ⟨sn_X9_isLetter, ⟨sn_X9_isDigit, trivial⟩⟩⟩⟩⟩⟩⟩⟩⟩⟩⟩⟩⟩⟩⟩⟩⟩⟩⟩⟩⟩⟩⟩⟩⟩⟩⟩⟩⟩⟩⟩⟩⟩⟩⟩⟩⟩⟩⟩⟩
theorem sn_info3 : bm_Ar bm_Ro bm_info3 := ⟨sn_X9_isWordSign, ⟨sn_X10_init, ⟨sn_X10_begin, ⟨sn_X10_strikeTable, ⟨sn_X10_pairCount, ⟨sn_X10_bestRow, ⟨sn_X10_bestThird, ⟨sn_X10_pairsIn, ⟨sn_X10_fill, ⟨sn_X10_strike, ⟨sn_X10_lowestBit, ⟨sn_X10_upTo, ⟨sn_X10_bits, ⟨sn_X10_maskAt, ⟨sn_X10_bitAt, ⟨sn_X11_init, ⟨sn_X11_feed, ⟨sn_X11_trim, ⟨sn_X11_compile, ⟨sn_X11_count, ⟨sn_X11_fun, ⟨sn_X11_propose, ⟨sn_X11_table, ⟨sn_X11_holds, ⟨sn_X11_taken, ⟨sn_X11_finds, ⟨sn_X11_score, ⟨sn_X11_grow, ⟨sn_X11_shorten, ⟨sn_X11_digest, ⟨sn_X11_addTable, ⟨sn_X11_requireBelow, ⟨sn_X11_existingFun, ⟨sn_X11_existingTable, ⟨sn_X11_findUntried, ⟨sn_X11_addCase, ⟨sn_X11_isRelated, ⟨sn_J0_length_8abf5, ⟨sn_J0_coder_7d493, ⟨sn_J0_charAt_5068e, trivial⟩⟩⟩⟩⟩⟩⟩⟩⟩⟩⟩⟩⟩⟩⟩⟩⟩⟩⟩⟩⟩⟩⟩⟩⟩⟩⟩⟩⟩⟩⟩⟩⟩⟩⟩⟩⟩⟩⟩⟩
theorem sn_info4 : bm_Ar bm_Ro bm_info4 := ⟨sn_J0_isLatin1_aae02, ⟨sn_J1_charAt_3b067, ⟨sn_J13_bitCount_95d88, ⟨sn_J3_checkIndex_8e157, ⟨sn_J0_checkIndex_df160, ⟨sn_L_below, ⟨sn_L_cell, ⟨sn_L_put, ⟨sn_L_put_, ⟨sn_L_lay, ⟨sn_L_law, trivial⟩⟩⟩⟩⟩⟩⟩⟩⟩⟩⟩
theorem bm_all_ok (y : Nat) : bm_Ro (bm_inf y) := by
  unfold bm_inf
  split
  · exact bm_Ar.at sn_dfl sn_info0 _
  · exact bm_Ar.at sn_dfl sn_info1 _
  · exact bm_Ar.at sn_dfl sn_info2 _
  · exact bm_Ar.at sn_dfl sn_info3 _
  · exact bm_Ar.at sn_dfl sn_info4 _
  · exact sn_dfl
theorem bm_every (l : Launch) (hl : l.stackTraces = false) : ∀ d, bm_Con bm_KK bm_pg bm_mi l d :=
  bm_sound hl (fun y => ⟨(bm_all_ok y).1, fun pc m r h => bm_Al.look (bm_all_ok y).2 pc m r h⟩)
