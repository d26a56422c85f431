/-! decode rows (the kit printed them) -/
theorem dX12_item_104 : decode cX12_item 104 = .ok (.aload_n 0, 1) := by decide +kernel
theorem dX12_item_105 : decode cX12_item 105 = .ok (.ldc 211, 2) := by decide +kernel
theorem dX12_item_107 : decode cX12_item 107 = .ok (.invokevirtual 181, 3) := by decide +kernel
theorem dX12_item_110 : decode cX12_item 110 = .ok (.ifCond .eq 23, 3) := by decide +kernel
theorem dX12_item_113 : decode cX12_item 113 = .ok (.aload_n 0, 1) := by decide +kernel
theorem dX12_item_114 : decode cX12_item 114 = .ok (.invokevirtual 213, 3) := by decide +kernel
theorem dX12_item_117 : decode cX12_item 117 = .ok (.ifCond .eq 16, 3) := by decide +kernel
theorem dX12_item_120 : decode cX12_item 120 = .ok (.aload_n 0, 1) := by decide +kernel
theorem dX12_item_121 : decode cX12_item 121 = .ok (.ldc 205, 2) := by decide +kernel
theorem dX12_item_123 : decode cX12_item 123 = .ok (.invokevirtual 181, 3) := by decide +kernel
theorem dX12_item_126 : decode cX12_item 126 = .ok (.ifCond .eq 7, 3) := by decide +kernel
theorem dX12_item_129 : decode cX12_item 129 = .ok (.iconst 1, 1) := by decide +kernel
theorem dX12_item_130 : decode cX12_item 130 = .ok (.goto 4, 3) := by decide +kernel
theorem dX12_item_133 : decode cX12_item 133 = .ok (.iconst 0, 1) := by decide +kernel
theorem dX12_item_134 : decode cX12_item 134 = .ok (.ireturn, 1) := by decide +kernel
theorem dX12_inputsForm_0 : decode cX12_inputsForm 0 = .ok (.aload_n 0, 1) := by decide +kernel
theorem dX12_inputsForm_1 : decode cX12_inputsForm 1 = .ok (.invokevirtual 190, 3) := by decide +kernel
theorem dX12_inputsForm_4 : decode cX12_inputsForm 4 = .ok (.ifCond .eq 35, 3) := by decide +kernel
theorem dX12_inputsForm_7 : decode cX12_inputsForm 7 = .ok (.aload_n 0, 1) := by decide +kernel
theorem dX12_inputsForm_8 : decode cX12_inputsForm 8 = .ok (.ldc 216, 2) := by decide +kernel
theorem dX12_inputsForm_10 : decode cX12_inputsForm 10 = .ok (.invokevirtual 181, 3) := by decide +kernel
theorem dX12_inputsForm_13 : decode cX12_inputsForm 13 = .ok (.ifCond .eq 26, 3) := by decide +kernel
theorem dX12_inputsForm_16 : decode cX12_inputsForm 16 = .ok (.aload_n 0, 1) := by decide +kernel
theorem dX12_inputsForm_17 : decode cX12_inputsForm 17 = .ok (.invokevirtual 218, 3) := by decide +kernel
theorem dX12_inputsForm_20 : decode cX12_inputsForm 20 = .ok (.ifCond .eq 19, 3) := by decide +kernel
theorem dX12_inputsForm_23 : decode cX12_inputsForm 23 = .ok (.aload_n 0, 1) := by decide +kernel
theorem dX12_inputsForm_24 : decode cX12_inputsForm 24 = .ok (.ldc 221, 2) := by decide +kernel
theorem dX12_inputsForm_26 : decode cX12_inputsForm 26 = .ok (.invokevirtual 181, 3) := by decide +kernel
theorem dX12_inputsForm_29 : decode cX12_inputsForm 29 = .ok (.ifCond .eq 10, 3) := by decide +kernel
theorem dX12_inputsForm_32 : decode cX12_inputsForm 32 = .ok (.aload_n 0, 1) := by decide +kernel
theorem dX12_inputsForm_33 : decode cX12_inputsForm 33 = .ok (.invokevirtual 218, 3) := by decide +kernel
theorem dX12_inputsForm_36 : decode cX12_inputsForm 36 = .ok (.ifCond .ne 5, 3) := by decide +kernel
theorem dX12_inputsForm_39 : decode cX12_inputsForm 39 = .ok (.iconst 0, 1) := by decide +kernel
theorem dX12_inputsForm_40 : decode cX12_inputsForm 40 = .ok (.ireturn, 1) := by decide +kernel
theorem dX12_inputsForm_41 : decode cX12_inputsForm 41 = .ok (.aload_n 0, 1) := by decide +kernel
theorem dX12_inputsForm_42 : decode cX12_inputsForm 42 = .ok (.ldc 223, 2) := by decide +kernel
theorem dX12_inputsForm_44 : decode cX12_inputsForm 44 = .ok (.invokevirtual 181, 3) := by decide +kernel
theorem dX12_inputsForm_47 : decode cX12_inputsForm 47 = .ok (.ifCond .ne (-47), 3) := by decide +kernel
theorem dX12_inputsForm_50 : decode cX12_inputsForm 50 = .ok (.iconst 1, 1) := by decide +kernel
theorem dX12_inputsForm_51 : decode cX12_inputsForm 51 = .ok (.ireturn, 1) := by decide +kernel
theorem dX12_rowsForm_0 : decode cX12_rowsForm 0 = .ok (.aload_n 0, 1) := by decide +kernel
theorem dX12_rowsForm_1 : decode cX12_rowsForm 1 = .ok (.invokevirtual 225, 3) := by decide +kernel
theorem dX12_rowsForm_4 : decode cX12_rowsForm 4 = .ok (.ifCond .eq 19, 3) := by decide +kernel
theorem dX12_rowsForm_7 : decode cX12_rowsForm 7 = .ok (.aload_n 0, 1) := by decide +kernel
theorem dX12_rowsForm_8 : decode cX12_rowsForm 8 = .ok (.ldc 211, 2) := by decide +kernel
theorem dX12_rowsForm_10 : decode cX12_rowsForm 10 = .ok (.invokevirtual 181, 3) := by decide +kernel
theorem dX12_rowsForm_13 : decode cX12_rowsForm 13 = .ok (.ifCond .eq 10, 3) := by decide +kernel
theorem dX12_rowsForm_16 : decode cX12_rowsForm 16 = .ok (.aload_n 0, 1) := by decide +kernel
theorem dX12_rowsForm_17 : decode cX12_rowsForm 17 = .ok (.invokevirtual 228, 3) := by decide +kernel
theorem dX12_rowsForm_20 : decode cX12_rowsForm 20 = .ok (.ifCond .ne 5, 3) := by decide +kernel
theorem dX12_rowsForm_23 : decode cX12_rowsForm 23 = .ok (.iconst 0, 1) := by decide +kernel
theorem dX12_rowsForm_24 : decode cX12_rowsForm 24 = .ok (.ireturn, 1) := by decide +kernel
theorem dX12_rowsForm_25 : decode cX12_rowsForm 25 = .ok (.aload_n 0, 1) := by decide +kernel
theorem dX12_rowsForm_26 : decode cX12_rowsForm 26 = .ok (.ldc 231, 2) := by decide +kernel
theorem dX12_rowsForm_28 : decode cX12_rowsForm 28 = .ok (.invokevirtual 181, 3) := by decide +kernel
theorem dX12_rowsForm_31 : decode cX12_rowsForm 31 = .ok (.ifCond .ne (-31), 3) := by decide +kernel
theorem dX12_rowsForm_34 : decode cX12_rowsForm 34 = .ok (.iconst 1, 1) := by decide +kernel
theorem dX12_rowsForm_35 : decode cX12_rowsForm 35 = .ok (.ireturn, 1) := by decide +kernel
theorem dX12_cellsForm_0 : decode cX12_cellsForm 0 = .ok (.aload_n 0, 1) := by decide +kernel
theorem dX12_cellsForm_1 : decode cX12_cellsForm 1 = .ok (.ldc 233, 2) := by decide +kernel
theorem dX12_cellsForm_3 : decode cX12_cellsForm 3 = .ok (.invokevirtual 181, 3) := by decide +kernel
theorem dX12_cellsForm_6 : decode cX12_cellsForm 6 = .ok (.ifCond .ne 28, 3) := by decide +kernel
theorem dX12_cellsForm_9 : decode cX12_cellsForm 9 = .ok (.aload_n 0, 1) := by decide +kernel
theorem dX12_cellsForm_10 : decode cX12_cellsForm 10 = .ok (.invokevirtual 218, 3) := by decide +kernel
theorem dX12_cellsForm_13 : decode cX12_cellsForm 13 = .ok (.ifCond .eq 19, 3) := by decide +kernel
theorem dX12_cellsForm_16 : decode cX12_cellsForm 16 = .ok (.aload_n 0, 1) := by decide +kernel
theorem dX12_cellsForm_17 : decode cX12_cellsForm 17 = .ok (.ldc 221, 2) := by decide +kernel
theorem dX12_cellsForm_19 : decode cX12_cellsForm 19 = .ok (.invokevirtual 181, 3) := by decide +kernel
theorem dX12_cellsForm_22 : decode cX12_cellsForm 22 = .ok (.ifCond .eq 12, 3) := by decide +kernel
theorem dX12_cellsForm_25 : decode cX12_cellsForm 25 = .ok (.aload_n 0, 1) := by decide +kernel
theorem dX12_cellsForm_26 : decode cX12_cellsForm 26 = .ok (.invokevirtual 218, 3) := by decide +kernel
theorem dX12_cellsForm_29 : decode cX12_cellsForm 29 = .ok (.ifCond .ne 5, 3) := by decide +kernel
theorem dX12_cellsForm_32 : decode cX12_cellsForm 32 = .ok (.iconst 0, 1) := by decide +kernel
theorem dX12_cellsForm_33 : decode cX12_cellsForm 33 = .ok (.ireturn, 1) := by decide +kernel
theorem dX12_cellsForm_34 : decode cX12_cellsForm 34 = .ok (.aload_n 0, 1) := by decide +kernel
theorem dX12_cellsForm_35 : decode cX12_cellsForm 35 = .ok (.ldc 223, 2) := by decide +kernel
theorem dX12_cellsForm_37 : decode cX12_cellsForm 37 = .ok (.invokevirtual 181, 3) := by decide +kernel
theorem dX12_cellsForm_40 : decode cX12_cellsForm 40 = .ok (.ifCond .ne (-40), 3) := by decide +kernel
theorem dX12_cellsForm_43 : decode cX12_cellsForm 43 = .ok (.iconst 1, 1) := by decide +kernel
theorem dX12_cellsForm_44 : decode cX12_cellsForm 44 = .ok (.ireturn, 1) := by decide +kernel
theorem dX12_resultForm_0 : decode cX12_resultForm 0 = .ok (.aload_n 0, 1) := by decide +kernel
theorem dX12_resultForm_1 : decode cX12_resultForm 1 = .ok (.ldc 235, 2) := by decide +kernel
theorem dX12_resultForm_3 : decode cX12_resultForm 3 = .ok (.invokevirtual 181, 3) := by decide +kernel
theorem dX12_resultForm_6 : decode cX12_resultForm 6 = .ok (.ifCond .ne 12, 3) := by decide +kernel
theorem dX12_resultForm_9 : decode cX12_resultForm 9 = .ok (.aload_n 0, 1) := by decide +kernel
theorem dX12_resultForm_10 : decode cX12_resultForm 10 = .ok (.ldc 237, 2) := by decide +kernel
theorem dX12_resultForm_12 : decode cX12_resultForm 12 = .ok (.invokevirtual 181, 3) := by decide +kernel
theorem dX12_resultForm_15 : decode cX12_resultForm 15 = .ok (.ifCond .eq 5, 3) := by decide +kernel
theorem dX12_resultForm_18 : decode cX12_resultForm 18 = .ok (.iconst 1, 1) := by decide +kernel
theorem dX12_resultForm_19 : decode cX12_resultForm 19 = .ok (.ireturn, 1) := by decide +kernel
theorem dX12_resultForm_20 : decode cX12_resultForm 20 = .ok (.aload_n 0, 1) := by decide +kernel
theorem dX12_resultForm_21 : decode cX12_resultForm 21 = .ok (.aload_n 0, 1) := by decide +kernel
theorem dX12_resultForm_22 : decode cX12_resultForm 22 = .ok (.getfield 169, 3) := by decide +kernel
theorem dX12_resultForm_25 : decode cX12_resultForm 25 = .ok (.iconst 2, 1) := by decide +kernel
theorem dX12_resultForm_26 : decode cX12_resultForm 26 = .ok (.bipush 8, 2) := by decide +kernel
theorem dX12_resultForm_28 : decode cX12_resultForm 28 = .ok (.invokevirtual 239, 3) := by decide +kernel
theorem dX12_resultForm_31 : decode cX12_resultForm 31 = .ok (.iconst (-1), 1) := by decide +kernel
theorem dX12_resultForm_32 : decode cX12_resultForm 32 = .ok (.if_icmp .ne 5, 3) := by decide +kernel
theorem dX12_resultForm_35 : decode cX12_resultForm 35 = .ok (.iconst 0, 1) := by decide +kernel
theorem dX12_resultForm_36 : decode cX12_resultForm 36 = .ok (.ireturn, 1) := by decide +kernel
theorem dX12_resultForm_37 : decode cX12_resultForm 37 = .ok (.aload_n 0, 1) := by decide +kernel
theorem dX12_resultForm_38 : decode cX12_resultForm 38 = .ok (.dup, 1) := by decide +kernel
theorem dX12_resultForm_39 : decode cX12_resultForm 39 = .ok (.getfield 169, 3) := by decide +kernel
theorem dX12_resultForm_42 : decode cX12_resultForm 42 = .ok (.iconst 1, 1) := by decide +kernel
theorem dX12_resultForm_43 : decode cX12_resultForm 43 = .ok (.iadd, 1) := by decide +kernel
theorem dX12_resultForm_44 : decode cX12_resultForm 44 = .ok (.putfield 169, 3) := by decide +kernel
theorem dX12_resultForm_47 : decode cX12_resultForm 47 = .ok (.aload_n 0, 1) := by decide +kernel
theorem dX12_resultForm_48 : decode cX12_resultForm 48 = .ok (.invokevirtual 218, 3) := by decide +kernel
theorem dX12_resultForm_51 : decode cX12_resultForm 51 = .ok (.ireturn, 1) := by decide +kernel
theorem dX12_wholeExpression_0 : decode cX12_wholeExpression 0 = .ok (.aload_n 0, 1) := by decide +kernel
theorem dX12_wholeExpression_1 : decode cX12_wholeExpression 1 = .ok (.aload_n 0, 1) := by decide +kernel
theorem dX12_wholeExpression_2 : decode cX12_wholeExpression 2 = .ok (.getfield 169, 3) := by decide +kernel
theorem dX12_wholeExpression_5 : decode cX12_wholeExpression 5 = .ok (.putfield 243, 3) := by decide +kernel
theorem dX12_wholeExpression_8 : decode cX12_wholeExpression 8 = .ok (.aload_n 0, 1) := by decide +kernel
theorem dX12_wholeExpression_9 : decode cX12_wholeExpression 9 = .ok (.iconst 0, 1) := by decide +kernel
theorem dX12_wholeExpression_10 : decode cX12_wholeExpression 10 = .ok (.invokevirtual 246, 3) := by decide +kernel
theorem dX12_wholeExpression_13 : decode cX12_wholeExpression 13 = .ok (.ireturn, 1) := by decide +kernel
theorem dX12_goes_0 : decode cX12_goes 0 = .ok (.aload_n 0, 1) := by decide +kernel
theorem dX12_goes_1 : decode cX12_goes 1 = .ok (.getfield 169, 3) := by decide +kernel
theorem dX12_goes_4 : decode cX12_goes 4 = .ok (.aload_n 0, 1) := by decide +kernel
theorem dX12_goes_5 : decode cX12_goes 5 = .ok (.getfield 243, 3) := by decide +kernel
theorem dX12_goes_8 : decode cX12_goes 8 = .ok (.isub, 1) := by decide +kernel
theorem dX12_goes_9 : decode cX12_goes 9 = .ok (.bipush 50, 2) := by decide +kernel
theorem dX12_goes_11 : decode cX12_goes 11 = .ok (.if_icmp .ne 5, 3) := by decide +kernel
theorem dX12_goes_14 : decode cX12_goes 14 = .ok (.iconst 0, 1) := by decide +kernel
theorem dX12_goes_15 : decode cX12_goes 15 = .ok (.ireturn, 1) := by decide +kernel
theorem dX12_goes_16 : decode cX12_goes 16 = .ok (.aload_n 0, 1) := by decide +kernel
theorem dX12_goes_17 : decode cX12_goes 17 = .ok (.dup, 1) := by decide +kernel
theorem dX12_goes_18 : decode cX12_goes 18 = .ok (.getfield 169, 3) := by decide +kernel
theorem dX12_goes_21 : decode cX12_goes 21 = .ok (.iconst 1, 1) := by decide +kernel
theorem dX12_goes_22 : decode cX12_goes 22 = .ok (.iadd, 1) := by decide +kernel
theorem dX12_goes_23 : decode cX12_goes 23 = .ok (.putfield 169, 3) := by decide +kernel
theorem dX12_goes_26 : decode cX12_goes 26 = .ok (.iconst 1, 1) := by decide +kernel
theorem dX12_goes_27 : decode cX12_goes 27 = .ok (.ireturn, 1) := by decide +kernel
theorem dX12_goes__0 : decode cX12_goes_ 0 = .ok (.aload_n 0, 1) := by decide +kernel
theorem dX12_goes__1 : decode cX12_goes_ 1 = .ok (.aload_n 1, 1) := by decide +kernel
theorem dX12_goes__2 : decode cX12_goes_ 2 = .ok (.invokevirtual 172, 3) := by decide +kernel
theorem dX12_goes__5 : decode cX12_goes_ 5 = .ok (.ifCond .eq 14, 3) := by decide +kernel
theorem dX12_goes__8 : decode cX12_goes_ 8 = .ok (.aload_n 0, 1) := by decide +kernel
theorem dX12_goes__9 : decode cX12_goes_ 9 = .ok (.invokevirtual 249, 3) := by decide +kernel
theorem dX12_goes__12 : decode cX12_goes_ 12 = .ok (.ifCond .eq 7, 3) := by decide +kernel
theorem dX12_goes__15 : decode cX12_goes_ 15 = .ok (.iconst 1, 1) := by decide +kernel
theorem dX12_goes__16 : decode cX12_goes_ 16 = .ok (.goto 4, 3) := by decide +kernel
theorem dX12_goes__19 : decode cX12_goes_ 19 = .ok (.iconst 0, 1) := by decide +kernel
theorem dX12_goes__20 : decode cX12_goes_ 20 = .ok (.ireturn, 1) := by decide +kernel
theorem dX12_expressionForm_0 : decode cX12_expressionForm 0 = .ok (.aload_n 0, 1) := by decide +kernel
theorem dX12_expressionForm_1 : decode cX12_expressionForm 1 = .ok (.ldc 252, 2) := by decide +kernel
theorem dX12_expressionForm_3 : decode cX12_expressionForm 3 = .ok (.invokevirtual 172, 3) := by decide +kernel
theorem dX12_expressionForm_6 : decode cX12_expressionForm 6 = .ok (.ifCond .ne 10, 3) := by decide +kernel
theorem dX12_expressionForm_9 : decode cX12_expressionForm 9 = .ok (.aload_n 0, 1) := by decide +kernel
theorem dX12_expressionForm_10 : decode cX12_expressionForm 10 = .ok (.iload_n 1, 1) := by decide +kernel
theorem dX12_expressionForm_11 : decode cX12_expressionForm 11 = .ok (.iconst 0, 1) := by decide +kernel
theorem dX12_expressionForm_12 : decode cX12_expressionForm 12 = .ok (.invokevirtual 254, 3) := by decide +kernel
theorem dX12_expressionForm_15 : decode cX12_expressionForm 15 = .ok (.ireturn, 1) := by decide +kernel
theorem dX12_expressionForm_16 : decode cX12_expressionForm 16 = .ok (.iload_n 1, 1) := by decide +kernel
theorem dX12_expressionForm_17 : decode cX12_expressionForm 17 = .ok (.bipush 8, 2) := by decide +kernel
theorem dX12_expressionForm_19 : decode cX12_expressionForm 19 = .ok (.if_icmp .eq 10, 3) := by decide +kernel
theorem dX12_expressionForm_22 : decode cX12_expressionForm 22 = .ok (.aload_n 0, 1) := by decide +kernel
theorem dX12_expressionForm_23 : decode cX12_expressionForm 23 = .ok (.invokevirtual 249, 3) := by decide +kernel
theorem dX12_expressionForm_26 : decode cX12_expressionForm 26 = .ok (.ifCond .ne 5, 3) := by decide +kernel
theorem dX12_expressionForm_29 : decode cX12_expressionForm 29 = .ok (.iconst 0, 1) := by decide +kernel
theorem dX12_expressionForm_30 : decode cX12_expressionForm 30 = .ok (.ireturn, 1) := by decide +kernel
theorem dX12_expressionForm_31 : decode cX12_expressionForm 31 = .ok (.aload_n 0, 1) := by decide +kernel
theorem dX12_expressionForm_32 : decode cX12_expressionForm 32 = .ok (.iload_n 1, 1) := by decide +kernel
theorem dX12_expressionForm_33 : decode cX12_expressionForm 33 = .ok (.iconst 1, 1) := by decide +kernel
theorem dX12_expressionForm_34 : decode cX12_expressionForm 34 = .ok (.iadd, 1) := by decide +kernel
theorem dX12_expressionForm_35 : decode cX12_expressionForm 35 = .ok (.invokevirtual 246, 3) := by decide +kernel
theorem dX12_expressionForm_38 : decode cX12_expressionForm 38 = .ok (.ifCond .eq 47, 3) := by decide +kernel
theorem dX12_expressionForm_41 : decode cX12_expressionForm 41 = .ok (.aload_n 0, 1) := by decide +kernel
theorem dX12_expressionForm_42 : decode cX12_expressionForm 42 = .ok (.ldc_w 258, 3) := by decide +kernel
theorem dX12_expressionForm_45 : decode cX12_expressionForm 45 = .ok (.invokevirtual 260, 3) := by decide +kernel
theorem dX12_expressionForm_48 : decode cX12_expressionForm 48 = .ok (.ifCond .eq 37, 3) := by decide +kernel
theorem dX12_expressionForm_51 : decode cX12_expressionForm 51 = .ok (.aload_n 0, 1) := by decide +kernel
theorem dX12_expressionForm_52 : decode cX12_expressionForm 52 = .ok (.iload_n 1, 1) := by decide +kernel
theorem dX12_expressionForm_53 : decode cX12_expressionForm 53 = .ok (.iconst 1, 1) := by decide +kernel
theorem dX12_expressionForm_54 : decode cX12_expressionForm 54 = .ok (.iadd, 1) := by decide +kernel
theorem dX12_expressionForm_55 : decode cX12_expressionForm 55 = .ok (.invokevirtual 246, 3) := by decide +kernel
theorem dX12_expressionForm_58 : decode cX12_expressionForm 58 = .ok (.ifCond .eq 27, 3) := by decide +kernel
theorem dX12_expressionForm_61 : decode cX12_expressionForm 61 = .ok (.aload_n 0, 1) := by decide +kernel
theorem dX12_expressionForm_62 : decode cX12_expressionForm 62 = .ok (.ldc_w 262, 3) := by decide +kernel
theorem dX12_expressionForm_65 : decode cX12_expressionForm 65 = .ok (.invokevirtual 260, 3) := by decide +kernel
theorem dX12_expressionForm_68 : decode cX12_expressionForm 68 = .ok (.ifCond .eq 17, 3) := by decide +kernel
theorem dX12_expressionForm_71 : decode cX12_expressionForm 71 = .ok (.aload_n 0, 1) := by decide +kernel
theorem dX12_expressionForm_72 : decode cX12_expressionForm 72 = .ok (.iload_n 1, 1) := by decide +kernel
theorem dX12_expressionForm_73 : decode cX12_expressionForm 73 = .ok (.iconst 1, 1) := by decide +kernel
theorem dX12_expressionForm_74 : decode cX12_expressionForm 74 = .ok (.iadd, 1) := by decide +kernel
theorem dX12_expressionForm_75 : decode cX12_expressionForm 75 = .ok (.invokevirtual 246, 3) := by decide +kernel
theorem dX12_expressionForm_78 : decode cX12_expressionForm 78 = .ok (.ifCond .eq 7, 3) := by decide +kernel
theorem dX12_expressionForm_81 : decode cX12_expressionForm 81 = .ok (.iconst 1, 1) := by decide +kernel
theorem dX12_expressionForm_82 : decode cX12_expressionForm 82 = .ok (.goto 4, 3) := by decide +kernel
theorem dX12_expressionForm_85 : decode cX12_expressionForm 85 = .ok (.iconst 0, 1) := by decide +kernel
theorem dX12_expressionForm_86 : decode cX12_expressionForm 86 = .ok (.ireturn, 1) := by decide +kernel
theorem dX12_levelForm_0 : decode cX12_levelForm 0 = .ok (.iload_n 2, 1) := by decide +kernel
theorem dX12_levelForm_1 : decode cX12_levelForm 1 = .ok (.bipush 13, 2) := by decide +kernel
theorem dX12_levelForm_3 : decode cX12_levelForm 3 = .ok (.if_icmp .ne 9, 3) := by decide +kernel
theorem dX12_levelForm_6 : decode cX12_levelForm 6 = .ok (.aload_n 0, 1) := by decide +kernel
theorem dX12_levelForm_7 : decode cX12_levelForm 7 = .ok (.iload_n 1, 1) := by decide +kernel
theorem dX12_levelForm_8 : decode cX12_levelForm 8 = .ok (.invokevirtual 264, 3) := by decide +kernel
theorem dX12_levelForm_11 : decode cX12_levelForm 11 = .ok (.ireturn, 1) := by decide +kernel
theorem dX12_levelForm_12 : decode cX12_levelForm 12 = .ok (.iload_n 2, 1) := by decide +kernel
theorem dX12_levelForm_13 : decode cX12_levelForm 13 = .ok (.ifCond .ne 7, 3) := by decide +kernel
theorem dX12_levelForm_16 : decode cX12_levelForm 16 = .ok (.iconst 1, 1) := by decide +kernel
theorem dX12_levelForm_17 : decode cX12_levelForm 17 = .ok (.goto 35, 3) := by decide +kernel
theorem dX12_levelForm_20 : decode cX12_levelForm 20 = .ok (.iload_n 2, 1) := by decide +kernel
theorem dX12_levelForm_21 : decode cX12_levelForm 21 = .ok (.iconst 1, 1) := by decide +kernel
theorem dX12_levelForm_22 : decode cX12_levelForm 22 = .ok (.if_icmp .ne 7, 3) := by decide +kernel
theorem dX12_levelForm_25 : decode cX12_levelForm 25 = .ok (.iconst 2, 1) := by decide +kernel
theorem dX12_levelForm_26 : decode cX12_levelForm 26 = .ok (.goto 26, 3) := by decide +kernel
theorem dX12_levelForm_29 : decode cX12_levelForm 29 = .ok (.iload_n 2, 1) := by decide +kernel
theorem dX12_levelForm_30 : decode cX12_levelForm 30 = .ok (.iconst 2, 1) := by decide +kernel
theorem dX12_levelForm_31 : decode cX12_levelForm 31 = .ok (.if_icmp .ne 8, 3) := by decide +kernel
theorem dX12_levelForm_34 : decode cX12_levelForm 34 = .ok (.bipush 8, 2) := by decide +kernel
theorem dX12_levelForm_36 : decode cX12_levelForm 36 = .ok (.goto 16, 3) := by decide +kernel
theorem dX12_levelForm_39 : decode cX12_levelForm 39 = .ok (.iload_n 2, 1) := by decide +kernel
theorem dX12_levelForm_40 : decode cX12_levelForm 40 = .ok (.bipush 8, 2) := by decide +kernel
theorem dX12_levelForm_42 : decode cX12_levelForm 42 = .ok (.if_icmp .ne 8, 3) := by decide +kernel
theorem dX12_levelForm_45 : decode cX12_levelForm 45 = .ok (.bipush 10, 2) := by decide +kernel
theorem dX12_levelForm_47 : decode cX12_levelForm 47 = .ok (.goto 5, 3) := by decide +kernel
theorem dX12_levelForm_50 : decode cX12_levelForm 50 = .ok (.bipush 13, 2) := by decide +kernel
theorem dX12_levelForm_52 : decode cX12_levelForm 52 = .ok (.istore_n 3, 1) := by decide +kernel
theorem dX12_levelForm_53 : decode cX12_levelForm 53 = .ok (.aload_n 0, 1) := by decide +kernel
theorem dX12_levelForm_54 : decode cX12_levelForm 54 = .ok (.iload_n 1, 1) := by decide +kernel
theorem dX12_levelForm_55 : decode cX12_levelForm 55 = .ok (.iload_n 3, 1) := by decide +kernel
theorem dX12_levelForm_56 : decode cX12_levelForm 56 = .ok (.invokevirtual 254, 3) := by decide +kernel
theorem dX12_levelForm_59 : decode cX12_levelForm 59 = .ok (.ifCond .ne 5, 3) := by decide +kernel
theorem dX12_levelForm_62 : decode cX12_levelForm 62 = .ok (.iconst 0, 1) := by decide +kernel
theorem dX12_levelForm_63 : decode cX12_levelForm 63 = .ok (.ireturn, 1) := by decide +kernel
theorem dX12_levelForm_64 : decode cX12_levelForm 64 = .ok (.iload_n 2, 1) := by decide +kernel
theorem dX12_levelForm_65 : decode cX12_levelForm 65 = .ok (.iconst 2, 1) := by decide +kernel
theorem dX12_levelForm_66 : decode cX12_levelForm 66 = .ok (.if_icmp .ne 7, 3) := by decide +kernel
theorem dX12_levelForm_69 : decode cX12_levelForm 69 = .ok (.iconst 1, 1) := by decide +kernel
theorem dX12_levelForm_70 : decode cX12_levelForm 70 = .ok (.goto 4, 3) := by decide +kernel
theorem dX12_levelForm_73 : decode cX12_levelForm 73 = .ok (.iconst 0, 1) := by decide +kernel
theorem dX12_levelForm_74 : decode cX12_levelForm 74 = .ok (.istore 4, 2) := by decide +kernel
theorem dX12_levelForm_76 : decode cX12_levelForm 76 = .ok (.aload_n 0, 1) := by decide +kernel
theorem dX12_levelForm_77 : decode cX12_levelForm 77 = .ok (.aload_n 0, 1) := by decide +kernel
theorem dX12_levelForm_78 : decode cX12_levelForm 78 = .ok (.getfield 169, 3) := by decide +kernel
theorem dX12_levelForm_81 : decode cX12_levelForm 81 = .ok (.iload_n 2, 1) := by decide +kernel
theorem dX12_levelForm_82 : decode cX12_levelForm 82 = .ok (.iload_n 3, 1) := by decide +kernel
theorem dX12_levelForm_83 : decode cX12_levelForm 83 = .ok (.invokevirtual 239, 3) := by decide +kernel
theorem dX12_levelForm_86 : decode cX12_levelForm 86 = .ok (.iconst (-1), 1) := by decide +kernel
theorem dX12_levelForm_87 : decode cX12_levelForm 87 = .ok (.if_icmp .eq 28, 3) := by decide +kernel
theorem dX12_levelForm_90 : decode cX12_levelForm 90 = .ok (.aload_n 0, 1) := by decide +kernel
theorem dX12_levelForm_91 : decode cX12_levelForm 91 = .ok (.invokevirtual 249, 3) := by decide +kernel
theorem dX12_levelForm_94 : decode cX12_levelForm 94 = .ok (.ifCond .eq 12, 3) := by decide +kernel
theorem dX12_levelForm_97 : decode cX12_levelForm 97 = .ok (.aload_n 0, 1) := by decide +kernel
theorem dX12_levelForm_98 : decode cX12_levelForm 98 = .ok (.iload_n 1, 1) := by decide +kernel
theorem dX12_levelForm_99 : decode cX12_levelForm 99 = .ok (.iload_n 3, 1) := by decide +kernel
theorem dX12_levelForm_100 : decode cX12_levelForm 100 = .ok (.invokevirtual 254, 3) := by decide +kernel
theorem dX12_levelForm_103 : decode cX12_levelForm 103 = .ok (.ifCond .ne 5, 3) := by decide +kernel
theorem dX12_levelForm_106 : decode cX12_levelForm 106 = .ok (.iconst 0, 1) := by decide +kernel
theorem dX12_levelForm_107 : decode cX12_levelForm 107 = .ok (.ireturn, 1) := by decide +kernel
theorem dX12_levelForm_108 : decode cX12_levelForm 108 = .ok (.iload 4, 2) := by decide +kernel
theorem dX12_levelForm_110 : decode cX12_levelForm 110 = .ok (.ifCond .eq (-34), 3) := by decide +kernel
theorem dX12_levelForm_113 : decode cX12_levelForm 113 = .ok (.iconst 1, 1) := by decide +kernel
theorem dX12_levelForm_114 : decode cX12_levelForm 114 = .ok (.ireturn, 1) := by decide +kernel
theorem dX12_levelForm_115 : decode cX12_levelForm 115 = .ok (.iconst 1, 1) := by decide +kernel
theorem dX12_levelForm_116 : decode cX12_levelForm 116 = .ok (.ireturn, 1) := by decide +kernel
theorem dX12_factorForm_0 : decode cX12_factorForm 0 = .ok (.aload_n 0, 1) := by decide +kernel
theorem dX12_factorForm_1 : decode cX12_factorForm 1 = .ok (.getfield 17, 3) := by decide +kernel
theorem dX12_factorForm_4 : decode cX12_factorForm 4 = .ok (.aload_n 0, 1) := by decide +kernel
theorem dX12_factorForm_5 : decode cX12_factorForm 5 = .ok (.getfield 169, 3) := by decide +kernel
theorem dX12_factorForm_8 : decode cX12_factorForm 8 = .ok (.iaload, 1) := by decide +kernel
theorem dX12_factorForm_9 : decode cX12_factorForm 9 = .ok (.iconst 2, 1) := by decide +kernel
theorem dX12_factorForm_10 : decode cX12_factorForm 10 = .ok (.if_icmp .ne 8, 3) := by decide +kernel
theorem dX12_factorForm_13 : decode cX12_factorForm 13 = .ok (.aload_n 0, 1) := by decide +kernel
theorem dX12_factorForm_14 : decode cX12_factorForm 14 = .ok (.invokevirtual 249, 3) := by decide +kernel
theorem dX12_factorForm_17 : decode cX12_factorForm 17 = .ok (.ireturn, 1) := by decide +kernel
theorem dX12_factorForm_18 : decode cX12_factorForm 18 = .ok (.aload_n 0, 1) := by decide +kernel
theorem dX12_factorForm_19 : decode cX12_factorForm 19 = .ok (.aload_n 0, 1) := by decide +kernel
theorem dX12_factorForm_20 : decode cX12_factorForm 20 = .ok (.getfield 169, 3) := by decide +kernel
theorem dX12_factorForm_23 : decode cX12_factorForm 23 = .ok (.invokevirtual 176, 3) := by decide +kernel
theorem dX12_factorForm_26 : decode cX12_factorForm 26 = .ok (.ifCond .eq 48, 3) := by decide +kernel
theorem dX12_factorForm_29 : decode cX12_factorForm 29 = .ok (.aload_n 0, 1) := by decide +kernel
theorem dX12_factorForm_30 : decode cX12_factorForm 30 = .ok (.invokevirtual 249, 3) := by decide +kernel
theorem dX12_factorForm_33 : decode cX12_factorForm 33 = .ok (.ifCond .eq 39, 3) := by decide +kernel
theorem dX12_factorForm_36 : decode cX12_factorForm 36 = .ok (.aload_n 0, 1) := by decide +kernel
theorem dX12_factorForm_37 : decode cX12_factorForm 37 = .ok (.ldc 193, 2) := by decide +kernel
theorem dX12_factorForm_39 : decode cX12_factorForm 39 = .ok (.invokevirtual 172, 3) := by decide +kernel
theorem dX12_factorForm_42 : decode cX12_factorForm 42 = .ok (.ifCond .eq 26, 3) := by decide +kernel
theorem dX12_factorForm_45 : decode cX12_factorForm 45 = .ok (.iload_n 1, 1) := by decide +kernel
theorem dX12_factorForm_46 : decode cX12_factorForm 46 = .ok (.bipush 8, 2) := by decide +kernel
theorem dX12_factorForm_48 : decode cX12_factorForm 48 = .ok (.if_icmp .ge 24, 3) := by decide +kernel
theorem dX12_factorForm_51 : decode cX12_factorForm 51 = .ok (.aload_n 0, 1) := by decide +kernel
theorem dX12_factorForm_52 : decode cX12_factorForm 52 = .ok (.invokevirtual 249, 3) := by decide +kernel
theorem dX12_factorForm_55 : decode cX12_factorForm 55 = .ok (.ifCond .eq 17, 3) := by decide +kernel
theorem dX12_factorForm_58 : decode cX12_factorForm 58 = .ok (.aload_n 0, 1) := by decide +kernel
theorem dX12_factorForm_59 : decode cX12_factorForm 59 = .ok (.iload_n 1, 1) := by decide +kernel
theorem dX12_factorForm_60 : decode cX12_factorForm 60 = .ok (.iconst 1, 1) := by decide +kernel
theorem dX12_factorForm_61 : decode cX12_factorForm 61 = .ok (.iadd, 1) := by decide +kernel
theorem dX12_factorForm_62 : decode cX12_factorForm 62 = .ok (.invokevirtual 267, 3) := by decide +kernel
theorem dX12_factorForm_65 : decode cX12_factorForm 65 = .ok (.ifCond .eq 7, 3) := by decide +kernel
theorem dX12_factorForm_68 : decode cX12_factorForm 68 = .ok (.iconst 1, 1) := by decide +kernel
theorem dX12_factorForm_69 : decode cX12_factorForm 69 = .ok (.goto 4, 3) := by decide +kernel
theorem dX12_factorForm_72 : decode cX12_factorForm 72 = .ok (.iconst 0, 1) := by decide +kernel
theorem dX12_factorForm_73 : decode cX12_factorForm 73 = .ok (.ireturn, 1) := by decide +kernel
theorem dX12_factorForm_74 : decode cX12_factorForm 74 = .ok (.aload_n 0, 1) := by decide +kernel
theorem dX12_factorForm_75 : decode cX12_factorForm 75 = .ok (.ldc 179, 2) := by decide +kernel
theorem dX12_factorForm_77 : decode cX12_factorForm 77 = .ok (.invokevirtual 172, 3) := by decide +kernel
theorem dX12_factorForm_80 : decode cX12_factorForm 80 = .ok (.ifCond .ne 13, 3) := by decide +kernel
theorem dX12_factorForm_83 : decode cX12_factorForm 83 = .ok (.aload_n 0, 1) := by decide +kernel
theorem dX12_factorForm_84 : decode cX12_factorForm 84 = .ok (.ldc_w 270, 3) := by decide +kernel
theorem dX12_factorForm_87 : decode cX12_factorForm 87 = .ok (.invokevirtual 172, 3) := by decide +kernel
theorem dX12_factorForm_90 : decode cX12_factorForm 90 = .ok (.ifCond .eq 7, 3) := by decide +kernel
theorem dX12_factorForm_93 : decode cX12_factorForm 93 = .ok (.iconst 1, 1) := by decide +kernel
theorem dX12_factorForm_94 : decode cX12_factorForm 94 = .ok (.goto 4, 3) := by decide +kernel
theorem dX12_factorForm_97 : decode cX12_factorForm 97 = .ok (.iconst 0, 1) := by decide +kernel
theorem dX12_factorForm_98 : decode cX12_factorForm 98 = .ok (.istore_n 2, 1) := by decide +kernel
theorem dX12_factorForm_99 : decode cX12_factorForm 99 = .ok (.iload_n 2, 1) := by decide +kernel
theorem dX12_factorForm_100 : decode cX12_factorForm 100 = .ok (.ifCond .ne 12, 3) := by decide +kernel
theorem dX12_factorForm_103 : decode cX12_factorForm 103 = .ok (.aload_n 0, 1) := by decide +kernel
theorem dX12_factorForm_104 : decode cX12_factorForm 104 = .ok (.ldc 193, 2) := by decide +kernel
theorem dX12_factorForm_106 : decode cX12_factorForm 106 = .ok (.invokevirtual 172, 3) := by decide +kernel
theorem dX12_factorForm_109 : decode cX12_factorForm 109 = .ok (.ifCond .eq 16, 3) := by decide +kernel
theorem dX12_factorForm_112 : decode cX12_factorForm 112 = .ok (.iload_n 1, 1) := by decide +kernel
theorem dX12_factorForm_113 : decode cX12_factorForm 113 = .ok (.bipush 8, 2) := by decide +kernel
theorem dX12_factorForm_115 : decode cX12_factorForm 115 = .ok (.if_icmp .eq 10, 3) := by decide +kernel
theorem dX12_factorForm_118 : decode cX12_factorForm 118 = .ok (.aload_n 0, 1) := by decide +kernel
theorem dX12_factorForm_119 : decode cX12_factorForm 119 = .ok (.invokevirtual 249, 3) := by decide +kernel
theorem dX12_factorForm_122 : decode cX12_factorForm 122 = .ok (.ifCond .ne 5, 3) := by decide +kernel
theorem dX12_factorForm_125 : decode cX12_factorForm 125 = .ok (.iconst 0, 1) := by decide +kernel
theorem dX12_factorForm_126 : decode cX12_factorForm 126 = .ok (.ireturn, 1) := by decide +kernel
theorem dX12_factorForm_127 : decode cX12_factorForm 127 = .ok (.iload_n 2, 1) := by decide +kernel
theorem dX12_factorForm_128 : decode cX12_factorForm 128 = .ok (.ifCond .eq 13, 3) := by decide +kernel
theorem dX12_factorForm_131 : decode cX12_factorForm 131 = .ok (.aload_n 0, 1) := by decide +kernel
theorem dX12_factorForm_132 : decode cX12_factorForm 132 = .ok (.iload_n 1, 1) := by decide +kernel
theorem dX12_factorForm_133 : decode cX12_factorForm 133 = .ok (.iconst 1, 1) := by decide +kernel
theorem dX12_factorForm_134 : decode cX12_factorForm 134 = .ok (.iadd, 1) := by decide +kernel
theorem dX12_factorForm_135 : decode cX12_factorForm 135 = .ok (.invokevirtual 264, 3) := by decide +kernel
theorem dX12_factorForm_138 : decode cX12_factorForm 138 = .ok (.goto 27, 3) := by decide +kernel
theorem dX12_factorForm_141 : decode cX12_factorForm 141 = .ok (.aload_n 0, 1) := by decide +kernel
theorem dX12_factorForm_142 : decode cX12_factorForm 142 = .ok (.iload_n 1, 1) := by decide +kernel
theorem dX12_factorForm_143 : decode cX12_factorForm 143 = .ok (.iconst 1, 1) := by decide +kernel
theorem dX12_factorForm_144 : decode cX12_factorForm 144 = .ok (.iadd, 1) := by decide +kernel
theorem dX12_factorForm_145 : decode cX12_factorForm 145 = .ok (.invokevirtual 246, 3) := by decide +kernel
theorem dX12_factorForm_148 : decode cX12_factorForm 148 = .ok (.ifCond .eq 16, 3) := by decide +kernel
theorem dX12_factorForm_151 : decode cX12_factorForm 151 = .ok (.aload_n 0, 1) := by decide +kernel
theorem dX12_factorForm_152 : decode cX12_factorForm 152 = .ok (.ldc 198, 2) := by decide +kernel
theorem dX12_factorForm_154 : decode cX12_factorForm 154 = .ok (.invokevirtual 260, 3) := by decide +kernel
theorem dX12_factorForm_157 : decode cX12_factorForm 157 = .ok (.ifCond .eq 7, 3) := by decide +kernel
theorem dX12_factorForm_160 : decode cX12_factorForm 160 = .ok (.iconst 1, 1) := by decide +kernel
theorem dX12_factorForm_161 : decode cX12_factorForm 161 = .ok (.goto 4, 3) := by decide +kernel
theorem dX12_factorForm_164 : decode cX12_factorForm 164 = .ok (.iconst 0, 1) := by decide +kernel
theorem dX12_factorForm_165 : decode cX12_factorForm 165 = .ok (.ireturn, 1) := by decide +kernel
theorem dX12_argumentsForm_0 : decode cX12_argumentsForm 0 = .ok (.aload_n 0, 1) := by decide +kernel
theorem dX12_argumentsForm_1 : decode cX12_argumentsForm 1 = .ok (.iload_n 1, 1) := by decide +kernel
theorem dX12_argumentsForm_2 : decode cX12_argumentsForm 2 = .ok (.invokevirtual 246, 3) := by decide +kernel
theorem dX12_argumentsForm_5 : decode cX12_argumentsForm 5 = .ok (.ifCond .ne 5, 3) := by decide +kernel
theorem dX12_argumentsForm_8 : decode cX12_argumentsForm 8 = .ok (.iconst 0, 1) := by decide +kernel
theorem dX12_argumentsForm_9 : decode cX12_argumentsForm 9 = .ok (.ireturn, 1) := by decide +kernel
theorem dX12_argumentsForm_10 : decode cX12_argumentsForm 10 = .ok (.aload_n 0, 1) := by decide +kernel
theorem dX12_argumentsForm_11 : decode cX12_argumentsForm 11 = .ok (.ldc 198, 2) := by decide +kernel
theorem dX12_argumentsForm_13 : decode cX12_argumentsForm 13 = .ok (.invokevirtual 260, 3) := by decide +kernel
theorem dX12_argumentsForm_16 : decode cX12_argumentsForm 16 = .ok (.ifCond .eq 5, 3) := by decide +kernel
theorem dX12_argumentsForm_19 : decode cX12_argumentsForm 19 = .ok (.iconst 1, 1) := by decide +kernel
theorem dX12_argumentsForm_20 : decode cX12_argumentsForm 20 = .ok (.ireturn, 1) := by decide +kernel
theorem dX12_argumentsForm_21 : decode cX12_argumentsForm 21 = .ok (.aload_n 0, 1) := by decide +kernel
theorem dX12_argumentsForm_22 : decode cX12_argumentsForm 22 = .ok (.ldc 223, 2) := by decide +kernel
theorem dX12_argumentsForm_24 : decode cX12_argumentsForm 24 = .ok (.invokevirtual 260, 3) := by decide +kernel
theorem dX12_argumentsForm_27 : decode cX12_argumentsForm 27 = .ok (.ifCond .ne (-27), 3) := by decide +kernel
theorem dX12_argumentsForm_30 : decode cX12_argumentsForm 30 = .ok (.iconst 0, 1) := by decide +kernel
theorem dX12_argumentsForm_31 : decode cX12_argumentsForm 31 = .ok (.ireturn, 1) := by decide +kernel
theorem dX12_markPlaces_0 : decode cX12_markPlaces 0 = .ok (.iconst 0, 1) := by decide +kernel
theorem dX12_markPlaces_1 : decode cX12_markPlaces 1 = .ok (.istore_n 3, 1) := by decide +kernel
theorem dX12_markPlaces_2 : decode cX12_markPlaces 2 = .ok (.iload_n 1, 1) := by decide +kernel
theorem dX12_markPlaces_3 : decode cX12_markPlaces 3 = .ok (.istore 4, 2) := by decide +kernel
theorem dX12_markPlaces_5 : decode cX12_markPlaces 5 = .ok (.iload 4, 2) := by decide +kernel
theorem dX12_markPlaces_7 : decode cX12_markPlaces 7 = .ok (.iload_n 2, 1) := by decide +kernel
theorem dX12_markPlaces_8 : decode cX12_markPlaces 8 = .ok (.if_icmp .ge 170, 3) := by decide +kernel
theorem dX12_markPlaces_11 : decode cX12_markPlaces 11 = .ok (.aload_n 0, 1) := by decide +kernel
theorem dX12_markPlaces_12 : decode cX12_markPlaces 12 = .ok (.getfield 26, 3) := by decide +kernel
theorem dX12_markPlaces_15 : decode cX12_markPlaces 15 = .ok (.iload 4, 2) := by decide +kernel
theorem dX12_markPlaces_17 : decode cX12_markPlaces 17 = .ok (.iconst (-1), 1) := by decide +kernel
theorem dX12_markPlaces_18 : decode cX12_markPlaces 18 = .ok (.iastore, 1) := by decide +kernel
theorem dX12_markPlaces_19 : decode cX12_markPlaces 19 = .ok (.iload 4, 2) := by decide +kernel
theorem dX12_markPlaces_21 : decode cX12_markPlaces 21 = .ok (.iload_n 1, 1) := by decide +kernel
theorem dX12_markPlaces_22 : decode cX12_markPlaces 22 = .ok (.if_icmp .le 44, 3) := by decide +kernel
theorem dX12_markPlaces_25 : decode cX12_markPlaces 25 = .ok (.aload_n 0, 1) := by decide +kernel
theorem dX12_markPlaces_26 : decode cX12_markPlaces 26 = .ok (.getfield 17, 3) := by decide +kernel
theorem dX12_markPlaces_29 : decode cX12_markPlaces 29 = .ok (.iload 4, 2) := by decide +kernel
theorem dX12_markPlaces_31 : decode cX12_markPlaces 31 = .ok (.iconst 1, 1) := by decide +kernel
theorem dX12_markPlaces_32 : decode cX12_markPlaces 32 = .ok (.isub, 1) := by decide +kernel
theorem dX12_markPlaces_33 : decode cX12_markPlaces 33 = .ok (.iaload, 1) := by decide +kernel
theorem dX12_markPlaces_34 : decode cX12_markPlaces 34 = .ok (.iconst 2, 1) := by decide +kernel
theorem dX12_markPlaces_35 : decode cX12_markPlaces 35 = .ok (.if_icmp .eq 27, 3) := by decide +kernel
theorem dX12_markPlaces_38 : decode cX12_markPlaces 38 = .ok (.aload_n 0, 1) := by decide +kernel
theorem dX12_markPlaces_39 : decode cX12_markPlaces 39 = .ok (.iload 4, 2) := by decide +kernel
theorem dX12_markPlaces_41 : decode cX12_markPlaces 41 = .ok (.iconst 1, 1) := by decide +kernel
theorem dX12_markPlaces_42 : decode cX12_markPlaces 42 = .ok (.isub, 1) := by decide +kernel
theorem dX12_markPlaces_43 : decode cX12_markPlaces 43 = .ok (.invokevirtual 176, 3) := by decide +kernel
theorem dX12_markPlaces_46 : decode cX12_markPlaces 46 = .ok (.ifCond .ne 16, 3) := by decide +kernel
theorem dX12_markPlaces_49 : decode cX12_markPlaces 49 = .ok (.aload_n 0, 1) := by decide +kernel
theorem dX12_markPlaces_50 : decode cX12_markPlaces 50 = .ok (.iload 4, 2) := by decide +kernel
theorem dX12_markPlaces_52 : decode cX12_markPlaces 52 = .ok (.iconst 1, 1) := by decide +kernel
theorem dX12_markPlaces_53 : decode cX12_markPlaces 53 = .ok (.isub, 1) := by decide +kernel
theorem dX12_markPlaces_54 : decode cX12_markPlaces 54 = .ok (.ldc 198, 2) := by decide +kernel
theorem dX12_markPlaces_56 : decode cX12_markPlaces 56 = .ok (.invokevirtual 160, 3) := by decide +kernel
theorem dX12_markPlaces_59 : decode cX12_markPlaces 59 = .ok (.ifCond .eq 7, 3) := by decide +kernel
theorem dX12_markPlaces_62 : decode cX12_markPlaces 62 = .ok (.iconst 1, 1) := by decide +kernel
theorem dX12_markPlaces_63 : decode cX12_markPlaces 63 = .ok (.goto 4, 3) := by decide +kernel
theorem dX12_markPlaces_66 : decode cX12_markPlaces 66 = .ok (.iconst 0, 1) := by decide +kernel
theorem dX12_markPlaces_67 : decode cX12_markPlaces 67 = .ok (.istore 5, 2) := by decide +kernel
theorem dX12_markPlaces_69 : decode cX12_markPlaces 69 = .ok (.aload_n 0, 1) := by decide +kernel
theorem dX12_markPlaces_70 : decode cX12_markPlaces 70 = .ok (.getfield 17, 3) := by decide +kernel
theorem dX12_markPlaces_73 : decode cX12_markPlaces 73 = .ok (.iload 4, 2) := by decide +kernel
theorem dX12_markPlaces_75 : decode cX12_markPlaces 75 = .ok (.iaload, 1) := by decide +kernel
theorem dX12_markPlaces_76 : decode cX12_markPlaces 76 = .ok (.iconst 2, 1) := by decide +kernel
theorem dX12_markPlaces_77 : decode cX12_markPlaces 77 = .ok (.if_icmp .eq 43, 3) := by decide +kernel
theorem dX12_markPlaces_80 : decode cX12_markPlaces 80 = .ok (.aload_n 0, 1) := by decide +kernel
theorem dX12_markPlaces_81 : decode cX12_markPlaces 81 = .ok (.iload 4, 2) := by decide +kernel
theorem dX12_markPlaces_83 : decode cX12_markPlaces 83 = .ok (.ldc 252, 2) := by decide +kernel
theorem dX12_markPlaces_85 : decode cX12_markPlaces 85 = .ok (.invokevirtual 160, 3) := by decide +kernel
theorem dX12_markPlaces_88 : decode cX12_markPlaces 88 = .ok (.ifCond .ne 32, 3) := by decide +kernel
theorem dX12_markPlaces_91 : decode cX12_markPlaces 91 = .ok (.aload_n 0, 1) := by decide +kernel
theorem dX12_markPlaces_92 : decode cX12_markPlaces 92 = .ok (.iload 4, 2) := by decide +kernel
theorem dX12_markPlaces_94 : decode cX12_markPlaces 94 = .ok (.iconst 0, 1) := by decide +kernel
theorem dX12_markPlaces_95 : decode cX12_markPlaces 95 = .ok (.bipush 13, 2) := by decide +kernel
theorem dX12_markPlaces_97 : decode cX12_markPlaces 97 = .ok (.invokevirtual 239, 3) := by decide +kernel
theorem dX12_markPlaces_100 : decode cX12_markPlaces 100 = .ok (.iconst (-1), 1) := by decide +kernel
theorem dX12_markPlaces_101 : decode cX12_markPlaces 101 = .ok (.if_icmp .eq 23, 3) := by decide +kernel
theorem dX12_markPlaces_104 : decode cX12_markPlaces 104 = .ok (.aload_n 0, 1) := by decide +kernel
theorem dX12_markPlaces_105 : decode cX12_markPlaces 105 = .ok (.iload 4, 2) := by decide +kernel
theorem dX12_markPlaces_107 : decode cX12_markPlaces 107 = .ok (.ldc 179, 2) := by decide +kernel
theorem dX12_markPlaces_109 : decode cX12_markPlaces 109 = .ok (.invokevirtual 160, 3) := by decide +kernel
theorem dX12_markPlaces_112 : decode cX12_markPlaces 112 = .ok (.ifCond .eq 8, 3) := by decide +kernel
theorem dX12_markPlaces_115 : decode cX12_markPlaces 115 = .ok (.iload 5, 2) := by decide +kernel
theorem dX12_markPlaces_117 : decode cX12_markPlaces 117 = .ok (.ifCond .eq 7, 3) := by decide +kernel
theorem dX12_markPlaces_120 : decode cX12_markPlaces 120 = .ok (.iconst 1, 1) := by decide +kernel
theorem dX12_markPlaces_121 : decode cX12_markPlaces 121 = .ok (.goto 4, 3) := by decide +kernel
theorem dX12_markPlaces_124 : decode cX12_markPlaces 124 = .ok (.iconst 0, 1) := by decide +kernel
theorem dX12_markPlaces_125 : decode cX12_markPlaces 125 = .ok (.istore 6, 2) := by decide +kernel
theorem dX12_markPlaces_127 : decode cX12_markPlaces 127 = .ok (.iload 6, 2) := by decide +kernel
theorem dX12_markPlaces_129 : decode cX12_markPlaces 129 = .ok (.ifCond .eq 14, 3) := by decide +kernel
theorem dX12_markPlaces_132 : decode cX12_markPlaces 132 = .ok (.aload_n 0, 1) := by decide +kernel
theorem dX12_markPlaces_133 : decode cX12_markPlaces 133 = .ok (.getfield 26, 3) := by decide +kernel
theorem dX12_markPlaces_136 : decode cX12_markPlaces 136 = .ok (.iload 4, 2) := by decide +kernel
theorem dX12_markPlaces_138 : decode cX12_markPlaces 138 = .ok (.iload_n 3, 1) := by decide +kernel
theorem dX12_markPlaces_139 : decode cX12_markPlaces 139 = .ok (.iinc 3 1, 3) := by decide +kernel
theorem dX12_markPlaces_142 : decode cX12_markPlaces 142 = .ok (.iastore, 1) := by decide +kernel
theorem dX12_markPlaces_143 : decode cX12_markPlaces 143 = .ok (.aload_n 0, 1) := by decide +kernel
theorem dX12_markPlaces_144 : decode cX12_markPlaces 144 = .ok (.iload 4, 2) := by decide +kernel
theorem dX12_markPlaces_146 : decode cX12_markPlaces 146 = .ok (.ldc 252, 2) := by decide +kernel
theorem dX12_markPlaces_148 : decode cX12_markPlaces 148 = .ok (.invokevirtual 160, 3) := by decide +kernel
theorem dX12_markPlaces_151 : decode cX12_markPlaces 151 = .ok (.ifCond .eq 21, 3) := by decide +kernel
theorem dX12_markPlaces_154 : decode cX12_markPlaces 154 = .ok (.aload_n 0, 1) := by decide +kernel
theorem dX12_markPlaces_155 : decode cX12_markPlaces 155 = .ok (.getfield 29, 3) := by decide +kernel
theorem dX12_markPlaces_158 : decode cX12_markPlaces 158 = .ok (.iload 4, 2) := by decide +kernel
theorem dX12_markPlaces_160 : decode cX12_markPlaces 160 = .ok (.aload_n 0, 1) := by decide +kernel
theorem dX12_markPlaces_161 : decode cX12_markPlaces 161 = .ok (.dup, 1) := by decide +kernel
theorem dX12_markPlaces_162 : decode cX12_markPlaces 162 = .ok (.getfield 272, 3) := by decide +kernel
theorem dX12_markPlaces_165 : decode cX12_markPlaces 165 = .ok (.dup_x1, 1) := by decide +kernel
theorem dX12_markPlaces_166 : decode cX12_markPlaces 166 = .ok (.iconst 1, 1) := by decide +kernel
theorem dX12_markPlaces_167 : decode cX12_markPlaces 167 = .ok (.iadd, 1) := by decide +kernel
theorem dX12_markPlaces_168 : decode cX12_markPlaces 168 = .ok (.putfield 272, 3) := by decide +kernel
theorem dX12_markPlaces_171 : decode cX12_markPlaces 171 = .ok (.iastore, 1) := by decide +kernel
theorem dX12_markPlaces_172 : decode cX12_markPlaces 172 = .ok (.iinc 4 1, 3) := by decide +kernel
theorem dX12_markPlaces_175 : decode cX12_markPlaces 175 = .ok (.goto (-170), 3) := by decide +kernel
theorem dX12_markPlaces_178 : decode cX12_markPlaces 178 = .ok (.aload_n 0, 1) := by decide +kernel
theorem dX12_markPlaces_179 : decode cX12_markPlaces 179 = .ok (.getfield 69, 3) := by decide +kernel
theorem dX12_markPlaces_182 : decode cX12_markPlaces 182 = .ok (.aload_n 0, 1) := by decide +kernel
theorem dX12_markPlaces_183 : decode cX12_markPlaces 183 = .ok (.getfield 275, 3) := by decide +kernel
theorem dX12_markPlaces_186 : decode cX12_markPlaces 186 = .ok (.iload_n 3, 1) := by decide +kernel
theorem dX12_markPlaces_187 : decode cX12_markPlaces 187 = .ok (.iastore, 1) := by decide +kernel
theorem dX12_markPlaces_188 : decode cX12_markPlaces 188 = .ok (.return_, 1) := by decide +kernel
theorem dX12_wrong_0 : decode cX12_wrong 0 = .ok (.aload_n 0, 1) := by decide +kernel
theorem dX12_wrong_1 : decode cX12_wrong 1 = .ok (.aload_n 0, 1) := by decide +kernel
theorem dX12_wrong_2 : decode cX12_wrong 2 = .ok (.getfield 20, 3) := by decide +kernel
theorem dX12_wrong_5 : decode cX12_wrong 5 = .ok (.iload_n 2, 1) := by decide +kernel
theorem dX12_wrong_6 : decode cX12_wrong 6 = .ok (.iaload, 1) := by decide +kernel
theorem dX12_wrong_7 : decode cX12_wrong 7 = .ok (.putfield 13, 3) := by decide +kernel
theorem dX12_wrong_10 : decode cX12_wrong 10 = .ok (.iload_n 1, 1) := by decide +kernel
theorem dX12_wrong_11 : decode cX12_wrong 11 = .ok (.ireturn, 1) := by decide +kernel
theorem dX12_find_0 : decode cX12_find 0 = .ok (.iconst (-1), 1) := by decide +kernel
theorem dX12_find_1 : decode cX12_find 1 = .ok (.istore 5, 2) := by decide +kernel
theorem dX12_find_3 : decode cX12_find 3 = .ok (.iconst 0, 1) := by decide +kernel
theorem dX12_find_4 : decode cX12_find 4 = .ok (.istore 6, 2) := by decide +kernel
theorem dX12_find_6 : decode cX12_find 6 = .ok (.iload 6, 2) := by decide +kernel
theorem dX12_find_8 : decode cX12_find 8 = .ok (.iload_n 2, 1) := by decide +kernel
theorem dX12_find_9 : decode cX12_find 9 = .ok (.if_icmp .ge 24, 3) := by decide +kernel
theorem dX12_find_12 : decode cX12_find 12 = .ok (.aload_n 0, 1) := by decide +kernel
theorem dX12_find_13 : decode cX12_find 13 = .ok (.iload_n 1, 1) := by decide +kernel
theorem dX12_find_14 : decode cX12_find 14 = .ok (.iload 6, 2) := by decide +kernel
theorem dX12_find_16 : decode cX12_find 16 = .ok (.iadd, 1) := by decide +kernel
theorem dX12_find_17 : decode cX12_find 17 = .ok (.laload, 1) := by decide +kernel
theorem dX12_find_18 : decode cX12_find 18 = .ok (.lload_n 3, 1) := by decide +kernel
theorem dX12_find_19 : decode cX12_find 19 = .ok (.lcmp, 1) := by decide +kernel
theorem dX12_find_20 : decode cX12_find 20 = .ok (.ifCond .ne 7, 3) := by decide +kernel
theorem dX12_find_23 : decode cX12_find 23 = .ok (.iload 6, 2) := by decide +kernel
theorem dX12_find_25 : decode cX12_find 25 = .ok (.istore 5, 2) := by decide +kernel
theorem dX12_find_27 : decode cX12_find 27 = .ok (.iinc 6 1, 3) := by decide +kernel
theorem dX12_find_30 : decode cX12_find 30 = .ok (.goto (-24), 3) := by decide +kernel
theorem dX12_find_33 : decode cX12_find 33 = .ok (.iload 5, 2) := by decide +kernel
theorem dX12_find_35 : decode cX12_find 35 = .ok (.ireturn, 1) := by decide +kernel
theorem dX12_isTaken_0 : decode cX12_isTaken 0 = .ok (.aload_n 0, 1) := by decide +kernel
theorem dX12_isTaken_1 : decode cX12_isTaken 1 = .ok (.getfield 50, 3) := by decide +kernel
theorem dX12_isTaken_4 : decode cX12_isTaken 4 = .ok (.iconst 0, 1) := by decide +kernel
theorem dX12_isTaken_5 : decode cX12_isTaken 5 = .ok (.aload_n 0, 1) := by decide +kernel
theorem dX12_isTaken_6 : decode cX12_isTaken 6 = .ok (.getfield 275, 3) := by decide +kernel
theorem dX12_isTaken_9 : decode cX12_isTaken 9 = .ok (.lload_n 1, 1) := by decide +kernel
theorem dX12_isTaken_10 : decode cX12_isTaken 10 = .ok (.invokestatic 278, 3) := by decide +kernel
theorem dX12_isTaken_13 : decode cX12_isTaken 13 = .ok (.iconst (-1), 1) := by decide +kernel
theorem dX12_isTaken_14 : decode cX12_isTaken 14 = .ok (.if_icmp .ne 20, 3) := by decide +kernel
theorem dX12_isTaken_17 : decode cX12_isTaken 17 = .ok (.aload_n 0, 1) := by decide +kernel
theorem dX12_isTaken_18 : decode cX12_isTaken 18 = .ok (.getfield 75, 3) := by decide +kernel
theorem dX12_isTaken_21 : decode cX12_isTaken 21 = .ok (.iconst 0, 1) := by decide +kernel
theorem dX12_isTaken_22 : decode cX12_isTaken 22 = .ok (.aload_n 0, 1) := by decide +kernel
theorem dX12_isTaken_23 : decode cX12_isTaken 23 = .ok (.getfield 282, 3) := by decide +kernel
theorem dX12_isTaken_26 : decode cX12_isTaken 26 = .ok (.lload_n 1, 1) := by decide +kernel
theorem dX12_isTaken_27 : decode cX12_isTaken 27 = .ok (.invokestatic 278, 3) := by decide +kernel
theorem dX12_isTaken_30 : decode cX12_isTaken 30 = .ok (.iconst (-1), 1) := by decide +kernel
theorem dX12_isTaken_31 : decode cX12_isTaken 31 = .ok (.if_icmp .eq 7, 3) := by decide +kernel
theorem dX12_isTaken_34 : decode cX12_isTaken 34 = .ok (.iconst 1, 1) := by decide +kernel
theorem dX12_isTaken_35 : decode cX12_isTaken 35 = .ok (.goto 4, 3) := by decide +kernel
theorem dX12_isTaken_38 : decode cX12_isTaken 38 = .ok (.iconst 0, 1) := by decide +kernel
theorem dX12_isTaken_39 : decode cX12_isTaken 39 = .ok (.ireturn, 1) := by decide +kernel
theorem dX12_whole_0 : decode cX12_whole 0 = .ok (.aload_n 0, 1) := by decide +kernel
theorem dX12_whole_1 : decode cX12_whole 1 = .ok (.ldc 179, 2) := by decide +kernel
theorem dX12_whole_3 : decode cX12_whole 3 = .ok (.invokevirtual 181, 3) := by decide +kernel
theorem dX12_whole_6 : decode cX12_whole 6 = .ok (.istore_n 1, 1) := by decide +kernel
theorem dX12_whole_7 : decode cX12_whole 7 = .ok (.iload_n 1, 1) := by decide +kernel
theorem dX12_whole_8 : decode cX12_whole 8 = .ok (.ifCond .eq 15, 3) := by decide +kernel
theorem dX12_whole_11 : decode cX12_whole 11 = .ok (.aload_n 0, 1) := by decide +kernel
theorem dX12_whole_12 : decode cX12_whole 12 = .ok (.aload_n 0, 1) := by decide +kernel
theorem dX12_whole_13 : decode cX12_whole 13 = .ok (.getfield 169, 3) := by decide +kernel
theorem dX12_whole_16 : decode cX12_whole 16 = .ok (.invokevirtual 285, 3) := by decide +kernel
theorem dX12_whole_19 : decode cX12_whole 19 = .ok (.ineg, 1) := by decide +kernel
theorem dX12_whole_20 : decode cX12_whole 20 = .ok (.goto 11, 3) := by decide +kernel
theorem dX12_whole_23 : decode cX12_whole 23 = .ok (.aload_n 0, 1) := by decide +kernel
theorem dX12_whole_24 : decode cX12_whole 24 = .ok (.aload_n 0, 1) := by decide +kernel
theorem dX12_whole_25 : decode cX12_whole 25 = .ok (.getfield 169, 3) := by decide +kernel
theorem dX12_whole_28 : decode cX12_whole 28 = .ok (.invokevirtual 285, 3) := by decide +kernel
theorem dX12_whole_31 : decode cX12_whole 31 = .ok (.ireturn, 1) := by decide +kernel
theorem dX12_meaning_0 : decode cX12_meaning 0 = .ok (.aload_n 0, 1) := by decide +kernel
theorem dX12_meaning_1 : decode cX12_meaning 1 = .ok (.getfield 17, 3) := by decide +kernel
theorem dX12_meaning_4 : decode cX12_meaning 4 = .ok (.aload_n 0, 1) := by decide +kernel
theorem dX12_meaning_5 : decode cX12_meaning 5 = .ok (.getfield 169, 3) := by decide +kernel
theorem dX12_meaning_8 : decode cX12_meaning 8 = .ok (.iaload, 1) := by decide +kernel
theorem dX12_meaning_9 : decode cX12_meaning 9 = .ok (.ifCond .eq 61, 3) := by decide +kernel
theorem dX12_meaning_12 : decode cX12_meaning 12 = .ok (.aload_n 0, 1) := by decide +kernel
theorem dX12_meaning_13 : decode cX12_meaning 13 = .ok (.getfield 169, 3) := by decide +kernel
theorem dX12_meaning_16 : decode cX12_meaning 16 = .ok (.istore_n 1, 1) := by decide +kernel
theorem dX12_meaning_17 : decode cX12_meaning 17 = .ok (.aload_n 0, 1) := by decide +kernel
theorem dX12_meaning_18 : decode cX12_meaning 18 = .ok (.dup, 1) := by decide +kernel
theorem dX12_meaning_19 : decode cX12_meaning 19 = .ok (.getfield 169, 3) := by decide +kernel
theorem dX12_meaning_22 : decode cX12_meaning 22 = .ok (.iconst 1, 1) := by decide +kernel
theorem dX12_meaning_23 : decode cX12_meaning 23 = .ok (.iadd, 1) := by decide +kernel
theorem dX12_meaning_24 : decode cX12_meaning 24 = .ok (.putfield 169, 3) := by decide +kernel
theorem dX12_meaning_27 : decode cX12_meaning 27 = .ok (.aload_n 0, 1) := by decide +kernel
theorem dX12_meaning_28 : decode cX12_meaning 28 = .ok (.iload_n 1, 1) := by decide +kernel
theorem dX12_meaning_29 : decode cX12_meaning 29 = .ok (.ldc 188, 2) := by decide +kernel
theorem dX12_meaning_31 : decode cX12_meaning 31 = .ok (.invokevirtual 160, 3) := by decide +kernel
theorem dX12_meaning_34 : decode cX12_meaning 34 = .ok (.ifCond .eq 11, 3) := by decide +kernel
theorem dX12_meaning_37 : decode cX12_meaning 37 = .ok (.aload_n 0, 1) := by decide +kernel
theorem dX12_meaning_38 : decode cX12_meaning 38 = .ok (.iload_n 1, 1) := by decide +kernel
theorem dX12_meaning_39 : decode cX12_meaning 39 = .ok (.invokevirtual 288, 3) := by decide +kernel
theorem dX12_meaning_42 : decode cX12_meaning 42 = .ok (.goto 8, 3) := by decide +kernel
theorem dX12_meaning_45 : decode cX12_meaning 45 = .ok (.aload_n 0, 1) := by decide +kernel
theorem dX12_meaning_46 : decode cX12_meaning 46 = .ok (.iload_n 1, 1) := by decide +kernel
theorem dX12_meaning_47 : decode cX12_meaning 47 = .ok (.invokevirtual 290, 3) := by decide +kernel
theorem dX12_meaning_50 : decode cX12_meaning 50 = .ok (.istore_n 2, 1) := by decide +kernel
theorem dX12_meaning_51 : decode cX12_meaning 51 = .ok (.iload_n 2, 1) := by decide +kernel
theorem dX12_meaning_52 : decode cX12_meaning 52 = .ok (.ifCond .eq 5, 3) := by decide +kernel
theorem dX12_meaning_55 : decode cX12_meaning 55 = .ok (.iload_n 2, 1) := by decide +kernel
theorem dX12_meaning_56 : decode cX12_meaning 56 = .ok (.ireturn, 1) := by decide +kernel
theorem dX12_meaning_57 : decode cX12_meaning 57 = .ok (.aload_n 0, 1) := by decide +kernel
theorem dX12_meaning_58 : decode cX12_meaning 58 = .ok (.dup, 1) := by decide +kernel
theorem dX12_meaning_59 : decode cX12_meaning 59 = .ok (.getfield 169, 3) := by decide +kernel
theorem dX12_meaning_62 : decode cX12_meaning 62 = .ok (.iconst 1, 1) := by decide +kernel
theorem dX12_meaning_63 : decode cX12_meaning 63 = .ok (.iadd, 1) := by decide +kernel
theorem dX12_meaning_64 : decode cX12_meaning 64 = .ok (.putfield 169, 3) := by decide +kernel
theorem dX12_meaning_67 : decode cX12_meaning 67 = .ok (.goto (-67), 3) := by decide +kernel
theorem dX12_meaning_70 : decode cX12_meaning 70 = .ok (.iconst 0, 1) := by decide +kernel
theorem dX12_meaning_71 : decode cX12_meaning 71 = .ok (.ireturn, 1) := by decide +kernel
theorem dX12_fun_0 : decode cX12_fun 0 = .ok (.aload_n 0, 1) := by decide +kernel
theorem dX12_fun_1 : decode cX12_fun 1 = .ok (.getfield 275, 3) := by decide +kernel
theorem dX12_fun_4 : decode cX12_fun 4 = .ok (.bipush 6, 2) := by decide +kernel
theorem dX12_fun_6 : decode cX12_fun 6 = .ok (.if_icmp .ne 10, 3) := by decide +kernel
theorem dX12_fun_9 : decode cX12_fun 9 = .ok (.aload_n 0, 1) := by decide +kernel
theorem dX12_fun_10 : decode cX12_fun 10 = .ok (.iconst 4, 1) := by decide +kernel
theorem dX12_fun_11 : decode cX12_fun 11 = .ok (.iload_n 1, 1) := by decide +kernel
theorem dX12_fun_12 : decode cX12_fun 12 = .ok (.invokevirtual 292, 3) := by decide +kernel
theorem dX12_fun_15 : decode cX12_fun 15 = .ok (.ireturn, 1) := by decide +kernel
theorem dX12_fun_16 : decode cX12_fun 16 = .ok (.aload_n 0, 1) := by decide +kernel
theorem dX12_fun_17 : decode cX12_fun 17 = .ok (.getfield 169, 3) := by decide +kernel
theorem dX12_fun_20 : decode cX12_fun 20 = .ok (.istore_n 2, 1) := by decide +kernel
theorem dX12_fun_21 : decode cX12_fun 21 = .ok (.aload_n 0, 1) := by decide +kernel
theorem dX12_fun_22 : decode cX12_fun 22 = .ok (.aload_n 0, 1) := by decide +kernel
theorem dX12_fun_23 : decode cX12_fun 23 = .ok (.iload_n 2, 1) := by decide +kernel
theorem dX12_fun_24 : decode cX12_fun 24 = .ok (.invokevirtual 295, 3) := by decide +kernel
theorem dX12_fun_27 : decode cX12_fun 27 = .ok (.invokevirtual 299, 3) := by decide +kernel
theorem dX12_fun_30 : decode cX12_fun 30 = .ok (.ifCond .eq 10, 3) := by decide +kernel
theorem dX12_fun_33 : decode cX12_fun 33 = .ok (.aload_n 0, 1) := by decide +kernel
theorem dX12_fun_34 : decode cX12_fun 34 = .ok (.iconst 3, 1) := by decide +kernel
theorem dX12_fun_35 : decode cX12_fun 35 = .ok (.iload_n 2, 1) := by decide +kernel
theorem dX12_fun_36 : decode cX12_fun 36 = .ok (.invokevirtual 292, 3) := by decide +kernel
theorem dX12_fun_39 : decode cX12_fun 39 = .ok (.ireturn, 1) := by decide +kernel
theorem dX12_fun_40 : decode cX12_fun 40 = .ok (.aload_n 0, 1) := by decide +kernel
theorem dX12_fun_41 : decode cX12_fun 41 = .ok (.dup, 1) := by decide +kernel
theorem dX12_fun_42 : decode cX12_fun 42 = .ok (.getfield 169, 3) := by decide +kernel
theorem dX12_fun_45 : decode cX12_fun 45 = .ok (.iconst 2, 1) := by decide +kernel
theorem dX12_fun_46 : decode cX12_fun 46 = .ok (.iadd, 1) := by decide +kernel
theorem dX12_fun_47 : decode cX12_fun 47 = .ok (.putfield 169, 3) := by decide +kernel
theorem dX12_fun_50 : decode cX12_fun 50 = .ok (.aload_n 0, 1) := by decide +kernel
theorem dX12_fun_51 : decode cX12_fun 51 = .ok (.getfield 54, 3) := by decide +kernel
theorem dX12_fun_54 : decode cX12_fun 54 = .ok (.aload_n 0, 1) := by decide +kernel
theorem dX12_fun_55 : decode cX12_fun 55 = .ok (.getfield 275, 3) := by decide +kernel
theorem dX12_fun_58 : decode cX12_fun 58 = .ok (.iconst 0, 1) := by decide +kernel
theorem dX12_fun_59 : decode cX12_fun 59 = .ok (.iastore, 1) := by decide +kernel
theorem dX12_fun_60 : decode cX12_fun 60 = .ok (.aload_n 0, 1) := by decide +kernel
theorem dX12_fun_61 : decode cX12_fun 61 = .ok (.invokevirtual 303, 3) := by decide +kernel
theorem dX12_fun_64 : decode cX12_fun 64 = .ok (.istore_n 3, 1) := by decide +kernel
theorem dX12_fun_65 : decode cX12_fun 65 = .ok (.iload_n 3, 1) := by decide +kernel
theorem dX12_fun_66 : decode cX12_fun 66 = .ok (.ifCond .eq 5, 3) := by decide +kernel
theorem dX12_fun_69 : decode cX12_fun 69 = .ok (.iload_n 3, 1) := by decide +kernel
theorem dX12_fun_70 : decode cX12_fun 70 = .ok (.ireturn, 1) := by decide +kernel
theorem dX12_fun_71 : decode cX12_fun 71 = .ok (.aload_n 0, 1) := by decide +kernel
theorem dX12_fun_72 : decode cX12_fun 72 = .ok (.ldc 223, 2) := by decide +kernel
theorem dX12_fun_74 : decode cX12_fun 74 = .ok (.invokevirtual 181, 3) := by decide +kernel
theorem dX12_fun_77 : decode cX12_fun 77 = .ok (.ifCond .ne (-17), 3) := by decide +kernel
theorem dX12_fun_80 : decode cX12_fun 80 = .ok (.aload_n 0, 1) := by decide +kernel
theorem dX12_fun_81 : decode cX12_fun 81 = .ok (.dup, 1) := by decide +kernel
theorem dX12_fun_82 : decode cX12_fun 82 = .ok (.getfield 169, 3) := by decide +kernel
theorem dX12_fun_85 : decode cX12_fun 85 = .ok (.iconst 2, 1) := by decide +kernel
theorem dX12_fun_86 : decode cX12_fun 86 = .ok (.iadd, 1) := by decide +kernel
theorem dX12_fun_87 : decode cX12_fun 87 = .ok (.putfield 169, 3) := by decide +kernel
theorem dX12_fun_90 : decode cX12_fun 90 = .ok (.aload_n 0, 1) := by decide +kernel
theorem dX12_fun_91 : decode cX12_fun 91 = .ok (.getfield 169, 3) := by decide +kernel
theorem dX12_fun_94 : decode cX12_fun 94 = .ok (.istore_n 3, 1) := by decide +kernel
theorem dX12_fun_95 : decode cX12_fun 95 = .ok (.aload_n 0, 1) := by decide +kernel
theorem dX12_fun_96 : decode cX12_fun 96 = .ok (.ldc 205, 2) := by decide +kernel
theorem dX12_fun_98 : decode cX12_fun 98 = .ok (.invokevirtual 172, 3) := by decide +kernel
theorem dX12_fun_101 : decode cX12_fun 101 = .ok (.ifCond .ne 16, 3) := by decide +kernel
theorem dX12_fun_104 : decode cX12_fun 104 = .ok (.aload_n 0, 1) := by decide +kernel
theorem dX12_fun_105 : decode cX12_fun 105 = .ok (.dup, 1) := by decide +kernel
theorem dX12_fun_106 : decode cX12_fun 106 = .ok (.getfield 169, 3) := by decide +kernel
theorem dX12_fun_109 : decode cX12_fun 109 = .ok (.iconst 1, 1) := by decide +kernel
theorem dX12_fun_110 : decode cX12_fun 110 = .ok (.iadd, 1) := by decide +kernel
theorem dX12_fun_111 : decode cX12_fun 111 = .ok (.putfield 169, 3) := by decide +kernel
theorem dX12_fun_114 : decode cX12_fun 114 = .ok (.goto (-19), 3) := by decide +kernel
theorem dX12_fun_117 : decode cX12_fun 117 = .ok (.aload_n 0, 1) := by decide +kernel
theorem dX12_fun_118 : decode cX12_fun 118 = .ok (.iload_n 3, 1) := by decide +kernel
theorem dX12_fun_119 : decode cX12_fun 119 = .ok (.aload_n 0, 1) := by decide +kernel
theorem dX12_fun_120 : decode cX12_fun 120 = .ok (.getfield 169, 3) := by decide +kernel
theorem dX12_fun_123 : decode cX12_fun 123 = .ok (.invokevirtual 306, 3) := by decide +kernel
theorem dX12_fun_126 : decode cX12_fun 126 = .ok (.aload_n 0, 1) := by decide +kernel
theorem dX12_fun_127 : decode cX12_fun 127 = .ok (.getfield 169, 3) := by decide +kernel
theorem dX12_fun_130 : decode cX12_fun 130 = .ok (.iload_n 3, 1) := by decide +kernel
theorem dX12_fun_131 : decode cX12_fun 131 = .ok (.isub, 1) := by decide +kernel
theorem dX12_fun_132 : decode cX12_fun 132 = .ok (.istore 4, 2) := by decide +kernel
theorem dX12_fun_134 : decode cX12_fun 134 = .ok (.aload_n 0, 1) := by decide +kernel
theorem dX12_fun_135 : decode cX12_fun 135 = .ok (.iload_n 3, 1) := by decide +kernel
theorem dX12_fun_136 : decode cX12_fun 136 = .ok (.putfield 169, 3) := by decide +kernel
theorem dX12_fun_139 : decode cX12_fun 139 = .ok (.aload_n 0, 1) := by decide +kernel
theorem dX12_fun_140 : decode cX12_fun 140 = .ok (.getfield 72, 3) := by decide +kernel
theorem dX12_fun_143 : decode cX12_fun 143 = .ok (.aload_n 0, 1) := by decide +kernel
theorem dX12_fun_144 : decode cX12_fun 144 = .ok (.getfield 275, 3) := by decide +kernel
theorem dX12_fun_147 : decode cX12_fun 147 = .ok (.iload 4, 2) := by decide +kernel
theorem dX12_fun_149 : decode cX12_fun 149 = .ok (.iastore, 1) := by decide +kernel
theorem dX12_fun_150 : decode cX12_fun 150 = .ok (.aload_n 0, 1) := by decide +kernel
theorem dX12_fun_151 : decode cX12_fun 151 = .ok (.invokevirtual 310, 3) := by decide +kernel
theorem dX12_fun_154 : decode cX12_fun 154 = .ok (.istore 5, 2) := by decide +kernel
theorem dX12_fun_156 : decode cX12_fun 156 = .ok (.iload 5, 2) := by decide +kernel
theorem dX12_fun_158 : decode cX12_fun 158 = .ok (.ifCond .eq 6, 3) := by decide +kernel
theorem dX12_fun_161 : decode cX12_fun 161 = .ok (.iload 5, 2) := by decide +kernel
theorem dX12_fun_163 : decode cX12_fun 163 = .ok (.ireturn, 1) := by decide +kernel
theorem dX12_fun_164 : decode cX12_fun 164 = .ok (.aload_n 0, 1) := by decide +kernel
theorem dX12_fun_165 : decode cX12_fun 165 = .ok (.getfield 66, 3) := by decide +kernel
theorem dX12_fun_168 : decode cX12_fun 168 = .ok (.aload_n 0, 1) := by decide +kernel
theorem dX12_fun_169 : decode cX12_fun 169 = .ok (.getfield 275, 3) := by decide +kernel
theorem dX12_fun_172 : decode cX12_fun 172 = .ok (.aload_n 0, 1) := by decide +kernel
theorem dX12_fun_173 : decode cX12_fun 173 = .ok (.getfield 313, 3) := by decide +kernel
theorem dX12_fun_176 : decode cX12_fun 176 = .ok (.iastore, 1) := by decide +kernel
theorem dX12_fun_177 : decode cX12_fun 177 = .ok (.aload_n 0, 1) := by decide +kernel
theorem dX12_fun_178 : decode cX12_fun 178 = .ok (.getfield 72, 3) := by decide +kernel
theorem dX12_fun_181 : decode cX12_fun 181 = .ok (.aload_n 0, 1) := by decide +kernel
theorem dX12_fun_182 : decode cX12_fun 182 = .ok (.getfield 275, 3) := by decide +kernel
theorem dX12_fun_185 : decode cX12_fun 185 = .ok (.iaload, 1) := by decide +kernel
theorem dX12_fun_186 : decode cX12_fun 186 = .ok (.sipush 200, 3) := by decide +kernel
theorem dX12_fun_189 : decode cX12_fun 189 = .ok (.if_icmp .le 10, 3) := by decide +kernel
theorem dX12_fun_192 : decode cX12_fun 192 = .ok (.aload_n 0, 1) := by decide +kernel
theorem dX12_fun_193 : decode cX12_fun 193 = .ok (.iconst 4, 1) := by decide +kernel
theorem dX12_fun_194 : decode cX12_fun 194 = .ok (.iload_n 2, 1) := by decide +kernel
theorem dX12_fun_195 : decode cX12_fun 195 = .ok (.invokevirtual 292, 3) := by decide +kernel
theorem dX12_fun_198 : decode cX12_fun 198 = .ok (.ireturn, 1) := by decide +kernel
theorem dX12_fun_199 : decode cX12_fun 199 = .ok (.aload_n 0, 1) := by decide +kernel
theorem dX12_fun_200 : decode cX12_fun 200 = .ok (.getfield 50, 3) := by decide +kernel
theorem dX12_fun_203 : decode cX12_fun 203 = .ok (.aload_n 0, 1) := by decide +kernel
theorem dX12_fun_204 : decode cX12_fun 204 = .ok (.getfield 275, 3) := by decide +kernel
theorem dX12_fun_207 : decode cX12_fun 207 = .ok (.aload_n 0, 1) := by decide +kernel
theorem dX12_fun_208 : decode cX12_fun 208 = .ok (.iload_n 2, 1) := by decide +kernel
theorem dX12_fun_209 : decode cX12_fun 209 = .ok (.invokevirtual 295, 3) := by decide +kernel
theorem dX12_fun_212 : decode cX12_fun 212 = .ok (.lastore, 1) := by decide +kernel
theorem dX12_fun_213 : decode cX12_fun 213 = .ok (.aload_n 0, 1) := by decide +kernel
theorem dX12_fun_214 : decode cX12_fun 214 = .ok (.dup, 1) := by decide +kernel
theorem dX12_fun_215 : decode cX12_fun 215 = .ok (.getfield 275, 3) := by decide +kernel
theorem dX12_fun_218 : decode cX12_fun 218 = .ok (.iconst 1, 1) := by decide +kernel
theorem dX12_fun_219 : decode cX12_fun 219 = .ok (.iadd, 1) := by decide +kernel
theorem dX12_fun_220 : decode cX12_fun 220 = .ok (.putfield 275, 3) := by decide +kernel
theorem dX12_fun_223 : decode cX12_fun 223 = .ok (.iconst 0, 1) := by decide +kernel
theorem dX12_fun_224 : decode cX12_fun 224 = .ok (.ireturn, 1) := by decide +kernel
theorem dX12_input_0 : decode cX12_input 0 = .ok (.aload_n 0, 1) := by decide +kernel
theorem dX12_input_1 : decode cX12_input 1 = .ok (.getfield 54, 3) := by decide +kernel
theorem dX12_input_4 : decode cX12_input 4 = .ok (.aload_n 0, 1) := by decide +kernel
theorem dX12_input_5 : decode cX12_input 5 = .ok (.getfield 275, 3) := by decide +kernel
theorem dX12_input_8 : decode cX12_input 8 = .ok (.iaload, 1) := by decide +kernel
theorem dX12_input_9 : decode cX12_input 9 = .ok (.istore_n 1, 1) := by decide +kernel
theorem dX12_input_10 : decode cX12_input 10 = .ok (.iload_n 1, 1) := by decide +kernel
theorem dX12_input_11 : decode cX12_input 11 = .ok (.iconst 3, 1) := by decide +kernel
theorem dX12_input_12 : decode cX12_input 12 = .ok (.if_icmp .ne 13, 3) := by decide +kernel
theorem dX12_input_15 : decode cX12_input 15 = .ok (.aload_n 0, 1) := by decide +kernel
theorem dX12_input_16 : decode cX12_input 16 = .ok (.iconst 4, 1) := by decide +kernel
theorem dX12_input_17 : decode cX12_input 17 = .ok (.aload_n 0, 1) := by decide +kernel
theorem dX12_input_18 : decode cX12_input 18 = .ok (.getfield 169, 3) := by decide +kernel
theorem dX12_input_21 : decode cX12_input 21 = .ok (.invokevirtual 292, 3) := by decide +kernel
theorem dX12_input_24 : decode cX12_input 24 = .ok (.ireturn, 1) := by decide +kernel
theorem dX12_input_25 : decode cX12_input 25 = .ok (.aload_n 0, 1) := by decide +kernel
theorem dX12_input_26 : decode cX12_input 26 = .ok (.getfield 57, 3) := by decide +kernel
theorem dX12_input_29 : decode cX12_input 29 = .ok (.iconst 3, 1) := by decide +kernel
theorem dX12_input_30 : decode cX12_input 30 = .ok (.aload_n 0, 1) := by decide +kernel
theorem dX12_input_31 : decode cX12_input 31 = .ok (.getfield 275, 3) := by decide +kernel
theorem dX12_input_34 : decode cX12_input 34 = .ok (.imul, 1) := by decide +kernel
theorem dX12_input_35 : decode cX12_input 35 = .ok (.iload_n 1, 1) := by decide +kernel
theorem dX12_input_36 : decode cX12_input 36 = .ok (.aload_n 0, 1) := by decide +kernel
theorem dX12_input_37 : decode cX12_input 37 = .ok (.aload_n 0, 1) := by decide +kernel
theorem dX12_input_38 : decode cX12_input 38 = .ok (.getfield 169, 3) := by decide +kernel
theorem dX12_input_41 : decode cX12_input 41 = .ok (.invokevirtual 295, 3) := by decide +kernel
theorem dX12_input_44 : decode cX12_input 44 = .ok (.invokestatic 278, 3) := by decide +kernel
theorem dX12_input_47 : decode cX12_input 47 = .ok (.iconst (-1), 1) := by decide +kernel
theorem dX12_input_48 : decode cX12_input 48 = .ok (.if_icmp .eq 13, 3) := by decide +kernel
theorem dX12_input_51 : decode cX12_input 51 = .ok (.aload_n 0, 1) := by decide +kernel
theorem dX12_input_52 : decode cX12_input 52 = .ok (.iconst 3, 1) := by decide +kernel
theorem dX12_input_53 : decode cX12_input 53 = .ok (.aload_n 0, 1) := by decide +kernel
theorem dX12_input_54 : decode cX12_input 54 = .ok (.getfield 169, 3) := by decide +kernel
theorem dX12_input_57 : decode cX12_input 57 = .ok (.invokevirtual 292, 3) := by decide +kernel
theorem dX12_input_60 : decode cX12_input 60 = .ok (.ireturn, 1) := by decide +kernel
theorem dX12_input_61 : decode cX12_input 61 = .ok (.aload_n 0, 1) := by decide +kernel
theorem dX12_input_62 : decode cX12_input 62 = .ok (.getfield 57, 3) := by decide +kernel
theorem dX12_input_65 : decode cX12_input 65 = .ok (.iconst 3, 1) := by decide +kernel
theorem dX12_input_66 : decode cX12_input 66 = .ok (.aload_n 0, 1) := by decide +kernel
theorem dX12_input_67 : decode cX12_input 67 = .ok (.getfield 275, 3) := by decide +kernel
theorem dX12_input_70 : decode cX12_input 70 = .ok (.imul, 1) := by decide +kernel
theorem dX12_input_71 : decode cX12_input 71 = .ok (.iload_n 1, 1) := by decide +kernel
theorem dX12_input_72 : decode cX12_input 72 = .ok (.iadd, 1) := by decide +kernel
theorem dX12_input_73 : decode cX12_input 73 = .ok (.aload_n 0, 1) := by decide +kernel
theorem dX12_input_74 : decode cX12_input 74 = .ok (.aload_n 0, 1) := by decide +kernel
theorem dX12_input_75 : decode cX12_input 75 = .ok (.getfield 169, 3) := by decide +kernel
theorem dX12_input_78 : decode cX12_input 78 = .ok (.invokevirtual 295, 3) := by decide +kernel
theorem dX12_input_81 : decode cX12_input 81 = .ok (.lastore, 1) := by decide +kernel
theorem dX12_input_82 : decode cX12_input 82 = .ok (.aload_n 0, 1) := by decide +kernel
theorem dX12_input_83 : decode cX12_input 83 = .ok (.dup, 1) := by decide +kernel
theorem dX12_input_84 : decode cX12_input 84 = .ok (.getfield 169, 3) := by decide +kernel
theorem dX12_input_87 : decode cX12_input 87 = .ok (.iconst 2, 1) := by decide +kernel
theorem dX12_input_88 : decode cX12_input 88 = .ok (.iadd, 1) := by decide +kernel
theorem dX12_input_89 : decode cX12_input 89 = .ok (.putfield 169, 3) := by decide +kernel
theorem dX12_input_92 : decode cX12_input 92 = .ok (.aload_n 0, 1) := by decide +kernel
theorem dX12_input_93 : decode cX12_input 93 = .ok (.invokevirtual 316, 3) := by decide +kernel
theorem dX12_input_96 : decode cX12_input 96 = .ok (.istore_n 2, 1) := by decide +kernel
theorem dX12_input_97 : decode cX12_input 97 = .ok (.iload_n 2, 1) := by decide +kernel
theorem dX12_input_98 : decode cX12_input 98 = .ok (.bipush (-20), 2) := by decide +kernel
theorem dX12_input_100 : decode cX12_input 100 = .ok (.bipush 20, 2) := by decide +kernel
theorem dX12_input_102 : decode cX12_input 102 = .ok (.invokestatic 119, 3) := by decide +kernel
theorem dX12_input_105 : decode cX12_input 105 = .ok (.ifCond .ne 13, 3) := by decide +kernel
theorem dX12_input_108 : decode cX12_input 108 = .ok (.aload_n 0, 1) := by decide +kernel
theorem dX12_input_109 : decode cX12_input 109 = .ok (.iconst 5, 1) := by decide +kernel
theorem dX12_input_110 : decode cX12_input 110 = .ok (.aload_n 0, 1) := by decide +kernel
theorem dX12_input_111 : decode cX12_input 111 = .ok (.getfield 169, 3) := by decide +kernel
theorem dX12_input_114 : decode cX12_input 114 = .ok (.invokevirtual 292, 3) := by decide +kernel
theorem dX12_input_117 : decode cX12_input 117 = .ok (.ireturn, 1) := by decide +kernel
theorem dX12_input_118 : decode cX12_input 118 = .ok (.aload_n 0, 1) := by decide +kernel
theorem dX12_input_119 : decode cX12_input 119 = .ok (.dup, 1) := by decide +kernel
theorem dX12_input_120 : decode cX12_input 120 = .ok (.getfield 169, 3) := by decide +kernel
theorem dX12_input_123 : decode cX12_input 123 = .ok (.iconst 2, 1) := by decide +kernel
theorem dX12_input_124 : decode cX12_input 124 = .ok (.iadd, 1) := by decide +kernel
theorem dX12_input_125 : decode cX12_input 125 = .ok (.putfield 169, 3) := by decide +kernel
theorem dX12_input_128 : decode cX12_input 128 = .ok (.aload_n 0, 1) := by decide +kernel
theorem dX12_input_129 : decode cX12_input 129 = .ok (.invokevirtual 316, 3) := by decide +kernel
theorem dX12_input_132 : decode cX12_input 132 = .ok (.istore_n 3, 1) := by decide +kernel
theorem dX12_input_133 : decode cX12_input 133 = .ok (.iload_n 3, 1) := by decide +kernel
theorem dX12_input_134 : decode cX12_input 134 = .ok (.iload_n 2, 1) := by decide +kernel
theorem dX12_input_135 : decode cX12_input 135 = .ok (.bipush 20, 2) := by decide +kernel
theorem dX12_input_137 : decode cX12_input 137 = .ok (.invokestatic 119, 3) := by decide +kernel
theorem dX12_input_140 : decode cX12_input 140 = .ok (.ifCond .ne 13, 3) := by decide +kernel
theorem dX12_input_143 : decode cX12_input 143 = .ok (.aload_n 0, 1) := by decide +kernel
theorem dX12_input_144 : decode cX12_input 144 = .ok (.iconst 5, 1) := by decide +kernel
theorem dX12_input_145 : decode cX12_input 145 = .ok (.aload_n 0, 1) := by decide +kernel
theorem dX12_input_146 : decode cX12_input 146 = .ok (.getfield 169, 3) := by decide +kernel
theorem dX12_input_149 : decode cX12_input 149 = .ok (.invokevirtual 292, 3) := by decide +kernel
theorem dX12_input_152 : decode cX12_input 152 = .ok (.ireturn, 1) := by decide +kernel
theorem dX12_input_153 : decode cX12_input 153 = .ok (.aload_n 0, 1) := by decide +kernel
theorem dX12_input_154 : decode cX12_input 154 = .ok (.dup, 1) := by decide +kernel
theorem dX12_input_155 : decode cX12_input 155 = .ok (.getfield 169, 3) := by decide +kernel
theorem dX12_input_158 : decode cX12_input 158 = .ok (.iconst 1, 1) := by decide +kernel
theorem dX12_input_159 : decode cX12_input 159 = .ok (.iadd, 1) := by decide +kernel
theorem dX12_input_160 : decode cX12_input 160 = .ok (.putfield 169, 3) := by decide +kernel
theorem dX12_input_163 : decode cX12_input 163 = .ok (.aload_n 0, 1) := by decide +kernel
theorem dX12_input_164 : decode cX12_input 164 = .ok (.getfield 60, 3) := by decide +kernel
theorem dX12_input_167 : decode cX12_input 167 = .ok (.iconst 3, 1) := by decide +kernel
theorem dX12_input_168 : decode cX12_input 168 = .ok (.aload_n 0, 1) := by decide +kernel
theorem dX12_input_169 : decode cX12_input 169 = .ok (.getfield 275, 3) := by decide +kernel
theorem dX12_input_172 : decode cX12_input 172 = .ok (.imul, 1) := by decide +kernel
theorem dX12_input_173 : decode cX12_input 173 = .ok (.iload_n 1, 1) := by decide +kernel
theorem dX12_input_174 : decode cX12_input 174 = .ok (.iadd, 1) := by decide +kernel
theorem dX12_input_175 : decode cX12_input 175 = .ok (.iload_n 2, 1) := by decide +kernel
theorem dX12_input_176 : decode cX12_input 176 = .ok (.iastore, 1) := by decide +kernel
theorem dX12_input_177 : decode cX12_input 177 = .ok (.aload_n 0, 1) := by decide +kernel
theorem dX12_input_178 : decode cX12_input 178 = .ok (.getfield 63, 3) := by decide +kernel
theorem dX12_input_181 : decode cX12_input 181 = .ok (.iconst 3, 1) := by decide +kernel
theorem dX12_input_182 : decode cX12_input 182 = .ok (.aload_n 0, 1) := by decide +kernel
theorem dX12_input_183 : decode cX12_input 183 = .ok (.getfield 275, 3) := by decide +kernel
theorem dX12_input_186 : decode cX12_input 186 = .ok (.imul, 1) := by decide +kernel
theorem dX12_input_187 : decode cX12_input 187 = .ok (.iload_n 1, 1) := by decide +kernel
theorem dX12_input_188 : decode cX12_input 188 = .ok (.iadd, 1) := by decide +kernel
theorem dX12_input_189 : decode cX12_input 189 = .ok (.iload_n 3, 1) := by decide +kernel
theorem dX12_input_190 : decode cX12_input 190 = .ok (.iastore, 1) := by decide +kernel
theorem dX12_input_191 : decode cX12_input 191 = .ok (.aload_n 0, 1) := by decide +kernel
theorem dX12_input_192 : decode cX12_input 192 = .ok (.getfield 54, 3) := by decide +kernel
theorem dX12_input_195 : decode cX12_input 195 = .ok (.aload_n 0, 1) := by decide +kernel
theorem dX12_input_196 : decode cX12_input 196 = .ok (.getfield 275, 3) := by decide +kernel
theorem dX12_input_199 : decode cX12_input 199 = .ok (.dup2, 1) := by decide +kernel
theorem dX12_input_200 : decode cX12_input 200 = .ok (.iaload, 1) := by decide +kernel
theorem dX12_input_201 : decode cX12_input 201 = .ok (.iconst 1, 1) := by decide +kernel
theorem dX12_input_202 : decode cX12_input 202 = .ok (.iadd, 1) := by decide +kernel
theorem dX12_input_203 : decode cX12_input 203 = .ok (.iastore, 1) := by decide +kernel
theorem dX12_input_204 : decode cX12_input 204 = .ok (.iconst 0, 1) := by decide +kernel
theorem dX12_input_205 : decode cX12_input 205 = .ok (.ireturn, 1) := by decide +kernel
theorem dX12_node_0 : decode cX12_node 0 = .ok (.aload_n 0, 1) := by decide +kernel
theorem dX12_node_1 : decode cX12_node 1 = .ok (.getfield 32, 3) := by decide +kernel
theorem dX12_node_4 : decode cX12_node 4 = .ok (.aload_n 0, 1) := by decide +kernel
theorem dX12_node_5 : decode cX12_node 5 = .ok (.getfield 319, 3) := by decide +kernel
theorem dX12_node_8 : decode cX12_node 8 = .ok (.iload_n 1, 1) := by decide +kernel
theorem dX12_node_9 : decode cX12_node 9 = .ok (.iastore, 1) := by decide +kernel
theorem dX12_node_10 : decode cX12_node 10 = .ok (.aload_n 0, 1) := by decide +kernel
theorem dX12_node_11 : decode cX12_node 11 = .ok (.getfield 35, 3) := by decide +kernel
theorem dX12_node_14 : decode cX12_node 14 = .ok (.aload_n 0, 1) := by decide +kernel
theorem dX12_node_15 : decode cX12_node 15 = .ok (.getfield 319, 3) := by decide +kernel
theorem dX12_node_18 : decode cX12_node 18 = .ok (.iload_n 2, 1) := by decide +kernel
theorem dX12_node_19 : decode cX12_node 19 = .ok (.iastore, 1) := by decide +kernel
theorem dX12_node_20 : decode cX12_node 20 = .ok (.aload_n 0, 1) := by decide +kernel
theorem dX12_node_21 : decode cX12_node 21 = .ok (.getfield 38, 3) := by decide +kernel
theorem dX12_node_24 : decode cX12_node 24 = .ok (.aload_n 0, 1) := by decide +kernel
theorem dX12_node_25 : decode cX12_node 25 = .ok (.getfield 319, 3) := by decide +kernel
theorem dX12_node_28 : decode cX12_node 28 = .ok (.iload_n 3, 1) := by decide +kernel
theorem dX12_node_29 : decode cX12_node 29 = .ok (.iastore, 1) := by decide +kernel
theorem dX12_node_30 : decode cX12_node 30 = .ok (.aload_n 0, 1) := by decide +kernel
theorem dX12_node_31 : decode cX12_node 31 = .ok (.getfield 41, 3) := by decide +kernel
theorem dX12_node_34 : decode cX12_node 34 = .ok (.aload_n 0, 1) := by decide +kernel
theorem dX12_node_35 : decode cX12_node 35 = .ok (.getfield 319, 3) := by decide +kernel
theorem dX12_node_38 : decode cX12_node 38 = .ok (.iload 4, 2) := by decide +kernel
theorem dX12_node_40 : decode cX12_node 40 = .ok (.iastore, 1) := by decide +kernel
theorem dX12_node_41 : decode cX12_node 41 = .ok (.aload_n 0, 1) := by decide +kernel
theorem dX12_node_42 : decode cX12_node 42 = .ok (.getfield 44, 3) := by decide +kernel
theorem dX12_node_45 : decode cX12_node 45 = .ok (.aload_n 0, 1) := by decide +kernel
theorem dX12_node_46 : decode cX12_node 46 = .ok (.getfield 319, 3) := by decide +kernel
theorem dX12_node_49 : decode cX12_node 49 = .ok (.iload 5, 2) := by decide +kernel
theorem dX12_node_51 : decode cX12_node 51 = .ok (.iastore, 1) := by decide +kernel
theorem dX12_node_52 : decode cX12_node 52 = .ok (.aload_n 0, 1) := by decide +kernel
theorem dX12_node_53 : decode cX12_node 53 = .ok (.getfield 47, 3) := by decide +kernel
theorem dX12_node_56 : decode cX12_node 56 = .ok (.aload_n 0, 1) := by decide +kernel
theorem dX12_node_57 : decode cX12_node 57 = .ok (.getfield 319, 3) := by decide +kernel
theorem dX12_node_60 : decode cX12_node 60 = .ok (.iload 6, 2) := by decide +kernel
theorem dX12_node_62 : decode cX12_node 62 = .ok (.iastore, 1) := by decide +kernel
theorem dX12_node_63 : decode cX12_node 63 = .ok (.aload_n 0, 1) := by decide +kernel
theorem dX12_node_64 : decode cX12_node 64 = .ok (.aload_n 0, 1) := by decide +kernel
theorem dX12_node_65 : decode cX12_node 65 = .ok (.getfield 319, 3) := by decide +kernel
theorem dX12_node_68 : decode cX12_node 68 = .ok (.putfield 313, 3) := by decide +kernel
theorem dX12_node_71 : decode cX12_node 71 = .ok (.aload_n 0, 1) := by decide +kernel
theorem dX12_node_72 : decode cX12_node 72 = .ok (.dup, 1) := by decide +kernel
theorem dX12_node_73 : decode cX12_node 73 = .ok (.getfield 319, 3) := by decide +kernel
theorem dX12_node_76 : decode cX12_node 76 = .ok (.iconst 1, 1) := by decide +kernel
theorem dX12_node_77 : decode cX12_node 77 = .ok (.iadd, 1) := by decide +kernel
theorem dX12_node_78 : decode cX12_node 78 = .ok (.putfield 319, 3) := by decide +kernel
theorem dX12_node_81 : decode cX12_node 81 = .ok (.iconst 0, 1) := by decide +kernel
theorem dX12_node_82 : decode cX12_node 82 = .ok (.ireturn, 1) := by decide +kernel
theorem dX12_expression_0 : decode cX12_expression 0 = .ok (.aload_n 0, 1) := by decide +kernel
theorem dX12_expression_1 : decode cX12_expression 1 = .ok (.ldc 252, 2) := by decide +kernel
theorem dX12_expression_3 : decode cX12_expression 3 = .ok (.invokevirtual 172, 3) := by decide +kernel
theorem dX12_expression_6 : decode cX12_expression 6 = .ok (.ifCond .ne 9, 3) := by decide +kernel
theorem dX12_expression_9 : decode cX12_expression 9 = .ok (.aload_n 0, 1) := by decide +kernel
theorem dX12_expression_10 : decode cX12_expression 10 = .ok (.iconst 0, 1) := by decide +kernel
theorem dX12_expression_11 : decode cX12_expression 11 = .ok (.invokevirtual 322, 3) := by decide +kernel
theorem dX12_expression_14 : decode cX12_expression 14 = .ok (.ireturn, 1) := by decide +kernel
theorem dX12_expression_15 : decode cX12_expression 15 = .ok (.aload_n 0, 1) := by decide +kernel
theorem dX12_expression_16 : decode cX12_expression 16 = .ok (.getfield 169, 3) := by decide +kernel
theorem dX12_expression_19 : decode cX12_expression 19 = .ok (.istore_n 1, 1) := by decide +kernel
theorem dX12_expression_20 : decode cX12_expression 20 = .ok (.iconst 3, 1) := by decide +kernel
theorem dX12_expression_21 : decode cX12_expression 21 = .ok (.newarray .int, 2) := by decide +kernel
theorem dX12_expression_23 : decode cX12_expression 23 = .ok (.astore_n 2, 1) := by decide +kernel
theorem dX12_expression_24 : decode cX12_expression 24 = .ok (.iconst 0, 1) := by decide +kernel
theorem dX12_expression_25 : decode cX12_expression 25 = .ok (.istore_n 3, 1) := by decide +kernel
theorem dX12_expression_26 : decode cX12_expression 26 = .ok (.iload_n 3, 1) := by decide +kernel
theorem dX12_expression_27 : decode cX12_expression 27 = .ok (.iconst 3, 1) := by decide +kernel
theorem dX12_expression_28 : decode cX12_expression 28 = .ok (.if_icmp .ge 40, 3) := by decide +kernel
theorem dX12_expression_31 : decode cX12_expression 31 = .ok (.aload_n 0, 1) := by decide +kernel
theorem dX12_expression_32 : decode cX12_expression 32 = .ok (.dup, 1) := by decide +kernel
theorem dX12_expression_33 : decode cX12_expression 33 = .ok (.getfield 169, 3) := by decide +kernel
theorem dX12_expression_36 : decode cX12_expression 36 = .ok (.iconst 1, 1) := by decide +kernel
theorem dX12_expression_37 : decode cX12_expression 37 = .ok (.iadd, 1) := by decide +kernel
theorem dX12_expression_38 : decode cX12_expression 38 = .ok (.putfield 169, 3) := by decide +kernel
theorem dX12_expression_41 : decode cX12_expression 41 = .ok (.aload_n 0, 1) := by decide +kernel
theorem dX12_expression_42 : decode cX12_expression 42 = .ok (.invokevirtual 310, 3) := by decide +kernel
theorem dX12_expression_45 : decode cX12_expression 45 = .ok (.istore 4, 2) := by decide +kernel
theorem dX12_expression_47 : decode cX12_expression 47 = .ok (.iload 4, 2) := by decide +kernel
theorem dX12_expression_49 : decode cX12_expression 49 = .ok (.ifCond .eq 6, 3) := by decide +kernel
theorem dX12_expression_52 : decode cX12_expression 52 = .ok (.iload 4, 2) := by decide +kernel
theorem dX12_expression_54 : decode cX12_expression 54 = .ok (.ireturn, 1) := by decide +kernel
theorem dX12_expression_55 : decode cX12_expression 55 = .ok (.aload_n 2, 1) := by decide +kernel
theorem dX12_expression_56 : decode cX12_expression 56 = .ok (.iload_n 3, 1) := by decide +kernel
theorem dX12_expression_57 : decode cX12_expression 57 = .ok (.aload_n 0, 1) := by decide +kernel
theorem dX12_expression_58 : decode cX12_expression 58 = .ok (.getfield 313, 3) := by decide +kernel
theorem dX12_expression_61 : decode cX12_expression 61 = .ok (.iastore, 1) := by decide +kernel
theorem dX12_expression_62 : decode cX12_expression 62 = .ok (.iinc 3 1, 3) := by decide +kernel
theorem dX12_expression_65 : decode cX12_expression 65 = .ok (.goto (-39), 3) := by decide +kernel
theorem dX12_expression_68 : decode cX12_expression 68 = .ok (.aload_n 0, 1) := by decide +kernel
theorem dX12_expression_69 : decode cX12_expression 69 = .ok (.bipush 6, 2) := by decide +kernel
theorem dX12_expression_71 : decode cX12_expression 71 = .ok (.aload_n 2, 1) := by decide +kernel
theorem dX12_expression_72 : decode cX12_expression 72 = .ok (.iconst 0, 1) := by decide +kernel
theorem dX12_expression_73 : decode cX12_expression 73 = .ok (.iaload, 1) := by decide +kernel
theorem dX12_expression_74 : decode cX12_expression 74 = .ok (.aload_n 2, 1) := by decide +kernel
theorem dX12_expression_75 : decode cX12_expression 75 = .ok (.iconst 1, 1) := by decide +kernel
theorem dX12_expression_76 : decode cX12_expression 76 = .ok (.iaload, 1) := by decide +kernel
theorem dX12_expression_77 : decode cX12_expression 77 = .ok (.aload_n 2, 1) := by decide +kernel
theorem dX12_expression_78 : decode cX12_expression 78 = .ok (.iconst 2, 1) := by decide +kernel
theorem dX12_expression_79 : decode cX12_expression 79 = .ok (.iaload, 1) := by decide +kernel
theorem dX12_expression_80 : decode cX12_expression 80 = .ok (.aload_n 0, 1) := by decide +kernel
theorem dX12_expression_81 : decode cX12_expression 81 = .ok (.getfield 29, 3) := by decide +kernel
theorem dX12_expression_84 : decode cX12_expression 84 = .ok (.iload_n 1, 1) := by decide +kernel
theorem dX12_expression_85 : decode cX12_expression 85 = .ok (.iaload, 1) := by decide +kernel
theorem dX12_expression_86 : decode cX12_expression 86 = .ok (.aload_n 0, 1) := by decide +kernel
theorem dX12_expression_87 : decode cX12_expression 87 = .ok (.getfield 26, 3) := by decide +kernel
theorem dX12_expression_90 : decode cX12_expression 90 = .ok (.iload_n 1, 1) := by decide +kernel
theorem dX12_expression_91 : decode cX12_expression 91 = .ok (.iaload, 1) := by decide +kernel
theorem dX12_expression_92 : decode cX12_expression 92 = .ok (.invokevirtual 325, 3) := by decide +kernel
theorem dX12_expression_95 : decode cX12_expression 95 = .ok (.ireturn, 1) := by decide +kernel
theorem dX12_level_0 : decode cX12_level 0 = .ok (.iload_n 1, 1) := by decide +kernel
theorem dX12_level_1 : decode cX12_level 1 = .ok (.bipush 13, 2) := by decide +kernel
theorem dX12_level_3 : decode cX12_level 3 = .ok (.if_icmp .ne 8, 3) := by decide +kernel
theorem dX12_level_6 : decode cX12_level 6 = .ok (.aload_n 0, 1) := by decide +kernel
theorem dX12_level_7 : decode cX12_level 7 = .ok (.invokevirtual 329, 3) := by decide +kernel
theorem dX12_level_10 : decode cX12_level 10 = .ok (.ireturn, 1) := by decide +kernel
theorem dX12_level_11 : decode cX12_level 11 = .ok (.iload_n 1, 1) := by decide +kernel
theorem dX12_level_12 : decode cX12_level 12 = .ok (.ifCond .ne 7, 3) := by decide +kernel
theorem dX12_level_15 : decode cX12_level 15 = .ok (.iconst 1, 1) := by decide +kernel
theorem dX12_level_16 : decode cX12_level 16 = .ok (.goto 35, 3) := by decide +kernel
theorem dX12_level_19 : decode cX12_level 19 = .ok (.iload_n 1, 1) := by decide +kernel
theorem dX12_level_20 : decode cX12_level 20 = .ok (.iconst 1, 1) := by decide +kernel
theorem dX12_level_21 : decode cX12_level 21 = .ok (.if_icmp .ne 7, 3) := by decide +kernel
theorem dX12_level_24 : decode cX12_level 24 = .ok (.iconst 2, 1) := by decide +kernel
theorem dX12_level_25 : decode cX12_level 25 = .ok (.goto 26, 3) := by decide +kernel
theorem dX12_level_28 : decode cX12_level 28 = .ok (.iload_n 1, 1) := by decide +kernel
theorem dX12_level_29 : decode cX12_level 29 = .ok (.iconst 2, 1) := by decide +kernel
theorem dX12_level_30 : decode cX12_level 30 = .ok (.if_icmp .ne 8, 3) := by decide +kernel
theorem dX12_level_33 : decode cX12_level 33 = .ok (.bipush 8, 2) := by decide +kernel
theorem dX12_level_35 : decode cX12_level 35 = .ok (.goto 16, 3) := by decide +kernel
theorem dX12_level_38 : decode cX12_level 38 = .ok (.iload_n 1, 1) := by decide +kernel
theorem dX12_level_39 : decode cX12_level 39 = .ok (.bipush 8, 2) := by decide +kernel
theorem dX12_level_41 : decode cX12_level 41 = .ok (.if_icmp .ne 8, 3) := by decide +kernel
theorem dX12_level_44 : decode cX12_level 44 = .ok (.bipush 10, 2) := by decide +kernel
theorem dX12_level_46 : decode cX12_level 46 = .ok (.goto 5, 3) := by decide +kernel
theorem dX12_level_49 : decode cX12_level 49 = .ok (.bipush 13, 2) := by decide +kernel
theorem dX12_level_51 : decode cX12_level 51 = .ok (.istore_n 2, 1) := by decide +kernel
theorem dX12_level_52 : decode cX12_level 52 = .ok (.aload_n 0, 1) := by decide +kernel
theorem dX12_level_53 : decode cX12_level 53 = .ok (.iload_n 2, 1) := by decide +kernel
theorem dX12_level_54 : decode cX12_level 54 = .ok (.invokevirtual 322, 3) := by decide +kernel
theorem dX12_level_57 : decode cX12_level 57 = .ok (.istore_n 3, 1) := by decide +kernel
theorem dX12_level_58 : decode cX12_level 58 = .ok (.iload_n 3, 1) := by decide +kernel
theorem dX12_level_59 : decode cX12_level 59 = .ok (.ifCond .ne 80, 3) := by decide +kernel
theorem dX12_level_62 : decode cX12_level 62 = .ok (.aload_n 0, 1) := by decide +kernel
theorem dX12_level_63 : decode cX12_level 63 = .ok (.aload_n 0, 1) := by decide +kernel
theorem dX12_level_64 : decode cX12_level 64 = .ok (.getfield 169, 3) := by decide +kernel
theorem dX12_level_67 : decode cX12_level 67 = .ok (.iload_n 1, 1) := by decide +kernel
theorem dX12_level_68 : decode cX12_level 68 = .ok (.iload_n 2, 1) := by decide +kernel
theorem dX12_level_69 : decode cX12_level 69 = .ok (.invokevirtual 239, 3) := by decide +kernel
theorem dX12_level_72 : decode cX12_level 72 = .ok (.iconst (-1), 1) := by decide +kernel
theorem dX12_level_73 : decode cX12_level 73 = .ok (.if_icmp .eq 66, 3) := by decide +kernel
theorem dX12_level_76 : decode cX12_level 76 = .ok (.aload_n 0, 1) := by decide +kernel
theorem dX12_level_77 : decode cX12_level 77 = .ok (.getfield 169, 3) := by decide +kernel
theorem dX12_level_80 : decode cX12_level 80 = .ok (.istore 4, 2) := by decide +kernel
theorem dX12_level_82 : decode cX12_level 82 = .ok (.aload_n 0, 1) := by decide +kernel
theorem dX12_level_83 : decode cX12_level 83 = .ok (.getfield 313, 3) := by decide +kernel
theorem dX12_level_86 : decode cX12_level 86 = .ok (.istore 5, 2) := by decide +kernel
theorem dX12_level_88 : decode cX12_level 88 = .ok (.aload_n 0, 1) := by decide +kernel
theorem dX12_level_89 : decode cX12_level 89 = .ok (.dup, 1) := by decide +kernel
theorem dX12_level_90 : decode cX12_level 90 = .ok (.getfield 169, 3) := by decide +kernel
theorem dX12_level_93 : decode cX12_level 93 = .ok (.iconst 1, 1) := by decide +kernel
theorem dX12_level_94 : decode cX12_level 94 = .ok (.iadd, 1) := by decide +kernel
theorem dX12_level_95 : decode cX12_level 95 = .ok (.putfield 169, 3) := by decide +kernel
theorem dX12_level_98 : decode cX12_level 98 = .ok (.aload_n 0, 1) := by decide +kernel
theorem dX12_level_99 : decode cX12_level 99 = .ok (.iload_n 2, 1) := by decide +kernel
theorem dX12_level_100 : decode cX12_level 100 = .ok (.invokevirtual 322, 3) := by decide +kernel
theorem dX12_level_103 : decode cX12_level 103 = .ok (.istore_n 3, 1) := by decide +kernel
theorem dX12_level_104 : decode cX12_level 104 = .ok (.iload_n 3, 1) := by decide +kernel
theorem dX12_level_105 : decode cX12_level 105 = .ok (.ifCond .ne 31, 3) := by decide +kernel
theorem dX12_level_108 : decode cX12_level 108 = .ok (.aload_n 0, 1) := by decide +kernel
theorem dX12_level_109 : decode cX12_level 109 = .ok (.iconst 5, 1) := by decide +kernel
theorem dX12_level_110 : decode cX12_level 110 = .ok (.iload 5, 2) := by decide +kernel
theorem dX12_level_112 : decode cX12_level 112 = .ok (.aload_n 0, 1) := by decide +kernel
theorem dX12_level_113 : decode cX12_level 113 = .ok (.getfield 313, 3) := by decide +kernel
theorem dX12_level_116 : decode cX12_level 116 = .ok (.iconst (-1), 1) := by decide +kernel
theorem dX12_level_117 : decode cX12_level 117 = .ok (.aload_n 0, 1) := by decide +kernel
theorem dX12_level_118 : decode cX12_level 118 = .ok (.iload 4, 2) := by decide +kernel
theorem dX12_level_120 : decode cX12_level 120 = .ok (.iload_n 1, 1) := by decide +kernel
theorem dX12_level_121 : decode cX12_level 121 = .ok (.iload_n 2, 1) := by decide +kernel
theorem dX12_level_122 : decode cX12_level 122 = .ok (.invokevirtual 239, 3) := by decide +kernel
theorem dX12_level_125 : decode cX12_level 125 = .ok (.aload_n 0, 1) := by decide +kernel
theorem dX12_level_126 : decode cX12_level 126 = .ok (.getfield 26, 3) := by decide +kernel
theorem dX12_level_129 : decode cX12_level 129 = .ok (.iload 4, 2) := by decide +kernel
theorem dX12_level_131 : decode cX12_level 131 = .ok (.iaload, 1) := by decide +kernel
theorem dX12_level_132 : decode cX12_level 132 = .ok (.invokevirtual 325, 3) := by decide +kernel
theorem dX12_level_135 : decode cX12_level 135 = .ok (.pop, 1) := by decide +kernel
theorem dX12_level_136 : decode cX12_level 136 = .ok (.goto (-78), 3) := by decide +kernel
theorem dX12_level_139 : decode cX12_level 139 = .ok (.iload_n 3, 1) := by decide +kernel
theorem dX12_level_140 : decode cX12_level 140 = .ok (.ireturn, 1) := by decide +kernel
theorem dX12_factor_0 : decode cX12_factor 0 = .ok (.aload_n 0, 1) := by decide +kernel
theorem dX12_factor_1 : decode cX12_factor 1 = .ok (.getfield 169, 3) := by decide +kernel
theorem dX12_factor_4 : decode cX12_factor 4 = .ok (.istore_n 1, 1) := by decide +kernel
theorem dX12_factor_5 : decode cX12_factor 5 = .ok (.aload_n 0, 1) := by decide +kernel
theorem dX12_factor_6 : decode cX12_factor 6 = .ok (.dup, 1) := by decide +kernel
theorem dX12_factor_7 : decode cX12_factor 7 = .ok (.getfield 169, 3) := by decide +kernel
theorem dX12_factor_10 : decode cX12_factor 10 = .ok (.iconst 1, 1) := by decide +kernel
theorem dX12_factor_11 : decode cX12_factor 11 = .ok (.iadd, 1) := by decide +kernel
theorem dX12_factor_12 : decode cX12_factor 12 = .ok (.putfield 169, 3) := by decide +kernel
theorem dX12_factor_15 : decode cX12_factor 15 = .ok (.aload_n 0, 1) := by decide +kernel
theorem dX12_factor_16 : decode cX12_factor 16 = .ok (.getfield 17, 3) := by decide +kernel
theorem dX12_factor_19 : decode cX12_factor 19 = .ok (.iload_n 1, 1) := by decide +kernel
theorem dX12_factor_20 : decode cX12_factor 20 = .ok (.iaload, 1) := by decide +kernel
theorem dX12_factor_21 : decode cX12_factor 21 = .ok (.iconst 2, 1) := by decide +kernel
theorem dX12_factor_22 : decode cX12_factor 22 = .ok (.if_icmp .ne 23, 3) := by decide +kernel
theorem dX12_factor_25 : decode cX12_factor 25 = .ok (.aload_n 0, 1) := by decide +kernel
theorem dX12_factor_26 : decode cX12_factor 26 = .ok (.iconst 0, 1) := by decide +kernel
theorem dX12_factor_27 : decode cX12_factor 27 = .ok (.iconst (-1), 1) := by decide +kernel
theorem dX12_factor_28 : decode cX12_factor 28 = .ok (.iconst (-1), 1) := by decide +kernel
theorem dX12_factor_29 : decode cX12_factor 29 = .ok (.iconst (-1), 1) := by decide +kernel
theorem dX12_factor_30 : decode cX12_factor 30 = .ok (.aload_n 0, 1) := by decide +kernel
theorem dX12_factor_31 : decode cX12_factor 31 = .ok (.iload_n 1, 1) := by decide +kernel
theorem dX12_factor_32 : decode cX12_factor 32 = .ok (.invokevirtual 285, 3) := by decide +kernel
theorem dX12_factor_35 : decode cX12_factor 35 = .ok (.aload_n 0, 1) := by decide +kernel
theorem dX12_factor_36 : decode cX12_factor 36 = .ok (.getfield 26, 3) := by decide +kernel
theorem dX12_factor_39 : decode cX12_factor 39 = .ok (.iload_n 1, 1) := by decide +kernel
theorem dX12_factor_40 : decode cX12_factor 40 = .ok (.iaload, 1) := by decide +kernel
theorem dX12_factor_41 : decode cX12_factor 41 = .ok (.invokevirtual 325, 3) := by decide +kernel
theorem dX12_factor_44 : decode cX12_factor 44 = .ok (.ireturn, 1) := by decide +kernel
theorem dX12_factor_45 : decode cX12_factor 45 = .ok (.aload_n 0, 1) := by decide +kernel
theorem dX12_factor_46 : decode cX12_factor 46 = .ok (.iload_n 1, 1) := by decide +kernel
theorem dX12_factor_47 : decode cX12_factor 47 = .ok (.invokevirtual 176, 3) := by decide +kernel
theorem dX12_factor_50 : decode cX12_factor 50 = .ok (.ifCond .eq 26, 3) := by decide +kernel
theorem dX12_factor_53 : decode cX12_factor 53 = .ok (.aload_n 0, 1) := by decide +kernel
theorem dX12_factor_54 : decode cX12_factor 54 = .ok (.ldc 193, 2) := by decide +kernel
theorem dX12_factor_56 : decode cX12_factor 56 = .ok (.invokevirtual 172, 3) := by decide +kernel
theorem dX12_factor_59 : decode cX12_factor 59 = .ok (.ifCond .eq 11, 3) := by decide +kernel
theorem dX12_factor_62 : decode cX12_factor 62 = .ok (.aload_n 0, 1) := by decide +kernel
theorem dX12_factor_63 : decode cX12_factor 63 = .ok (.iload_n 1, 1) := by decide +kernel
theorem dX12_factor_64 : decode cX12_factor 64 = .ok (.invokevirtual 332, 3) := by decide +kernel
theorem dX12_factor_67 : decode cX12_factor 67 = .ok (.goto 8, 3) := by decide +kernel
theorem dX12_factor_70 : decode cX12_factor 70 = .ok (.aload_n 0, 1) := by decide +kernel
theorem dX12_factor_71 : decode cX12_factor 71 = .ok (.iload_n 1, 1) := by decide +kernel
theorem dX12_factor_72 : decode cX12_factor 72 = .ok (.invokevirtual 335, 3) := by decide +kernel
theorem dX12_factor_75 : decode cX12_factor 75 = .ok (.ireturn, 1) := by decide +kernel
theorem dX12_factor_76 : decode cX12_factor 76 = .ok (.aload_n 0, 1) := by decide +kernel
theorem dX12_factor_77 : decode cX12_factor 77 = .ok (.iload_n 1, 1) := by decide +kernel
theorem dX12_factor_78 : decode cX12_factor 78 = .ok (.ldc 193, 2) := by decide +kernel
theorem dX12_factor_80 : decode cX12_factor 80 = .ok (.invokevirtual 160, 3) := by decide +kernel
theorem dX12_factor_83 : decode cX12_factor 83 = .ok (.ifCond .eq 20, 3) := by decide +kernel
theorem dX12_factor_86 : decode cX12_factor 86 = .ok (.aload_n 0, 1) := by decide +kernel
theorem dX12_factor_87 : decode cX12_factor 87 = .ok (.invokevirtual 310, 3) := by decide +kernel
theorem dX12_factor_90 : decode cX12_factor 90 = .ok (.istore_n 2, 1) := by decide +kernel
theorem dX12_factor_91 : decode cX12_factor 91 = .ok (.aload_n 0, 1) := by decide +kernel
theorem dX12_factor_92 : decode cX12_factor 92 = .ok (.dup, 1) := by decide +kernel
theorem dX12_factor_93 : decode cX12_factor 93 = .ok (.getfield 169, 3) := by decide +kernel
theorem dX12_factor_96 : decode cX12_factor 96 = .ok (.iconst 1, 1) := by decide +kernel
theorem dX12_factor_97 : decode cX12_factor 97 = .ok (.iadd, 1) := by decide +kernel
theorem dX12_factor_98 : decode cX12_factor 98 = .ok (.putfield 169, 3) := by decide +kernel
theorem dX12_factor_101 : decode cX12_factor 101 = .ok (.iload_n 2, 1) := by decide +kernel
theorem dX12_factor_102 : decode cX12_factor 102 = .ok (.ireturn, 1) := by decide +kernel
theorem dX12_factor_103 : decode cX12_factor 103 = .ok (.aload_n 0, 1) := by decide +kernel
theorem dX12_factor_104 : decode cX12_factor 104 = .ok (.invokevirtual 329, 3) := by decide +kernel
theorem dX12_factor_107 : decode cX12_factor 107 = .ok (.istore_n 2, 1) := by decide +kernel
theorem dX12_factor_108 : decode cX12_factor 108 = .ok (.iload_n 2, 1) := by decide +kernel
theorem dX12_factor_109 : decode cX12_factor 109 = .ok (.ifCond .ne 33, 3) := by decide +kernel
theorem dX12_factor_112 : decode cX12_factor 112 = .ok (.aload_n 0, 1) := by decide +kernel
theorem dX12_factor_113 : decode cX12_factor 113 = .ok (.aload_n 0, 1) := by decide +kernel
theorem dX12_factor_114 : decode cX12_factor 114 = .ok (.iload_n 1, 1) := by decide +kernel
theorem dX12_factor_115 : decode cX12_factor 115 = .ok (.ldc 179, 2) := by decide +kernel
theorem dX12_factor_117 : decode cX12_factor 117 = .ok (.invokevirtual 160, 3) := by decide +kernel
theorem dX12_factor_120 : decode cX12_factor 120 = .ok (.ifCond .eq 7, 3) := by decide +kernel
theorem dX12_factor_123 : decode cX12_factor 123 = .ok (.iconst 3, 1) := by decide +kernel
theorem dX12_factor_124 : decode cX12_factor 124 = .ok (.goto 4, 3) := by decide +kernel
theorem dX12_factor_127 : decode cX12_factor 127 = .ok (.iconst 4, 1) := by decide +kernel
theorem dX12_factor_128 : decode cX12_factor 128 = .ok (.aload_n 0, 1) := by decide +kernel
theorem dX12_factor_129 : decode cX12_factor 129 = .ok (.getfield 313, 3) := by decide +kernel
theorem dX12_factor_132 : decode cX12_factor 132 = .ok (.iconst (-1), 1) := by decide +kernel
theorem dX12_factor_133 : decode cX12_factor 133 = .ok (.iconst (-1), 1) := by decide +kernel
theorem dX12_factor_134 : decode cX12_factor 134 = .ok (.iconst 0, 1) := by decide +kernel
theorem dX12_factor_135 : decode cX12_factor 135 = .ok (.iconst (-1), 1) := by decide +kernel
theorem dX12_factor_136 : decode cX12_factor 136 = .ok (.invokevirtual 325, 3) := by decide +kernel
theorem dX12_factor_139 : decode cX12_factor 139 = .ok (.goto 4, 3) := by decide +kernel
theorem dX12_factor_142 : decode cX12_factor 142 = .ok (.iload_n 2, 1) := by decide +kernel
theorem dX12_factor_143 : decode cX12_factor 143 = .ok (.ireturn, 1) := by decide +kernel
theorem dX12_inputNamed_0 : decode cX12_inputNamed 0 = .ok (.aload_n 0, 1) := by decide +kernel
theorem dX12_inputNamed_1 : decode cX12_inputNamed 1 = .ok (.getfield 57, 3) := by decide +kernel
theorem dX12_inputNamed_4 : decode cX12_inputNamed 4 = .ok (.iconst 3, 1) := by decide +kernel
theorem dX12_inputNamed_5 : decode cX12_inputNamed 5 = .ok (.aload_n 0, 1) := by decide +kernel
theorem dX12_inputNamed_6 : decode cX12_inputNamed 6 = .ok (.getfield 275, 3) := by decide +kernel
theorem dX12_inputNamed_9 : decode cX12_inputNamed 9 = .ok (.imul, 1) := by decide +kernel
theorem dX12_inputNamed_10 : decode cX12_inputNamed 10 = .ok (.aload_n 0, 1) := by decide +kernel
theorem dX12_inputNamed_11 : decode cX12_inputNamed 11 = .ok (.getfield 54, 3) := by decide +kernel
theorem dX12_inputNamed_14 : decode cX12_inputNamed 14 = .ok (.aload_n 0, 1) := by decide +kernel
theorem dX12_inputNamed_15 : decode cX12_inputNamed 15 = .ok (.getfield 275, 3) := by decide +kernel
theorem dX12_inputNamed_18 : decode cX12_inputNamed 18 = .ok (.iaload, 1) := by decide +kernel
theorem dX12_inputNamed_19 : decode cX12_inputNamed 19 = .ok (.aload_n 0, 1) := by decide +kernel
theorem dX12_inputNamed_20 : decode cX12_inputNamed 20 = .ok (.iload_n 1, 1) := by decide +kernel
theorem dX12_inputNamed_21 : decode cX12_inputNamed 21 = .ok (.invokevirtual 295, 3) := by decide +kernel
theorem dX12_inputNamed_24 : decode cX12_inputNamed 24 = .ok (.invokestatic 278, 3) := by decide +kernel
theorem dX12_inputNamed_27 : decode cX12_inputNamed 27 = .ok (.istore_n 2, 1) := by decide +kernel
theorem dX12_inputNamed_28 : decode cX12_inputNamed 28 = .ok (.iload_n 2, 1) := by decide +kernel
theorem dX12_inputNamed_29 : decode cX12_inputNamed 29 = .ok (.iconst (-1), 1) := by decide +kernel
theorem dX12_inputNamed_30 : decode cX12_inputNamed 30 = .ok (.if_icmp .ne 12, 3) := by decide +kernel
theorem dX12_inputNamed_33 : decode cX12_inputNamed 33 = .ok (.aload_n 0, 1) := by decide +kernel
theorem dX12_inputNamed_34 : decode cX12_inputNamed 34 = .ok (.iconst 2, 1) := by decide +kernel
theorem dX12_inputNamed_35 : decode cX12_inputNamed 35 = .ok (.iload_n 1, 1) := by decide +kernel
theorem dX12_inputNamed_36 : decode cX12_inputNamed 36 = .ok (.invokevirtual 292, 3) := by decide +kernel
theorem dX12_inputNamed_39 : decode cX12_inputNamed 39 = .ok (.goto 13, 3) := by decide +kernel
theorem dX12_inputNamed_42 : decode cX12_inputNamed 42 = .ok (.aload_n 0, 1) := by decide +kernel
theorem dX12_inputNamed_43 : decode cX12_inputNamed 43 = .ok (.iconst 1, 1) := by decide +kernel
theorem dX12_inputNamed_44 : decode cX12_inputNamed 44 = .ok (.iconst (-1), 1) := by decide +kernel
theorem dX12_inputNamed_45 : decode cX12_inputNamed 45 = .ok (.iconst (-1), 1) := by decide +kernel
theorem dX12_inputNamed_46 : decode cX12_inputNamed 46 = .ok (.iconst (-1), 1) := by decide +kernel
theorem dX12_inputNamed_47 : decode cX12_inputNamed 47 = .ok (.iload_n 2, 1) := by decide +kernel
theorem dX12_inputNamed_48 : decode cX12_inputNamed 48 = .ok (.iconst (-1), 1) := by decide +kernel
theorem dX12_inputNamed_49 : decode cX12_inputNamed 49 = .ok (.invokevirtual 325, 3) := by decide +kernel
theorem dX12_inputNamed_52 : decode cX12_inputNamed 52 = .ok (.ireturn, 1) := by decide +kernel
theorem dX12_call_0 : decode cX12_call 0 = .ok (.aload_n 0, 1) := by decide +kernel
theorem dX12_call_1 : decode cX12_call 1 = .ok (.getfield 50, 3) := by decide +kernel
theorem dX12_call_4 : decode cX12_call 4 = .ok (.iconst 0, 1) := by decide +kernel
theorem dX12_call_5 : decode cX12_call 5 = .ok (.aload_n 0, 1) := by decide +kernel
theorem dX12_call_6 : decode cX12_call 6 = .ok (.getfield 275, 3) := by decide +kernel
theorem dX12_call_9 : decode cX12_call 9 = .ok (.aload_n 0, 1) := by decide +kernel
theorem dX12_call_10 : decode cX12_call 10 = .ok (.iload_n 1, 1) := by decide +kernel
theorem dX12_call_11 : decode cX12_call 11 = .ok (.invokevirtual 295, 3) := by decide +kernel
theorem dX12_call_14 : decode cX12_call 14 = .ok (.invokestatic 278, 3) := by decide +kernel
theorem dX12_call_17 : decode cX12_call 17 = .ok (.istore_n 2, 1) := by decide +kernel
theorem dX12_call_18 : decode cX12_call 18 = .ok (.iload_n 2, 1) := by decide +kernel
theorem dX12_call_19 : decode cX12_call 19 = .ok (.iconst (-1), 1) := by decide +kernel
theorem dX12_call_20 : decode cX12_call 20 = .ok (.if_icmp .ne 10, 3) := by decide +kernel
theorem dX12_call_23 : decode cX12_call 23 = .ok (.aload_n 0, 1) := by decide +kernel
theorem dX12_call_24 : decode cX12_call 24 = .ok (.iconst 2, 1) := by decide +kernel
theorem dX12_call_25 : decode cX12_call 25 = .ok (.iload_n 1, 1) := by decide +kernel
theorem dX12_call_26 : decode cX12_call 26 = .ok (.invokevirtual 292, 3) := by decide +kernel
theorem dX12_call_29 : decode cX12_call 29 = .ok (.ireturn, 1) := by decide +kernel
theorem dX12_call_30 : decode cX12_call 30 = .ok (.iconst 3, 1) := by decide +kernel
theorem dX12_call_31 : decode cX12_call 31 = .ok (.newarray .int, 2) := by decide +kernel
theorem dX12_call_33 : decode cX12_call 33 = .ok (.dup, 1) := by decide +kernel
theorem dX12_call_34 : decode cX12_call 34 = .ok (.iconst 0, 1) := by decide +kernel
theorem dX12_call_35 : decode cX12_call 35 = .ok (.iconst (-1), 1) := by decide +kernel
theorem dX12_call_36 : decode cX12_call 36 = .ok (.iastore, 1) := by decide +kernel
theorem dX12_call_37 : decode cX12_call 37 = .ok (.dup, 1) := by decide +kernel
theorem dX12_call_38 : decode cX12_call 38 = .ok (.iconst 1, 1) := by decide +kernel
theorem dX12_call_39 : decode cX12_call 39 = .ok (.iconst (-1), 1) := by decide +kernel
theorem dX12_call_40 : decode cX12_call 40 = .ok (.iastore, 1) := by decide +kernel
theorem dX12_call_41 : decode cX12_call 41 = .ok (.dup, 1) := by decide +kernel
theorem dX12_call_42 : decode cX12_call 42 = .ok (.iconst 2, 1) := by decide +kernel
theorem dX12_call_43 : decode cX12_call 43 = .ok (.iconst (-1), 1) := by decide +kernel
theorem dX12_call_44 : decode cX12_call 44 = .ok (.iastore, 1) := by decide +kernel
theorem dX12_call_45 : decode cX12_call 45 = .ok (.astore_n 3, 1) := by decide +kernel
theorem dX12_call_46 : decode cX12_call 46 = .ok (.iconst 0, 1) := by decide +kernel
theorem dX12_call_47 : decode cX12_call 47 = .ok (.istore 4, 2) := by decide +kernel
theorem dX12_call_49 : decode cX12_call 49 = .ok (.aload_n 0, 1) := by decide +kernel
theorem dX12_call_50 : decode cX12_call 50 = .ok (.dup, 1) := by decide +kernel
theorem dX12_call_51 : decode cX12_call 51 = .ok (.getfield 169, 3) := by decide +kernel
theorem dX12_call_54 : decode cX12_call 54 = .ok (.iconst 1, 1) := by decide +kernel
theorem dX12_call_55 : decode cX12_call 55 = .ok (.iadd, 1) := by decide +kernel
theorem dX12_call_56 : decode cX12_call 56 = .ok (.putfield 169, 3) := by decide +kernel
theorem dX12_call_59 : decode cX12_call 59 = .ok (.aload_n 0, 1) := by decide +kernel
theorem dX12_call_60 : decode cX12_call 60 = .ok (.invokevirtual 310, 3) := by decide +kernel
theorem dX12_call_63 : decode cX12_call 63 = .ok (.istore 5, 2) := by decide +kernel
theorem dX12_call_65 : decode cX12_call 65 = .ok (.iload 5, 2) := by decide +kernel
theorem dX12_call_67 : decode cX12_call 67 = .ok (.ifCond .eq 6, 3) := by decide +kernel
theorem dX12_call_70 : decode cX12_call 70 = .ok (.iload 5, 2) := by decide +kernel
theorem dX12_call_72 : decode cX12_call 72 = .ok (.ireturn, 1) := by decide +kernel
theorem dX12_call_73 : decode cX12_call 73 = .ok (.iload 4, 2) := by decide +kernel
theorem dX12_call_75 : decode cX12_call 75 = .ok (.iconst 3, 1) := by decide +kernel
theorem dX12_call_76 : decode cX12_call 76 = .ok (.if_icmp .ge 11, 3) := by decide +kernel
theorem dX12_call_79 : decode cX12_call 79 = .ok (.aload_n 3, 1) := by decide +kernel
theorem dX12_call_80 : decode cX12_call 80 = .ok (.iload 4, 2) := by decide +kernel
theorem dX12_call_82 : decode cX12_call 82 = .ok (.aload_n 0, 1) := by decide +kernel
theorem dX12_call_83 : decode cX12_call 83 = .ok (.getfield 313, 3) := by decide +kernel
theorem dX12_call_86 : decode cX12_call 86 = .ok (.iastore, 1) := by decide +kernel
theorem dX12_call_87 : decode cX12_call 87 = .ok (.iinc 4 1, 3) := by decide +kernel
theorem dX12_call_90 : decode cX12_call 90 = .ok (.aload_n 0, 1) := by decide +kernel
theorem dX12_call_91 : decode cX12_call 91 = .ok (.ldc 223, 2) := by decide +kernel
theorem dX12_call_93 : decode cX12_call 93 = .ok (.invokevirtual 172, 3) := by decide +kernel
theorem dX12_call_96 : decode cX12_call 96 = .ok (.ifCond .ne (-47), 3) := by decide +kernel
theorem dX12_call_99 : decode cX12_call 99 = .ok (.aload_n 0, 1) := by decide +kernel
theorem dX12_call_100 : decode cX12_call 100 = .ok (.dup, 1) := by decide +kernel
theorem dX12_call_101 : decode cX12_call 101 = .ok (.getfield 169, 3) := by decide +kernel
theorem dX12_call_104 : decode cX12_call 104 = .ok (.iconst 1, 1) := by decide +kernel
theorem dX12_call_105 : decode cX12_call 105 = .ok (.iadd, 1) := by decide +kernel
theorem dX12_call_106 : decode cX12_call 106 = .ok (.putfield 169, 3) := by decide +kernel
theorem dX12_call_109 : decode cX12_call 109 = .ok (.iload 4, 2) := by decide +kernel
theorem dX12_call_111 : decode cX12_call 111 = .ok (.aload_n 0, 1) := by decide +kernel
theorem dX12_call_112 : decode cX12_call 112 = .ok (.getfield 54, 3) := by decide +kernel
theorem dX12_call_115 : decode cX12_call 115 = .ok (.iload_n 2, 1) := by decide +kernel
theorem dX12_call_116 : decode cX12_call 116 = .ok (.iaload, 1) := by decide +kernel
theorem dX12_call_117 : decode cX12_call 117 = .ok (.if_icmp .eq 11, 3) := by decide +kernel
theorem dX12_call_120 : decode cX12_call 120 = .ok (.aload_n 0, 1) := by decide +kernel
theorem dX12_call_121 : decode cX12_call 121 = .ok (.bipush 6, 2) := by decide +kernel
theorem dX12_call_123 : decode cX12_call 123 = .ok (.iload_n 1, 1) := by decide +kernel
theorem dX12_call_124 : decode cX12_call 124 = .ok (.invokevirtual 292, 3) := by decide +kernel
theorem dX12_call_127 : decode cX12_call 127 = .ok (.ireturn, 1) := by decide +kernel
theorem dX12_call_128 : decode cX12_call 128 = .ok (.aload_n 0, 1) := by decide +kernel
theorem dX12_call_129 : decode cX12_call 129 = .ok (.getfield 72, 3) := by decide +kernel
theorem dX12_call_132 : decode cX12_call 132 = .ok (.aload_n 0, 1) := by decide +kernel
theorem dX12_call_133 : decode cX12_call 133 = .ok (.getfield 275, 3) := by decide +kernel
theorem dX12_call_136 : decode cX12_call 136 = .ok (.dup2, 1) := by decide +kernel
theorem dX12_call_137 : decode cX12_call 137 = .ok (.iaload, 1) := by decide +kernel
theorem dX12_call_138 : decode cX12_call 138 = .ok (.aload_n 0, 1) := by decide +kernel
theorem dX12_call_139 : decode cX12_call 139 = .ok (.getfield 72, 3) := by decide +kernel
theorem dX12_call_142 : decode cX12_call 142 = .ok (.iload_n 2, 1) := by decide +kernel
theorem dX12_call_143 : decode cX12_call 143 = .ok (.iaload, 1) := by decide +kernel
theorem dX12_call_144 : decode cX12_call 144 = .ok (.iadd, 1) := by decide +kernel
theorem dX12_call_145 : decode cX12_call 145 = .ok (.iastore, 1) := by decide +kernel
theorem dX12_call_146 : decode cX12_call 146 = .ok (.aload_n 0, 1) := by decide +kernel
theorem dX12_call_147 : decode cX12_call 147 = .ok (.iconst 2, 1) := by decide +kernel
theorem dX12_call_148 : decode cX12_call 148 = .ok (.aload_n 3, 1) := by decide +kernel
theorem dX12_call_149 : decode cX12_call 149 = .ok (.iconst 0, 1) := by decide +kernel
theorem dX12_call_150 : decode cX12_call 150 = .ok (.iaload, 1) := by decide +kernel
theorem dX12_call_151 : decode cX12_call 151 = .ok (.aload_n 3, 1) := by decide +kernel
theorem dX12_call_152 : decode cX12_call 152 = .ok (.iconst 1, 1) := by decide +kernel
theorem dX12_call_153 : decode cX12_call 153 = .ok (.iaload, 1) := by decide +kernel
theorem dX12_call_154 : decode cX12_call 154 = .ok (.aload_n 3, 1) := by decide +kernel
theorem dX12_call_155 : decode cX12_call 155 = .ok (.iconst 2, 1) := by decide +kernel
theorem dX12_call_156 : decode cX12_call 156 = .ok (.iaload, 1) := by decide +kernel
theorem dX12_call_157 : decode cX12_call 157 = .ok (.iload_n 2, 1) := by decide +kernel
theorem dX12_call_158 : decode cX12_call 158 = .ok (.iconst (-1), 1) := by decide +kernel
theorem dX12_call_159 : decode cX12_call 159 = .ok (.invokevirtual 325, 3) := by decide +kernel
theorem dX12_call_162 : decode cX12_call 162 = .ok (.ireturn, 1) := by decide +kernel
theorem dX12_table_0 : decode cX12_table 0 = .ok (.aload_n 0, 1) := by decide +kernel
theorem dX12_table_1 : decode cX12_table 1 = .ok (.getfield 282, 3) := by decide +kernel
theorem dX12_table_4 : decode cX12_table 4 = .ok (.bipush 6, 2) := by decide +kernel
theorem dX12_table_6 : decode cX12_table 6 = .ok (.if_icmp .ne 10, 3) := by decide +kernel
theorem dX12_table_9 : decode cX12_table 9 = .ok (.aload_n 0, 1) := by decide +kernel
theorem dX12_table_10 : decode cX12_table 10 = .ok (.iconst 4, 1) := by decide +kernel
theorem dX12_table_11 : decode cX12_table 11 = .ok (.iload_n 1, 1) := by decide +kernel
theorem dX12_table_12 : decode cX12_table 12 = .ok (.invokevirtual 292, 3) := by decide +kernel
theorem dX12_table_15 : decode cX12_table 15 = .ok (.ireturn, 1) := by decide +kernel
theorem dX12_table_16 : decode cX12_table 16 = .ok (.aload_n 0, 1) := by decide +kernel
theorem dX12_table_17 : decode cX12_table 17 = .ok (.getfield 169, 3) := by decide +kernel
theorem dX12_table_20 : decode cX12_table 20 = .ok (.istore_n 2, 1) := by decide +kernel
theorem dX12_table_21 : decode cX12_table 21 = .ok (.aload_n 0, 1) := by decide +kernel
theorem dX12_table_22 : decode cX12_table 22 = .ok (.aload_n 0, 1) := by decide +kernel
theorem dX12_table_23 : decode cX12_table 23 = .ok (.iload_n 2, 1) := by decide +kernel
theorem dX12_table_24 : decode cX12_table 24 = .ok (.invokevirtual 295, 3) := by decide +kernel
theorem dX12_table_27 : decode cX12_table 27 = .ok (.invokevirtual 299, 3) := by decide +kernel
theorem dX12_table_30 : decode cX12_table 30 = .ok (.ifCond .eq 10, 3) := by decide +kernel
theorem dX12_table_33 : decode cX12_table 33 = .ok (.aload_n 0, 1) := by decide +kernel
theorem dX12_table_34 : decode cX12_table 34 = .ok (.iconst 3, 1) := by decide +kernel
theorem dX12_table_35 : decode cX12_table 35 = .ok (.iload_n 2, 1) := by decide +kernel
theorem dX12_table_36 : decode cX12_table 36 = .ok (.invokevirtual 292, 3) := by decide +kernel
theorem dX12_table_39 : decode cX12_table 39 = .ok (.ireturn, 1) := by decide +kernel
theorem dX12_table_40 : decode cX12_table 40 = .ok (.aload_n 0, 1) := by decide +kernel
theorem dX12_table_41 : decode cX12_table 41 = .ok (.dup, 1) := by decide +kernel
theorem dX12_table_42 : decode cX12_table 42 = .ok (.getfield 169, 3) := by decide +kernel
theorem dX12_table_45 : decode cX12_table 45 = .ok (.iconst 2, 1) := by decide +kernel
theorem dX12_table_46 : decode cX12_table 46 = .ok (.iadd, 1) := by decide +kernel
theorem dX12_table_47 : decode cX12_table 47 = .ok (.putfield 169, 3) := by decide +kernel
theorem dX12_table_50 : decode cX12_table 50 = .ok (.aload_n 0, 1) := by decide +kernel
theorem dX12_table_51 : decode cX12_table 51 = .ok (.getfield 50, 3) := by decide +kernel
theorem dX12_table_54 : decode cX12_table 54 = .ok (.iconst 0, 1) := by decide +kernel
theorem dX12_table_55 : decode cX12_table 55 = .ok (.aload_n 0, 1) := by decide +kernel
theorem dX12_table_56 : decode cX12_table 56 = .ok (.getfield 275, 3) := by decide +kernel
theorem dX12_table_59 : decode cX12_table 59 = .ok (.aload_n 0, 1) := by decide +kernel
theorem dX12_table_60 : decode cX12_table 60 = .ok (.aload_n 0, 1) := by decide +kernel
theorem dX12_table_61 : decode cX12_table 61 = .ok (.getfield 169, 3) := by decide +kernel
theorem dX12_table_64 : decode cX12_table 64 = .ok (.invokevirtual 295, 3) := by decide +kernel
theorem dX12_table_67 : decode cX12_table 67 = .ok (.invokestatic 278, 3) := by decide +kernel
theorem dX12_table_70 : decode cX12_table 70 = .ok (.istore_n 3, 1) := by decide +kernel
theorem dX12_table_71 : decode cX12_table 71 = .ok (.iload_n 3, 1) := by decide +kernel
theorem dX12_table_72 : decode cX12_table 72 = .ok (.iconst (-1), 1) := by decide +kernel
theorem dX12_table_73 : decode cX12_table 73 = .ok (.if_icmp .ne 13, 3) := by decide +kernel
theorem dX12_table_76 : decode cX12_table 76 = .ok (.aload_n 0, 1) := by decide +kernel
theorem dX12_table_77 : decode cX12_table 77 = .ok (.iconst 2, 1) := by decide +kernel
theorem dX12_table_78 : decode cX12_table 78 = .ok (.aload_n 0, 1) := by decide +kernel
theorem dX12_table_79 : decode cX12_table 79 = .ok (.getfield 169, 3) := by decide +kernel
theorem dX12_table_82 : decode cX12_table 82 = .ok (.invokevirtual 292, 3) := by decide +kernel
theorem dX12_table_85 : decode cX12_table 85 = .ok (.ireturn, 1) := by decide +kernel
theorem dX12_table_86 : decode cX12_table 86 = .ok (.aload_n 0, 1) := by decide +kernel
theorem dX12_table_87 : decode cX12_table 87 = .ok (.getfield 78, 3) := by decide +kernel
theorem dX12_table_90 : decode cX12_table 90 = .ok (.aload_n 0, 1) := by decide +kernel
theorem dX12_table_91 : decode cX12_table 91 = .ok (.getfield 282, 3) := by decide +kernel
theorem dX12_table_94 : decode cX12_table 94 = .ok (.iload_n 3, 1) := by decide +kernel
theorem dX12_table_95 : decode cX12_table 95 = .ok (.iastore, 1) := by decide +kernel
theorem dX12_table_96 : decode cX12_table 96 = .ok (.aload_n 0, 1) := by decide +kernel
theorem dX12_table_97 : decode cX12_table 97 = .ok (.getfield 81, 3) := by decide +kernel
theorem dX12_table_100 : decode cX12_table 100 = .ok (.aload_n 0, 1) := by decide +kernel
theorem dX12_table_101 : decode cX12_table 101 = .ok (.getfield 282, 3) := by decide +kernel
theorem dX12_table_104 : decode cX12_table 104 = .ok (.iconst 0, 1) := by decide +kernel
theorem dX12_table_105 : decode cX12_table 105 = .ok (.iastore, 1) := by decide +kernel
theorem dX12_table_106 : decode cX12_table 106 = .ok (.aload_n 0, 1) := by decide +kernel
theorem dX12_table_107 : decode cX12_table 107 = .ok (.dup, 1) := by decide +kernel
theorem dX12_table_108 : decode cX12_table 108 = .ok (.getfield 169, 3) := by decide +kernel
theorem dX12_table_111 : decode cX12_table 111 = .ok (.iconst 1, 1) := by decide +kernel
theorem dX12_table_112 : decode cX12_table 112 = .ok (.iadd, 1) := by decide +kernel
theorem dX12_table_113 : decode cX12_table 113 = .ok (.putfield 169, 3) := by decide +kernel
theorem dX12_table_116 : decode cX12_table 116 = .ok (.aload_n 0, 1) := by decide +kernel
theorem dX12_table_117 : decode cX12_table 117 = .ok (.dup, 1) := by decide +kernel
theorem dX12_table_118 : decode cX12_table 118 = .ok (.getfield 169, 3) := by decide +kernel
theorem dX12_table_121 : decode cX12_table 121 = .ok (.iconst 1, 1) := by decide +kernel
theorem dX12_table_122 : decode cX12_table 122 = .ok (.iadd, 1) := by decide +kernel
theorem dX12_table_123 : decode cX12_table 123 = .ok (.putfield 169, 3) := by decide +kernel
theorem dX12_table_126 : decode cX12_table 126 = .ok (.aload_n 0, 1) := by decide +kernel
theorem dX12_table_127 : decode cX12_table 127 = .ok (.invokevirtual 338, 3) := by decide +kernel
theorem dX12_table_130 : decode cX12_table 130 = .ok (.istore 4, 2) := by decide +kernel
theorem dX12_table_132 : decode cX12_table 132 = .ok (.iload 4, 2) := by decide +kernel
theorem dX12_table_134 : decode cX12_table 134 = .ok (.ifCond .eq 6, 3) := by decide +kernel
theorem dX12_table_137 : decode cX12_table 137 = .ok (.iload 4, 2) := by decide +kernel
theorem dX12_table_139 : decode cX12_table 139 = .ok (.ireturn, 1) := by decide +kernel
theorem dX12_table_140 : decode cX12_table 140 = .ok (.aload_n 0, 1) := by decide +kernel
theorem dX12_table_141 : decode cX12_table 141 = .ok (.ldc 231, 2) := by decide +kernel
theorem dX12_table_143 : decode cX12_table 143 = .ok (.invokevirtual 172, 3) := by decide +kernel
theorem dX12_table_146 : decode cX12_table 146 = .ok (.ifCond .ne (-30), 3) := by decide +kernel
theorem dX12_table_149 : decode cX12_table 149 = .ok (.aload_n 0, 1) := by decide +kernel
theorem dX12_table_150 : decode cX12_table 150 = .ok (.getfield 75, 3) := by decide +kernel
theorem dX12_table_153 : decode cX12_table 153 = .ok (.aload_n 0, 1) := by decide +kernel
theorem dX12_table_154 : decode cX12_table 154 = .ok (.getfield 282, 3) := by decide +kernel
theorem dX12_table_157 : decode cX12_table 157 = .ok (.aload_n 0, 1) := by decide +kernel
theorem dX12_table_158 : decode cX12_table 158 = .ok (.iload_n 2, 1) := by decide +kernel
theorem dX12_table_159 : decode cX12_table 159 = .ok (.invokevirtual 295, 3) := by decide +kernel
theorem dX12_table_162 : decode cX12_table 162 = .ok (.lastore, 1) := by decide +kernel
theorem dX12_table_163 : decode cX12_table 163 = .ok (.aload_n 0, 1) := by decide +kernel
theorem dX12_table_164 : decode cX12_table 164 = .ok (.dup, 1) := by decide +kernel
theorem dX12_table_165 : decode cX12_table 165 = .ok (.getfield 282, 3) := by decide +kernel
theorem dX12_table_168 : decode cX12_table 168 = .ok (.iconst 1, 1) := by decide +kernel
theorem dX12_table_169 : decode cX12_table 169 = .ok (.iadd, 1) := by decide +kernel
theorem dX12_table_170 : decode cX12_table 170 = .ok (.putfield 282, 3) := by decide +kernel
theorem dX12_table_173 : decode cX12_table 173 = .ok (.iconst 0, 1) := by decide +kernel
theorem dX12_table_174 : decode cX12_table 174 = .ok (.ireturn, 1) := by decide +kernel
theorem dX12_row_0 : decode cX12_row 0 = .ok (.aload_n 0, 1) := by decide +kernel
theorem dX12_row_1 : decode cX12_row 1 = .ok (.getfield 169, 3) := by decide +kernel
theorem dX12_row_4 : decode cX12_row 4 = .ok (.istore_n 1, 1) := by decide +kernel
theorem dX12_row_5 : decode cX12_row 5 = .ok (.aload_n 0, 1) := by decide +kernel
theorem dX12_row_6 : decode cX12_row 6 = .ok (.getfield 78, 3) := by decide +kernel
theorem dX12_row_9 : decode cX12_row 9 = .ok (.aload_n 0, 1) := by decide +kernel
theorem dX12_row_10 : decode cX12_row 10 = .ok (.getfield 282, 3) := by decide +kernel
theorem dX12_row_13 : decode cX12_row 13 = .ok (.iaload, 1) := by decide +kernel
theorem dX12_row_14 : decode cX12_row 14 = .ok (.istore_n 2, 1) := by decide +kernel
theorem dX12_row_15 : decode cX12_row 15 = .ok (.aload_n 0, 1) := by decide +kernel
theorem dX12_row_16 : decode cX12_row 16 = .ok (.getfield 81, 3) := by decide +kernel
theorem dX12_row_19 : decode cX12_row 19 = .ok (.aload_n 0, 1) := by decide +kernel
theorem dX12_row_20 : decode cX12_row 20 = .ok (.getfield 282, 3) := by decide +kernel
theorem dX12_row_23 : decode cX12_row 23 = .ok (.iaload, 1) := by decide +kernel
theorem dX12_row_24 : decode cX12_row 24 = .ok (.istore_n 3, 1) := by decide +kernel
theorem dX12_row_25 : decode cX12_row 25 = .ok (.iload_n 3, 1) := by decide +kernel
theorem dX12_row_26 : decode cX12_row 26 = .ok (.bipush 12, 2) := by decide +kernel
theorem dX12_row_28 : decode cX12_row 28 = .ok (.if_icmp .ne 10, 3) := by decide +kernel
theorem dX12_row_31 : decode cX12_row 31 = .ok (.aload_n 0, 1) := by decide +kernel
theorem dX12_row_32 : decode cX12_row 32 = .ok (.iconst 4, 1) := by decide +kernel
theorem dX12_row_33 : decode cX12_row 33 = .ok (.iload_n 1, 1) := by decide +kernel
theorem dX12_row_34 : decode cX12_row 34 = .ok (.invokevirtual 292, 3) := by decide +kernel
theorem dX12_row_37 : decode cX12_row 37 = .ok (.ireturn, 1) := by decide +kernel
theorem dX12_row_38 : decode cX12_row 38 = .ok (.iconst 0, 1) := by decide +kernel
theorem dX12_row_39 : decode cX12_row 39 = .ok (.istore 4, 2) := by decide +kernel
theorem dX12_row_41 : decode cX12_row 41 = .ok (.iconst 1, 1) := by decide +kernel
theorem dX12_row_42 : decode cX12_row 42 = .ok (.istore 5, 2) := by decide +kernel
theorem dX12_row_44 : decode cX12_row 44 = .ok (.iload 5, 2) := by decide +kernel
theorem dX12_row_46 : decode cX12_row 46 = .ok (.ifCond .eq 45, 3) := by decide +kernel
theorem dX12_row_49 : decode cX12_row 49 = .ok (.aload_n 0, 1) := by decide +kernel
theorem dX12_row_50 : decode cX12_row 50 = .ok (.iload_n 2, 1) := by decide +kernel
theorem dX12_row_51 : decode cX12_row 51 = .ok (.bipush 12, 2) := by decide +kernel
theorem dX12_row_53 : decode cX12_row 53 = .ok (.aload_n 0, 1) := by decide +kernel
theorem dX12_row_54 : decode cX12_row 54 = .ok (.getfield 282, 3) := by decide +kernel
theorem dX12_row_57 : decode cX12_row 57 = .ok (.imul, 1) := by decide +kernel
theorem dX12_row_58 : decode cX12_row 58 = .ok (.iload_n 3, 1) := by decide +kernel
theorem dX12_row_59 : decode cX12_row 59 = .ok (.iadd, 1) := by decide +kernel
theorem dX12_row_60 : decode cX12_row 60 = .ok (.iconst 3, 1) := by decide +kernel
theorem dX12_row_61 : decode cX12_row 61 = .ok (.imul, 1) := by decide +kernel
theorem dX12_row_62 : decode cX12_row 62 = .ok (.iload 4, 2) := by decide +kernel
theorem dX12_row_64 : decode cX12_row 64 = .ok (.invokevirtual 341, 3) := by decide +kernel
theorem dX12_row_67 : decode cX12_row 67 = .ok (.istore 6, 2) := by decide +kernel
theorem dX12_row_69 : decode cX12_row 69 = .ok (.iload 6, 2) := by decide +kernel
theorem dX12_row_71 : decode cX12_row 71 = .ok (.ifCond .eq 6, 3) := by decide +kernel
theorem dX12_row_74 : decode cX12_row 74 = .ok (.iload 6, 2) := by decide +kernel
theorem dX12_row_76 : decode cX12_row 76 = .ok (.ireturn, 1) := by decide +kernel
theorem dX12_row_77 : decode cX12_row 77 = .ok (.iinc 4 1, 3) := by decide +kernel
theorem dX12_row_80 : decode cX12_row 80 = .ok (.aload_n 0, 1) := by decide +kernel
theorem dX12_row_81 : decode cX12_row 81 = .ok (.ldc 223, 2) := by decide +kernel
theorem dX12_row_83 : decode cX12_row 83 = .ok (.invokevirtual 181, 3) := by decide +kernel
theorem dX12_row_86 : decode cX12_row 86 = .ok (.istore 5, 2) := by decide +kernel
theorem dX12_row_88 : decode cX12_row 88 = .ok (.goto (-44), 3) := by decide +kernel
theorem dX12_row_91 : decode cX12_row 91 = .ok (.iload 4, 2) := by decide +kernel
theorem dX12_row_93 : decode cX12_row 93 = .ok (.aload_n 0, 1) := by decide +kernel
theorem dX12_row_94 : decode cX12_row 94 = .ok (.getfield 54, 3) := by decide +kernel
theorem dX12_row_97 : decode cX12_row 97 = .ok (.iload_n 2, 1) := by decide +kernel
theorem dX12_row_98 : decode cX12_row 98 = .ok (.iaload, 1) := by decide +kernel
theorem dX12_row_99 : decode cX12_row 99 = .ok (.if_icmp .eq 11, 3) := by decide +kernel
theorem dX12_row_102 : decode cX12_row 102 = .ok (.aload_n 0, 1) := by decide +kernel
theorem dX12_row_103 : decode cX12_row 103 = .ok (.bipush 6, 2) := by decide +kernel
theorem dX12_row_105 : decode cX12_row 105 = .ok (.iload_n 1, 1) := by decide +kernel
theorem dX12_row_106 : decode cX12_row 106 = .ok (.invokevirtual 292, 3) := by decide +kernel
theorem dX12_row_109 : decode cX12_row 109 = .ok (.ireturn, 1) := by decide +kernel
theorem dX12_row_110 : decode cX12_row 110 = .ok (.aload_n 0, 1) := by decide +kernel
theorem dX12_row_111 : decode cX12_row 111 = .ok (.dup, 1) := by decide +kernel
theorem dX12_row_112 : decode cX12_row 112 = .ok (.getfield 169, 3) := by decide +kernel
theorem dX12_row_115 : decode cX12_row 115 = .ok (.iconst 1, 1) := by decide +kernel
theorem dX12_row_116 : decode cX12_row 116 = .ok (.iadd, 1) := by decide +kernel
theorem dX12_row_117 : decode cX12_row 117 = .ok (.putfield 169, 3) := by decide +kernel
theorem dX12_row_120 : decode cX12_row 120 = .ok (.bipush 12, 2) := by decide +kernel
theorem dX12_row_122 : decode cX12_row 122 = .ok (.aload_n 0, 1) := by decide +kernel
theorem dX12_row_123 : decode cX12_row 123 = .ok (.getfield 282, 3) := by decide +kernel
theorem dX12_row_126 : decode cX12_row 126 = .ok (.imul, 1) := by decide +kernel
theorem dX12_row_127 : decode cX12_row 127 = .ok (.iload_n 3, 1) := by decide +kernel
theorem dX12_row_128 : decode cX12_row 128 = .ok (.iadd, 1) := by decide +kernel
theorem dX12_row_129 : decode cX12_row 129 = .ok (.istore 6, 2) := by decide +kernel
theorem dX12_row_131 : decode cX12_row 131 = .ok (.aload_n 0, 1) := by decide +kernel
theorem dX12_row_132 : decode cX12_row 132 = .ok (.getfield 93, 3) := by decide +kernel
theorem dX12_row_135 : decode cX12_row 135 = .ok (.iload 6, 2) := by decide +kernel
theorem dX12_row_137 : decode cX12_row 137 = .ok (.lconst 0, 1) := by decide +kernel
theorem dX12_row_138 : decode cX12_row 138 = .ok (.lastore, 1) := by decide +kernel
theorem dX12_row_139 : decode cX12_row 139 = .ok (.aload_n 0, 1) := by decide +kernel
theorem dX12_row_140 : decode cX12_row 140 = .ok (.getfield 90, 3) := by decide +kernel
theorem dX12_row_143 : decode cX12_row 143 = .ok (.iload 6, 2) := by decide +kernel
theorem dX12_row_145 : decode cX12_row 145 = .ok (.aload_n 0, 1) := by decide +kernel
theorem dX12_row_146 : decode cX12_row 146 = .ok (.ldc 235, 2) := by decide +kernel
theorem dX12_row_148 : decode cX12_row 148 = .ok (.invokevirtual 172, 3) := by decide +kernel
theorem dX12_row_151 : decode cX12_row 151 = .ok (.ifCond .eq 8, 3) := by decide +kernel
theorem dX12_row_154 : decode cX12_row 154 = .ok (.bipush 20, 2) := by decide +kernel
theorem dX12_row_156 : decode cX12_row 156 = .ok (.goto 28, 3) := by decide +kernel
theorem dX12_row_159 : decode cX12_row 159 = .ok (.aload_n 0, 1) := by decide +kernel
theorem dX12_row_160 : decode cX12_row 160 = .ok (.ldc 237, 2) := by decide +kernel
theorem dX12_row_162 : decode cX12_row 162 = .ok (.invokevirtual 172, 3) := by decide +kernel
theorem dX12_row_165 : decode cX12_row 165 = .ok (.ifCond .eq 8, 3) := by decide +kernel
theorem dX12_row_168 : decode cX12_row 168 = .ok (.bipush 21, 2) := by decide +kernel
theorem dX12_row_170 : decode cX12_row 170 = .ok (.goto 14, 3) := by decide +kernel
theorem dX12_row_173 : decode cX12_row 173 = .ok (.aload_n 0, 1) := by decide +kernel
theorem dX12_row_174 : decode cX12_row 174 = .ok (.aload_n 0, 1) := by decide +kernel
theorem dX12_row_175 : decode cX12_row 175 = .ok (.getfield 169, 3) := by decide +kernel
theorem dX12_row_178 : decode cX12_row 178 = .ok (.iconst 2, 1) := by decide +kernel
theorem dX12_row_179 : decode cX12_row 179 = .ok (.bipush 8, 2) := by decide +kernel
theorem dX12_row_181 : decode cX12_row 181 = .ok (.invokevirtual 239, 3) := by decide +kernel
theorem dX12_row_184 : decode cX12_row 184 = .ok (.iastore, 1) := by decide +kernel
theorem dX12_row_185 : decode cX12_row 185 = .ok (.aload_n 0, 1) := by decide +kernel
theorem dX12_row_186 : decode cX12_row 186 = .ok (.dup, 1) := by decide +kernel
theorem dX12_row_187 : decode cX12_row 187 = .ok (.getfield 169, 3) := by decide +kernel
theorem dX12_row_190 : decode cX12_row 190 = .ok (.iconst 1, 1) := by decide +kernel
theorem dX12_row_191 : decode cX12_row 191 = .ok (.iadd, 1) := by decide +kernel
theorem dX12_row_192 : decode cX12_row 192 = .ok (.putfield 169, 3) := by decide +kernel
theorem dX12_row_195 : decode cX12_row 195 = .ok (.aload_n 0, 1) := by decide +kernel
theorem dX12_row_196 : decode cX12_row 196 = .ok (.getfield 90, 3) := by decide +kernel
theorem dX12_row_199 : decode cX12_row 199 = .ok (.iload 6, 2) := by decide +kernel
theorem dX12_row_201 : decode cX12_row 201 = .ok (.iaload, 1) := by decide +kernel
theorem dX12_row_202 : decode cX12_row 202 = .ok (.bipush 20, 2) := by decide +kernel
theorem dX12_row_204 : decode cX12_row 204 = .ok (.if_icmp .ge 25, 3) := by decide +kernel
theorem dX12_row_207 : decode cX12_row 207 = .ok (.aload_n 0, 1) := by decide +kernel
theorem dX12_row_208 : decode cX12_row 208 = .ok (.getfield 93, 3) := by decide +kernel
theorem dX12_row_211 : decode cX12_row 211 = .ok (.iload 6, 2) := by decide +kernel
theorem dX12_row_213 : decode cX12_row 213 = .ok (.aload_n 0, 1) := by decide +kernel
theorem dX12_row_214 : decode cX12_row 214 = .ok (.invokevirtual 316, 3) := by decide +kernel
theorem dX12_row_217 : decode cX12_row 217 = .ok (.i2l, 1) := by decide +kernel
theorem dX12_row_218 : decode cX12_row 218 = .ok (.lastore, 1) := by decide +kernel
theorem dX12_row_219 : decode cX12_row 219 = .ok (.aload_n 0, 1) := by decide +kernel
theorem dX12_row_220 : decode cX12_row 220 = .ok (.dup, 1) := by decide +kernel
theorem dX12_row_221 : decode cX12_row 221 = .ok (.getfield 169, 3) := by decide +kernel
theorem dX12_row_224 : decode cX12_row 224 = .ok (.iconst 1, 1) := by decide +kernel
theorem dX12_row_225 : decode cX12_row 225 = .ok (.iadd, 1) := by decide +kernel
theorem dX12_row_226 : decode cX12_row 226 = .ok (.putfield 169, 3) := by decide +kernel
theorem dX12_row_229 : decode cX12_row 229 = .ok (.aload_n 0, 1) := by decide +kernel
theorem dX12_row_230 : decode cX12_row 230 = .ok (.getfield 81, 3) := by decide +kernel
theorem dX12_row_233 : decode cX12_row 233 = .ok (.aload_n 0, 1) := by decide +kernel
theorem dX12_row_234 : decode cX12_row 234 = .ok (.getfield 282, 3) := by decide +kernel
theorem dX12_row_237 : decode cX12_row 237 = .ok (.dup2, 1) := by decide +kernel
theorem dX12_row_238 : decode cX12_row 238 = .ok (.iaload, 1) := by decide +kernel
theorem dX12_row_239 : decode cX12_row 239 = .ok (.iconst 1, 1) := by decide +kernel
theorem dX12_row_240 : decode cX12_row 240 = .ok (.iadd, 1) := by decide +kernel
theorem dX12_row_241 : decode cX12_row 241 = .ok (.iastore, 1) := by decide +kernel
theorem dX12_row_242 : decode cX12_row 242 = .ok (.aload_n 0, 1) := by decide +kernel
theorem dX12_row_243 : decode cX12_row 243 = .ok (.aload_n 0, 1) := by decide +kernel
theorem dX12_row_244 : decode cX12_row 244 = .ok (.getfield 282, 3) := by decide +kernel
theorem dX12_row_247 : decode cX12_row 247 = .ok (.invokevirtual 344, 3) := by decide +kernel
theorem dX12_row_250 : decode cX12_row 250 = .ok (.bipush 100, 2) := by decide +kernel
theorem dX12_row_252 : decode cX12_row 252 = .ok (.if_icmp .le 12, 3) := by decide +kernel
theorem dX12_row_255 : decode cX12_row 255 = .ok (.aload_n 0, 1) := by decide +kernel
theorem dX12_row_256 : decode cX12_row 256 = .ok (.iconst 4, 1) := by decide +kernel
theorem dX12_row_257 : decode cX12_row 257 = .ok (.iload_n 1, 1) := by decide +kernel
theorem dX12_row_258 : decode cX12_row 258 = .ok (.invokevirtual 292, 3) := by decide +kernel
theorem dX12_row_261 : decode cX12_row 261 = .ok (.goto 4, 3) := by decide +kernel
theorem dX12_row_264 : decode cX12_row 264 = .ok (.iconst 0, 1) := by decide +kernel
theorem dX12_row_265 : decode cX12_row 265 = .ok (.ireturn, 1) := by decide +kernel
theorem dX12_cell_0 : decode cX12_cell 0 = .ok (.iload_n 3, 1) := by decide +kernel
theorem dX12_cell_1 : decode cX12_cell 1 = .ok (.aload_n 0, 1) := by decide +kernel
theorem dX12_cell_2 : decode cX12_cell 2 = .ok (.getfield 54, 3) := by decide +kernel
theorem dX12_cell_5 : decode cX12_cell 5 = .ok (.iload_n 1, 1) := by decide +kernel
theorem dX12_cell_6 : decode cX12_cell 6 = .ok (.iaload, 1) := by decide +kernel
theorem dX12_cell_7 : decode cX12_cell 7 = .ok (.if_icmp .ge 7, 3) := by decide +kernel
theorem dX12_cell_10 : decode cX12_cell 10 = .ok (.iconst 1, 1) := by decide +kernel
theorem dX12_cell_11 : decode cX12_cell 11 = .ok (.goto 4, 3) := by decide +kernel
theorem dX12_cell_14 : decode cX12_cell 14 = .ok (.iconst 0, 1) := by decide +kernel
theorem dX12_cell_15 : decode cX12_cell 15 = .ok (.istore 4, 2) := by decide +kernel
theorem dX12_cell_17 : decode cX12_cell 17 = .ok (.iload 4, 2) := by decide +kernel
theorem dX12_cell_19 : decode cX12_cell 19 = .ok (.ifCond .eq 16, 3) := by decide +kernel
theorem dX12_cell_22 : decode cX12_cell 22 = .ok (.aload_n 0, 1) := by decide +kernel
theorem dX12_cell_23 : decode cX12_cell 23 = .ok (.getfield 60, 3) := by decide +kernel
theorem dX12_cell_26 : decode cX12_cell 26 = .ok (.iconst 3, 1) := by decide +kernel
theorem dX12_cell_27 : decode cX12_cell 27 = .ok (.iload_n 1, 1) := by decide +kernel
theorem dX12_cell_28 : decode cX12_cell 28 = .ok (.imul, 1) := by decide +kernel
theorem dX12_cell_29 : decode cX12_cell 29 = .ok (.iload_n 3, 1) := by decide +kernel
theorem dX12_cell_30 : decode cX12_cell 30 = .ok (.iadd, 1) := by decide +kernel
theorem dX12_cell_31 : decode cX12_cell 31 = .ok (.iaload, 1) := by decide +kernel
theorem dX12_cell_32 : decode cX12_cell 32 = .ok (.goto 4, 3) := by decide +kernel
theorem dX12_cell_35 : decode cX12_cell 35 = .ok (.iconst 0, 1) := by decide +kernel
theorem dX12_cell_36 : decode cX12_cell 36 = .ok (.istore 5, 2) := by decide +kernel
theorem dX12_cell_38 : decode cX12_cell 38 = .ok (.iload 4, 2) := by decide +kernel
theorem dX12_cell_40 : decode cX12_cell 40 = .ok (.ifCond .eq 16, 3) := by decide +kernel
theorem dX12_cell_43 : decode cX12_cell 43 = .ok (.aload_n 0, 1) := by decide +kernel
theorem dX12_cell_44 : decode cX12_cell 44 = .ok (.getfield 63, 3) := by decide +kernel
theorem dX12_cell_47 : decode cX12_cell 47 = .ok (.iconst 3, 1) := by decide +kernel
theorem dX12_cell_48 : decode cX12_cell 48 = .ok (.iload_n 1, 1) := by decide +kernel
theorem dX12_cell_49 : decode cX12_cell 49 = .ok (.imul, 1) := by decide +kernel
theorem dX12_cell_50 : decode cX12_cell 50 = .ok (.iload_n 3, 1) := by decide +kernel
theorem dX12_cell_51 : decode cX12_cell 51 = .ok (.iadd, 1) := by decide +kernel
theorem dX12_cell_52 : decode cX12_cell 52 = .ok (.iaload, 1) := by decide +kernel
theorem dX12_cell_53 : decode cX12_cell 53 = .ok (.goto 4, 3) := by decide +kernel
theorem dX12_cell_56 : decode cX12_cell 56 = .ok (.iconst 0, 1) := by decide +kernel
theorem dX12_cell_57 : decode cX12_cell 57 = .ok (.istore 6, 2) := by decide +kernel
theorem dX12_cell_59 : decode cX12_cell 59 = .ok (.aload_n 0, 1) := by decide +kernel
theorem dX12_cell_60 : decode cX12_cell 60 = .ok (.ldc 233, 2) := by decide +kernel
theorem dX12_cell_62 : decode cX12_cell 62 = .ok (.invokevirtual 181, 3) := by decide +kernel
theorem dX12_cell_65 : decode cX12_cell 65 = .ok (.ifCond .eq 17, 3) := by decide +kernel
theorem dX12_cell_68 : decode cX12_cell 68 = .ok (.aload_n 0, 1) := by decide +kernel
theorem dX12_cell_69 : decode cX12_cell 69 = .ok (.iload_n 2, 1) := by decide +kernel
theorem dX12_cell_70 : decode cX12_cell 70 = .ok (.iload_n 3, 1) := by decide +kernel
theorem dX12_cell_71 : decode cX12_cell 71 = .ok (.iload 4, 2) := by decide +kernel
theorem dX12_cell_73 : decode cX12_cell 73 = .ok (.iload 5, 2) := by decide +kernel
theorem dX12_cell_75 : decode cX12_cell 75 = .ok (.iload 6, 2) := by decide +kernel
theorem dX12_cell_77 : decode cX12_cell 77 = .ok (.invokevirtual 347, 3) := by decide +kernel
theorem dX12_cell_80 : decode cX12_cell 80 = .ok (.iconst 0, 1) := by decide +kernel
theorem dX12_cell_81 : decode cX12_cell 81 = .ok (.ireturn, 1) := by decide +kernel
theorem dX12_cell_82 : decode cX12_cell 82 = .ok (.aload_n 0, 1) := by decide +kernel
theorem dX12_cell_83 : decode cX12_cell 83 = .ok (.invokevirtual 316, 3) := by decide +kernel
theorem dX12_cell_86 : decode cX12_cell 86 = .ok (.istore 7, 2) := by decide +kernel
theorem dX12_cell_88 : decode cX12_cell 88 = .ok (.iload 4, 2) := by decide +kernel
theorem dX12_cell_90 : decode cX12_cell 90 = .ok (.ifCond .eq 25, 3) := by decide +kernel
theorem dX12_cell_93 : decode cX12_cell 93 = .ok (.iload 7, 2) := by decide +kernel
theorem dX12_cell_95 : decode cX12_cell 95 = .ok (.iload 5, 2) := by decide +kernel
theorem dX12_cell_97 : decode cX12_cell 97 = .ok (.iload 6, 2) := by decide +kernel
theorem dX12_cell_99 : decode cX12_cell 99 = .ok (.invokestatic 119, 3) := by decide +kernel
theorem dX12_cell_102 : decode cX12_cell 102 = .ok (.ifCond .ne 13, 3) := by decide +kernel
theorem dX12_cell_105 : decode cX12_cell 105 = .ok (.aload_n 0, 1) := by decide +kernel
theorem dX12_cell_106 : decode cX12_cell 106 = .ok (.iconst 5, 1) := by decide +kernel
theorem dX12_cell_107 : decode cX12_cell 107 = .ok (.aload_n 0, 1) := by decide +kernel
theorem dX12_cell_108 : decode cX12_cell 108 = .ok (.getfield 169, 3) := by decide +kernel
theorem dX12_cell_111 : decode cX12_cell 111 = .ok (.invokevirtual 292, 3) := by decide +kernel
theorem dX12_cell_114 : decode cX12_cell 114 = .ok (.ireturn, 1) := by decide +kernel
theorem dX12_cell_115 : decode cX12_cell 115 = .ok (.aload_n 0, 1) := by decide +kernel
theorem dX12_cell_116 : decode cX12_cell 116 = .ok (.dup, 1) := by decide +kernel
theorem dX12_cell_117 : decode cX12_cell 117 = .ok (.getfield 169, 3) := by decide +kernel
theorem dX12_cell_120 : decode cX12_cell 120 = .ok (.iconst 1, 1) := by decide +kernel
theorem dX12_cell_121 : decode cX12_cell 121 = .ok (.iadd, 1) := by decide +kernel
theorem dX12_cell_122 : decode cX12_cell 122 = .ok (.putfield 169, 3) := by decide +kernel
theorem dX12_cell_125 : decode cX12_cell 125 = .ok (.iload 7, 2) := by decide +kernel
theorem dX12_cell_127 : decode cX12_cell 127 = .ok (.istore 8, 2) := by decide +kernel
theorem dX12_cell_129 : decode cX12_cell 129 = .ok (.aload_n 0, 1) := by decide +kernel
theorem dX12_cell_130 : decode cX12_cell 130 = .ok (.ldc 221, 2) := by decide +kernel
theorem dX12_cell_132 : decode cX12_cell 132 = .ok (.invokevirtual 181, 3) := by decide +kernel
theorem dX12_cell_135 : decode cX12_cell 135 = .ok (.ifCond .eq 46, 3) := by decide +kernel
theorem dX12_cell_138 : decode cX12_cell 138 = .ok (.aload_n 0, 1) := by decide +kernel
theorem dX12_cell_139 : decode cX12_cell 139 = .ok (.invokevirtual 316, 3) := by decide +kernel
theorem dX12_cell_142 : decode cX12_cell 142 = .ok (.istore 8, 2) := by decide +kernel
theorem dX12_cell_144 : decode cX12_cell 144 = .ok (.iload 4, 2) := by decide +kernel
theorem dX12_cell_146 : decode cX12_cell 146 = .ok (.ifCond .eq 25, 3) := by decide +kernel
theorem dX12_cell_149 : decode cX12_cell 149 = .ok (.iload 8, 2) := by decide +kernel
theorem dX12_cell_151 : decode cX12_cell 151 = .ok (.iload 7, 2) := by decide +kernel
theorem dX12_cell_153 : decode cX12_cell 153 = .ok (.iload 6, 2) := by decide +kernel
theorem dX12_cell_155 : decode cX12_cell 155 = .ok (.invokestatic 119, 3) := by decide +kernel
theorem dX12_cell_158 : decode cX12_cell 158 = .ok (.ifCond .ne 13, 3) := by decide +kernel
theorem dX12_cell_161 : decode cX12_cell 161 = .ok (.aload_n 0, 1) := by decide +kernel
theorem dX12_cell_162 : decode cX12_cell 162 = .ok (.iconst 5, 1) := by decide +kernel
theorem dX12_cell_163 : decode cX12_cell 163 = .ok (.aload_n 0, 1) := by decide +kernel
theorem dX12_cell_164 : decode cX12_cell 164 = .ok (.getfield 169, 3) := by decide +kernel
theorem dX12_cell_167 : decode cX12_cell 167 = .ok (.invokevirtual 292, 3) := by decide +kernel
theorem dX12_cell_170 : decode cX12_cell 170 = .ok (.ireturn, 1) := by decide +kernel
theorem dX12_cell_171 : decode cX12_cell 171 = .ok (.aload_n 0, 1) := by decide +kernel
theorem dX12_cell_172 : decode cX12_cell 172 = .ok (.dup, 1) := by decide +kernel
theorem dX12_cell_173 : decode cX12_cell 173 = .ok (.getfield 169, 3) := by decide +kernel
theorem dX12_cell_176 : decode cX12_cell 176 = .ok (.iconst 1, 1) := by decide +kernel
theorem dX12_cell_177 : decode cX12_cell 177 = .ok (.iadd, 1) := by decide +kernel
theorem dX12_cell_178 : decode cX12_cell 178 = .ok (.putfield 169, 3) := by decide +kernel
theorem dX12_cell_181 : decode cX12_cell 181 = .ok (.aload_n 0, 1) := by decide +kernel
theorem dX12_cell_182 : decode cX12_cell 182 = .ok (.iload_n 2, 1) := by decide +kernel
theorem dX12_cell_183 : decode cX12_cell 183 = .ok (.iload_n 3, 1) := by decide +kernel
theorem dX12_cell_184 : decode cX12_cell 184 = .ok (.iload 4, 2) := by decide +kernel
theorem dX12_cell_186 : decode cX12_cell 186 = .ok (.iload 7, 2) := by decide +kernel
theorem dX12_cell_188 : decode cX12_cell 188 = .ok (.iload 8, 2) := by decide +kernel
theorem dX12_cell_190 : decode cX12_cell 190 = .ok (.invokevirtual 347, 3) := by decide +kernel
theorem dX12_cell_193 : decode cX12_cell 193 = .ok (.iconst 0, 1) := by decide +kernel
theorem dX12_cell_194 : decode cX12_cell 194 = .ok (.ireturn, 1) := by decide +kernel
theorem dX12_setCell_0 : decode cX12_setCell 0 = .ok (.iload_n 3, 1) := by decide +kernel
theorem dX12_setCell_1 : decode cX12_setCell 1 = .ok (.ifCond .ne 4, 3) := by decide +kernel
theorem dX12_setCell_4 : decode cX12_setCell 4 = .ok (.return_, 1) := by decide +kernel
theorem dX12_setCell_5 : decode cX12_setCell 5 = .ok (.aload_n 0, 1) := by decide +kernel
theorem dX12_setCell_6 : decode cX12_setCell 6 = .ok (.getfield 84, 3) := by decide +kernel
theorem dX12_setCell_9 : decode cX12_setCell 9 = .ok (.iload_n 1, 1) := by decide +kernel
theorem dX12_setCell_10 : decode cX12_setCell 10 = .ok (.iload_n 2, 1) := by decide +kernel
theorem dX12_setCell_11 : decode cX12_setCell 11 = .ok (.iadd, 1) := by decide +kernel
theorem dX12_setCell_12 : decode cX12_setCell 12 = .ok (.iload 4, 2) := by decide +kernel
theorem dX12_setCell_14 : decode cX12_setCell 14 = .ok (.iastore, 1) := by decide +kernel
theorem dX12_setCell_15 : decode cX12_setCell 15 = .ok (.aload_n 0, 1) := by decide +kernel
theorem dX12_setCell_16 : decode cX12_setCell 16 = .ok (.getfield 87, 3) := by decide +kernel
theorem dX12_setCell_19 : decode cX12_setCell 19 = .ok (.iload_n 1, 1) := by decide +kernel
theorem dX12_setCell_20 : decode cX12_setCell 20 = .ok (.iload_n 2, 1) := by decide +kernel
theorem dX12_setCell_21 : decode cX12_setCell 21 = .ok (.iadd, 1) := by decide +kernel
theorem dX12_setCell_22 : decode cX12_setCell 22 = .ok (.iload 5, 2) := by decide +kernel
theorem dX12_setCell_24 : decode cX12_setCell 24 = .ok (.iastore, 1) := by decide +kernel
theorem dX12_setCell_25 : decode cX12_setCell 25 = .ok (.return_, 1) := by decide +kernel
theorem dX12_forget_0 : decode cX12_forget 0 = .ok (.aload_n 0, 1) := by decide +kernel
theorem dX12_forget_1 : decode cX12_forget 1 = .ok (.iconst 0, 1) := by decide +kernel
theorem dX12_forget_2 : decode cX12_forget 2 = .ok (.putfield 275, 3) := by decide +kernel
theorem dX12_forget_5 : decode cX12_forget 5 = .ok (.aload_n 0, 1) := by decide +kernel
theorem dX12_forget_6 : decode cX12_forget 6 = .ok (.iconst 0, 1) := by decide +kernel
theorem dX12_forget_7 : decode cX12_forget 7 = .ok (.putfield 282, 3) := by decide +kernel
theorem dX12_forget_10 : decode cX12_forget 10 = .ok (.aload_n 0, 1) := by decide +kernel
theorem dX12_forget_11 : decode cX12_forget 11 = .ok (.iconst 0, 1) := by decide +kernel
theorem dX12_forget_12 : decode cX12_forget 12 = .ok (.putfield 272, 3) := by decide +kernel
theorem dX12_forget_15 : decode cX12_forget 15 = .ok (.aload_n 0, 1) := by decide +kernel
theorem dX12_forget_16 : decode cX12_forget 16 = .ok (.iconst 0, 1) := by decide +kernel
theorem dX12_forget_17 : decode cX12_forget 17 = .ok (.putfield 319, 3) := by decide +kernel
theorem dX12_forget_20 : decode cX12_forget 20 = .ok (.return_, 1) := by decide +kernel
theorem dX12_compile_0 : decode cX12_compile 0 = .ok (.aload_n 0, 1) := by decide +kernel
theorem dX12_compile_1 : decode cX12_compile 1 = .ok (.iconst 0, 1) := by decide +kernel
theorem dX12_compile_2 : decode cX12_compile 2 = .ok (.putfield 109, 3) := by decide +kernel
theorem dX12_compile_5 : decode cX12_compile 5 = .ok (.aload_n 0, 1) := by decide +kernel
theorem dX12_compile_6 : decode cX12_compile 6 = .ok (.invokevirtual 351, 3) := by decide +kernel
theorem dX12_compile_9 : decode cX12_compile 9 = .ok (.aload_n 0, 1) := by decide +kernel
theorem dX12_compile_10 : decode cX12_compile 10 = .ok (.iconst (-1), 1) := by decide +kernel
theorem dX12_compile_11 : decode cX12_compile 11 = .ok (.putfield 13, 3) := by decide +kernel
theorem dX12_compile_14 : decode cX12_compile 14 = .ok (.aload_n 0, 1) := by decide +kernel
theorem dX12_compile_15 : decode cX12_compile 15 = .ok (.invokevirtual 354, 3) := by decide +kernel
theorem dX12_compile_18 : decode cX12_compile 18 = .ok (.aload_n 0, 1) := by decide +kernel
theorem dX12_compile_19 : decode cX12_compile 19 = .ok (.iconst 0, 1) := by decide +kernel
theorem dX12_compile_20 : decode cX12_compile 20 = .ok (.putfield 169, 3) := by decide +kernel
theorem dX12_compile_23 : decode cX12_compile 23 = .ok (.aload_n 0, 1) := by decide +kernel
theorem dX12_compile_24 : decode cX12_compile 24 = .ok (.invokevirtual 357, 3) := by decide +kernel
theorem dX12_compile_27 : decode cX12_compile 27 = .ok (.ifCond .eq 7, 3) := by decide +kernel
theorem dX12_compile_30 : decode cX12_compile 30 = .ok (.iconst 0, 1) := by decide +kernel
theorem dX12_compile_31 : decode cX12_compile 31 = .ok (.goto 12, 3) := by decide +kernel
theorem dX12_compile_34 : decode cX12_compile 34 = .ok (.aload_n 0, 1) := by decide +kernel
theorem dX12_compile_35 : decode cX12_compile 35 = .ok (.iconst 1, 1) := by decide +kernel
theorem dX12_compile_36 : decode cX12_compile 36 = .ok (.aload_n 0, 1) := by decide +kernel
theorem dX12_compile_37 : decode cX12_compile 37 = .ok (.getfield 169, 3) := by decide +kernel
theorem dX12_compile_40 : decode cX12_compile 40 = .ok (.invokevirtual 292, 3) := by decide +kernel
theorem dX12_compile_43 : decode cX12_compile 43 = .ok (.istore_n 1, 1) := by decide +kernel
theorem dX12_compile_44 : decode cX12_compile 44 = .ok (.aload_n 0, 1) := by decide +kernel
theorem dX12_compile_45 : decode cX12_compile 45 = .ok (.iconst 0, 1) := by decide +kernel
theorem dX12_compile_46 : decode cX12_compile 46 = .ok (.putfield 169, 3) := by decide +kernel
theorem dX12_compile_49 : decode cX12_compile 49 = .ok (.iload_n 1, 1) := by decide +kernel
theorem dX12_compile_50 : decode cX12_compile 50 = .ok (.ifCond .ne 8, 3) := by decide +kernel
theorem dX12_compile_53 : decode cX12_compile 53 = .ok (.aload_n 0, 1) := by decide +kernel
theorem dX12_compile_54 : decode cX12_compile 54 = .ok (.invokevirtual 360, 3) := by decide +kernel
theorem dX12_compile_57 : decode cX12_compile 57 = .ok (.istore_n 1, 1) := by decide +kernel
theorem dX12_compile_58 : decode cX12_compile 58 = .ok (.aload_n 0, 1) := by decide +kernel
theorem dX12_compile_59 : decode cX12_compile 59 = .ok (.iconst 0, 1) := by decide +kernel
theorem dX12_compile_60 : decode cX12_compile 60 = .ok (.putfield 112, 3) := by decide +kernel
theorem dX12_compile_63 : decode cX12_compile 63 = .ok (.iload_n 1, 1) := by decide +kernel
theorem dX12_compile_64 : decode cX12_compile 64 = .ok (.ifCond .eq 7, 3) := by decide +kernel
theorem dX12_compile_67 : decode cX12_compile 67 = .ok (.aload_n 0, 1) := by decide +kernel
theorem dX12_compile_68 : decode cX12_compile 68 = .ok (.invokevirtual 351, 3) := by decide +kernel
theorem dX12_compile_71 : decode cX12_compile 71 = .ok (.iload_n 1, 1) := by decide +kernel
theorem dX12_compile_72 : decode cX12_compile 72 = .ok (.ireturn, 1) := by decide +kernel
theorem dX12_errorAt_0 : decode cX12_errorAt 0 = .ok (.aload_n 0, 1) := by decide +kernel
theorem dX12_errorAt_1 : decode cX12_errorAt 1 = .ok (.iconst 0, 1) := by decide +kernel
theorem dX12_errorAt_2 : decode cX12_errorAt 2 = .ok (.putfield 109, 3) := by decide +kernel
theorem dX12_errorAt_5 : decode cX12_errorAt 5 = .ok (.aload_n 0, 1) := by decide +kernel
theorem dX12_errorAt_6 : decode cX12_errorAt 6 = .ok (.getfield 13, 3) := by decide +kernel
theorem dX12_errorAt_9 : decode cX12_errorAt 9 = .ok (.ireturn, 1) := by decide +kernel
theorem dX12_truth_0 : decode cX12_truth 0 = .ok (.iload_n 0, 1) := by decide +kernel
theorem dX12_truth_1 : decode cX12_truth 1 = .ok (.ifCond .eq 7, 3) := by decide +kernel
theorem dX12_truth_4 : decode cX12_truth 4 = .ok (.lconst 1, 1) := by decide +kernel
theorem dX12_truth_5 : decode cX12_truth 5 = .ok (.goto 4, 3) := by decide +kernel
theorem dX12_truth_8 : decode cX12_truth 8 = .ok (.lconst 0, 1) := by decide +kernel
theorem dX12_truth_9 : decode cX12_truth 9 = .ok (.lreturn, 1) := by decide +kernel
theorem dX12_changed_0 : decode cX12_changed 0 = .ok (.iload_n 0, 1) := by decide +kernel
theorem dX12_changed_1 : decode cX12_changed 1 = .ok (.bipush 12, 2) := by decide +kernel
theorem dX12_changed_3 : decode cX12_changed 3 = .ok (.if_icmp .ne 8, 3) := by decide +kernel
theorem dX12_changed_6 : decode cX12_changed 6 = .ok (.bipush 10, 2) := by decide +kernel
theorem dX12_changed_8 : decode cX12_changed 8 = .ok (.goto 6, 3) := by decide +kernel
theorem dX12_changed_11 : decode cX12_changed 11 = .ok (.iload_n 0, 1) := by decide +kernel
theorem dX12_changed_12 : decode cX12_changed 12 = .ok (.iconst 1, 1) := by decide +kernel
theorem dX12_changed_13 : decode cX12_changed 13 = .ok (.ixor, 1) := by decide +kernel
theorem dX12_changed_14 : decode cX12_changed 14 = .ok (.ireturn, 1) := by decide +kernel
theorem dX12_fault_0 : decode cX12_fault 0 = .ok (.aload_n 0, 1) := by decide +kernel
theorem dX12_fault_1 : decode cX12_fault 1 = .ok (.iconst 1, 1) := by decide +kernel
theorem dX12_fault_2 : decode cX12_fault 2 = .ok (.putfield 363, 3) := by decide +kernel
theorem dX12_fault_5 : decode cX12_fault 5 = .ok (.lconst 0, 1) := by decide +kernel
theorem dX12_fault_6 : decode cX12_fault 6 = .ok (.lreturn, 1) := by decide +kernel
theorem dX12_holds_0 : decode cX12_holds 0 = .ok (.iload_n 0, 1) := by decide +kernel
theorem dX12_holds_1 : decode cX12_holds 1 = .ok (.iconst 2, 1) := by decide +kernel
theorem dX12_holds_2 : decode cX12_holds 2 = .ok (.if_icmp .ne 17, 3) := by decide +kernel
theorem dX12_holds_5 : decode cX12_holds 5 = .ok (.lload_n 1, 1) := by decide +kernel
theorem dX12_holds_6 : decode cX12_holds 6 = .ok (.lload_n 3, 1) := by decide +kernel
theorem dX12_holds_7 : decode cX12_holds 7 = .ok (.lcmp, 1) := by decide +kernel
theorem dX12_holds_8 : decode cX12_holds 8 = .ok (.ifCond .ne 7, 3) := by decide +kernel
theorem dX12_holds_11 : decode cX12_holds 11 = .ok (.iconst 1, 1) := by decide +kernel
theorem dX12_holds_12 : decode cX12_holds 12 = .ok (.goto 95, 3) := by decide +kernel
theorem dX12_holds_15 : decode cX12_holds 15 = .ok (.iconst 0, 1) := by decide +kernel
theorem dX12_holds_16 : decode cX12_holds 16 = .ok (.goto 91, 3) := by decide +kernel
theorem dX12_holds_19 : decode cX12_holds 19 = .ok (.iload_n 0, 1) := by decide +kernel
theorem dX12_holds_20 : decode cX12_holds 20 = .ok (.iconst 3, 1) := by decide +kernel
theorem dX12_holds_21 : decode cX12_holds 21 = .ok (.if_icmp .ne 17, 3) := by decide +kernel
theorem dX12_holds_24 : decode cX12_holds 24 = .ok (.lload_n 1, 1) := by decide +kernel
theorem dX12_holds_25 : decode cX12_holds 25 = .ok (.lload_n 3, 1) := by decide +kernel
theorem dX12_holds_26 : decode cX12_holds 26 = .ok (.lcmp, 1) := by decide +kernel
theorem dX12_holds_27 : decode cX12_holds 27 = .ok (.ifCond .eq 7, 3) := by decide +kernel
theorem dX12_holds_30 : decode cX12_holds 30 = .ok (.iconst 1, 1) := by decide +kernel
theorem dX12_holds_31 : decode cX12_holds 31 = .ok (.goto 76, 3) := by decide +kernel
theorem dX12_holds_34 : decode cX12_holds 34 = .ok (.iconst 0, 1) := by decide +kernel
theorem dX12_holds_35 : decode cX12_holds 35 = .ok (.goto 72, 3) := by decide +kernel
theorem dX12_holds_38 : decode cX12_holds 38 = .ok (.iload_n 0, 1) := by decide +kernel
theorem dX12_holds_39 : decode cX12_holds 39 = .ok (.iconst 4, 1) := by decide +kernel
theorem dX12_holds_40 : decode cX12_holds 40 = .ok (.if_icmp .ne 17, 3) := by decide +kernel
theorem dX12_holds_43 : decode cX12_holds 43 = .ok (.lload_n 1, 1) := by decide +kernel
theorem dX12_holds_44 : decode cX12_holds 44 = .ok (.lload_n 3, 1) := by decide +kernel
theorem dX12_holds_45 : decode cX12_holds 45 = .ok (.lcmp, 1) := by decide +kernel
theorem dX12_holds_46 : decode cX12_holds 46 = .ok (.ifCond .ge 7, 3) := by decide +kernel
theorem dX12_holds_49 : decode cX12_holds 49 = .ok (.iconst 1, 1) := by decide +kernel
theorem dX12_holds_50 : decode cX12_holds 50 = .ok (.goto 57, 3) := by decide +kernel
theorem dX12_holds_53 : decode cX12_holds 53 = .ok (.iconst 0, 1) := by decide +kernel
theorem dX12_holds_54 : decode cX12_holds 54 = .ok (.goto 53, 3) := by decide +kernel
theorem dX12_holds_57 : decode cX12_holds 57 = .ok (.iload_n 0, 1) := by decide +kernel
theorem dX12_holds_58 : decode cX12_holds 58 = .ok (.iconst 5, 1) := by decide +kernel
theorem dX12_holds_59 : decode cX12_holds 59 = .ok (.if_icmp .ne 17, 3) := by decide +kernel
theorem dX12_holds_62 : decode cX12_holds 62 = .ok (.lload_n 1, 1) := by decide +kernel
theorem dX12_holds_63 : decode cX12_holds 63 = .ok (.lload_n 3, 1) := by decide +kernel
theorem dX12_holds_64 : decode cX12_holds 64 = .ok (.lcmp, 1) := by decide +kernel
theorem dX12_holds_65 : decode cX12_holds 65 = .ok (.ifCond .gt 7, 3) := by decide +kernel
theorem dX12_holds_68 : decode cX12_holds 68 = .ok (.iconst 1, 1) := by decide +kernel
theorem dX12_holds_69 : decode cX12_holds 69 = .ok (.goto 38, 3) := by decide +kernel
theorem dX12_holds_72 : decode cX12_holds 72 = .ok (.iconst 0, 1) := by decide +kernel
theorem dX12_holds_73 : decode cX12_holds 73 = .ok (.goto 34, 3) := by decide +kernel
theorem dX12_holds_76 : decode cX12_holds 76 = .ok (.iload_n 0, 1) := by decide +kernel
theorem dX12_holds_77 : decode cX12_holds 77 = .ok (.bipush 6, 2) := by decide +kernel
theorem dX12_holds_79 : decode cX12_holds 79 = .ok (.if_icmp .ne 17, 3) := by decide +kernel
theorem dX12_holds_82 : decode cX12_holds 82 = .ok (.lload_n 1, 1) := by decide +kernel
theorem dX12_holds_83 : decode cX12_holds 83 = .ok (.lload_n 3, 1) := by decide +kernel
theorem dX12_holds_84 : decode cX12_holds 84 = .ok (.lcmp, 1) := by decide +kernel
theorem dX12_holds_85 : decode cX12_holds 85 = .ok (.ifCond .le 7, 3) := by decide +kernel
theorem dX12_holds_88 : decode cX12_holds 88 = .ok (.iconst 1, 1) := by decide +kernel
theorem dX12_holds_89 : decode cX12_holds 89 = .ok (.goto 18, 3) := by decide +kernel
theorem dX12_holds_92 : decode cX12_holds 92 = .ok (.iconst 0, 1) := by decide +kernel
theorem dX12_holds_93 : decode cX12_holds 93 = .ok (.goto 14, 3) := by decide +kernel
theorem dX12_holds_96 : decode cX12_holds 96 = .ok (.lload_n 1, 1) := by decide +kernel
theorem dX12_holds_97 : decode cX12_holds 97 = .ok (.lload_n 3, 1) := by decide +kernel
theorem dX12_holds_98 : decode cX12_holds 98 = .ok (.lcmp, 1) := by decide +kernel
theorem dX12_holds_99 : decode cX12_holds 99 = .ok (.ifCond .lt 7, 3) := by decide +kernel
theorem dX12_holds_102 : decode cX12_holds 102 = .ok (.iconst 1, 1) := by decide +kernel
theorem dX12_holds_103 : decode cX12_holds 103 = .ok (.goto 4, 3) := by decide +kernel
theorem dX12_holds_106 : decode cX12_holds 106 = .ok (.iconst 0, 1) := by decide +kernel
theorem dX12_holds_107 : decode cX12_holds 107 = .ok (.ireturn, 1) := by decide +kernel
theorem dX12_worth_0 : decode cX12_worth 0 = .ok (.aload_n 0, 1) := by decide +kernel
theorem dX12_worth_1 : decode cX12_worth 1 = .ok (.getfield 32, 3) := by decide +kernel
theorem dX12_worth_4 : decode cX12_worth 4 = .ok (.iload_n 1, 1) := by decide +kernel
theorem dX12_worth_5 : decode cX12_worth 5 = .ok (.iaload, 1) := by decide +kernel
theorem dX12_worth_6 : decode cX12_worth 6 = .ok (.istore 9, 2) := by decide +kernel
theorem dX12_worth_8 : decode cX12_worth 8 = .ok (.iload 8, 2) := by decide +kernel
theorem dX12_worth_10 : decode cX12_worth 10 = .ok (.iconst (-1), 1) := by decide +kernel
theorem dX12_worth_11 : decode cX12_worth 11 = .ok (.if_icmp .eq 18, 3) := by decide +kernel
theorem dX12_worth_14 : decode cX12_worth 14 = .ok (.aload_n 0, 1) := by decide +kernel
theorem dX12_worth_15 : decode cX12_worth 15 = .ok (.getfield 47, 3) := by decide +kernel
theorem dX12_worth_18 : decode cX12_worth 18 = .ok (.iload_n 1, 1) := by decide +kernel
theorem dX12_worth_19 : decode cX12_worth 19 = .ok (.iaload, 1) := by decide +kernel
theorem dX12_worth_20 : decode cX12_worth 20 = .ok (.iload 8, 2) := by decide +kernel
theorem dX12_worth_22 : decode cX12_worth 22 = .ok (.if_icmp .ne 7, 3) := by decide +kernel
theorem dX12_worth_25 : decode cX12_worth 25 = .ok (.iconst 1, 1) := by decide +kernel
theorem dX12_worth_26 : decode cX12_worth 26 = .ok (.goto 4, 3) := by decide +kernel
theorem dX12_worth_29 : decode cX12_worth 29 = .ok (.iconst 0, 1) := by decide +kernel
theorem dX12_worth_30 : decode cX12_worth 30 = .ok (.istore 10, 2) := by decide +kernel
theorem dX12_worth_32 : decode cX12_worth 32 = .ok (.iload 9, 2) := by decide +kernel
theorem dX12_worth_34 : decode cX12_worth 34 = .ok (.ifCond .ne 22, 3) := by decide +kernel
theorem dX12_worth_37 : decode cX12_worth 37 = .ok (.aload_n 0, 1) := by decide +kernel
theorem dX12_worth_38 : decode cX12_worth 38 = .ok (.getfield 44, 3) := by decide +kernel
theorem dX12_worth_41 : decode cX12_worth 41 = .ok (.iload_n 1, 1) := by decide +kernel
theorem dX12_worth_42 : decode cX12_worth 42 = .ok (.iaload, 1) := by decide +kernel
theorem dX12_worth_43 : decode cX12_worth 43 = .ok (.iload 10, 2) := by decide +kernel
theorem dX12_worth_45 : decode cX12_worth 45 = .ok (.ifCond .eq 7, 3) := by decide +kernel
theorem dX12_worth_48 : decode cX12_worth 48 = .ok (.iconst 1, 1) := by decide +kernel
theorem dX12_worth_49 : decode cX12_worth 49 = .ok (.goto 4, 3) := by decide +kernel
theorem dX12_worth_52 : decode cX12_worth 52 = .ok (.iconst 0, 1) := by decide +kernel
theorem dX12_worth_53 : decode cX12_worth 53 = .ok (.iadd, 1) := by decide +kernel
theorem dX12_worth_54 : decode cX12_worth 54 = .ok (.i2l, 1) := by decide +kernel
theorem dX12_worth_55 : decode cX12_worth 55 = .ok (.lreturn, 1) := by decide +kernel
theorem dX12_worth_56 : decode cX12_worth 56 = .ok (.iload 9, 2) := by decide +kernel
theorem dX12_worth_58 : decode cX12_worth 58 = .ok (.iconst 1, 1) := by decide +kernel
theorem dX12_worth_59 : decode cX12_worth 59 = .ok (.if_icmp .ne 34, 3) := by decide +kernel
theorem dX12_worth_62 : decode cX12_worth 62 = .ok (.aload_n 0, 1) := by decide +kernel
theorem dX12_worth_63 : decode cX12_worth 63 = .ok (.getfield 44, 3) := by decide +kernel
theorem dX12_worth_66 : decode cX12_worth 66 = .ok (.iload_n 1, 1) := by decide +kernel
theorem dX12_worth_67 : decode cX12_worth 67 = .ok (.iaload, 1) := by decide +kernel
theorem dX12_worth_68 : decode cX12_worth 68 = .ok (.ifCond .ne 7, 3) := by decide +kernel
theorem dX12_worth_71 : decode cX12_worth 71 = .ok (.lload_n 2, 1) := by decide +kernel
theorem dX12_worth_72 : decode cX12_worth 72 = .ok (.goto 20, 3) := by decide +kernel
theorem dX12_worth_75 : decode cX12_worth 75 = .ok (.aload_n 0, 1) := by decide +kernel
theorem dX12_worth_76 : decode cX12_worth 76 = .ok (.getfield 44, 3) := by decide +kernel
theorem dX12_worth_79 : decode cX12_worth 79 = .ok (.iload_n 1, 1) := by decide +kernel
theorem dX12_worth_80 : decode cX12_worth 80 = .ok (.iaload, 1) := by decide +kernel
theorem dX12_worth_81 : decode cX12_worth 81 = .ok (.iconst 1, 1) := by decide +kernel
theorem dX12_worth_82 : decode cX12_worth 82 = .ok (.if_icmp .ne 8, 3) := by decide +kernel
theorem dX12_worth_85 : decode cX12_worth 85 = .ok (.lload 4, 2) := by decide +kernel
theorem dX12_worth_87 : decode cX12_worth 87 = .ok (.goto 5, 3) := by decide +kernel
theorem dX12_worth_90 : decode cX12_worth 90 = .ok (.lload 6, 2) := by decide +kernel
theorem dX12_worth_92 : decode cX12_worth 92 = .ok (.lreturn, 1) := by decide +kernel
theorem dX12_worth_93 : decode cX12_worth 93 = .ok (.iload 9, 2) := by decide +kernel
theorem dX12_worth_95 : decode cX12_worth 95 = .ok (.iconst 2, 1) := by decide +kernel
theorem dX12_worth_96 : decode cX12_worth 96 = .ok (.if_icmp .ne 16, 3) := by decide +kernel
theorem dX12_worth_99 : decode cX12_worth 99 = .ok (.aload_n 0, 1) := by decide +kernel
theorem dX12_worth_100 : decode cX12_worth 100 = .ok (.iload_n 1, 1) := by decide +kernel
theorem dX12_worth_101 : decode cX12_worth 101 = .ok (.lload_n 2, 1) := by decide +kernel
theorem dX12_worth_102 : decode cX12_worth 102 = .ok (.lload 4, 2) := by decide +kernel
theorem dX12_worth_104 : decode cX12_worth 104 = .ok (.lload 6, 2) := by decide +kernel
theorem dX12_worth_106 : decode cX12_worth 106 = .ok (.iload 8, 2) := by decide +kernel
theorem dX12_worth_108 : decode cX12_worth 108 = .ok (.invokevirtual 367, 3) := by decide +kernel
theorem dX12_worth_111 : decode cX12_worth 111 = .ok (.lreturn, 1) := by decide +kernel
theorem dX12_worth_112 : decode cX12_worth 112 = .ok (.aload_n 0, 1) := by decide +kernel
theorem dX12_worth_113 : decode cX12_worth 113 = .ok (.aload_n 0, 1) := by decide +kernel
theorem dX12_worth_114 : decode cX12_worth 114 = .ok (.getfield 35, 3) := by decide +kernel
theorem dX12_worth_117 : decode cX12_worth 117 = .ok (.iload_n 1, 1) := by decide +kernel
theorem dX12_worth_118 : decode cX12_worth 118 = .ok (.iaload, 1) := by decide +kernel
theorem dX12_worth_119 : decode cX12_worth 119 = .ok (.lload_n 2, 1) := by decide +kernel
theorem dX12_worth_120 : decode cX12_worth 120 = .ok (.lload 4, 2) := by decide +kernel
theorem dX12_worth_122 : decode cX12_worth 122 = .ok (.lload 6, 2) := by decide +kernel
theorem dX12_worth_124 : decode cX12_worth 124 = .ok (.iload 8, 2) := by decide +kernel
theorem dX12_worth_126 : decode cX12_worth 126 = .ok (.invokevirtual 371, 3) := by decide +kernel
theorem dX12_worth_129 : decode cX12_worth 129 = .ok (.lstore 11, 2) := by decide +kernel
theorem dX12_worth_131 : decode cX12_worth 131 = .ok (.aload_n 0, 1) := by decide +kernel
theorem dX12_worth_132 : decode cX12_worth 132 = .ok (.getfield 363, 3) := by decide +kernel
theorem dX12_worth_135 : decode cX12_worth 135 = .ok (.ifCond .eq 5, 3) := by decide +kernel
theorem dX12_worth_138 : decode cX12_worth 138 = .ok (.lconst 0, 1) := by decide +kernel
theorem dX12_worth_139 : decode cX12_worth 139 = .ok (.lreturn, 1) := by decide +kernel
theorem dX12_worth_140 : decode cX12_worth 140 = .ok (.iload 9, 2) := by decide +kernel
theorem dX12_worth_142 : decode cX12_worth 142 = .ok (.iconst 3, 1) := by decide +kernel
theorem dX12_worth_143 : decode cX12_worth 143 = .ok (.if_icmp .ne 7, 3) := by decide +kernel
theorem dX12_worth_146 : decode cX12_worth 146 = .ok (.lload 11, 2) := by decide +kernel
theorem dX12_worth_148 : decode cX12_worth 148 = .ok (.lneg, 1) := by decide +kernel
theorem dX12_worth_149 : decode cX12_worth 149 = .ok (.lreturn, 1) := by decide +kernel
theorem dX12_worth_150 : decode cX12_worth 150 = .ok (.iload 9, 2) := by decide +kernel
theorem dX12_worth_152 : decode cX12_worth 152 = .ok (.iconst 4, 1) := by decide +kernel
theorem dX12_worth_153 : decode cX12_worth 153 = .ok (.if_icmp .ne 19, 3) := by decide +kernel
theorem dX12_worth_156 : decode cX12_worth 156 = .ok (.lload 11, 2) := by decide +kernel
theorem dX12_worth_158 : decode cX12_worth 158 = .ok (.lconst 0, 1) := by decide +kernel
theorem dX12_worth_159 : decode cX12_worth 159 = .ok (.lcmp, 1) := by decide +kernel
theorem dX12_worth_160 : decode cX12_worth 160 = .ok (.ifCond .ne 7, 3) := by decide +kernel
theorem dX12_worth_163 : decode cX12_worth 163 = .ok (.iconst 1, 1) := by decide +kernel
theorem dX12_worth_164 : decode cX12_worth 164 = .ok (.goto 4, 3) := by decide +kernel
theorem dX12_worth_167 : decode cX12_worth 167 = .ok (.iconst 0, 1) := by decide +kernel
theorem dX12_worth_168 : decode cX12_worth 168 = .ok (.invokestatic 374, 3) := by decide +kernel
theorem dX12_worth_171 : decode cX12_worth 171 = .ok (.lreturn, 1) := by decide +kernel
theorem dX12_worth_172 : decode cX12_worth 172 = .ok (.iload 9, 2) := by decide +kernel
theorem dX12_worth_174 : decode cX12_worth 174 = .ok (.iconst 5, 1) := by decide +kernel
theorem dX12_worth_175 : decode cX12_worth 175 = .ok (.if_icmp .ne 41, 3) := by decide +kernel
theorem dX12_worth_178 : decode cX12_worth 178 = .ok (.aload_n 0, 1) := by decide +kernel
theorem dX12_worth_179 : decode cX12_worth 179 = .ok (.iload_n 1, 1) := by decide +kernel
theorem dX12_worth_180 : decode cX12_worth 180 = .ok (.iload 10, 2) := by decide +kernel
theorem dX12_worth_182 : decode cX12_worth 182 = .ok (.ifCond .eq 15, 3) := by decide +kernel
theorem dX12_worth_185 : decode cX12_worth 185 = .ok (.aload_n 0, 1) := by decide +kernel
theorem dX12_worth_186 : decode cX12_worth 186 = .ok (.getfield 44, 3) := by decide +kernel
theorem dX12_worth_189 : decode cX12_worth 189 = .ok (.iload_n 1, 1) := by decide +kernel
theorem dX12_worth_190 : decode cX12_worth 190 = .ok (.iaload, 1) := by decide +kernel
theorem dX12_worth_191 : decode cX12_worth 191 = .ok (.invokestatic 378, 3) := by decide +kernel
theorem dX12_worth_194 : decode cX12_worth 194 = .ok (.goto 9, 3) := by decide +kernel
theorem dX12_worth_197 : decode cX12_worth 197 = .ok (.aload_n 0, 1) := by decide +kernel
theorem dX12_worth_198 : decode cX12_worth 198 = .ok (.getfield 44, 3) := by decide +kernel
theorem dX12_worth_201 : decode cX12_worth 201 = .ok (.iload_n 1, 1) := by decide +kernel
theorem dX12_worth_202 : decode cX12_worth 202 = .ok (.iaload, 1) := by decide +kernel
theorem dX12_worth_203 : decode cX12_worth 203 = .ok (.lload 11, 2) := by decide +kernel
theorem dX12_worth_205 : decode cX12_worth 205 = .ok (.lload_n 2, 1) := by decide +kernel
theorem dX12_worth_206 : decode cX12_worth 206 = .ok (.lload 4, 2) := by decide +kernel
theorem dX12_worth_208 : decode cX12_worth 208 = .ok (.lload 6, 2) := by decide +kernel
theorem dX12_worth_210 : decode cX12_worth 210 = .ok (.iload 8, 2) := by decide +kernel
theorem dX12_worth_212 : decode cX12_worth 212 = .ok (.invokevirtual 381, 3) := by decide +kernel
theorem dX12_worth_215 : decode cX12_worth 215 = .ok (.lreturn, 1) := by decide +kernel
theorem dX12_worth_216 : decode cX12_worth 216 = .ok (.lload 11, 2) := by decide +kernel
theorem dX12_worth_218 : decode cX12_worth 218 = .ok (.lconst 0, 1) := by decide +kernel
theorem dX12_worth_219 : decode cX12_worth 219 = .ok (.lcmp, 1) := by decide +kernel
theorem dX12_worth_220 : decode cX12_worth 220 = .ok (.ifCond .eq 7, 3) := by decide +kernel
theorem dX12_worth_223 : decode cX12_worth 223 = .ok (.iconst 1, 1) := by decide +kernel
theorem dX12_worth_224 : decode cX12_worth 224 = .ok (.goto 4, 3) := by decide +kernel
theorem dX12_worth_227 : decode cX12_worth 227 = .ok (.iconst 0, 1) := by decide +kernel
theorem dX12_worth_228 : decode cX12_worth 228 = .ok (.iload 10, 2) := by decide +kernel
theorem dX12_worth_230 : decode cX12_worth 230 = .ok (.if_icmp .eq 7, 3) := by decide +kernel
theorem dX12_worth_233 : decode cX12_worth 233 = .ok (.iconst 1, 1) := by decide +kernel
theorem dX12_worth_234 : decode cX12_worth 234 = .ok (.goto 4, 3) := by decide +kernel
theorem dX12_worth_237 : decode cX12_worth 237 = .ok (.iconst 0, 1) := by decide +kernel
theorem dX12_worth_238 : decode cX12_worth 238 = .ok (.istore 13, 2) := by decide +kernel
theorem dX12_worth_240 : decode cX12_worth 240 = .ok (.aload_n 0, 1) := by decide +kernel
theorem dX12_worth_241 : decode cX12_worth 241 = .ok (.getfield 385, 3) := by decide +kernel
theorem dX12_worth_244 : decode cX12_worth 244 = .ok (.ifCond .eq 23, 3) := by decide +kernel
theorem dX12_worth_247 : decode cX12_worth 247 = .ok (.iload 13, 2) := by decide +kernel
theorem dX12_worth_249 : decode cX12_worth 249 = .ok (.ifCond .eq 18, 3) := by decide +kernel
theorem dX12_worth_252 : decode cX12_worth 252 = .ok (.aload_n 0, 1) := by decide +kernel
theorem dX12_worth_253 : decode cX12_worth 253 = .ok (.getfield 96, 3) := by decide +kernel
theorem dX12_worth_256 : decode cX12_worth 256 = .ok (.aload_n 0, 1) := by decide +kernel
theorem dX12_worth_257 : decode cX12_worth 257 = .ok (.getfield 44, 3) := by decide +kernel
theorem dX12_worth_260 : decode cX12_worth 260 = .ok (.iload_n 1, 1) := by decide +kernel
theorem dX12_worth_261 : decode cX12_worth 261 = .ok (.iaload, 1) := by decide +kernel
theorem dX12_worth_262 : decode cX12_worth 262 = .ok (.dup2, 1) := by decide +kernel
theorem dX12_worth_263 : decode cX12_worth 263 = .ok (.iaload, 1) := by decide +kernel
theorem dX12_worth_264 : decode cX12_worth 264 = .ok (.iconst 1, 1) := by decide +kernel
theorem dX12_worth_265 : decode cX12_worth 265 = .ok (.iadd, 1) := by decide +kernel
theorem dX12_worth_266 : decode cX12_worth 266 = .ok (.iastore, 1) := by decide +kernel
theorem dX12_worth_267 : decode cX12_worth 267 = .ok (.aload_n 0, 1) := by decide +kernel
theorem dX12_worth_268 : decode cX12_worth 268 = .ok (.getfield 385, 3) := by decide +kernel
theorem dX12_worth_271 : decode cX12_worth 271 = .ok (.ifCond .eq 23, 3) := by decide +kernel
theorem dX12_worth_274 : decode cX12_worth 274 = .ok (.iload 13, 2) := by decide +kernel
theorem dX12_worth_276 : decode cX12_worth 276 = .ok (.ifCond .ne 18, 3) := by decide +kernel
theorem dX12_worth_279 : decode cX12_worth 279 = .ok (.aload_n 0, 1) := by decide +kernel
theorem dX12_worth_280 : decode cX12_worth 280 = .ok (.getfield 99, 3) := by decide +kernel
theorem dX12_worth_283 : decode cX12_worth 283 = .ok (.aload_n 0, 1) := by decide +kernel
theorem dX12_worth_284 : decode cX12_worth 284 = .ok (.getfield 44, 3) := by decide +kernel
theorem dX12_worth_287 : decode cX12_worth 287 = .ok (.iload_n 1, 1) := by decide +kernel
theorem dX12_worth_288 : decode cX12_worth 288 = .ok (.iaload, 1) := by decide +kernel
theorem dX12_worth_289 : decode cX12_worth 289 = .ok (.dup2, 1) := by decide +kernel
theorem dX12_worth_290 : decode cX12_worth 290 = .ok (.iaload, 1) := by decide +kernel
theorem dX12_worth_291 : decode cX12_worth 291 = .ok (.iconst 1, 1) := by decide +kernel
theorem dX12_worth_292 : decode cX12_worth 292 = .ok (.iadd, 1) := by decide +kernel
theorem dX12_worth_293 : decode cX12_worth 293 = .ok (.iastore, 1) := by decide +kernel
theorem dX12_worth_294 : decode cX12_worth 294 = .ok (.aload_n 0, 1) := by decide +kernel
theorem dX12_worth_295 : decode cX12_worth 295 = .ok (.iload 13, 2) := by decide +kernel
theorem dX12_worth_297 : decode cX12_worth 297 = .ok (.ifCond .eq 12, 3) := by decide +kernel
theorem dX12_worth_300 : decode cX12_worth 300 = .ok (.aload_n 0, 1) := by decide +kernel
theorem dX12_worth_301 : decode cX12_worth 301 = .ok (.getfield 38, 3) := by decide +kernel
theorem dX12_worth_304 : decode cX12_worth 304 = .ok (.iload_n 1, 1) := by decide +kernel
theorem dX12_worth_305 : decode cX12_worth 305 = .ok (.iaload, 1) := by decide +kernel
theorem dX12_worth_306 : decode cX12_worth 306 = .ok (.goto 9, 3) := by decide +kernel
theorem dX12_worth_309 : decode cX12_worth 309 = .ok (.aload_n 0, 1) := by decide +kernel
theorem dX12_worth_310 : decode cX12_worth 310 = .ok (.getfield 41, 3) := by decide +kernel
theorem dX12_worth_313 : decode cX12_worth 313 = .ok (.iload_n 1, 1) := by decide +kernel
theorem dX12_worth_314 : decode cX12_worth 314 = .ok (.iaload, 1) := by decide +kernel
theorem dX12_worth_315 : decode cX12_worth 315 = .ok (.lload_n 2, 1) := by decide +kernel
theorem dX12_worth_316 : decode cX12_worth 316 = .ok (.lload 4, 2) := by decide +kernel
theorem dX12_worth_318 : decode cX12_worth 318 = .ok (.lload 6, 2) := by decide +kernel
theorem dX12_worth_320 : decode cX12_worth 320 = .ok (.iload 8, 2) := by decide +kernel
theorem dX12_worth_322 : decode cX12_worth 322 = .ok (.invokevirtual 371, 3) := by decide +kernel
theorem dX12_worth_325 : decode cX12_worth 325 = .ok (.lreturn, 1) := by decide +kernel
theorem dX12_both_0 : decode cX12_both 0 = .ok (.iload_n 2, 1) := by decide +kernel
theorem dX12_both_1 : decode cX12_both 1 = .ok (.ifCond .ne 11, 3) := by decide +kernel
theorem dX12_both_4 : decode cX12_both 4 = .ok (.lload_n 3, 1) := by decide +kernel
theorem dX12_both_5 : decode cX12_both 5 = .ok (.lconst 0, 1) := by decide +kernel
theorem dX12_both_6 : decode cX12_both 6 = .ok (.lcmp, 1) := by decide +kernel
theorem dX12_both_7 : decode cX12_both 7 = .ok (.ifCond .eq 5, 3) := by decide +kernel
theorem dX12_both_10 : decode cX12_both 10 = .ok (.lconst 1, 1) := by decide +kernel
theorem dX12_both_11 : decode cX12_both 11 = .ok (.lreturn, 1) := by decide +kernel
theorem dX12_both_12 : decode cX12_both 12 = .ok (.iload_n 2, 1) := by decide +kernel
theorem dX12_both_13 : decode cX12_both 13 = .ok (.iconst 1, 1) := by decide +kernel
theorem dX12_both_14 : decode cX12_both 14 = .ok (.if_icmp .ne 11, 3) := by decide +kernel
theorem dX12_both_17 : decode cX12_both 17 = .ok (.lload_n 3, 1) := by decide +kernel
theorem dX12_both_18 : decode cX12_both 18 = .ok (.lconst 0, 1) := by decide +kernel
theorem dX12_both_19 : decode cX12_both 19 = .ok (.lcmp, 1) := by decide +kernel
theorem dX12_both_20 : decode cX12_both 20 = .ok (.ifCond .ne 5, 3) := by decide +kernel
theorem dX12_both_23 : decode cX12_both 23 = .ok (.lconst 0, 1) := by decide +kernel
theorem dX12_both_24 : decode cX12_both 24 = .ok (.lreturn, 1) := by decide +kernel
theorem dX12_both_25 : decode cX12_both 25 = .ok (.aload_n 0, 1) := by decide +kernel
theorem dX12_both_26 : decode cX12_both 26 = .ok (.aload_n 0, 1) := by decide +kernel
theorem dX12_both_27 : decode cX12_both 27 = .ok (.getfield 38, 3) := by decide +kernel
theorem dX12_both_30 : decode cX12_both 30 = .ok (.iload_n 1, 1) := by decide +kernel
theorem dX12_both_31 : decode cX12_both 31 = .ok (.iaload, 1) := by decide +kernel
theorem dX12_both_32 : decode cX12_both 32 = .ok (.lload 5, 2) := by decide +kernel
theorem dX12_both_34 : decode cX12_both 34 = .ok (.lload 7, 2) := by decide +kernel
theorem dX12_both_36 : decode cX12_both 36 = .ok (.lload 9, 2) := by decide +kernel
theorem dX12_both_38 : decode cX12_both 38 = .ok (.iload 11, 2) := by decide +kernel
theorem dX12_both_40 : decode cX12_both 40 = .ok (.invokevirtual 371, 3) := by decide +kernel
theorem dX12_both_43 : decode cX12_both 43 = .ok (.lstore 12, 2) := by decide +kernel
theorem dX12_both_45 : decode cX12_both 45 = .ok (.aload_n 0, 1) := by decide +kernel
theorem dX12_both_46 : decode cX12_both 46 = .ok (.getfield 363, 3) := by decide +kernel
theorem dX12_both_49 : decode cX12_both 49 = .ok (.ifCond .eq 5, 3) := by decide +kernel
theorem dX12_both_52 : decode cX12_both 52 = .ok (.lconst 0, 1) := by decide +kernel
theorem dX12_both_53 : decode cX12_both 53 = .ok (.lreturn, 1) := by decide +kernel
theorem dX12_both_54 : decode cX12_both 54 = .ok (.iload_n 2, 1) := by decide +kernel
theorem dX12_both_55 : decode cX12_both 55 = .ok (.iconst 2, 1) := by decide +kernel
theorem dX12_both_56 : decode cX12_both 56 = .ok (.if_icmp .ge 19, 3) := by decide +kernel
theorem dX12_both_59 : decode cX12_both 59 = .ok (.lload 12, 2) := by decide +kernel
theorem dX12_both_61 : decode cX12_both 61 = .ok (.lconst 0, 1) := by decide +kernel
theorem dX12_both_62 : decode cX12_both 62 = .ok (.lcmp, 1) := by decide +kernel
theorem dX12_both_63 : decode cX12_both 63 = .ok (.ifCond .eq 7, 3) := by decide +kernel
theorem dX12_both_66 : decode cX12_both 66 = .ok (.iconst 1, 1) := by decide +kernel
theorem dX12_both_67 : decode cX12_both 67 = .ok (.goto 4, 3) := by decide +kernel
theorem dX12_both_70 : decode cX12_both 70 = .ok (.iconst 0, 1) := by decide +kernel
theorem dX12_both_71 : decode cX12_both 71 = .ok (.invokestatic 374, 3) := by decide +kernel
theorem dX12_both_74 : decode cX12_both 74 = .ok (.lreturn, 1) := by decide +kernel
theorem dX12_both_75 : decode cX12_both 75 = .ok (.iload_n 2, 1) := by decide +kernel
theorem dX12_both_76 : decode cX12_both 76 = .ok (.bipush 8, 2) := by decide +kernel
theorem dX12_both_78 : decode cX12_both 78 = .ok (.if_icmp .ge 14, 3) := by decide +kernel
theorem dX12_both_81 : decode cX12_both 81 = .ok (.iload_n 2, 1) := by decide +kernel
theorem dX12_both_82 : decode cX12_both 82 = .ok (.lload_n 3, 1) := by decide +kernel
theorem dX12_both_83 : decode cX12_both 83 = .ok (.lload 12, 2) := by decide +kernel
theorem dX12_both_85 : decode cX12_both 85 = .ok (.invokestatic 388, 3) := by decide +kernel
theorem dX12_both_88 : decode cX12_both 88 = .ok (.invokestatic 374, 3) := by decide +kernel
theorem dX12_both_91 : decode cX12_both 91 = .ok (.lreturn, 1) := by decide +kernel
theorem dX12_both_92 : decode cX12_both 92 = .ok (.iload_n 2, 1) := by decide +kernel
theorem dX12_both_93 : decode cX12_both 93 = .ok (.bipush 8, 2) := by decide +kernel
theorem dX12_both_95 : decode cX12_both 95 = .ok (.if_icmp .ne 8, 3) := by decide +kernel
theorem dX12_both_98 : decode cX12_both 98 = .ok (.lload_n 3, 1) := by decide +kernel
theorem dX12_both_99 : decode cX12_both 99 = .ok (.lload 12, 2) := by decide +kernel
theorem dX12_both_101 : decode cX12_both 101 = .ok (.ladd, 1) := by decide +kernel
theorem dX12_both_102 : decode cX12_both 102 = .ok (.lreturn, 1) := by decide +kernel
theorem dX12_both_103 : decode cX12_both 103 = .ok (.iload_n 2, 1) := by decide +kernel
theorem dX12_both_104 : decode cX12_both 104 = .ok (.bipush 9, 2) := by decide +kernel
theorem dX12_both_106 : decode cX12_both 106 = .ok (.if_icmp .ne 8, 3) := by decide +kernel
theorem dX12_both_109 : decode cX12_both 109 = .ok (.lload_n 3, 1) := by decide +kernel
theorem dX12_both_110 : decode cX12_both 110 = .ok (.lload 12, 2) := by decide +kernel
theorem dX12_both_112 : decode cX12_both 112 = .ok (.lsub, 1) := by decide +kernel
theorem dX12_both_113 : decode cX12_both 113 = .ok (.lreturn, 1) := by decide +kernel
theorem dX12_both_114 : decode cX12_both 114 = .ok (.iload_n 2, 1) := by decide +kernel
theorem dX12_both_115 : decode cX12_both 115 = .ok (.bipush 10, 2) := by decide +kernel
theorem dX12_both_117 : decode cX12_both 117 = .ok (.if_icmp .ne 8, 3) := by decide +kernel
theorem dX12_both_120 : decode cX12_both 120 = .ok (.lload_n 3, 1) := by decide +kernel
theorem dX12_both_121 : decode cX12_both 121 = .ok (.lload 12, 2) := by decide +kernel
theorem dX12_both_123 : decode cX12_both 123 = .ok (.lmul, 1) := by decide +kernel
theorem dX12_both_124 : decode cX12_both 124 = .ok (.lreturn, 1) := by decide +kernel
theorem dX12_both_125 : decode cX12_both 125 = .ok (.lload 12, 2) := by decide +kernel
theorem dX12_both_127 : decode cX12_both 127 = .ok (.lconst 0, 1) := by decide +kernel
theorem dX12_both_128 : decode cX12_both 128 = .ok (.lcmp, 1) := by decide +kernel
theorem dX12_both_129 : decode cX12_both 129 = .ok (.ifCond .ne 8, 3) := by decide +kernel
theorem dX12_both_132 : decode cX12_both 132 = .ok (.aload_n 0, 1) := by decide +kernel
theorem dX12_both_133 : decode cX12_both 133 = .ok (.invokevirtual 392, 3) := by decide +kernel
theorem dX12_both_136 : decode cX12_both 136 = .ok (.lreturn, 1) := by decide +kernel
theorem dX12_both_137 : decode cX12_both 137 = .ok (.iload_n 2, 1) := by decide +kernel
theorem dX12_both_138 : decode cX12_both 138 = .ok (.bipush 11, 2) := by decide +kernel
theorem dX12_both_140 : decode cX12_both 140 = .ok (.if_icmp .ne 10, 3) := by decide +kernel
theorem dX12_both_143 : decode cX12_both 143 = .ok (.lload_n 3, 1) := by decide +kernel
theorem dX12_both_144 : decode cX12_both 144 = .ok (.lload 12, 2) := by decide +kernel
theorem dX12_both_146 : decode cX12_both 146 = .ok (.ldiv, 1) := by decide +kernel
theorem dX12_both_147 : decode cX12_both 147 = .ok (.goto 7, 3) := by decide +kernel
theorem dX12_both_150 : decode cX12_both 150 = .ok (.lload_n 3, 1) := by decide +kernel
theorem dX12_both_151 : decode cX12_both 151 = .ok (.lload 12, 2) := by decide +kernel
theorem dX12_both_153 : decode cX12_both 153 = .ok (.lrem, 1) := by decide +kernel
theorem dX12_both_154 : decode cX12_both 154 = .ok (.lreturn, 1) := by decide +kernel
theorem dX12_called_0 : decode cX12_called 0 = .ok (.aload_n 0, 1) := by decide +kernel
theorem dX12_called_1 : decode cX12_called 1 = .ok (.getfield 54, 3) := by decide +kernel
theorem dX12_called_4 : decode cX12_called 4 = .ok (.aload_n 0, 1) := by decide +kernel
theorem dX12_called_5 : decode cX12_called 5 = .ok (.getfield 44, 3) := by decide +kernel
theorem dX12_called_8 : decode cX12_called 8 = .ok (.iload_n 1, 1) := by decide +kernel
theorem dX12_called_9 : decode cX12_called 9 = .ok (.iaload, 1) := by decide +kernel
theorem dX12_called_10 : decode cX12_called 10 = .ok (.iaload, 1) := by decide +kernel
theorem dX12_called_11 : decode cX12_called 11 = .ok (.istore 9, 2) := by decide +kernel
theorem dX12_called_13 : decode cX12_called 13 = .ok (.aload_n 0, 1) := by decide +kernel
theorem dX12_called_14 : decode cX12_called 14 = .ok (.aload_n 0, 1) := by decide +kernel
theorem dX12_called_15 : decode cX12_called 15 = .ok (.getfield 35, 3) := by decide +kernel
theorem dX12_called_18 : decode cX12_called 18 = .ok (.iload_n 1, 1) := by decide +kernel
theorem dX12_called_19 : decode cX12_called 19 = .ok (.iaload, 1) := by decide +kernel
theorem dX12_called_20 : decode cX12_called 20 = .ok (.lload_n 2, 1) := by decide +kernel
theorem dX12_called_21 : decode cX12_called 21 = .ok (.lload 4, 2) := by decide +kernel
theorem dX12_called_23 : decode cX12_called 23 = .ok (.lload 6, 2) := by decide +kernel
theorem dX12_called_25 : decode cX12_called 25 = .ok (.iload 8, 2) := by decide +kernel
theorem dX12_called_27 : decode cX12_called 27 = .ok (.invokevirtual 371, 3) := by decide +kernel
theorem dX12_called_30 : decode cX12_called 30 = .ok (.lstore 10, 2) := by decide +kernel
theorem dX12_called_32 : decode cX12_called 32 = .ok (.iload 9, 2) := by decide +kernel
theorem dX12_called_34 : decode cX12_called 34 = .ok (.iconst 1, 1) := by decide +kernel
theorem dX12_called_35 : decode cX12_called 35 = .ok (.if_icmp .le 30, 3) := by decide +kernel
theorem dX12_called_38 : decode cX12_called 38 = .ok (.aload_n 0, 1) := by decide +kernel
theorem dX12_called_39 : decode cX12_called 39 = .ok (.getfield 363, 3) := by decide +kernel
theorem dX12_called_42 : decode cX12_called 42 = .ok (.ifCond .ne 23, 3) := by decide +kernel
theorem dX12_called_45 : decode cX12_called 45 = .ok (.aload_n 0, 1) := by decide +kernel
theorem dX12_called_46 : decode cX12_called 46 = .ok (.aload_n 0, 1) := by decide +kernel
theorem dX12_called_47 : decode cX12_called 47 = .ok (.getfield 38, 3) := by decide +kernel
theorem dX12_called_50 : decode cX12_called 50 = .ok (.iload_n 1, 1) := by decide +kernel
theorem dX12_called_51 : decode cX12_called 51 = .ok (.iaload, 1) := by decide +kernel
theorem dX12_called_52 : decode cX12_called 52 = .ok (.lload_n 2, 1) := by decide +kernel
theorem dX12_called_53 : decode cX12_called 53 = .ok (.lload 4, 2) := by decide +kernel
theorem dX12_called_55 : decode cX12_called 55 = .ok (.lload 6, 2) := by decide +kernel
theorem dX12_called_57 : decode cX12_called 57 = .ok (.iload 8, 2) := by decide +kernel
theorem dX12_called_59 : decode cX12_called 59 = .ok (.invokevirtual 371, 3) := by decide +kernel
theorem dX12_called_62 : decode cX12_called 62 = .ok (.goto 4, 3) := by decide +kernel
theorem dX12_called_65 : decode cX12_called 65 = .ok (.lconst 0, 1) := by decide +kernel
theorem dX12_called_66 : decode cX12_called 66 = .ok (.lstore 12, 2) := by decide +kernel
theorem dX12_called_68 : decode cX12_called 68 = .ok (.iload 9, 2) := by decide +kernel
theorem dX12_called_70 : decode cX12_called 70 = .ok (.iconst 2, 1) := by decide +kernel
theorem dX12_called_71 : decode cX12_called 71 = .ok (.if_icmp .le 30, 3) := by decide +kernel
theorem dX12_called_74 : decode cX12_called 74 = .ok (.aload_n 0, 1) := by decide +kernel
theorem dX12_called_75 : decode cX12_called 75 = .ok (.getfield 363, 3) := by decide +kernel
theorem dX12_called_78 : decode cX12_called 78 = .ok (.ifCond .ne 23, 3) := by decide +kernel
theorem dX12_called_81 : decode cX12_called 81 = .ok (.aload_n 0, 1) := by decide +kernel
theorem dX12_called_82 : decode cX12_called 82 = .ok (.aload_n 0, 1) := by decide +kernel
theorem dX12_called_83 : decode cX12_called 83 = .ok (.getfield 41, 3) := by decide +kernel
theorem dX12_called_86 : decode cX12_called 86 = .ok (.iload_n 1, 1) := by decide +kernel
theorem dX12_called_87 : decode cX12_called 87 = .ok (.iaload, 1) := by decide +kernel
theorem dX12_called_88 : decode cX12_called 88 = .ok (.lload_n 2, 1) := by decide +kernel
theorem dX12_called_89 : decode cX12_called 89 = .ok (.lload 4, 2) := by decide +kernel
theorem dX12_called_91 : decode cX12_called 91 = .ok (.lload 6, 2) := by decide +kernel
theorem dX12_called_93 : decode cX12_called 93 = .ok (.iload 8, 2) := by decide +kernel
theorem dX12_called_95 : decode cX12_called 95 = .ok (.invokevirtual 371, 3) := by decide +kernel
theorem dX12_called_98 : decode cX12_called 98 = .ok (.goto 4, 3) := by decide +kernel
theorem dX12_called_101 : decode cX12_called 101 = .ok (.lconst 0, 1) := by decide +kernel
theorem dX12_called_102 : decode cX12_called 102 = .ok (.lstore 14, 2) := by decide +kernel
theorem dX12_called_104 : decode cX12_called 104 = .ok (.aload_n 0, 1) := by decide +kernel
theorem dX12_called_105 : decode cX12_called 105 = .ok (.getfield 363, 3) := by decide +kernel
theorem dX12_called_108 : decode cX12_called 108 = .ok (.ifCond .eq 7, 3) := by decide +kernel
theorem dX12_called_111 : decode cX12_called 111 = .ok (.lconst 0, 1) := by decide +kernel
theorem dX12_called_112 : decode cX12_called 112 = .ok (.goto 25, 3) := by decide +kernel
theorem dX12_called_115 : decode cX12_called 115 = .ok (.aload_n 0, 1) := by decide +kernel
theorem dX12_called_116 : decode cX12_called 116 = .ok (.aload_n 0, 1) := by decide +kernel
theorem dX12_called_117 : decode cX12_called 117 = .ok (.getfield 66, 3) := by decide +kernel
theorem dX12_called_120 : decode cX12_called 120 = .ok (.aload_n 0, 1) := by decide +kernel
theorem dX12_called_121 : decode cX12_called 121 = .ok (.getfield 44, 3) := by decide +kernel
theorem dX12_called_124 : decode cX12_called 124 = .ok (.iload_n 1, 1) := by decide +kernel
theorem dX12_called_125 : decode cX12_called 125 = .ok (.iaload, 1) := by decide +kernel
theorem dX12_called_126 : decode cX12_called 126 = .ok (.iaload, 1) := by decide +kernel
theorem dX12_called_127 : decode cX12_called 127 = .ok (.lload 10, 2) := by decide +kernel
theorem dX12_called_129 : decode cX12_called 129 = .ok (.lload 12, 2) := by decide +kernel
theorem dX12_called_131 : decode cX12_called 131 = .ok (.lload 14, 2) := by decide +kernel
theorem dX12_called_133 : decode cX12_called 133 = .ok (.iconst (-1), 1) := by decide +kernel
theorem dX12_called_134 : decode cX12_called 134 = .ok (.invokevirtual 371, 3) := by decide +kernel
theorem dX12_called_137 : decode cX12_called 137 = .ok (.lreturn, 1) := by decide +kernel
theorem dX12_run_0 : decode cX12_run 0 = .ok (.aload_n 0, 1) := by decide +kernel
theorem dX12_run_1 : decode cX12_run 1 = .ok (.iconst 0, 1) := by decide +kernel
theorem dX12_run_2 : decode cX12_run 2 = .ok (.putfield 363, 3) := by decide +kernel
theorem dX12_run_5 : decode cX12_run 5 = .ok (.aload_n 0, 1) := by decide +kernel
theorem dX12_run_6 : decode cX12_run 6 = .ok (.aload_n 0, 1) := by decide +kernel
theorem dX12_run_7 : decode cX12_run 7 = .ok (.getfield 66, 3) := by decide +kernel
theorem dX12_run_10 : decode cX12_run 10 = .ok (.iload_n 1, 1) := by decide +kernel
theorem dX12_run_11 : decode cX12_run 11 = .ok (.iaload, 1) := by decide +kernel
theorem dX12_run_12 : decode cX12_run 12 = .ok (.aload_n 2, 1) := by decide +kernel
theorem dX12_run_13 : decode cX12_run 13 = .ok (.iconst 0, 1) := by decide +kernel
theorem dX12_run_14 : decode cX12_run 14 = .ok (.iaload, 1) := by decide +kernel
theorem dX12_run_15 : decode cX12_run 15 = .ok (.i2l, 1) := by decide +kernel
theorem dX12_run_16 : decode cX12_run 16 = .ok (.aload_n 2, 1) := by decide +kernel
theorem dX12_run_17 : decode cX12_run 17 = .ok (.iconst 1, 1) := by decide +kernel
theorem dX12_run_18 : decode cX12_run 18 = .ok (.iaload, 1) := by decide +kernel
theorem dX12_run_19 : decode cX12_run 19 = .ok (.i2l, 1) := by decide +kernel
theorem dX12_run_20 : decode cX12_run 20 = .ok (.aload_n 2, 1) := by decide +kernel
theorem dX12_run_21 : decode cX12_run 21 = .ok (.iconst 2, 1) := by decide +kernel
theorem dX12_run_22 : decode cX12_run 22 = .ok (.iaload, 1) := by decide +kernel
theorem dX12_run_23 : decode cX12_run 23 = .ok (.i2l, 1) := by decide +kernel
theorem dX12_run_24 : decode cX12_run 24 = .ok (.iload_n 3, 1) := by decide +kernel
theorem dX12_run_25 : decode cX12_run 25 = .ok (.invokevirtual 371, 3) := by decide +kernel
theorem dX12_run_28 : decode cX12_run 28 = .ok (.lreturn, 1) := by decide +kernel
theorem dX12_casesOf_0 : decode cX12_casesOf 0 = .ok (.iconst 1, 1) := by decide +kernel
theorem dX12_casesOf_1 : decode cX12_casesOf 1 = .ok (.istore_n 3, 1) := by decide +kernel
theorem dX12_casesOf_2 : decode cX12_casesOf 2 = .ok (.iconst 0, 1) := by decide +kernel
theorem dX12_casesOf_3 : decode cX12_casesOf 3 = .ok (.istore 4, 2) := by decide +kernel
theorem dX12_casesOf_5 : decode cX12_casesOf 5 = .ok (.iload 4, 2) := by decide +kernel
theorem dX12_casesOf_7 : decode cX12_casesOf 7 = .ok (.aload_n 0, 1) := by decide +kernel
theorem dX12_casesOf_8 : decode cX12_casesOf 8 = .ok (.getfield 54, 3) := by decide +kernel
theorem dX12_casesOf_11 : decode cX12_casesOf 11 = .ok (.aload_n 0, 1) := by decide +kernel
theorem dX12_casesOf_12 : decode cX12_casesOf 12 = .ok (.getfield 78, 3) := by decide +kernel
theorem dX12_casesOf_15 : decode cX12_casesOf 15 = .ok (.iload_n 1, 1) := by decide +kernel
theorem dX12_casesOf_16 : decode cX12_casesOf 16 = .ok (.iaload, 1) := by decide +kernel
theorem dX12_casesOf_17 : decode cX12_casesOf 17 = .ok (.iaload, 1) := by decide +kernel
theorem dX12_casesOf_18 : decode cX12_casesOf 18 = .ok (.if_icmp .ge 42, 3) := by decide +kernel
theorem dX12_casesOf_21 : decode cX12_casesOf 21 = .ok (.bipush 12, 2) := by decide +kernel
theorem dX12_casesOf_23 : decode cX12_casesOf 23 = .ok (.iload_n 1, 1) := by decide +kernel
theorem dX12_casesOf_24 : decode cX12_casesOf 24 = .ok (.imul, 1) := by decide +kernel
theorem dX12_casesOf_25 : decode cX12_casesOf 25 = .ok (.iload_n 2, 1) := by decide +kernel
theorem dX12_casesOf_26 : decode cX12_casesOf 26 = .ok (.iadd, 1) := by decide +kernel
theorem dX12_casesOf_27 : decode cX12_casesOf 27 = .ok (.iconst 3, 1) := by decide +kernel
theorem dX12_casesOf_28 : decode cX12_casesOf 28 = .ok (.imul, 1) := by decide +kernel
theorem dX12_casesOf_29 : decode cX12_casesOf 29 = .ok (.iload 4, 2) := by decide +kernel
theorem dX12_casesOf_31 : decode cX12_casesOf 31 = .ok (.iadd, 1) := by decide +kernel
theorem dX12_casesOf_32 : decode cX12_casesOf 32 = .ok (.istore 5, 2) := by decide +kernel
theorem dX12_casesOf_34 : decode cX12_casesOf 34 = .ok (.iload_n 3, 1) := by decide +kernel
theorem dX12_casesOf_35 : decode cX12_casesOf 35 = .ok (.aload_n 0, 1) := by decide +kernel
theorem dX12_casesOf_36 : decode cX12_casesOf 36 = .ok (.getfield 87, 3) := by decide +kernel
theorem dX12_casesOf_39 : decode cX12_casesOf 39 = .ok (.iload 5, 2) := by decide +kernel
theorem dX12_casesOf_41 : decode cX12_casesOf 41 = .ok (.iaload, 1) := by decide +kernel
theorem dX12_casesOf_42 : decode cX12_casesOf 42 = .ok (.aload_n 0, 1) := by decide +kernel
theorem dX12_casesOf_43 : decode cX12_casesOf 43 = .ok (.getfield 84, 3) := by decide +kernel
theorem dX12_casesOf_46 : decode cX12_casesOf 46 = .ok (.iload 5, 2) := by decide +kernel
theorem dX12_casesOf_48 : decode cX12_casesOf 48 = .ok (.iaload, 1) := by decide +kernel
theorem dX12_casesOf_49 : decode cX12_casesOf 49 = .ok (.isub, 1) := by decide +kernel
theorem dX12_casesOf_50 : decode cX12_casesOf 50 = .ok (.iconst 1, 1) := by decide +kernel
theorem dX12_casesOf_51 : decode cX12_casesOf 51 = .ok (.iadd, 1) := by decide +kernel
theorem dX12_casesOf_52 : decode cX12_casesOf 52 = .ok (.imul, 1) := by decide +kernel
theorem dX12_casesOf_53 : decode cX12_casesOf 53 = .ok (.istore_n 3, 1) := by decide +kernel
theorem dX12_casesOf_54 : decode cX12_casesOf 54 = .ok (.iinc 4 1, 3) := by decide +kernel
theorem dX12_casesOf_57 : decode cX12_casesOf 57 = .ok (.goto (-52), 3) := by decide +kernel
theorem dX12_casesOf_60 : decode cX12_casesOf 60 = .ok (.iload_n 3, 1) := by decide +kernel
theorem dX12_casesOf_61 : decode cX12_casesOf 61 = .ok (.ireturn, 1) := by decide +kernel
theorem dX12_cases_0 : decode cX12_cases 0 = .ok (.iconst 0, 1) := by decide +kernel
theorem dX12_cases_1 : decode cX12_cases 1 = .ok (.istore_n 2, 1) := by decide +kernel
theorem dX12_cases_2 : decode cX12_cases 2 = .ok (.iconst 0, 1) := by decide +kernel
theorem dX12_cases_3 : decode cX12_cases 3 = .ok (.istore_n 3, 1) := by decide +kernel
theorem dX12_cases_4 : decode cX12_cases 4 = .ok (.iload_n 3, 1) := by decide +kernel
theorem dX12_cases_5 : decode cX12_cases 5 = .ok (.aload_n 0, 1) := by decide +kernel
theorem dX12_cases_6 : decode cX12_cases 6 = .ok (.getfield 81, 3) := by decide +kernel
theorem dX12_cases_9 : decode cX12_cases 9 = .ok (.iload_n 1, 1) := by decide +kernel
theorem dX12_cases_10 : decode cX12_cases 10 = .ok (.iaload, 1) := by decide +kernel
theorem dX12_cases_11 : decode cX12_cases 11 = .ok (.if_icmp .ge 18, 3) := by decide +kernel
theorem dX12_cases_14 : decode cX12_cases 14 = .ok (.iload_n 2, 1) := by decide +kernel
theorem dX12_cases_15 : decode cX12_cases 15 = .ok (.aload_n 0, 1) := by decide +kernel
theorem dX12_cases_16 : decode cX12_cases 16 = .ok (.iload_n 1, 1) := by decide +kernel
theorem dX12_cases_17 : decode cX12_cases 17 = .ok (.iload_n 3, 1) := by decide +kernel
theorem dX12_cases_18 : decode cX12_cases 18 = .ok (.invokevirtual 396, 3) := by decide +kernel
theorem dX12_cases_21 : decode cX12_cases 21 = .ok (.iadd, 1) := by decide +kernel
theorem dX12_cases_22 : decode cX12_cases 22 = .ok (.istore_n 2, 1) := by decide +kernel
theorem dX12_cases_23 : decode cX12_cases 23 = .ok (.iinc 3 1, 3) := by decide +kernel
theorem dX12_cases_26 : decode cX12_cases 26 = .ok (.goto (-22), 3) := by decide +kernel
theorem dX12_cases_29 : decode cX12_cases 29 = .ok (.iload_n 2, 1) := by decide +kernel
theorem dX12_cases_30 : decode cX12_cases 30 = .ok (.ireturn, 1) := by decide +kernel
theorem dX12_counted_0 : decode cX12_counted 0 = .ok (.iload_n 1, 1) := by decide +kernel
theorem dX12_counted_1 : decode cX12_counted 1 = .ok (.iconst 3, 1) := by decide +kernel
theorem dX12_counted_2 : decode cX12_counted 2 = .ok (.if_icmp .ne 31, 3) := by decide +kernel
theorem dX12_counted_5 : decode cX12_counted 5 = .ok (.iconst 0, 1) := by decide +kernel
theorem dX12_counted_6 : decode cX12_counted 6 = .ok (.istore_n 2, 1) := by decide +kernel
theorem dX12_counted_7 : decode cX12_counted 7 = .ok (.iconst 0, 1) := by decide +kernel
theorem dX12_counted_8 : decode cX12_counted 8 = .ok (.istore_n 3, 1) := by decide +kernel
theorem dX12_counted_9 : decode cX12_counted 9 = .ok (.iload_n 3, 1) := by decide +kernel
theorem dX12_counted_10 : decode cX12_counted 10 = .ok (.aload_n 0, 1) := by decide +kernel
theorem dX12_counted_11 : decode cX12_counted 11 = .ok (.getfield 282, 3) := by decide +kernel
theorem dX12_counted_14 : decode cX12_counted 14 = .ok (.if_icmp .ge 17, 3) := by decide +kernel
theorem dX12_counted_17 : decode cX12_counted 17 = .ok (.iload_n 2, 1) := by decide +kernel
theorem dX12_counted_18 : decode cX12_counted 18 = .ok (.aload_n 0, 1) := by decide +kernel
theorem dX12_counted_19 : decode cX12_counted 19 = .ok (.iload_n 3, 1) := by decide +kernel
theorem dX12_counted_20 : decode cX12_counted 20 = .ok (.invokevirtual 344, 3) := by decide +kernel
theorem dX12_counted_23 : decode cX12_counted 23 = .ok (.iadd, 1) := by decide +kernel
theorem dX12_counted_24 : decode cX12_counted 24 = .ok (.istore_n 2, 1) := by decide +kernel
theorem dX12_counted_25 : decode cX12_counted 25 = .ok (.iinc 3 1, 3) := by decide +kernel
theorem dX12_counted_28 : decode cX12_counted 28 = .ok (.goto (-19), 3) := by decide +kernel
theorem dX12_counted_31 : decode cX12_counted 31 = .ok (.iload_n 2, 1) := by decide +kernel
theorem dX12_counted_32 : decode cX12_counted 32 = .ok (.ireturn, 1) := by decide +kernel
theorem dX12_counted_33 : decode cX12_counted 33 = .ok (.iload_n 1, 1) := by decide +kernel
theorem dX12_counted_34 : decode cX12_counted 34 = .ok (.ifCond .ne 10, 3) := by decide +kernel
theorem dX12_counted_37 : decode cX12_counted 37 = .ok (.aload_n 0, 1) := by decide +kernel
theorem dX12_counted_38 : decode cX12_counted 38 = .ok (.getfield 275, 3) := by decide +kernel
theorem dX12_counted_41 : decode cX12_counted 41 = .ok (.goto 31, 3) := by decide +kernel
theorem dX12_counted_44 : decode cX12_counted 44 = .ok (.iload_n 1, 1) := by decide +kernel
theorem dX12_counted_45 : decode cX12_counted 45 = .ok (.iconst 1, 1) := by decide +kernel
theorem dX12_counted_46 : decode cX12_counted 46 = .ok (.if_icmp .ne 10, 3) := by decide +kernel
theorem dX12_counted_49 : decode cX12_counted 49 = .ok (.aload_n 0, 1) := by decide +kernel
theorem dX12_counted_50 : decode cX12_counted 50 = .ok (.getfield 282, 3) := by decide +kernel
theorem dX12_counted_53 : decode cX12_counted 53 = .ok (.goto 19, 3) := by decide +kernel
theorem dX12_counted_56 : decode cX12_counted 56 = .ok (.iload_n 1, 1) := by decide +kernel
theorem dX12_counted_57 : decode cX12_counted 57 = .ok (.iconst 2, 1) := by decide +kernel
theorem dX12_counted_58 : decode cX12_counted 58 = .ok (.if_icmp .ne 10, 3) := by decide +kernel
theorem dX12_counted_61 : decode cX12_counted 61 = .ok (.aload_n 0, 1) := by decide +kernel
theorem dX12_counted_62 : decode cX12_counted 62 = .ok (.getfield 272, 3) := by decide +kernel
theorem dX12_counted_65 : decode cX12_counted 65 = .ok (.goto 7, 3) := by decide +kernel
theorem dX12_counted_68 : decode cX12_counted 68 = .ok (.aload_n 0, 1) := by decide +kernel
theorem dX12_counted_69 : decode cX12_counted 69 = .ok (.getfield 112, 3) := by decide +kernel
theorem dX12_counted_72 : decode cX12_counted 72 = .ok (.ireturn, 1) := by decide +kernel
theorem dX12_count_0 : decode cX12_count 0 = .ok (.aload_n 0, 1) := by decide +kernel
theorem dX12_count_1 : decode cX12_count 1 = .ok (.iconst 0, 1) := by decide +kernel
theorem dX12_count_2 : decode cX12_count 2 = .ok (.putfield 109, 3) := by decide +kernel
theorem dX12_count_5 : decode cX12_count 5 = .ok (.iload_n 1, 1) := by decide +kernel
theorem dX12_count_6 : decode cX12_count 6 = .ok (.iconst 0, 1) := by decide +kernel
theorem dX12_count_7 : decode cX12_count 7 = .ok (.iconst 4, 1) := by decide +kernel
theorem dX12_count_8 : decode cX12_count 8 = .ok (.invokestatic 119, 3) := by decide +kernel
theorem dX12_count_11 : decode cX12_count 11 = .ok (.ifCond .eq 11, 3) := by decide +kernel
theorem dX12_count_14 : decode cX12_count 14 = .ok (.aload_n 0, 1) := by decide +kernel
theorem dX12_count_15 : decode cX12_count 15 = .ok (.iload_n 1, 1) := by decide +kernel
theorem dX12_count_16 : decode cX12_count 16 = .ok (.invokevirtual 399, 3) := by decide +kernel
theorem dX12_count_19 : decode cX12_count 19 = .ok (.goto 8, 3) := by decide +kernel
theorem dX12_count_22 : decode cX12_count 22 = .ok (.aload_n 0, 1) := by decide +kernel
theorem dX12_count_23 : decode cX12_count 23 = .ok (.iconst 1, 1) := by decide +kernel
theorem dX12_count_24 : decode cX12_count 24 = .ok (.invokevirtual 115, 3) := by decide +kernel
theorem dX12_count_27 : decode cX12_count 27 = .ok (.ireturn, 1) := by decide +kernel
theorem dX12_span_0 : decode cX12_span 0 = .ok (.aload_n 0, 1) := by decide +kernel
theorem dX12_span_1 : decode cX12_span 1 = .ok (.getfield 63, 3) := by decide +kernel
theorem dX12_span_4 : decode cX12_span 4 = .ok (.iconst 3, 1) := by decide +kernel
theorem dX12_span_5 : decode cX12_span 5 = .ok (.iload_n 1, 1) := by decide +kernel
theorem dX12_span_6 : decode cX12_span 6 = .ok (.imul, 1) := by decide +kernel
theorem dX12_span_7 : decode cX12_span 7 = .ok (.iload_n 2, 1) := by decide +kernel
theorem dX12_span_8 : decode cX12_span 8 = .ok (.iadd, 1) := by decide +kernel
theorem dX12_span_9 : decode cX12_span 9 = .ok (.iaload, 1) := by decide +kernel
theorem dX12_span_10 : decode cX12_span 10 = .ok (.aload_n 0, 1) := by decide +kernel
theorem dX12_span_11 : decode cX12_span 11 = .ok (.getfield 60, 3) := by decide +kernel
theorem dX12_span_14 : decode cX12_span 14 = .ok (.iconst 3, 1) := by decide +kernel
theorem dX12_span_15 : decode cX12_span 15 = .ok (.iload_n 1, 1) := by decide +kernel
theorem dX12_span_16 : decode cX12_span 16 = .ok (.imul, 1) := by decide +kernel
theorem dX12_span_17 : decode cX12_span 17 = .ok (.iload_n 2, 1) := by decide +kernel
theorem dX12_span_18 : decode cX12_span 18 = .ok (.iadd, 1) := by decide +kernel
theorem dX12_span_19 : decode cX12_span 19 = .ok (.iaload, 1) := by decide +kernel
theorem dX12_span_20 : decode cX12_span 20 = .ok (.isub, 1) := by decide +kernel
theorem dX12_span_21 : decode cX12_span 21 = .ok (.iconst 1, 1) := by decide +kernel
theorem dX12_span_22 : decode cX12_span 22 = .ok (.iadd, 1) := by decide +kernel
theorem dX12_span_23 : decode cX12_span 23 = .ok (.ireturn, 1) := by decide +kernel
theorem dX12_all_0 : decode cX12_all 0 = .ok (.iconst 1, 1) := by decide +kernel
theorem dX12_all_1 : decode cX12_all 1 = .ok (.istore_n 2, 1) := by decide +kernel
theorem dX12_all_2 : decode cX12_all 2 = .ok (.iconst 0, 1) := by decide +kernel
theorem dX12_all_3 : decode cX12_all 3 = .ok (.istore_n 3, 1) := by decide +kernel
theorem dX12_all_4 : decode cX12_all 4 = .ok (.iload_n 3, 1) := by decide +kernel
theorem dX12_all_5 : decode cX12_all 5 = .ok (.aload_n 0, 1) := by decide +kernel
theorem dX12_all_6 : decode cX12_all 6 = .ok (.getfield 54, 3) := by decide +kernel
theorem dX12_all_9 : decode cX12_all 9 = .ok (.iload_n 1, 1) := by decide +kernel
theorem dX12_all_10 : decode cX12_all 10 = .ok (.iaload, 1) := by decide +kernel
theorem dX12_all_11 : decode cX12_all 11 = .ok (.if_icmp .ge 18, 3) := by decide +kernel
theorem dX12_all_14 : decode cX12_all 14 = .ok (.iload_n 2, 1) := by decide +kernel
theorem dX12_all_15 : decode cX12_all 15 = .ok (.aload_n 0, 1) := by decide +kernel
theorem dX12_all_16 : decode cX12_all 16 = .ok (.iload_n 1, 1) := by decide +kernel
theorem dX12_all_17 : decode cX12_all 17 = .ok (.iload_n 3, 1) := by decide +kernel
theorem dX12_all_18 : decode cX12_all 18 = .ok (.invokevirtual 402, 3) := by decide +kernel
theorem dX12_all_21 : decode cX12_all 21 = .ok (.imul, 1) := by decide +kernel
theorem dX12_all_22 : decode cX12_all 22 = .ok (.istore_n 2, 1) := by decide +kernel
theorem dX12_all_23 : decode cX12_all 23 = .ok (.iinc 3 1, 3) := by decide +kernel
theorem dX12_all_26 : decode cX12_all 26 = .ok (.goto (-22), 3) := by decide +kernel
theorem dX12_all_29 : decode cX12_all 29 = .ok (.iload_n 2, 1) := by decide +kernel
theorem dX12_all_30 : decode cX12_all 30 = .ok (.ireturn, 1) := by decide +kernel
theorem dX12_rowOf_0 : decode cX12_rowOf 0 = .ok (.iconst 3, 1) := by decide +kernel
theorem dX12_rowOf_1 : decode cX12_rowOf 1 = .ok (.newarray .int, 2) := by decide +kernel
theorem dX12_rowOf_3 : decode cX12_rowOf 3 = .ok (.astore_n 3, 1) := by decide +kernel
theorem dX12_rowOf_4 : decode cX12_rowOf 4 = .ok (.iload_n 2, 1) := by decide +kernel
theorem dX12_rowOf_5 : decode cX12_rowOf 5 = .ok (.istore 4, 2) := by decide +kernel
theorem dX12_rowOf_7 : decode cX12_rowOf 7 = .ok (.aload_n 0, 1) := by decide +kernel
theorem dX12_rowOf_8 : decode cX12_rowOf 8 = .ok (.getfield 54, 3) := by decide +kernel
theorem dX12_rowOf_11 : decode cX12_rowOf 11 = .ok (.iload_n 1, 1) := by decide +kernel
theorem dX12_rowOf_12 : decode cX12_rowOf 12 = .ok (.iaload, 1) := by decide +kernel
theorem dX12_rowOf_13 : decode cX12_rowOf 13 = .ok (.iconst 1, 1) := by decide +kernel
theorem dX12_rowOf_14 : decode cX12_rowOf 14 = .ok (.isub, 1) := by decide +kernel
theorem dX12_rowOf_15 : decode cX12_rowOf 15 = .ok (.istore 5, 2) := by decide +kernel
theorem dX12_rowOf_17 : decode cX12_rowOf 17 = .ok (.iload 5, 2) := by decide +kernel
theorem dX12_rowOf_19 : decode cX12_rowOf 19 = .ok (.ifCond .lt 47, 3) := by decide +kernel
theorem dX12_rowOf_22 : decode cX12_rowOf 22 = .ok (.aload_n 3, 1) := by decide +kernel
theorem dX12_rowOf_23 : decode cX12_rowOf 23 = .ok (.iload 5, 2) := by decide +kernel
theorem dX12_rowOf_25 : decode cX12_rowOf 25 = .ok (.aload_n 0, 1) := by decide +kernel
theorem dX12_rowOf_26 : decode cX12_rowOf 26 = .ok (.getfield 60, 3) := by decide +kernel
theorem dX12_rowOf_29 : decode cX12_rowOf 29 = .ok (.iconst 3, 1) := by decide +kernel
theorem dX12_rowOf_30 : decode cX12_rowOf 30 = .ok (.iload_n 1, 1) := by decide +kernel
theorem dX12_rowOf_31 : decode cX12_rowOf 31 = .ok (.imul, 1) := by decide +kernel
theorem dX12_rowOf_32 : decode cX12_rowOf 32 = .ok (.iload 5, 2) := by decide +kernel
theorem dX12_rowOf_34 : decode cX12_rowOf 34 = .ok (.iadd, 1) := by decide +kernel
theorem dX12_rowOf_35 : decode cX12_rowOf 35 = .ok (.iaload, 1) := by decide +kernel
theorem dX12_rowOf_36 : decode cX12_rowOf 36 = .ok (.iload 4, 2) := by decide +kernel
theorem dX12_rowOf_38 : decode cX12_rowOf 38 = .ok (.aload_n 0, 1) := by decide +kernel
theorem dX12_rowOf_39 : decode cX12_rowOf 39 = .ok (.iload_n 1, 1) := by decide +kernel
theorem dX12_rowOf_40 : decode cX12_rowOf 40 = .ok (.iload 5, 2) := by decide +kernel
theorem dX12_rowOf_42 : decode cX12_rowOf 42 = .ok (.invokevirtual 402, 3) := by decide +kernel
theorem dX12_rowOf_45 : decode cX12_rowOf 45 = .ok (.irem, 1) := by decide +kernel
theorem dX12_rowOf_46 : decode cX12_rowOf 46 = .ok (.iadd, 1) := by decide +kernel
theorem dX12_rowOf_47 : decode cX12_rowOf 47 = .ok (.iastore, 1) := by decide +kernel
theorem dX12_rowOf_48 : decode cX12_rowOf 48 = .ok (.iload 4, 2) := by decide +kernel
theorem dX12_rowOf_50 : decode cX12_rowOf 50 = .ok (.aload_n 0, 1) := by decide +kernel
theorem dX12_rowOf_51 : decode cX12_rowOf 51 = .ok (.iload_n 1, 1) := by decide +kernel
theorem dX12_rowOf_52 : decode cX12_rowOf 52 = .ok (.iload 5, 2) := by decide +kernel
theorem dX12_rowOf_54 : decode cX12_rowOf 54 = .ok (.invokevirtual 402, 3) := by decide +kernel
theorem dX12_rowOf_57 : decode cX12_rowOf 57 = .ok (.idiv, 1) := by decide +kernel
theorem dX12_rowOf_58 : decode cX12_rowOf 58 = .ok (.istore 4, 2) := by decide +kernel
theorem dX12_rowOf_60 : decode cX12_rowOf 60 = .ok (.iinc 5 (-1), 3) := by decide +kernel
theorem dX12_rowOf_63 : decode cX12_rowOf 63 = .ok (.goto (-46), 3) := by decide +kernel
theorem dX12_rowOf_66 : decode cX12_rowOf 66 = .ok (.aload_n 3, 1) := by decide +kernel
theorem dX12_rowOf_67 : decode cX12_rowOf 67 = .ok (.areturn, 1) := by decide +kernel
theorem dX12_pairAt_0 : decode cX12_pairAt 0 = .ok (.iload_n 0, 1) := by decide +kernel
theorem dX12_pairAt_1 : decode cX12_pairAt 1 = .ok (.iload_n 1, 1) := by decide +kernel
theorem dX12_pairAt_2 : decode cX12_pairAt 2 = .ok (.iadd, 1) := by decide +kernel
theorem dX12_pairAt_3 : decode cX12_pairAt 3 = .ok (.bipush 41, 2) := by decide +kernel
theorem dX12_pairAt_5 : decode cX12_pairAt 5 = .ok (.imul, 1) := by decide +kernel
theorem dX12_pairAt_6 : decode cX12_pairAt 6 = .ok (.bipush 41, 2) := by decide +kernel
theorem dX12_pairAt_8 : decode cX12_pairAt 8 = .ok (.imul, 1) := by decide +kernel
theorem dX12_pairAt_9 : decode cX12_pairAt 9 = .ok (.iload_n 2, 1) := by decide +kernel
theorem dX12_pairAt_10 : decode cX12_pairAt 10 = .ok (.bipush 20, 2) := by decide +kernel
theorem dX12_pairAt_12 : decode cX12_pairAt 12 = .ok (.iadd, 1) := by decide +kernel
theorem dX12_pairAt_13 : decode cX12_pairAt 13 = .ok (.bipush 41, 2) := by decide +kernel
theorem dX12_pairAt_15 : decode cX12_pairAt 15 = .ok (.imul, 1) := by decide +kernel
theorem dX12_pairAt_16 : decode cX12_pairAt 16 = .ok (.iadd, 1) := by decide +kernel
theorem dX12_pairAt_17 : decode cX12_pairAt 17 = .ok (.iload_n 3, 1) := by decide +kernel
theorem dX12_pairAt_18 : decode cX12_pairAt 18 = .ok (.iadd, 1) := by decide +kernel
theorem dX12_pairAt_19 : decode cX12_pairAt 19 = .ok (.bipush 20, 2) := by decide +kernel
theorem dX12_pairAt_21 : decode cX12_pairAt 21 = .ok (.iadd, 1) := by decide +kernel
theorem dX12_pairAt_22 : decode cX12_pairAt 22 = .ok (.ireturn, 1) := by decide +kernel
theorem dX12_mark_0 : decode cX12_mark 0 = .ok (.aload_n 0, 1) := by decide +kernel
theorem dX12_mark_1 : decode cX12_mark 1 = .ok (.getfield 54, 3) := by decide +kernel
theorem dX12_mark_4 : decode cX12_mark 4 = .ok (.iload_n 1, 1) := by decide +kernel
theorem dX12_mark_5 : decode cX12_mark 5 = .ok (.iaload, 1) := by decide +kernel
theorem dX12_mark_6 : decode cX12_mark 6 = .ok (.iconst 1, 1) := by decide +kernel
theorem dX12_mark_7 : decode cX12_mark 7 = .ok (.if_icmp .ne 18, 3) := by decide +kernel
theorem dX12_mark_10 : decode cX12_mark 10 = .ok (.aload_n 0, 1) := by decide +kernel
theorem dX12_mark_11 : decode cX12_mark 11 = .ok (.getfield 102, 3) := by decide +kernel
theorem dX12_mark_14 : decode cX12_mark 14 = .ok (.iconst 0, 1) := by decide +kernel
theorem dX12_mark_15 : decode cX12_mark 15 = .ok (.iconst 0, 1) := by decide +kernel
theorem dX12_mark_16 : decode cX12_mark 16 = .ok (.aload_n 2, 1) := by decide +kernel
theorem dX12_mark_17 : decode cX12_mark 17 = .ok (.iconst 0, 1) := by decide +kernel
theorem dX12_mark_18 : decode cX12_mark 18 = .ok (.iaload, 1) := by decide +kernel
theorem dX12_mark_19 : decode cX12_mark 19 = .ok (.iconst 0, 1) := by decide +kernel
theorem dX12_mark_20 : decode cX12_mark 20 = .ok (.invokestatic 405, 3) := by decide +kernel
theorem dX12_mark_23 : decode cX12_mark 23 = .ok (.iconst 1, 1) := by decide +kernel
theorem dX12_mark_24 : decode cX12_mark 24 = .ok (.bastore, 1) := by decide +kernel
theorem dX12_mark_25 : decode cX12_mark 25 = .ok (.iconst 0, 1) := by decide +kernel
theorem dX12_mark_26 : decode cX12_mark 26 = .ok (.istore_n 3, 1) := by decide +kernel
theorem dX12_mark_27 : decode cX12_mark 27 = .ok (.iload_n 3, 1) := by decide +kernel
theorem dX12_mark_28 : decode cX12_mark 28 = .ok (.aload_n 0, 1) := by decide +kernel
theorem dX12_mark_29 : decode cX12_mark 29 = .ok (.getfield 54, 3) := by decide +kernel
theorem dX12_mark_32 : decode cX12_mark 32 = .ok (.iload_n 1, 1) := by decide +kernel
theorem dX12_mark_33 : decode cX12_mark 33 = .ok (.iaload, 1) := by decide +kernel
theorem dX12_mark_34 : decode cX12_mark 34 = .ok (.if_icmp .ge 50, 3) := by decide +kernel
theorem dX12_mark_37 : decode cX12_mark 37 = .ok (.iload_n 3, 1) := by decide +kernel
theorem dX12_mark_38 : decode cX12_mark 38 = .ok (.iconst 1, 1) := by decide +kernel
theorem dX12_mark_39 : decode cX12_mark 39 = .ok (.iadd, 1) := by decide +kernel
theorem dX12_mark_40 : decode cX12_mark 40 = .ok (.istore 4, 2) := by decide +kernel
theorem dX12_mark_42 : decode cX12_mark 42 = .ok (.iload 4, 2) := by decide +kernel
theorem dX12_mark_44 : decode cX12_mark 44 = .ok (.aload_n 0, 1) := by decide +kernel
theorem dX12_mark_45 : decode cX12_mark 45 = .ok (.getfield 54, 3) := by decide +kernel
theorem dX12_mark_48 : decode cX12_mark 48 = .ok (.iload_n 1, 1) := by decide +kernel
theorem dX12_mark_49 : decode cX12_mark 49 = .ok (.iaload, 1) := by decide +kernel
theorem dX12_mark_50 : decode cX12_mark 50 = .ok (.if_icmp .ge 28, 3) := by decide +kernel
theorem dX12_mark_53 : decode cX12_mark 53 = .ok (.aload_n 0, 1) := by decide +kernel
theorem dX12_mark_54 : decode cX12_mark 54 = .ok (.getfield 102, 3) := by decide +kernel
theorem dX12_mark_57 : decode cX12_mark 57 = .ok (.iload_n 3, 1) := by decide +kernel
theorem dX12_mark_58 : decode cX12_mark 58 = .ok (.iload 4, 2) := by decide +kernel
theorem dX12_mark_60 : decode cX12_mark 60 = .ok (.aload_n 2, 1) := by decide +kernel
theorem dX12_mark_61 : decode cX12_mark 61 = .ok (.iload_n 3, 1) := by decide +kernel
theorem dX12_mark_62 : decode cX12_mark 62 = .ok (.iaload, 1) := by decide +kernel
theorem dX12_mark_63 : decode cX12_mark 63 = .ok (.aload_n 2, 1) := by decide +kernel
theorem dX12_mark_64 : decode cX12_mark 64 = .ok (.iload 4, 2) := by decide +kernel
theorem dX12_mark_66 : decode cX12_mark 66 = .ok (.iaload, 1) := by decide +kernel
theorem dX12_mark_67 : decode cX12_mark 67 = .ok (.invokestatic 405, 3) := by decide +kernel
theorem dX12_mark_70 : decode cX12_mark 70 = .ok (.iconst 1, 1) := by decide +kernel
theorem dX12_mark_71 : decode cX12_mark 71 = .ok (.bastore, 1) := by decide +kernel
theorem dX12_mark_72 : decode cX12_mark 72 = .ok (.iinc 4 1, 3) := by decide +kernel
theorem dX12_mark_75 : decode cX12_mark 75 = .ok (.goto (-33), 3) := by decide +kernel
theorem dX12_mark_78 : decode cX12_mark 78 = .ok (.iinc 3 1, 3) := by decide +kernel
theorem dX12_mark_81 : decode cX12_mark 81 = .ok (.goto (-54), 3) := by decide +kernel
theorem dX12_mark_84 : decode cX12_mark 84 = .ok (.return_, 1) := by decide +kernel
theorem dX12_markAll_0 : decode cX12_markAll 0 = .ok (.iconst 0, 1) := by decide +kernel
theorem dX12_markAll_1 : decode cX12_markAll 1 = .ok (.istore_n 2, 1) := by decide +kernel
theorem dX12_markAll_2 : decode cX12_markAll 2 = .ok (.iload_n 2, 1) := by decide +kernel
theorem dX12_markAll_3 : decode cX12_markAll 3 = .ok (.aload_n 0, 1) := by decide +kernel
theorem dX12_markAll_4 : decode cX12_markAll 4 = .ok (.getfield 102, 3) := by decide +kernel
theorem dX12_markAll_7 : decode cX12_markAll 7 = .ok (.arraylength, 1) := by decide +kernel
theorem dX12_markAll_8 : decode cX12_markAll 8 = .ok (.if_icmp .ge 16, 3) := by decide +kernel
theorem dX12_markAll_11 : decode cX12_markAll 11 = .ok (.aload_n 0, 1) := by decide +kernel
theorem dX12_markAll_12 : decode cX12_markAll 12 = .ok (.getfield 102, 3) := by decide +kernel
theorem dX12_markAll_15 : decode cX12_markAll 15 = .ok (.iload_n 2, 1) := by decide +kernel
theorem dX12_markAll_16 : decode cX12_markAll 16 = .ok (.iconst 0, 1) := by decide +kernel
theorem dX12_markAll_17 : decode cX12_markAll 17 = .ok (.bastore, 1) := by decide +kernel
theorem dX12_markAll_18 : decode cX12_markAll 18 = .ok (.iinc 2 1, 3) := by decide +kernel
theorem dX12_markAll_21 : decode cX12_markAll 21 = .ok (.goto (-19), 3) := by decide +kernel
theorem dX12_markAll_24 : decode cX12_markAll 24 = .ok (.iconst 0, 1) := by decide +kernel
theorem dX12_markAll_25 : decode cX12_markAll 25 = .ok (.istore_n 2, 1) := by decide +kernel
theorem dX12_markAll_26 : decode cX12_markAll 26 = .ok (.iload_n 2, 1) := by decide +kernel
theorem dX12_markAll_27 : decode cX12_markAll 27 = .ok (.aload_n 0, 1) := by decide +kernel
theorem dX12_markAll_28 : decode cX12_markAll 28 = .ok (.getfield 282, 3) := by decide +kernel
theorem dX12_markAll_31 : decode cX12_markAll 31 = .ok (.if_icmp .ge 56, 3) := by decide +kernel
theorem dX12_markAll_34 : decode cX12_markAll 34 = .ok (.aload_n 0, 1) := by decide +kernel
theorem dX12_markAll_35 : decode cX12_markAll 35 = .ok (.getfield 78, 3) := by decide +kernel
theorem dX12_markAll_38 : decode cX12_markAll 38 = .ok (.iload_n 2, 1) := by decide +kernel
theorem dX12_markAll_39 : decode cX12_markAll 39 = .ok (.iaload, 1) := by decide +kernel
theorem dX12_markAll_40 : decode cX12_markAll 40 = .ok (.iload_n 1, 1) := by decide +kernel
theorem dX12_markAll_41 : decode cX12_markAll 41 = .ok (.if_icmp .ne 11, 3) := by decide +kernel
theorem dX12_markAll_44 : decode cX12_markAll 44 = .ok (.aload_n 0, 1) := by decide +kernel
theorem dX12_markAll_45 : decode cX12_markAll 45 = .ok (.iload_n 2, 1) := by decide +kernel
theorem dX12_markAll_46 : decode cX12_markAll 46 = .ok (.invokevirtual 344, 3) := by decide +kernel
theorem dX12_markAll_49 : decode cX12_markAll 49 = .ok (.goto 4, 3) := by decide +kernel
theorem dX12_markAll_52 : decode cX12_markAll 52 = .ok (.iconst 0, 1) := by decide +kernel
theorem dX12_markAll_53 : decode cX12_markAll 53 = .ok (.istore_n 3, 1) := by decide +kernel
theorem dX12_markAll_54 : decode cX12_markAll 54 = .ok (.iconst 0, 1) := by decide +kernel
theorem dX12_markAll_55 : decode cX12_markAll 55 = .ok (.istore 4, 2) := by decide +kernel
theorem dX12_markAll_57 : decode cX12_markAll 57 = .ok (.iload 4, 2) := by decide +kernel
theorem dX12_markAll_59 : decode cX12_markAll 59 = .ok (.iload_n 3, 1) := by decide +kernel
theorem dX12_markAll_60 : decode cX12_markAll 60 = .ok (.if_icmp .ge 21, 3) := by decide +kernel
theorem dX12_markAll_63 : decode cX12_markAll 63 = .ok (.aload_n 0, 1) := by decide +kernel
theorem dX12_markAll_64 : decode cX12_markAll 64 = .ok (.iload_n 1, 1) := by decide +kernel
theorem dX12_markAll_65 : decode cX12_markAll 65 = .ok (.aload_n 0, 1) := by decide +kernel
theorem dX12_markAll_66 : decode cX12_markAll 66 = .ok (.iload_n 2, 1) := by decide +kernel
theorem dX12_markAll_67 : decode cX12_markAll 67 = .ok (.iload 4, 2) := by decide +kernel
theorem dX12_markAll_69 : decode cX12_markAll 69 = .ok (.invokevirtual 409, 3) := by decide +kernel
theorem dX12_markAll_72 : decode cX12_markAll 72 = .ok (.invokevirtual 413, 3) := by decide +kernel
theorem dX12_markAll_75 : decode cX12_markAll 75 = .ok (.iinc 4 1, 3) := by decide +kernel
theorem dX12_markAll_78 : decode cX12_markAll 78 = .ok (.goto (-21), 3) := by decide +kernel
theorem dX12_markAll_81 : decode cX12_markAll 81 = .ok (.iinc 2 1, 3) := by decide +kernel
theorem dX12_markAll_84 : decode cX12_markAll 84 = .ok (.goto (-58), 3) := by decide +kernel
theorem dX12_markAll_87 : decode cX12_markAll 87 = .ok (.return_, 1) := by decide +kernel
theorem dX12_untried_0 : decode cX12_untried 0 = .ok (.aload_n 0, 1) := by decide +kernel
theorem dX12_untried_1 : decode cX12_untried 1 = .ok (.getfield 54, 3) := by decide +kernel
theorem dX12_untried_4 : decode cX12_untried 4 = .ok (.iload_n 1, 1) := by decide +kernel
theorem dX12_untried_5 : decode cX12_untried 5 = .ok (.iaload, 1) := by decide +kernel
theorem dX12_untried_6 : decode cX12_untried 6 = .ok (.iconst 1, 1) := by decide +kernel
theorem dX12_untried_7 : decode cX12_untried 7 = .ok (.if_icmp .ne 26, 3) := by decide +kernel
theorem dX12_untried_10 : decode cX12_untried 10 = .ok (.aload_n 0, 1) := by decide +kernel
theorem dX12_untried_11 : decode cX12_untried 11 = .ok (.getfield 102, 3) := by decide +kernel
theorem dX12_untried_14 : decode cX12_untried 14 = .ok (.iconst 0, 1) := by decide +kernel
theorem dX12_untried_15 : decode cX12_untried 15 = .ok (.iconst 0, 1) := by decide +kernel
theorem dX12_untried_16 : decode cX12_untried 16 = .ok (.aload_n 2, 1) := by decide +kernel
theorem dX12_untried_17 : decode cX12_untried 17 = .ok (.iconst 0, 1) := by decide +kernel
theorem dX12_untried_18 : decode cX12_untried 18 = .ok (.iaload, 1) := by decide +kernel
theorem dX12_untried_19 : decode cX12_untried 19 = .ok (.iconst 0, 1) := by decide +kernel
theorem dX12_untried_20 : decode cX12_untried 20 = .ok (.invokestatic 405, 3) := by decide +kernel
theorem dX12_untried_23 : decode cX12_untried 23 = .ok (.baload, 1) := by decide +kernel
theorem dX12_untried_24 : decode cX12_untried 24 = .ok (.ifCond .eq 7, 3) := by decide +kernel
theorem dX12_untried_27 : decode cX12_untried 27 = .ok (.iconst 0, 1) := by decide +kernel
theorem dX12_untried_28 : decode cX12_untried 28 = .ok (.goto 4, 3) := by decide +kernel
theorem dX12_untried_31 : decode cX12_untried 31 = .ok (.iconst 1, 1) := by decide +kernel
theorem dX12_untried_32 : decode cX12_untried 32 = .ok (.ireturn, 1) := by decide +kernel
theorem dX12_untried_33 : decode cX12_untried 33 = .ok (.iconst 0, 1) := by decide +kernel
theorem dX12_untried_34 : decode cX12_untried 34 = .ok (.istore_n 3, 1) := by decide +kernel
theorem dX12_untried_35 : decode cX12_untried 35 = .ok (.iconst 0, 1) := by decide +kernel
theorem dX12_untried_36 : decode cX12_untried 36 = .ok (.istore 4, 2) := by decide +kernel
theorem dX12_untried_38 : decode cX12_untried 38 = .ok (.iload 4, 2) := by decide +kernel
theorem dX12_untried_40 : decode cX12_untried 40 = .ok (.aload_n 0, 1) := by decide +kernel
theorem dX12_untried_41 : decode cX12_untried 41 = .ok (.getfield 54, 3) := by decide +kernel
theorem dX12_untried_44 : decode cX12_untried 44 = .ok (.iload_n 1, 1) := by decide +kernel
theorem dX12_untried_45 : decode cX12_untried 45 = .ok (.iaload, 1) := by decide +kernel
theorem dX12_untried_46 : decode cX12_untried 46 = .ok (.if_icmp .ge 63, 3) := by decide +kernel
theorem dX12_untried_49 : decode cX12_untried 49 = .ok (.iload 4, 2) := by decide +kernel
theorem dX12_untried_51 : decode cX12_untried 51 = .ok (.iconst 1, 1) := by decide +kernel
theorem dX12_untried_52 : decode cX12_untried 52 = .ok (.iadd, 1) := by decide +kernel
theorem dX12_untried_53 : decode cX12_untried 53 = .ok (.istore 5, 2) := by decide +kernel
theorem dX12_untried_55 : decode cX12_untried 55 = .ok (.iload 5, 2) := by decide +kernel
theorem dX12_untried_57 : decode cX12_untried 57 = .ok (.aload_n 0, 1) := by decide +kernel
theorem dX12_untried_58 : decode cX12_untried 58 = .ok (.getfield 54, 3) := by decide +kernel
theorem dX12_untried_61 : decode cX12_untried 61 = .ok (.iload_n 1, 1) := by decide +kernel
theorem dX12_untried_62 : decode cX12_untried 62 = .ok (.iaload, 1) := by decide +kernel
theorem dX12_untried_63 : decode cX12_untried 63 = .ok (.if_icmp .ge 40, 3) := by decide +kernel
theorem dX12_untried_66 : decode cX12_untried 66 = .ok (.iload_n 3, 1) := by decide +kernel
theorem dX12_untried_67 : decode cX12_untried 67 = .ok (.aload_n 0, 1) := by decide +kernel
theorem dX12_untried_68 : decode cX12_untried 68 = .ok (.getfield 102, 3) := by decide +kernel
theorem dX12_untried_71 : decode cX12_untried 71 = .ok (.iload 4, 2) := by decide +kernel
theorem dX12_untried_73 : decode cX12_untried 73 = .ok (.iload 5, 2) := by decide +kernel
theorem dX12_untried_75 : decode cX12_untried 75 = .ok (.aload_n 2, 1) := by decide +kernel
theorem dX12_untried_76 : decode cX12_untried 76 = .ok (.iload 4, 2) := by decide +kernel
theorem dX12_untried_78 : decode cX12_untried 78 = .ok (.iaload, 1) := by decide +kernel
theorem dX12_untried_79 : decode cX12_untried 79 = .ok (.aload_n 2, 1) := by decide +kernel
theorem dX12_untried_80 : decode cX12_untried 80 = .ok (.iload 5, 2) := by decide +kernel
theorem dX12_untried_82 : decode cX12_untried 82 = .ok (.iaload, 1) := by decide +kernel
theorem dX12_untried_83 : decode cX12_untried 83 = .ok (.invokestatic 405, 3) := by decide +kernel
theorem dX12_untried_86 : decode cX12_untried 86 = .ok (.baload, 1) := by decide +kernel
theorem dX12_untried_87 : decode cX12_untried 87 = .ok (.ifCond .eq 7, 3) := by decide +kernel
theorem dX12_untried_90 : decode cX12_untried 90 = .ok (.iconst 0, 1) := by decide +kernel
theorem dX12_untried_91 : decode cX12_untried 91 = .ok (.goto 4, 3) := by decide +kernel
theorem dX12_untried_94 : decode cX12_untried 94 = .ok (.iconst 1, 1) := by decide +kernel
theorem dX12_untried_95 : decode cX12_untried 95 = .ok (.iadd, 1) := by decide +kernel
theorem dX12_untried_96 : decode cX12_untried 96 = .ok (.istore_n 3, 1) := by decide +kernel
theorem dX12_untried_97 : decode cX12_untried 97 = .ok (.iinc 5 1, 3) := by decide +kernel
theorem dX12_untried_100 : decode cX12_untried 100 = .ok (.goto (-45), 3) := by decide +kernel
theorem dX12_untried_103 : decode cX12_untried 103 = .ok (.iinc 4 1, 3) := by decide +kernel
theorem dX12_untried_106 : decode cX12_untried 106 = .ok (.goto (-68), 3) := by decide +kernel
theorem dX12_untried_109 : decode cX12_untried 109 = .ok (.iload_n 3, 1) := by decide +kernel
theorem dX12_untried_110 : decode cX12_untried 110 = .ok (.ireturn, 1) := by decide +kernel
theorem dX12_pairs_0 : decode cX12_pairs 0 = .ok (.aload_n 0, 1) := by decide +kernel
theorem dX12_pairs_1 : decode cX12_pairs 1 = .ok (.getfield 54, 3) := by decide +kernel
theorem dX12_pairs_4 : decode cX12_pairs 4 = .ok (.iload_n 1, 1) := by decide +kernel
theorem dX12_pairs_5 : decode cX12_pairs 5 = .ok (.iaload, 1) := by decide +kernel
theorem dX12_pairs_6 : decode cX12_pairs 6 = .ok (.iconst 1, 1) := by decide +kernel
theorem dX12_pairs_7 : decode cX12_pairs 7 = .ok (.if_icmp .ne 10, 3) := by decide +kernel
theorem dX12_pairs_10 : decode cX12_pairs 10 = .ok (.aload_n 0, 1) := by decide +kernel
theorem dX12_pairs_11 : decode cX12_pairs 11 = .ok (.iload_n 1, 1) := by decide +kernel
theorem dX12_pairs_12 : decode cX12_pairs 12 = .ok (.iconst 0, 1) := by decide +kernel
theorem dX12_pairs_13 : decode cX12_pairs 13 = .ok (.invokevirtual 402, 3) := by decide +kernel
theorem dX12_pairs_16 : decode cX12_pairs 16 = .ok (.ireturn, 1) := by decide +kernel
theorem dX12_pairs_17 : decode cX12_pairs 17 = .ok (.iconst 0, 1) := by decide +kernel
theorem dX12_pairs_18 : decode cX12_pairs 18 = .ok (.istore_n 2, 1) := by decide +kernel
theorem dX12_pairs_19 : decode cX12_pairs 19 = .ok (.iconst 0, 1) := by decide +kernel
theorem dX12_pairs_20 : decode cX12_pairs 20 = .ok (.istore_n 3, 1) := by decide +kernel
theorem dX12_pairs_21 : decode cX12_pairs 21 = .ok (.iload_n 3, 1) := by decide +kernel
theorem dX12_pairs_22 : decode cX12_pairs 22 = .ok (.aload_n 0, 1) := by decide +kernel
theorem dX12_pairs_23 : decode cX12_pairs 23 = .ok (.getfield 54, 3) := by decide +kernel
theorem dX12_pairs_26 : decode cX12_pairs 26 = .ok (.iload_n 1, 1) := by decide +kernel
theorem dX12_pairs_27 : decode cX12_pairs 27 = .ok (.iaload, 1) := by decide +kernel
theorem dX12_pairs_28 : decode cX12_pairs 28 = .ok (.if_icmp .ge 48, 3) := by decide +kernel
theorem dX12_pairs_31 : decode cX12_pairs 31 = .ok (.iload_n 3, 1) := by decide +kernel
theorem dX12_pairs_32 : decode cX12_pairs 32 = .ok (.iconst 1, 1) := by decide +kernel
theorem dX12_pairs_33 : decode cX12_pairs 33 = .ok (.iadd, 1) := by decide +kernel
theorem dX12_pairs_34 : decode cX12_pairs 34 = .ok (.istore 4, 2) := by decide +kernel
theorem dX12_pairs_36 : decode cX12_pairs 36 = .ok (.iload 4, 2) := by decide +kernel
theorem dX12_pairs_38 : decode cX12_pairs 38 = .ok (.aload_n 0, 1) := by decide +kernel
theorem dX12_pairs_39 : decode cX12_pairs 39 = .ok (.getfield 54, 3) := by decide +kernel
theorem dX12_pairs_42 : decode cX12_pairs 42 = .ok (.iload_n 1, 1) := by decide +kernel
theorem dX12_pairs_43 : decode cX12_pairs 43 = .ok (.iaload, 1) := by decide +kernel
theorem dX12_pairs_44 : decode cX12_pairs 44 = .ok (.if_icmp .ge 26, 3) := by decide +kernel
theorem dX12_pairs_47 : decode cX12_pairs 47 = .ok (.iload_n 2, 1) := by decide +kernel
theorem dX12_pairs_48 : decode cX12_pairs 48 = .ok (.aload_n 0, 1) := by decide +kernel
theorem dX12_pairs_49 : decode cX12_pairs 49 = .ok (.iload_n 1, 1) := by decide +kernel
theorem dX12_pairs_50 : decode cX12_pairs 50 = .ok (.iload_n 3, 1) := by decide +kernel
theorem dX12_pairs_51 : decode cX12_pairs 51 = .ok (.invokevirtual 402, 3) := by decide +kernel
theorem dX12_pairs_54 : decode cX12_pairs 54 = .ok (.aload_n 0, 1) := by decide +kernel
theorem dX12_pairs_55 : decode cX12_pairs 55 = .ok (.iload_n 1, 1) := by decide +kernel
theorem dX12_pairs_56 : decode cX12_pairs 56 = .ok (.iload 4, 2) := by decide +kernel
theorem dX12_pairs_58 : decode cX12_pairs 58 = .ok (.invokevirtual 402, 3) := by decide +kernel
theorem dX12_pairs_61 : decode cX12_pairs 61 = .ok (.imul, 1) := by decide +kernel
theorem dX12_pairs_62 : decode cX12_pairs 62 = .ok (.iadd, 1) := by decide +kernel
theorem dX12_pairs_63 : decode cX12_pairs 63 = .ok (.istore_n 2, 1) := by decide +kernel
theorem dX12_pairs_64 : decode cX12_pairs 64 = .ok (.iinc 4 1, 3) := by decide +kernel
theorem dX12_pairs_67 : decode cX12_pairs 67 = .ok (.goto (-31), 3) := by decide +kernel
theorem dX12_pairs_70 : decode cX12_pairs 70 = .ok (.iinc 3 1, 3) := by decide +kernel
theorem dX12_pairs_73 : decode cX12_pairs 73 = .ok (.goto (-52), 3) := by decide +kernel
theorem dX12_pairs_76 : decode cX12_pairs 76 = .ok (.iload_n 2, 1) := by decide +kernel
theorem dX12_pairs_77 : decode cX12_pairs 77 = .ok (.ireturn, 1) := by decide +kernel
theorem dX12_pairsTried_0 : decode cX12_pairsTried 0 = .ok (.aload_n 0, 1) := by decide +kernel
theorem dX12_pairsTried_1 : decode cX12_pairsTried 1 = .ok (.iload_n 1, 1) := by decide +kernel
theorem dX12_pairsTried_2 : decode cX12_pairsTried 2 = .ok (.invokevirtual 417, 3) := by decide +kernel
theorem dX12_pairsTried_5 : decode cX12_pairsTried 5 = .ok (.iconst 0, 1) := by decide +kernel
theorem dX12_pairsTried_6 : decode cX12_pairsTried 6 = .ok (.istore_n 2, 1) := by decide +kernel
theorem dX12_pairsTried_7 : decode cX12_pairsTried 7 = .ok (.aload_n 0, 1) := by decide +kernel
theorem dX12_pairsTried_8 : decode cX12_pairsTried 8 = .ok (.getfield 102, 3) := by decide +kernel
theorem dX12_pairsTried_11 : decode cX12_pairsTried 11 = .ok (.astore_n 3, 1) := by decide +kernel
theorem dX12_pairsTried_12 : decode cX12_pairsTried 12 = .ok (.aload_n 3, 1) := by decide +kernel
theorem dX12_pairsTried_13 : decode cX12_pairsTried 13 = .ok (.arraylength, 1) := by decide +kernel
theorem dX12_pairsTried_14 : decode cX12_pairsTried 14 = .ok (.istore 4, 2) := by decide +kernel
theorem dX12_pairsTried_16 : decode cX12_pairsTried 16 = .ok (.iconst 0, 1) := by decide +kernel
theorem dX12_pairsTried_17 : decode cX12_pairsTried 17 = .ok (.istore 5, 2) := by decide +kernel
theorem dX12_pairsTried_19 : decode cX12_pairsTried 19 = .ok (.iload 5, 2) := by decide +kernel
theorem dX12_pairsTried_21 : decode cX12_pairsTried 21 = .ok (.iload 4, 2) := by decide +kernel
theorem dX12_pairsTried_23 : decode cX12_pairsTried 23 = .ok (.if_icmp .ge 28, 3) := by decide +kernel
theorem dX12_pairsTried_26 : decode cX12_pairsTried 26 = .ok (.aload_n 3, 1) := by decide +kernel
theorem dX12_pairsTried_27 : decode cX12_pairsTried 27 = .ok (.iload 5, 2) := by decide +kernel
theorem dX12_pairsTried_29 : decode cX12_pairsTried 29 = .ok (.baload, 1) := by decide +kernel
theorem dX12_pairsTried_30 : decode cX12_pairsTried 30 = .ok (.istore 6, 2) := by decide +kernel
theorem dX12_pairsTried_32 : decode cX12_pairsTried 32 = .ok (.iload_n 2, 1) := by decide +kernel
theorem dX12_pairsTried_33 : decode cX12_pairsTried 33 = .ok (.iload 6, 2) := by decide +kernel
theorem dX12_pairsTried_35 : decode cX12_pairsTried 35 = .ok (.ifCond .eq 7, 3) := by decide +kernel
theorem dX12_pairsTried_38 : decode cX12_pairsTried 38 = .ok (.iconst 1, 1) := by decide +kernel
theorem dX12_pairsTried_39 : decode cX12_pairsTried 39 = .ok (.goto 4, 3) := by decide +kernel
theorem dX12_pairsTried_42 : decode cX12_pairsTried 42 = .ok (.iconst 0, 1) := by decide +kernel
theorem dX12_pairsTried_43 : decode cX12_pairsTried 43 = .ok (.iadd, 1) := by decide +kernel
theorem dX12_pairsTried_44 : decode cX12_pairsTried 44 = .ok (.istore_n 2, 1) := by decide +kernel
theorem dX12_pairsTried_45 : decode cX12_pairsTried 45 = .ok (.iinc 5 1, 3) := by decide +kernel
theorem dX12_pairsTried_48 : decode cX12_pairsTried 48 = .ok (.goto (-29), 3) := by decide +kernel
theorem dX12_pairsTried_51 : decode cX12_pairsTried 51 = .ok (.iload_n 2, 1) := by decide +kernel
theorem dX12_pairsTried_52 : decode cX12_pairsTried 52 = .ok (.ireturn, 1) := by decide +kernel
