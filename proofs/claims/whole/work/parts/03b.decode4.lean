/-! decode rows (the kit printed them) -/
theorem dX12_tablesOf_0 : decode cX12_tablesOf 0 = .ok (.iconst 0, 1) := by decide +kernel
theorem dX12_tablesOf_1 : decode cX12_tablesOf 1 = .ok (.istore_n 2, 1) := by decide +kernel
theorem dX12_tablesOf_2 : decode cX12_tablesOf 2 = .ok (.iconst 0, 1) := by decide +kernel
theorem dX12_tablesOf_3 : decode cX12_tablesOf 3 = .ok (.istore_n 3, 1) := by decide +kernel
theorem dX12_tablesOf_4 : decode cX12_tablesOf 4 = .ok (.iload_n 3, 1) := by decide +kernel
theorem dX12_tablesOf_5 : decode cX12_tablesOf 5 = .ok (.aload_n 0, 1) := by decide +kernel
theorem dX12_tablesOf_6 : decode cX12_tablesOf 6 = .ok (.getfield 282, 3) := by decide +kernel
theorem dX12_tablesOf_9 : decode cX12_tablesOf 9 = .ok (.if_icmp .ge 27, 3) := by decide +kernel
theorem dX12_tablesOf_12 : decode cX12_tablesOf 12 = .ok (.iload_n 2, 1) := by decide +kernel
theorem dX12_tablesOf_13 : decode cX12_tablesOf 13 = .ok (.aload_n 0, 1) := by decide +kernel
theorem dX12_tablesOf_14 : decode cX12_tablesOf 14 = .ok (.getfield 78, 3) := by decide +kernel
theorem dX12_tablesOf_17 : decode cX12_tablesOf 17 = .ok (.iload_n 3, 1) := by decide +kernel
theorem dX12_tablesOf_18 : decode cX12_tablesOf 18 = .ok (.iaload, 1) := by decide +kernel
theorem dX12_tablesOf_19 : decode cX12_tablesOf 19 = .ok (.iload_n 1, 1) := by decide +kernel
theorem dX12_tablesOf_20 : decode cX12_tablesOf 20 = .ok (.if_icmp .ne 7, 3) := by decide +kernel
theorem dX12_tablesOf_23 : decode cX12_tablesOf 23 = .ok (.iconst 1, 1) := by decide +kernel
theorem dX12_tablesOf_24 : decode cX12_tablesOf 24 = .ok (.goto 4, 3) := by decide +kernel
theorem dX12_tablesOf_27 : decode cX12_tablesOf 27 = .ok (.iconst 0, 1) := by decide +kernel
theorem dX12_tablesOf_28 : decode cX12_tablesOf 28 = .ok (.iadd, 1) := by decide +kernel
theorem dX12_tablesOf_29 : decode cX12_tablesOf 29 = .ok (.istore_n 2, 1) := by decide +kernel
theorem dX12_tablesOf_30 : decode cX12_tablesOf 30 = .ok (.iinc 3 1, 3) := by decide +kernel
theorem dX12_tablesOf_33 : decode cX12_tablesOf 33 = .ok (.goto (-29), 3) := by decide +kernel
theorem dX12_tablesOf_36 : decode cX12_tablesOf 36 = .ok (.iload_n 2, 1) := by decide +kernel
theorem dX12_tablesOf_37 : decode cX12_tablesOf 37 = .ok (.ireturn, 1) := by decide +kernel
theorem dX12_funTold_0 : decode cX12_funTold 0 = .ok (.iload_n 2, 1) := by decide +kernel
theorem dX12_funTold_1 : decode cX12_funTold 1 = .ok (.ifCond .ne 12, 3) := by decide +kernel
theorem dX12_funTold_4 : decode cX12_funTold 4 = .ok (.aload_n 0, 1) := by decide +kernel
theorem dX12_funTold_5 : decode cX12_funTold 5 = .ok (.getfield 54, 3) := by decide +kernel
theorem dX12_funTold_8 : decode cX12_funTold 8 = .ok (.iload_n 1, 1) := by decide +kernel
theorem dX12_funTold_9 : decode cX12_funTold 9 = .ok (.iaload, 1) := by decide +kernel
theorem dX12_funTold_10 : decode cX12_funTold 10 = .ok (.goto 67, 3) := by decide +kernel
theorem dX12_funTold_13 : decode cX12_funTold 13 = .ok (.iload_n 2, 1) := by decide +kernel
theorem dX12_funTold_14 : decode cX12_funTold 14 = .ok (.iconst 1, 1) := by decide +kernel
theorem dX12_funTold_15 : decode cX12_funTold 15 = .ok (.if_icmp .ne 12, 3) := by decide +kernel
theorem dX12_funTold_18 : decode cX12_funTold 18 = .ok (.aload_n 0, 1) := by decide +kernel
theorem dX12_funTold_19 : decode cX12_funTold 19 = .ok (.getfield 69, 3) := by decide +kernel
theorem dX12_funTold_22 : decode cX12_funTold 22 = .ok (.iload_n 1, 1) := by decide +kernel
theorem dX12_funTold_23 : decode cX12_funTold 23 = .ok (.iaload, 1) := by decide +kernel
theorem dX12_funTold_24 : decode cX12_funTold 24 = .ok (.goto 53, 3) := by decide +kernel
theorem dX12_funTold_27 : decode cX12_funTold 27 = .ok (.iload_n 2, 1) := by decide +kernel
theorem dX12_funTold_28 : decode cX12_funTold 28 = .ok (.iconst 2, 1) := by decide +kernel
theorem dX12_funTold_29 : decode cX12_funTold 29 = .ok (.if_icmp .ne 11, 3) := by decide +kernel
theorem dX12_funTold_32 : decode cX12_funTold 32 = .ok (.aload_n 0, 1) := by decide +kernel
theorem dX12_funTold_33 : decode cX12_funTold 33 = .ok (.iload_n 1, 1) := by decide +kernel
theorem dX12_funTold_34 : decode cX12_funTold 34 = .ok (.invokevirtual 421, 3) := by decide +kernel
theorem dX12_funTold_37 : decode cX12_funTold 37 = .ok (.goto 40, 3) := by decide +kernel
theorem dX12_funTold_40 : decode cX12_funTold 40 = .ok (.iload_n 2, 1) := by decide +kernel
theorem dX12_funTold_41 : decode cX12_funTold 41 = .ok (.iconst 3, 1) := by decide +kernel
theorem dX12_funTold_42 : decode cX12_funTold 42 = .ok (.if_icmp .ne 11, 3) := by decide +kernel
theorem dX12_funTold_45 : decode cX12_funTold 45 = .ok (.aload_n 0, 1) := by decide +kernel
theorem dX12_funTold_46 : decode cX12_funTold 46 = .ok (.iload_n 1, 1) := by decide +kernel
theorem dX12_funTold_47 : decode cX12_funTold 47 = .ok (.invokevirtual 424, 3) := by decide +kernel
theorem dX12_funTold_50 : decode cX12_funTold 50 = .ok (.goto 27, 3) := by decide +kernel
theorem dX12_funTold_53 : decode cX12_funTold 53 = .ok (.iload_n 2, 1) := by decide +kernel
theorem dX12_funTold_54 : decode cX12_funTold 54 = .ok (.iconst 4, 1) := by decide +kernel
theorem dX12_funTold_55 : decode cX12_funTold 55 = .ok (.if_icmp .ne 11, 3) := by decide +kernel
theorem dX12_funTold_58 : decode cX12_funTold 58 = .ok (.aload_n 0, 1) := by decide +kernel
theorem dX12_funTold_59 : decode cX12_funTold 59 = .ok (.iload_n 1, 1) := by decide +kernel
theorem dX12_funTold_60 : decode cX12_funTold 60 = .ok (.invokevirtual 427, 3) := by decide +kernel
theorem dX12_funTold_63 : decode cX12_funTold 63 = .ok (.goto 14, 3) := by decide +kernel
theorem dX12_funTold_66 : decode cX12_funTold 66 = .ok (.aload_n 0, 1) := by decide +kernel
theorem dX12_funTold_67 : decode cX12_funTold 67 = .ok (.iload_n 1, 1) := by decide +kernel
theorem dX12_funTold_68 : decode cX12_funTold 68 = .ok (.invokevirtual 427, 3) := by decide +kernel
theorem dX12_funTold_71 : decode cX12_funTold 71 = .ok (.aload_n 0, 1) := by decide +kernel
theorem dX12_funTold_72 : decode cX12_funTold 72 = .ok (.iload_n 1, 1) := by decide +kernel
theorem dX12_funTold_73 : decode cX12_funTold 73 = .ok (.invokevirtual 430, 3) := by decide +kernel
theorem dX12_funTold_76 : decode cX12_funTold 76 = .ok (.isub, 1) := by decide +kernel
theorem dX12_funTold_77 : decode cX12_funTold 77 = .ok (.ireturn, 1) := by decide +kernel
theorem dX12_isFun_0 : decode cX12_isFun 0 = .ok (.iload_n 1, 1) := by decide +kernel
theorem dX12_isFun_1 : decode cX12_isFun 1 = .ok (.iconst 0, 1) := by decide +kernel
theorem dX12_isFun_2 : decode cX12_isFun 2 = .ok (.aload_n 0, 1) := by decide +kernel
theorem dX12_isFun_3 : decode cX12_isFun 3 = .ok (.getfield 275, 3) := by decide +kernel
theorem dX12_isFun_6 : decode cX12_isFun 6 = .ok (.iconst 1, 1) := by decide +kernel
theorem dX12_isFun_7 : decode cX12_isFun 7 = .ok (.isub, 1) := by decide +kernel
theorem dX12_isFun_8 : decode cX12_isFun 8 = .ok (.invokestatic 119, 3) := by decide +kernel
theorem dX12_isFun_11 : decode cX12_isFun 11 = .ok (.ireturn, 1) := by decide +kernel
theorem dX12_fun__0 : decode cX12_fun_ 0 = .ok (.aload_n 0, 1) := by decide +kernel
theorem dX12_fun__1 : decode cX12_fun_ 1 = .ok (.iconst 0, 1) := by decide +kernel
theorem dX12_fun__2 : decode cX12_fun_ 2 = .ok (.putfield 109, 3) := by decide +kernel
theorem dX12_fun__5 : decode cX12_fun_ 5 = .ok (.aload_n 0, 1) := by decide +kernel
theorem dX12_fun__6 : decode cX12_fun_ 6 = .ok (.iload_n 1, 1) := by decide +kernel
theorem dX12_fun__7 : decode cX12_fun_ 7 = .ok (.invokevirtual 433, 3) := by decide +kernel
theorem dX12_fun__10 : decode cX12_fun_ 10 = .ok (.ifCond .eq 21, 3) := by decide +kernel
theorem dX12_fun__13 : decode cX12_fun_ 13 = .ok (.iload_n 2, 1) := by decide +kernel
theorem dX12_fun__14 : decode cX12_fun_ 14 = .ok (.iconst 0, 1) := by decide +kernel
theorem dX12_fun__15 : decode cX12_fun_ 15 = .ok (.iconst 5, 1) := by decide +kernel
theorem dX12_fun__16 : decode cX12_fun_ 16 = .ok (.invokestatic 119, 3) := by decide +kernel
theorem dX12_fun__19 : decode cX12_fun_ 19 = .ok (.ifCond .eq 12, 3) := by decide +kernel
theorem dX12_fun__22 : decode cX12_fun_ 22 = .ok (.aload_n 0, 1) := by decide +kernel
theorem dX12_fun__23 : decode cX12_fun_ 23 = .ok (.iload_n 1, 1) := by decide +kernel
theorem dX12_fun__24 : decode cX12_fun_ 24 = .ok (.iload_n 2, 1) := by decide +kernel
theorem dX12_fun__25 : decode cX12_fun_ 25 = .ok (.invokevirtual 436, 3) := by decide +kernel
theorem dX12_fun__28 : decode cX12_fun_ 28 = .ok (.goto 8, 3) := by decide +kernel
theorem dX12_fun__31 : decode cX12_fun_ 31 = .ok (.aload_n 0, 1) := by decide +kernel
theorem dX12_fun__32 : decode cX12_fun_ 32 = .ok (.iconst 1, 1) := by decide +kernel
theorem dX12_fun__33 : decode cX12_fun_ 33 = .ok (.invokevirtual 115, 3) := by decide +kernel
theorem dX12_fun__36 : decode cX12_fun_ 36 = .ok (.ireturn, 1) := by decide +kernel
theorem dX12_call__0 : decode cX12_call_ 0 = .ok (.aload_n 0, 1) := by decide +kernel
theorem dX12_call__1 : decode cX12_call_ 1 = .ok (.aload_n 0, 1) := by decide +kernel
theorem dX12_call__2 : decode cX12_call_ 2 = .ok (.iload_n 1, 1) := by decide +kernel
theorem dX12_call__3 : decode cX12_call_ 3 = .ok (.invokevirtual 433, 3) := by decide +kernel
theorem dX12_call__6 : decode cX12_call_ 6 = .ok (.ifCond .eq 7, 3) := by decide +kernel
theorem dX12_call__9 : decode cX12_call_ 9 = .ok (.iconst 0, 1) := by decide +kernel
theorem dX12_call__10 : decode cX12_call_ 10 = .ok (.goto 4, 3) := by decide +kernel
theorem dX12_call__13 : decode cX12_call_ 13 = .ok (.iconst 1, 1) := by decide +kernel
theorem dX12_call__14 : decode cX12_call_ 14 = .ok (.putfield 109, 3) := by decide +kernel
theorem dX12_call__17 : decode cX12_call_ 17 = .ok (.aload_n 0, 1) := by decide +kernel
theorem dX12_call__18 : decode cX12_call_ 18 = .ok (.getfield 109, 3) := by decide +kernel
theorem dX12_call__21 : decode cX12_call_ 21 = .ok (.ifCond .eq 5, 3) := by decide +kernel
theorem dX12_call__24 : decode cX12_call_ 24 = .ok (.lconst 0, 1) := by decide +kernel
theorem dX12_call__25 : decode cX12_call_ 25 = .ok (.lreturn, 1) := by decide +kernel
theorem dX12_call__26 : decode cX12_call_ 26 = .ok (.iconst 3, 1) := by decide +kernel
theorem dX12_call__27 : decode cX12_call_ 27 = .ok (.newarray .int, 2) := by decide +kernel
theorem dX12_call__29 : decode cX12_call_ 29 = .ok (.dup, 1) := by decide +kernel
theorem dX12_call__30 : decode cX12_call_ 30 = .ok (.iconst 0, 1) := by decide +kernel
theorem dX12_call__31 : decode cX12_call_ 31 = .ok (.iload_n 2, 1) := by decide +kernel
theorem dX12_call__32 : decode cX12_call_ 32 = .ok (.iastore, 1) := by decide +kernel
theorem dX12_call__33 : decode cX12_call_ 33 = .ok (.dup, 1) := by decide +kernel
theorem dX12_call__34 : decode cX12_call_ 34 = .ok (.iconst 1, 1) := by decide +kernel
theorem dX12_call__35 : decode cX12_call_ 35 = .ok (.iload_n 3, 1) := by decide +kernel
theorem dX12_call__36 : decode cX12_call_ 36 = .ok (.iastore, 1) := by decide +kernel
theorem dX12_call__37 : decode cX12_call_ 37 = .ok (.dup, 1) := by decide +kernel
theorem dX12_call__38 : decode cX12_call_ 38 = .ok (.iconst 2, 1) := by decide +kernel
theorem dX12_call__39 : decode cX12_call_ 39 = .ok (.iload 4, 2) := by decide +kernel
theorem dX12_call__41 : decode cX12_call_ 41 = .ok (.iastore, 1) := by decide +kernel
theorem dX12_call__42 : decode cX12_call_ 42 = .ok (.astore 5, 2) := by decide +kernel
theorem dX12_call__44 : decode cX12_call_ 44 = .ok (.aload_n 0, 1) := by decide +kernel
theorem dX12_call__45 : decode cX12_call_ 45 = .ok (.iload_n 1, 1) := by decide +kernel
theorem dX12_call__46 : decode cX12_call_ 46 = .ok (.aload 5, 2) := by decide +kernel
theorem dX12_call__48 : decode cX12_call_ 48 = .ok (.iconst (-1), 1) := by decide +kernel
theorem dX12_call__49 : decode cX12_call_ 49 = .ok (.invokevirtual 439, 3) := by decide +kernel
theorem dX12_call__52 : decode cX12_call_ 52 = .ok (.lstore 6, 2) := by decide +kernel
theorem dX12_call__54 : decode cX12_call_ 54 = .ok (.aload_n 0, 1) := by decide +kernel
theorem dX12_call__55 : decode cX12_call_ 55 = .ok (.aload_n 0, 1) := by decide +kernel
theorem dX12_call__56 : decode cX12_call_ 56 = .ok (.getfield 363, 3) := by decide +kernel
theorem dX12_call__59 : decode cX12_call_ 59 = .ok (.ifCond .eq 7, 3) := by decide +kernel
theorem dX12_call__62 : decode cX12_call_ 62 = .ok (.iconst 2, 1) := by decide +kernel
theorem dX12_call__63 : decode cX12_call_ 63 = .ok (.goto 4, 3) := by decide +kernel
theorem dX12_call__66 : decode cX12_call_ 66 = .ok (.iconst 0, 1) := by decide +kernel
theorem dX12_call__67 : decode cX12_call_ 67 = .ok (.putfield 109, 3) := by decide +kernel
theorem dX12_call__70 : decode cX12_call_ 70 = .ok (.aload_n 0, 1) := by decide +kernel
theorem dX12_call__71 : decode cX12_call_ 71 = .ok (.getfield 363, 3) := by decide +kernel
theorem dX12_call__74 : decode cX12_call_ 74 = .ok (.ifCond .eq 7, 3) := by decide +kernel
theorem dX12_call__77 : decode cX12_call_ 77 = .ok (.lconst 0, 1) := by decide +kernel
theorem dX12_call__78 : decode cX12_call_ 78 = .ok (.goto 5, 3) := by decide +kernel
theorem dX12_call__81 : decode cX12_call_ 81 = .ok (.lload 6, 2) := by decide +kernel
theorem dX12_call__83 : decode cX12_call_ 83 = .ok (.lreturn, 1) := by decide +kernel
theorem dX12_callChanged_0 : decode cX12_callChanged 0 = .ok (.aload_n 0, 1) := by decide +kernel
theorem dX12_callChanged_1 : decode cX12_callChanged 1 = .ok (.aload_n 0, 1) := by decide +kernel
theorem dX12_callChanged_2 : decode cX12_callChanged 2 = .ok (.iload_n 1, 1) := by decide +kernel
theorem dX12_callChanged_3 : decode cX12_callChanged 3 = .ok (.invokevirtual 433, 3) := by decide +kernel
theorem dX12_callChanged_6 : decode cX12_callChanged 6 = .ok (.ifCond .eq 23, 3) := by decide +kernel
theorem dX12_callChanged_9 : decode cX12_callChanged 9 = .ok (.iload_n 2, 1) := by decide +kernel
theorem dX12_callChanged_10 : decode cX12_callChanged 10 = .ok (.iconst 0, 1) := by decide +kernel
theorem dX12_callChanged_11 : decode cX12_callChanged 11 = .ok (.aload_n 0, 1) := by decide +kernel
theorem dX12_callChanged_12 : decode cX12_callChanged 12 = .ok (.getfield 69, 3) := by decide +kernel
theorem dX12_callChanged_15 : decode cX12_callChanged 15 = .ok (.iload_n 1, 1) := by decide +kernel
theorem dX12_callChanged_16 : decode cX12_callChanged 16 = .ok (.iaload, 1) := by decide +kernel
theorem dX12_callChanged_17 : decode cX12_callChanged 17 = .ok (.iconst 1, 1) := by decide +kernel
theorem dX12_callChanged_18 : decode cX12_callChanged 18 = .ok (.isub, 1) := by decide +kernel
theorem dX12_callChanged_19 : decode cX12_callChanged 19 = .ok (.invokestatic 119, 3) := by decide +kernel
theorem dX12_callChanged_22 : decode cX12_callChanged 22 = .ok (.ifCond .eq 7, 3) := by decide +kernel
theorem dX12_callChanged_25 : decode cX12_callChanged 25 = .ok (.iconst 0, 1) := by decide +kernel
theorem dX12_callChanged_26 : decode cX12_callChanged 26 = .ok (.goto 4, 3) := by decide +kernel
theorem dX12_callChanged_29 : decode cX12_callChanged 29 = .ok (.iconst 1, 1) := by decide +kernel
theorem dX12_callChanged_30 : decode cX12_callChanged 30 = .ok (.putfield 109, 3) := by decide +kernel
theorem dX12_callChanged_33 : decode cX12_callChanged 33 = .ok (.aload_n 0, 1) := by decide +kernel
theorem dX12_callChanged_34 : decode cX12_callChanged 34 = .ok (.getfield 109, 3) := by decide +kernel
theorem dX12_callChanged_37 : decode cX12_callChanged 37 = .ok (.ifCond .eq 5, 3) := by decide +kernel
theorem dX12_callChanged_40 : decode cX12_callChanged 40 = .ok (.lconst 0, 1) := by decide +kernel
theorem dX12_callChanged_41 : decode cX12_callChanged 41 = .ok (.lreturn, 1) := by decide +kernel
theorem dX12_callChanged_42 : decode cX12_callChanged 42 = .ok (.iconst 3, 1) := by decide +kernel
theorem dX12_callChanged_43 : decode cX12_callChanged 43 = .ok (.newarray .int, 2) := by decide +kernel
theorem dX12_callChanged_45 : decode cX12_callChanged 45 = .ok (.dup, 1) := by decide +kernel
theorem dX12_callChanged_46 : decode cX12_callChanged 46 = .ok (.iconst 0, 1) := by decide +kernel
theorem dX12_callChanged_47 : decode cX12_callChanged 47 = .ok (.iload_n 3, 1) := by decide +kernel
theorem dX12_callChanged_48 : decode cX12_callChanged 48 = .ok (.iastore, 1) := by decide +kernel
theorem dX12_callChanged_49 : decode cX12_callChanged 49 = .ok (.dup, 1) := by decide +kernel
theorem dX12_callChanged_50 : decode cX12_callChanged 50 = .ok (.iconst 1, 1) := by decide +kernel
theorem dX12_callChanged_51 : decode cX12_callChanged 51 = .ok (.iload 4, 2) := by decide +kernel
theorem dX12_callChanged_53 : decode cX12_callChanged 53 = .ok (.iastore, 1) := by decide +kernel
theorem dX12_callChanged_54 : decode cX12_callChanged 54 = .ok (.dup, 1) := by decide +kernel
theorem dX12_callChanged_55 : decode cX12_callChanged 55 = .ok (.iconst 2, 1) := by decide +kernel
theorem dX12_callChanged_56 : decode cX12_callChanged 56 = .ok (.iload 5, 2) := by decide +kernel
theorem dX12_callChanged_58 : decode cX12_callChanged 58 = .ok (.iastore, 1) := by decide +kernel
theorem dX12_callChanged_59 : decode cX12_callChanged 59 = .ok (.astore 6, 2) := by decide +kernel
theorem dX12_callChanged_61 : decode cX12_callChanged 61 = .ok (.aload_n 0, 1) := by decide +kernel
theorem dX12_callChanged_62 : decode cX12_callChanged 62 = .ok (.iload_n 1, 1) := by decide +kernel
theorem dX12_callChanged_63 : decode cX12_callChanged 63 = .ok (.aload 6, 2) := by decide +kernel
theorem dX12_callChanged_65 : decode cX12_callChanged 65 = .ok (.iload_n 2, 1) := by decide +kernel
theorem dX12_callChanged_66 : decode cX12_callChanged 66 = .ok (.invokevirtual 439, 3) := by decide +kernel
theorem dX12_callChanged_69 : decode cX12_callChanged 69 = .ok (.lstore 7, 2) := by decide +kernel
theorem dX12_callChanged_71 : decode cX12_callChanged 71 = .ok (.aload_n 0, 1) := by decide +kernel
theorem dX12_callChanged_72 : decode cX12_callChanged 72 = .ok (.aload_n 0, 1) := by decide +kernel
theorem dX12_callChanged_73 : decode cX12_callChanged 73 = .ok (.getfield 363, 3) := by decide +kernel
theorem dX12_callChanged_76 : decode cX12_callChanged 76 = .ok (.ifCond .eq 7, 3) := by decide +kernel
theorem dX12_callChanged_79 : decode cX12_callChanged 79 = .ok (.iconst 2, 1) := by decide +kernel
theorem dX12_callChanged_80 : decode cX12_callChanged 80 = .ok (.goto 4, 3) := by decide +kernel
theorem dX12_callChanged_83 : decode cX12_callChanged 83 = .ok (.iconst 0, 1) := by decide +kernel
theorem dX12_callChanged_84 : decode cX12_callChanged 84 = .ok (.putfield 109, 3) := by decide +kernel
theorem dX12_callChanged_87 : decode cX12_callChanged 87 = .ok (.aload_n 0, 1) := by decide +kernel
theorem dX12_callChanged_88 : decode cX12_callChanged 88 = .ok (.getfield 363, 3) := by decide +kernel
theorem dX12_callChanged_91 : decode cX12_callChanged 91 = .ok (.ifCond .eq 7, 3) := by decide +kernel
theorem dX12_callChanged_94 : decode cX12_callChanged 94 = .ok (.lconst 0, 1) := by decide +kernel
theorem dX12_callChanged_95 : decode cX12_callChanged 95 = .ok (.goto 5, 3) := by decide +kernel
theorem dX12_callChanged_98 : decode cX12_callChanged 98 = .ok (.lload 7, 2) := by decide +kernel
theorem dX12_callChanged_100 : decode cX12_callChanged 100 = .ok (.lreturn, 1) := by decide +kernel
theorem dX12_inputOf_0 : decode cX12_inputOf 0 = .ok (.aload_n 0, 1) := by decide +kernel
theorem dX12_inputOf_1 : decode cX12_inputOf 1 = .ok (.iconst 0, 1) := by decide +kernel
theorem dX12_inputOf_2 : decode cX12_inputOf 2 = .ok (.putfield 109, 3) := by decide +kernel
theorem dX12_inputOf_5 : decode cX12_inputOf 5 = .ok (.aload_n 0, 1) := by decide +kernel
theorem dX12_inputOf_6 : decode cX12_inputOf 6 = .ok (.iload_n 1, 1) := by decide +kernel
theorem dX12_inputOf_7 : decode cX12_inputOf 7 = .ok (.invokevirtual 433, 3) := by decide +kernel
theorem dX12_inputOf_10 : decode cX12_inputOf 10 = .ok (.ifCond .eq 45, 3) := by decide +kernel
theorem dX12_inputOf_13 : decode cX12_inputOf 13 = .ok (.iload_n 2, 1) := by decide +kernel
theorem dX12_inputOf_14 : decode cX12_inputOf 14 = .ok (.iconst 0, 1) := by decide +kernel
theorem dX12_inputOf_15 : decode cX12_inputOf 15 = .ok (.aload_n 0, 1) := by decide +kernel
theorem dX12_inputOf_16 : decode cX12_inputOf 16 = .ok (.iload_n 1, 1) := by decide +kernel
theorem dX12_inputOf_17 : decode cX12_inputOf 17 = .ok (.invokevirtual 424, 3) := by decide +kernel
theorem dX12_inputOf_20 : decode cX12_inputOf 20 = .ok (.iconst 1, 1) := by decide +kernel
theorem dX12_inputOf_21 : decode cX12_inputOf 21 = .ok (.isub, 1) := by decide +kernel
theorem dX12_inputOf_22 : decode cX12_inputOf 22 = .ok (.invokestatic 119, 3) := by decide +kernel
theorem dX12_inputOf_25 : decode cX12_inputOf 25 = .ok (.ifCond .eq 30, 3) := by decide +kernel
theorem dX12_inputOf_28 : decode cX12_inputOf 28 = .ok (.iload_n 3, 1) := by decide +kernel
theorem dX12_inputOf_29 : decode cX12_inputOf 29 = .ok (.iconst 0, 1) := by decide +kernel
theorem dX12_inputOf_30 : decode cX12_inputOf 30 = .ok (.aload_n 0, 1) := by decide +kernel
theorem dX12_inputOf_31 : decode cX12_inputOf 31 = .ok (.getfield 54, 3) := by decide +kernel
theorem dX12_inputOf_34 : decode cX12_inputOf 34 = .ok (.iload_n 1, 1) := by decide +kernel
theorem dX12_inputOf_35 : decode cX12_inputOf 35 = .ok (.iaload, 1) := by decide +kernel
theorem dX12_inputOf_36 : decode cX12_inputOf 36 = .ok (.iconst 1, 1) := by decide +kernel
theorem dX12_inputOf_37 : decode cX12_inputOf 37 = .ok (.isub, 1) := by decide +kernel
theorem dX12_inputOf_38 : decode cX12_inputOf 38 = .ok (.invokestatic 119, 3) := by decide +kernel
theorem dX12_inputOf_41 : decode cX12_inputOf 41 = .ok (.ifCond .eq 14, 3) := by decide +kernel
theorem dX12_inputOf_44 : decode cX12_inputOf 44 = .ok (.aload_n 0, 1) := by decide +kernel
theorem dX12_inputOf_45 : decode cX12_inputOf 45 = .ok (.iload_n 1, 1) := by decide +kernel
theorem dX12_inputOf_46 : decode cX12_inputOf 46 = .ok (.iload_n 2, 1) := by decide +kernel
theorem dX12_inputOf_47 : decode cX12_inputOf 47 = .ok (.invokevirtual 443, 3) := by decide +kernel
theorem dX12_inputOf_50 : decode cX12_inputOf 50 = .ok (.iload_n 3, 1) := by decide +kernel
theorem dX12_inputOf_51 : decode cX12_inputOf 51 = .ok (.iaload, 1) := by decide +kernel
theorem dX12_inputOf_52 : decode cX12_inputOf 52 = .ok (.goto 8, 3) := by decide +kernel
theorem dX12_inputOf_55 : decode cX12_inputOf 55 = .ok (.aload_n 0, 1) := by decide +kernel
theorem dX12_inputOf_56 : decode cX12_inputOf 56 = .ok (.iconst 1, 1) := by decide +kernel
theorem dX12_inputOf_57 : decode cX12_inputOf 57 = .ok (.invokevirtual 115, 3) := by decide +kernel
theorem dX12_inputOf_60 : decode cX12_inputOf 60 = .ok (.ireturn, 1) := by decide +kernel
theorem dX12_proposed_0 : decode cX12_proposed 0 = .ok (.aload_n 0, 1) := by decide +kernel
theorem dX12_proposed_1 : decode cX12_proposed 1 = .ok (.iload_n 1, 1) := by decide +kernel
theorem dX12_proposed_2 : decode cX12_proposed 2 = .ok (.invokevirtual 417, 3) := by decide +kernel
theorem dX12_proposed_5 : decode cX12_proposed 5 = .ok (.iconst (-1), 1) := by decide +kernel
theorem dX12_proposed_6 : decode cX12_proposed 6 = .ok (.istore_n 2, 1) := by decide +kernel
theorem dX12_proposed_7 : decode cX12_proposed 7 = .ok (.iconst 0, 1) := by decide +kernel
theorem dX12_proposed_8 : decode cX12_proposed 8 = .ok (.istore_n 3, 1) := by decide +kernel
theorem dX12_proposed_9 : decode cX12_proposed 9 = .ok (.aload_n 0, 1) := by decide +kernel
theorem dX12_proposed_10 : decode cX12_proposed 10 = .ok (.iload_n 1, 1) := by decide +kernel
theorem dX12_proposed_11 : decode cX12_proposed 11 = .ok (.iconst 0, 1) := by decide +kernel
theorem dX12_proposed_12 : decode cX12_proposed 12 = .ok (.invokevirtual 443, 3) := by decide +kernel
theorem dX12_proposed_15 : decode cX12_proposed 15 = .ok (.astore 4, 2) := by decide +kernel
theorem dX12_proposed_17 : decode cX12_proposed 17 = .ok (.aload_n 0, 1) := by decide +kernel
theorem dX12_proposed_18 : decode cX12_proposed 18 = .ok (.iload_n 1, 1) := by decide +kernel
theorem dX12_proposed_19 : decode cX12_proposed 19 = .ok (.invokevirtual 424, 3) := by decide +kernel
theorem dX12_proposed_22 : decode cX12_proposed 22 = .ok (.istore 5, 2) := by decide +kernel
theorem dX12_proposed_24 : decode cX12_proposed 24 = .ok (.iconst 0, 1) := by decide +kernel
theorem dX12_proposed_25 : decode cX12_proposed 25 = .ok (.istore 6, 2) := by decide +kernel
theorem dX12_proposed_27 : decode cX12_proposed 27 = .ok (.iload 6, 2) := by decide +kernel
theorem dX12_proposed_29 : decode cX12_proposed 29 = .ok (.iload 5, 2) := by decide +kernel
theorem dX12_proposed_31 : decode cX12_proposed 31 = .ok (.if_icmp .ge 100, 3) := by decide +kernel
theorem dX12_proposed_34 : decode cX12_proposed 34 = .ok (.aload_n 0, 1) := by decide +kernel
theorem dX12_proposed_35 : decode cX12_proposed 35 = .ok (.iload_n 1, 1) := by decide +kernel
theorem dX12_proposed_36 : decode cX12_proposed 36 = .ok (.aload 4, 2) := by decide +kernel
theorem dX12_proposed_38 : decode cX12_proposed 38 = .ok (.invokevirtual 446, 3) := by decide +kernel
theorem dX12_proposed_41 : decode cX12_proposed 41 = .ok (.istore 7, 2) := by decide +kernel
theorem dX12_proposed_43 : decode cX12_proposed 43 = .ok (.iload 7, 2) := by decide +kernel
theorem dX12_proposed_45 : decode cX12_proposed 45 = .ok (.iload_n 3, 1) := by decide +kernel
theorem dX12_proposed_46 : decode cX12_proposed 46 = .ok (.if_icmp .le 9, 3) := by decide +kernel
theorem dX12_proposed_49 : decode cX12_proposed 49 = .ok (.iload 6, 2) := by decide +kernel
theorem dX12_proposed_51 : decode cX12_proposed 51 = .ok (.istore_n 2, 1) := by decide +kernel
theorem dX12_proposed_52 : decode cX12_proposed 52 = .ok (.iload 7, 2) := by decide +kernel
theorem dX12_proposed_54 : decode cX12_proposed 54 = .ok (.istore_n 3, 1) := by decide +kernel
theorem dX12_proposed_55 : decode cX12_proposed 55 = .ok (.aload_n 0, 1) := by decide +kernel
theorem dX12_proposed_56 : decode cX12_proposed 56 = .ok (.getfield 54, 3) := by decide +kernel
theorem dX12_proposed_59 : decode cX12_proposed 59 = .ok (.iload_n 1, 1) := by decide +kernel
theorem dX12_proposed_60 : decode cX12_proposed 60 = .ok (.iaload, 1) := by decide +kernel
theorem dX12_proposed_61 : decode cX12_proposed 61 = .ok (.iconst 1, 1) := by decide +kernel
theorem dX12_proposed_62 : decode cX12_proposed 62 = .ok (.isub, 1) := by decide +kernel
theorem dX12_proposed_63 : decode cX12_proposed 63 = .ok (.istore 8, 2) := by decide +kernel
theorem dX12_proposed_65 : decode cX12_proposed 65 = .ok (.iload 8, 2) := by decide +kernel
theorem dX12_proposed_67 : decode cX12_proposed 67 = .ok (.ifCond .lt 44, 3) := by decide +kernel
theorem dX12_proposed_70 : decode cX12_proposed 70 = .ok (.aload 4, 2) := by decide +kernel
theorem dX12_proposed_72 : decode cX12_proposed 72 = .ok (.iload 8, 2) := by decide +kernel
theorem dX12_proposed_74 : decode cX12_proposed 74 = .ok (.iaload, 1) := by decide +kernel
theorem dX12_proposed_75 : decode cX12_proposed 75 = .ok (.aload_n 0, 1) := by decide +kernel
theorem dX12_proposed_76 : decode cX12_proposed 76 = .ok (.getfield 63, 3) := by decide +kernel
theorem dX12_proposed_79 : decode cX12_proposed 79 = .ok (.iconst 3, 1) := by decide +kernel
theorem dX12_proposed_80 : decode cX12_proposed 80 = .ok (.iload_n 1, 1) := by decide +kernel
theorem dX12_proposed_81 : decode cX12_proposed 81 = .ok (.imul, 1) := by decide +kernel
theorem dX12_proposed_82 : decode cX12_proposed 82 = .ok (.iload 8, 2) := by decide +kernel
theorem dX12_proposed_84 : decode cX12_proposed 84 = .ok (.iadd, 1) := by decide +kernel
theorem dX12_proposed_85 : decode cX12_proposed 85 = .ok (.iaload, 1) := by decide +kernel
theorem dX12_proposed_86 : decode cX12_proposed 86 = .ok (.if_icmp .ne 25, 3) := by decide +kernel
theorem dX12_proposed_89 : decode cX12_proposed 89 = .ok (.aload 4, 2) := by decide +kernel
theorem dX12_proposed_91 : decode cX12_proposed 91 = .ok (.iload 8, 2) := by decide +kernel
theorem dX12_proposed_93 : decode cX12_proposed 93 = .ok (.aload_n 0, 1) := by decide +kernel
theorem dX12_proposed_94 : decode cX12_proposed 94 = .ok (.getfield 60, 3) := by decide +kernel
theorem dX12_proposed_97 : decode cX12_proposed 97 = .ok (.iconst 3, 1) := by decide +kernel
theorem dX12_proposed_98 : decode cX12_proposed 98 = .ok (.iload_n 1, 1) := by decide +kernel
theorem dX12_proposed_99 : decode cX12_proposed 99 = .ok (.imul, 1) := by decide +kernel
theorem dX12_proposed_100 : decode cX12_proposed 100 = .ok (.iload 8, 2) := by decide +kernel
theorem dX12_proposed_102 : decode cX12_proposed 102 = .ok (.iadd, 1) := by decide +kernel
theorem dX12_proposed_103 : decode cX12_proposed 103 = .ok (.iaload, 1) := by decide +kernel
theorem dX12_proposed_104 : decode cX12_proposed 104 = .ok (.iastore, 1) := by decide +kernel
theorem dX12_proposed_105 : decode cX12_proposed 105 = .ok (.iinc 8 (-1), 3) := by decide +kernel
theorem dX12_proposed_108 : decode cX12_proposed 108 = .ok (.goto (-43), 3) := by decide +kernel
theorem dX12_proposed_111 : decode cX12_proposed 111 = .ok (.iload 8, 2) := by decide +kernel
theorem dX12_proposed_113 : decode cX12_proposed 113 = .ok (.ifCond .lt 12, 3) := by decide +kernel
theorem dX12_proposed_116 : decode cX12_proposed 116 = .ok (.aload 4, 2) := by decide +kernel
theorem dX12_proposed_118 : decode cX12_proposed 118 = .ok (.iload 8, 2) := by decide +kernel
theorem dX12_proposed_120 : decode cX12_proposed 120 = .ok (.dup2, 1) := by decide +kernel
theorem dX12_proposed_121 : decode cX12_proposed 121 = .ok (.iaload, 1) := by decide +kernel
theorem dX12_proposed_122 : decode cX12_proposed 122 = .ok (.iconst 1, 1) := by decide +kernel
theorem dX12_proposed_123 : decode cX12_proposed 123 = .ok (.iadd, 1) := by decide +kernel
theorem dX12_proposed_124 : decode cX12_proposed 124 = .ok (.iastore, 1) := by decide +kernel
theorem dX12_proposed_125 : decode cX12_proposed 125 = .ok (.iinc 6 1, 3) := by decide +kernel
theorem dX12_proposed_128 : decode cX12_proposed 128 = .ok (.goto (-101), 3) := by decide +kernel
theorem dX12_proposed_131 : decode cX12_proposed 131 = .ok (.iload_n 2, 1) := by decide +kernel
theorem dX12_proposed_132 : decode cX12_proposed 132 = .ok (.ireturn, 1) := by decide +kernel
theorem dX12_propose_0 : decode cX12_propose 0 = .ok (.aload_n 0, 1) := by decide +kernel
theorem dX12_propose_1 : decode cX12_propose 1 = .ok (.iconst 0, 1) := by decide +kernel
theorem dX12_propose_2 : decode cX12_propose 2 = .ok (.putfield 109, 3) := by decide +kernel
theorem dX12_propose_5 : decode cX12_propose 5 = .ok (.aload_n 0, 1) := by decide +kernel
theorem dX12_propose_6 : decode cX12_propose 6 = .ok (.iload_n 1, 1) := by decide +kernel
theorem dX12_propose_7 : decode cX12_propose 7 = .ok (.invokevirtual 433, 3) := by decide +kernel
theorem dX12_propose_10 : decode cX12_propose 10 = .ok (.ifCond .eq 11, 3) := by decide +kernel
theorem dX12_propose_13 : decode cX12_propose 13 = .ok (.aload_n 0, 1) := by decide +kernel
theorem dX12_propose_14 : decode cX12_propose 14 = .ok (.iload_n 1, 1) := by decide +kernel
theorem dX12_propose_15 : decode cX12_propose 15 = .ok (.invokevirtual 450, 3) := by decide +kernel
theorem dX12_propose_18 : decode cX12_propose 18 = .ok (.goto 8, 3) := by decide +kernel
theorem dX12_propose_21 : decode cX12_propose 21 = .ok (.aload_n 0, 1) := by decide +kernel
theorem dX12_propose_22 : decode cX12_propose 22 = .ok (.iconst 1, 1) := by decide +kernel
theorem dX12_propose_23 : decode cX12_propose 23 = .ok (.invokevirtual 115, 3) := by decide +kernel
theorem dX12_propose_26 : decode cX12_propose 26 = .ok (.ireturn, 1) := by decide +kernel
theorem dX12_rowAt_0 : decode cX12_rowAt 0 = .ok (.iload_n 2, 1) := by decide +kernel
theorem dX12_rowAt_1 : decode cX12_rowAt 1 = .ok (.istore_n 3, 1) := by decide +kernel
theorem dX12_rowAt_2 : decode cX12_rowAt 2 = .ok (.iconst 0, 1) := by decide +kernel
theorem dX12_rowAt_3 : decode cX12_rowAt 3 = .ok (.istore 4, 2) := by decide +kernel
theorem dX12_rowAt_5 : decode cX12_rowAt 5 = .ok (.iload_n 3, 1) := by decide +kernel
theorem dX12_rowAt_6 : decode cX12_rowAt 6 = .ok (.aload_n 0, 1) := by decide +kernel
theorem dX12_rowAt_7 : decode cX12_rowAt 7 = .ok (.iload_n 1, 1) := by decide +kernel
theorem dX12_rowAt_8 : decode cX12_rowAt 8 = .ok (.iload 4, 2) := by decide +kernel
theorem dX12_rowAt_10 : decode cX12_rowAt 10 = .ok (.invokevirtual 396, 3) := by decide +kernel
theorem dX12_rowAt_13 : decode cX12_rowAt 13 = .ok (.if_icmp .lt 19, 3) := by decide +kernel
theorem dX12_rowAt_16 : decode cX12_rowAt 16 = .ok (.iload_n 3, 1) := by decide +kernel
theorem dX12_rowAt_17 : decode cX12_rowAt 17 = .ok (.aload_n 0, 1) := by decide +kernel
theorem dX12_rowAt_18 : decode cX12_rowAt 18 = .ok (.iload_n 1, 1) := by decide +kernel
theorem dX12_rowAt_19 : decode cX12_rowAt 19 = .ok (.iload 4, 2) := by decide +kernel
theorem dX12_rowAt_21 : decode cX12_rowAt 21 = .ok (.invokevirtual 396, 3) := by decide +kernel
theorem dX12_rowAt_24 : decode cX12_rowAt 24 = .ok (.isub, 1) := by decide +kernel
theorem dX12_rowAt_25 : decode cX12_rowAt 25 = .ok (.istore_n 3, 1) := by decide +kernel
theorem dX12_rowAt_26 : decode cX12_rowAt 26 = .ok (.iinc 4 1, 3) := by decide +kernel
theorem dX12_rowAt_29 : decode cX12_rowAt 29 = .ok (.goto (-24), 3) := by decide +kernel
theorem dX12_rowAt_32 : decode cX12_rowAt 32 = .ok (.iload 4, 2) := by decide +kernel
theorem dX12_rowAt_34 : decode cX12_rowAt 34 = .ok (.ireturn, 1) := by decide +kernel
theorem dX12_caseInputs_0 : decode cX12_caseInputs 0 = .ok (.iload_n 2, 1) := by decide +kernel
theorem dX12_caseInputs_1 : decode cX12_caseInputs 1 = .ok (.istore_n 3, 1) := by decide +kernel
theorem dX12_caseInputs_2 : decode cX12_caseInputs 2 = .ok (.iconst 0, 1) := by decide +kernel
theorem dX12_caseInputs_3 : decode cX12_caseInputs 3 = .ok (.istore 4, 2) := by decide +kernel
theorem dX12_caseInputs_5 : decode cX12_caseInputs 5 = .ok (.iload_n 3, 1) := by decide +kernel
theorem dX12_caseInputs_6 : decode cX12_caseInputs 6 = .ok (.aload_n 0, 1) := by decide +kernel
theorem dX12_caseInputs_7 : decode cX12_caseInputs 7 = .ok (.iload_n 1, 1) := by decide +kernel
theorem dX12_caseInputs_8 : decode cX12_caseInputs 8 = .ok (.iload 4, 2) := by decide +kernel
theorem dX12_caseInputs_10 : decode cX12_caseInputs 10 = .ok (.invokevirtual 396, 3) := by decide +kernel
theorem dX12_caseInputs_13 : decode cX12_caseInputs 13 = .ok (.if_icmp .lt 19, 3) := by decide +kernel
theorem dX12_caseInputs_16 : decode cX12_caseInputs 16 = .ok (.iload_n 3, 1) := by decide +kernel
theorem dX12_caseInputs_17 : decode cX12_caseInputs 17 = .ok (.aload_n 0, 1) := by decide +kernel
theorem dX12_caseInputs_18 : decode cX12_caseInputs 18 = .ok (.iload_n 1, 1) := by decide +kernel
theorem dX12_caseInputs_19 : decode cX12_caseInputs 19 = .ok (.iload 4, 2) := by decide +kernel
theorem dX12_caseInputs_21 : decode cX12_caseInputs 21 = .ok (.invokevirtual 396, 3) := by decide +kernel
theorem dX12_caseInputs_24 : decode cX12_caseInputs 24 = .ok (.isub, 1) := by decide +kernel
theorem dX12_caseInputs_25 : decode cX12_caseInputs 25 = .ok (.istore_n 3, 1) := by decide +kernel
theorem dX12_caseInputs_26 : decode cX12_caseInputs 26 = .ok (.iinc 4 1, 3) := by decide +kernel
theorem dX12_caseInputs_29 : decode cX12_caseInputs 29 = .ok (.goto (-24), 3) := by decide +kernel
theorem dX12_caseInputs_32 : decode cX12_caseInputs 32 = .ok (.aload_n 0, 1) := by decide +kernel
theorem dX12_caseInputs_33 : decode cX12_caseInputs 33 = .ok (.getfield 106, 3) := by decide +kernel
theorem dX12_caseInputs_36 : decode cX12_caseInputs 36 = .ok (.astore 5, 2) := by decide +kernel
theorem dX12_caseInputs_38 : decode cX12_caseInputs 38 = .ok (.aload_n 0, 1) := by decide +kernel
theorem dX12_caseInputs_39 : decode cX12_caseInputs 39 = .ok (.getfield 54, 3) := by decide +kernel
theorem dX12_caseInputs_42 : decode cX12_caseInputs 42 = .ok (.aload_n 0, 1) := by decide +kernel
theorem dX12_caseInputs_43 : decode cX12_caseInputs 43 = .ok (.getfield 78, 3) := by decide +kernel
theorem dX12_caseInputs_46 : decode cX12_caseInputs 46 = .ok (.iload_n 1, 1) := by decide +kernel
theorem dX12_caseInputs_47 : decode cX12_caseInputs 47 = .ok (.iaload, 1) := by decide +kernel
theorem dX12_caseInputs_48 : decode cX12_caseInputs 48 = .ok (.iaload, 1) := by decide +kernel
theorem dX12_caseInputs_49 : decode cX12_caseInputs 49 = .ok (.iconst 1, 1) := by decide +kernel
theorem dX12_caseInputs_50 : decode cX12_caseInputs 50 = .ok (.isub, 1) := by decide +kernel
theorem dX12_caseInputs_51 : decode cX12_caseInputs 51 = .ok (.istore 6, 2) := by decide +kernel
theorem dX12_caseInputs_53 : decode cX12_caseInputs 53 = .ok (.iload 6, 2) := by decide +kernel
theorem dX12_caseInputs_55 : decode cX12_caseInputs 55 = .ok (.ifCond .lt 64, 3) := by decide +kernel
theorem dX12_caseInputs_58 : decode cX12_caseInputs 58 = .ok (.bipush 12, 2) := by decide +kernel
theorem dX12_caseInputs_60 : decode cX12_caseInputs 60 = .ok (.iload_n 1, 1) := by decide +kernel
theorem dX12_caseInputs_61 : decode cX12_caseInputs 61 = .ok (.imul, 1) := by decide +kernel
theorem dX12_caseInputs_62 : decode cX12_caseInputs 62 = .ok (.iload 4, 2) := by decide +kernel
theorem dX12_caseInputs_64 : decode cX12_caseInputs 64 = .ok (.iadd, 1) := by decide +kernel
theorem dX12_caseInputs_65 : decode cX12_caseInputs 65 = .ok (.iconst 3, 1) := by decide +kernel
theorem dX12_caseInputs_66 : decode cX12_caseInputs 66 = .ok (.imul, 1) := by decide +kernel
theorem dX12_caseInputs_67 : decode cX12_caseInputs 67 = .ok (.iload 6, 2) := by decide +kernel
theorem dX12_caseInputs_69 : decode cX12_caseInputs 69 = .ok (.iadd, 1) := by decide +kernel
theorem dX12_caseInputs_70 : decode cX12_caseInputs 70 = .ok (.istore 7, 2) := by decide +kernel
theorem dX12_caseInputs_72 : decode cX12_caseInputs 72 = .ok (.aload_n 0, 1) := by decide +kernel
theorem dX12_caseInputs_73 : decode cX12_caseInputs 73 = .ok (.getfield 87, 3) := by decide +kernel
theorem dX12_caseInputs_76 : decode cX12_caseInputs 76 = .ok (.iload 7, 2) := by decide +kernel
theorem dX12_caseInputs_78 : decode cX12_caseInputs 78 = .ok (.iaload, 1) := by decide +kernel
theorem dX12_caseInputs_79 : decode cX12_caseInputs 79 = .ok (.aload_n 0, 1) := by decide +kernel
theorem dX12_caseInputs_80 : decode cX12_caseInputs 80 = .ok (.getfield 84, 3) := by decide +kernel
theorem dX12_caseInputs_83 : decode cX12_caseInputs 83 = .ok (.iload 7, 2) := by decide +kernel
theorem dX12_caseInputs_85 : decode cX12_caseInputs 85 = .ok (.iaload, 1) := by decide +kernel
theorem dX12_caseInputs_86 : decode cX12_caseInputs 86 = .ok (.isub, 1) := by decide +kernel
theorem dX12_caseInputs_87 : decode cX12_caseInputs 87 = .ok (.iconst 1, 1) := by decide +kernel
theorem dX12_caseInputs_88 : decode cX12_caseInputs 88 = .ok (.iadd, 1) := by decide +kernel
theorem dX12_caseInputs_89 : decode cX12_caseInputs 89 = .ok (.istore 8, 2) := by decide +kernel
theorem dX12_caseInputs_91 : decode cX12_caseInputs 91 = .ok (.aload 5, 2) := by decide +kernel
theorem dX12_caseInputs_93 : decode cX12_caseInputs 93 = .ok (.iload 6, 2) := by decide +kernel
theorem dX12_caseInputs_95 : decode cX12_caseInputs 95 = .ok (.aload_n 0, 1) := by decide +kernel
theorem dX12_caseInputs_96 : decode cX12_caseInputs 96 = .ok (.getfield 84, 3) := by decide +kernel
theorem dX12_caseInputs_99 : decode cX12_caseInputs 99 = .ok (.iload 7, 2) := by decide +kernel
theorem dX12_caseInputs_101 : decode cX12_caseInputs 101 = .ok (.iaload, 1) := by decide +kernel
theorem dX12_caseInputs_102 : decode cX12_caseInputs 102 = .ok (.iload_n 3, 1) := by decide +kernel
theorem dX12_caseInputs_103 : decode cX12_caseInputs 103 = .ok (.iload 8, 2) := by decide +kernel
theorem dX12_caseInputs_105 : decode cX12_caseInputs 105 = .ok (.irem, 1) := by decide +kernel
theorem dX12_caseInputs_106 : decode cX12_caseInputs 106 = .ok (.iadd, 1) := by decide +kernel
theorem dX12_caseInputs_107 : decode cX12_caseInputs 107 = .ok (.iastore, 1) := by decide +kernel
theorem dX12_caseInputs_108 : decode cX12_caseInputs 108 = .ok (.iload_n 3, 1) := by decide +kernel
theorem dX12_caseInputs_109 : decode cX12_caseInputs 109 = .ok (.iload 8, 2) := by decide +kernel
theorem dX12_caseInputs_111 : decode cX12_caseInputs 111 = .ok (.idiv, 1) := by decide +kernel
theorem dX12_caseInputs_112 : decode cX12_caseInputs 112 = .ok (.istore_n 3, 1) := by decide +kernel
theorem dX12_caseInputs_113 : decode cX12_caseInputs 113 = .ok (.iinc 6 (-1), 3) := by decide +kernel
theorem dX12_caseInputs_116 : decode cX12_caseInputs 116 = .ok (.goto (-63), 3) := by decide +kernel
theorem dX12_caseInputs_119 : decode cX12_caseInputs 119 = .ok (.aload 5, 2) := by decide +kernel
theorem dX12_caseInputs_121 : decode cX12_caseInputs 121 = .ok (.areturn, 1) := by decide +kernel
theorem dX12_holdsAt_0 : decode cX12_holdsAt 0 = .ok (.aload_n 0, 1) := by decide +kernel
theorem dX12_holdsAt_1 : decode cX12_holdsAt 1 = .ok (.aload_n 0, 1) := by decide +kernel
theorem dX12_holdsAt_2 : decode cX12_holdsAt 2 = .ok (.getfield 78, 3) := by decide +kernel
theorem dX12_holdsAt_5 : decode cX12_holdsAt 5 = .ok (.iload_n 1, 1) := by decide +kernel
theorem dX12_holdsAt_6 : decode cX12_holdsAt 6 = .ok (.iaload, 1) := by decide +kernel
theorem dX12_holdsAt_7 : decode cX12_holdsAt 7 = .ok (.aload_n 0, 1) := by decide +kernel
theorem dX12_holdsAt_8 : decode cX12_holdsAt 8 = .ok (.iload_n 1, 1) := by decide +kernel
theorem dX12_holdsAt_9 : decode cX12_holdsAt 9 = .ok (.iload_n 2, 1) := by decide +kernel
theorem dX12_holdsAt_10 : decode cX12_holdsAt 10 = .ok (.invokevirtual 409, 3) := by decide +kernel
theorem dX12_holdsAt_13 : decode cX12_holdsAt 13 = .ok (.iload_n 3, 1) := by decide +kernel
theorem dX12_holdsAt_14 : decode cX12_holdsAt 14 = .ok (.invokevirtual 439, 3) := by decide +kernel
theorem dX12_holdsAt_17 : decode cX12_holdsAt 17 = .ok (.lstore 4, 2) := by decide +kernel
theorem dX12_holdsAt_19 : decode cX12_holdsAt 19 = .ok (.bipush 12, 2) := by decide +kernel
theorem dX12_holdsAt_21 : decode cX12_holdsAt 21 = .ok (.iload_n 1, 1) := by decide +kernel
theorem dX12_holdsAt_22 : decode cX12_holdsAt 22 = .ok (.imul, 1) := by decide +kernel
theorem dX12_holdsAt_23 : decode cX12_holdsAt 23 = .ok (.aload_n 0, 1) := by decide +kernel
theorem dX12_holdsAt_24 : decode cX12_holdsAt 24 = .ok (.iload_n 1, 1) := by decide +kernel
theorem dX12_holdsAt_25 : decode cX12_holdsAt 25 = .ok (.iload_n 2, 1) := by decide +kernel
theorem dX12_holdsAt_26 : decode cX12_holdsAt 26 = .ok (.invokevirtual 453, 3) := by decide +kernel
theorem dX12_holdsAt_29 : decode cX12_holdsAt 29 = .ok (.iadd, 1) := by decide +kernel
theorem dX12_holdsAt_30 : decode cX12_holdsAt 30 = .ok (.istore 6, 2) := by decide +kernel
theorem dX12_holdsAt_32 : decode cX12_holdsAt 32 = .ok (.aload_n 0, 1) := by decide +kernel
theorem dX12_holdsAt_33 : decode cX12_holdsAt 33 = .ok (.getfield 90, 3) := by decide +kernel
theorem dX12_holdsAt_36 : decode cX12_holdsAt 36 = .ok (.iload 6, 2) := by decide +kernel
theorem dX12_holdsAt_38 : decode cX12_holdsAt 38 = .ok (.iaload, 1) := by decide +kernel
theorem dX12_holdsAt_39 : decode cX12_holdsAt 39 = .ok (.bipush 21, 2) := by decide +kernel
theorem dX12_holdsAt_41 : decode cX12_holdsAt 41 = .ok (.if_icmp .ne 8, 3) := by decide +kernel
theorem dX12_holdsAt_44 : decode cX12_holdsAt 44 = .ok (.aload_n 0, 1) := by decide +kernel
theorem dX12_holdsAt_45 : decode cX12_holdsAt 45 = .ok (.getfield 363, 3) := by decide +kernel
theorem dX12_holdsAt_48 : decode cX12_holdsAt 48 = .ok (.ireturn, 1) := by decide +kernel
theorem dX12_holdsAt_49 : decode cX12_holdsAt 49 = .ok (.aload_n 0, 1) := by decide +kernel
theorem dX12_holdsAt_50 : decode cX12_holdsAt 50 = .ok (.getfield 363, 3) := by decide +kernel
theorem dX12_holdsAt_53 : decode cX12_holdsAt 53 = .ok (.ifCond .ne 41, 3) := by decide +kernel
theorem dX12_holdsAt_56 : decode cX12_holdsAt 56 = .ok (.aload_n 0, 1) := by decide +kernel
theorem dX12_holdsAt_57 : decode cX12_holdsAt 57 = .ok (.getfield 90, 3) := by decide +kernel
theorem dX12_holdsAt_60 : decode cX12_holdsAt 60 = .ok (.iload 6, 2) := by decide +kernel
theorem dX12_holdsAt_62 : decode cX12_holdsAt 62 = .ok (.iaload, 1) := by decide +kernel
theorem dX12_holdsAt_63 : decode cX12_holdsAt 63 = .ok (.bipush 20, 2) := by decide +kernel
theorem dX12_holdsAt_65 : decode cX12_holdsAt 65 = .ok (.if_icmp .eq 25, 3) := by decide +kernel
theorem dX12_holdsAt_68 : decode cX12_holdsAt 68 = .ok (.aload_n 0, 1) := by decide +kernel
theorem dX12_holdsAt_69 : decode cX12_holdsAt 69 = .ok (.getfield 90, 3) := by decide +kernel
theorem dX12_holdsAt_72 : decode cX12_holdsAt 72 = .ok (.iload 6, 2) := by decide +kernel
theorem dX12_holdsAt_74 : decode cX12_holdsAt 74 = .ok (.iaload, 1) := by decide +kernel
theorem dX12_holdsAt_75 : decode cX12_holdsAt 75 = .ok (.lload 4, 2) := by decide +kernel
theorem dX12_holdsAt_77 : decode cX12_holdsAt 77 = .ok (.aload_n 0, 1) := by decide +kernel
theorem dX12_holdsAt_78 : decode cX12_holdsAt 78 = .ok (.getfield 93, 3) := by decide +kernel
theorem dX12_holdsAt_81 : decode cX12_holdsAt 81 = .ok (.iload 6, 2) := by decide +kernel
theorem dX12_holdsAt_83 : decode cX12_holdsAt 83 = .ok (.laload, 1) := by decide +kernel
theorem dX12_holdsAt_84 : decode cX12_holdsAt 84 = .ok (.invokestatic 388, 3) := by decide +kernel
theorem dX12_holdsAt_87 : decode cX12_holdsAt 87 = .ok (.ifCond .eq 7, 3) := by decide +kernel
theorem dX12_holdsAt_90 : decode cX12_holdsAt 90 = .ok (.iconst 1, 1) := by decide +kernel
theorem dX12_holdsAt_91 : decode cX12_holdsAt 91 = .ok (.goto 4, 3) := by decide +kernel
theorem dX12_holdsAt_94 : decode cX12_holdsAt 94 = .ok (.iconst 0, 1) := by decide +kernel
theorem dX12_holdsAt_95 : decode cX12_holdsAt 95 = .ok (.ireturn, 1) := by decide +kernel
theorem dX12_tableTold_0 : decode cX12_tableTold 0 = .ok (.iload_n 2, 1) := by decide +kernel
theorem dX12_tableTold_1 : decode cX12_tableTold 1 = .ok (.iconst 3, 1) := by decide +kernel
theorem dX12_tableTold_2 : decode cX12_tableTold 2 = .ok (.if_icmp .ge 36, 3) := by decide +kernel
theorem dX12_tableTold_5 : decode cX12_tableTold 5 = .ok (.iload_n 2, 1) := by decide +kernel
theorem dX12_tableTold_6 : decode cX12_tableTold 6 = .ok (.ifCond .ne 12, 3) := by decide +kernel
theorem dX12_tableTold_9 : decode cX12_tableTold 9 = .ok (.aload_n 0, 1) := by decide +kernel
theorem dX12_tableTold_10 : decode cX12_tableTold 10 = .ok (.getfield 78, 3) := by decide +kernel
theorem dX12_tableTold_13 : decode cX12_tableTold 13 = .ok (.iload_n 1, 1) := by decide +kernel
theorem dX12_tableTold_14 : decode cX12_tableTold 14 = .ok (.iaload, 1) := by decide +kernel
theorem dX12_tableTold_15 : decode cX12_tableTold 15 = .ok (.goto 22, 3) := by decide +kernel
theorem dX12_tableTold_18 : decode cX12_tableTold 18 = .ok (.iload_n 2, 1) := by decide +kernel
theorem dX12_tableTold_19 : decode cX12_tableTold 19 = .ok (.iconst 1, 1) := by decide +kernel
theorem dX12_tableTold_20 : decode cX12_tableTold 20 = .ok (.if_icmp .ne 12, 3) := by decide +kernel
theorem dX12_tableTold_23 : decode cX12_tableTold 23 = .ok (.aload_n 0, 1) := by decide +kernel
theorem dX12_tableTold_24 : decode cX12_tableTold 24 = .ok (.getfield 81, 3) := by decide +kernel
theorem dX12_tableTold_27 : decode cX12_tableTold 27 = .ok (.iload_n 1, 1) := by decide +kernel
theorem dX12_tableTold_28 : decode cX12_tableTold 28 = .ok (.iaload, 1) := by decide +kernel
theorem dX12_tableTold_29 : decode cX12_tableTold 29 = .ok (.goto 8, 3) := by decide +kernel
theorem dX12_tableTold_32 : decode cX12_tableTold 32 = .ok (.aload_n 0, 1) := by decide +kernel
theorem dX12_tableTold_33 : decode cX12_tableTold 33 = .ok (.iload_n 1, 1) := by decide +kernel
theorem dX12_tableTold_34 : decode cX12_tableTold 34 = .ok (.invokevirtual 344, 3) := by decide +kernel
theorem dX12_tableTold_37 : decode cX12_tableTold 37 = .ok (.ireturn, 1) := by decide +kernel
theorem dX12_tableTold_38 : decode cX12_tableTold 38 = .ok (.iconst 0, 1) := by decide +kernel
theorem dX12_tableTold_39 : decode cX12_tableTold 39 = .ok (.istore_n 3, 1) := by decide +kernel
theorem dX12_tableTold_40 : decode cX12_tableTold 40 = .ok (.iconst (-1), 1) := by decide +kernel
theorem dX12_tableTold_41 : decode cX12_tableTold 41 = .ok (.istore 4, 2) := by decide +kernel
theorem dX12_tableTold_43 : decode cX12_tableTold 43 = .ok (.aload_n 0, 1) := by decide +kernel
theorem dX12_tableTold_44 : decode cX12_tableTold 44 = .ok (.iload_n 1, 1) := by decide +kernel
theorem dX12_tableTold_45 : decode cX12_tableTold 45 = .ok (.invokevirtual 344, 3) := by decide +kernel
theorem dX12_tableTold_48 : decode cX12_tableTold 48 = .ok (.iconst 1, 1) := by decide +kernel
theorem dX12_tableTold_49 : decode cX12_tableTold 49 = .ok (.isub, 1) := by decide +kernel
theorem dX12_tableTold_50 : decode cX12_tableTold 50 = .ok (.istore 5, 2) := by decide +kernel
theorem dX12_tableTold_52 : decode cX12_tableTold 52 = .ok (.iload 5, 2) := by decide +kernel
theorem dX12_tableTold_54 : decode cX12_tableTold 54 = .ok (.ifCond .lt 30, 3) := by decide +kernel
theorem dX12_tableTold_57 : decode cX12_tableTold 57 = .ok (.aload_n 0, 1) := by decide +kernel
theorem dX12_tableTold_58 : decode cX12_tableTold 58 = .ok (.iload_n 1, 1) := by decide +kernel
theorem dX12_tableTold_59 : decode cX12_tableTold 59 = .ok (.iload 5, 2) := by decide +kernel
theorem dX12_tableTold_61 : decode cX12_tableTold 61 = .ok (.iconst (-1), 1) := by decide +kernel
theorem dX12_tableTold_62 : decode cX12_tableTold 62 = .ok (.invokevirtual 456, 3) := by decide +kernel
theorem dX12_tableTold_65 : decode cX12_tableTold 65 = .ok (.ifCond .eq 9, 3) := by decide +kernel
theorem dX12_tableTold_68 : decode cX12_tableTold 68 = .ok (.iinc 3 1, 3) := by decide +kernel
theorem dX12_tableTold_71 : decode cX12_tableTold 71 = .ok (.goto 7, 3) := by decide +kernel
theorem dX12_tableTold_74 : decode cX12_tableTold 74 = .ok (.iload 5, 2) := by decide +kernel
theorem dX12_tableTold_76 : decode cX12_tableTold 76 = .ok (.istore 4, 2) := by decide +kernel
theorem dX12_tableTold_78 : decode cX12_tableTold 78 = .ok (.iinc 5 (-1), 3) := by decide +kernel
theorem dX12_tableTold_81 : decode cX12_tableTold 81 = .ok (.goto (-29), 3) := by decide +kernel
theorem dX12_tableTold_84 : decode cX12_tableTold 84 = .ok (.iload_n 2, 1) := by decide +kernel
theorem dX12_tableTold_85 : decode cX12_tableTold 85 = .ok (.iconst 3, 1) := by decide +kernel
theorem dX12_tableTold_86 : decode cX12_tableTold 86 = .ok (.if_icmp .ne 7, 3) := by decide +kernel
theorem dX12_tableTold_89 : decode cX12_tableTold 89 = .ok (.iload_n 3, 1) := by decide +kernel
theorem dX12_tableTold_90 : decode cX12_tableTold 90 = .ok (.goto 5, 3) := by decide +kernel
theorem dX12_tableTold_93 : decode cX12_tableTold 93 = .ok (.iload 4, 2) := by decide +kernel
theorem dX12_tableTold_95 : decode cX12_tableTold 95 = .ok (.ireturn, 1) := by decide +kernel
theorem dX12_isTable_0 : decode cX12_isTable 0 = .ok (.iload_n 1, 1) := by decide +kernel
theorem dX12_isTable_1 : decode cX12_isTable 1 = .ok (.iconst 0, 1) := by decide +kernel
theorem dX12_isTable_2 : decode cX12_isTable 2 = .ok (.aload_n 0, 1) := by decide +kernel
theorem dX12_isTable_3 : decode cX12_isTable 3 = .ok (.getfield 282, 3) := by decide +kernel
theorem dX12_isTable_6 : decode cX12_isTable 6 = .ok (.iconst 1, 1) := by decide +kernel
theorem dX12_isTable_7 : decode cX12_isTable 7 = .ok (.isub, 1) := by decide +kernel
theorem dX12_isTable_8 : decode cX12_isTable 8 = .ok (.invokestatic 119, 3) := by decide +kernel
theorem dX12_isTable_11 : decode cX12_isTable 11 = .ok (.ireturn, 1) := by decide +kernel
theorem dX12_isCase_0 : decode cX12_isCase 0 = .ok (.aload_n 0, 1) := by decide +kernel
theorem dX12_isCase_1 : decode cX12_isCase 1 = .ok (.iload_n 1, 1) := by decide +kernel
theorem dX12_isCase_2 : decode cX12_isCase 2 = .ok (.invokevirtual 459, 3) := by decide +kernel
theorem dX12_isCase_5 : decode cX12_isCase 5 = .ok (.ifCond .eq 22, 3) := by decide +kernel
theorem dX12_isCase_8 : decode cX12_isCase 8 = .ok (.iload_n 2, 1) := by decide +kernel
theorem dX12_isCase_9 : decode cX12_isCase 9 = .ok (.iconst 0, 1) := by decide +kernel
theorem dX12_isCase_10 : decode cX12_isCase 10 = .ok (.aload_n 0, 1) := by decide +kernel
theorem dX12_isCase_11 : decode cX12_isCase 11 = .ok (.iload_n 1, 1) := by decide +kernel
theorem dX12_isCase_12 : decode cX12_isCase 12 = .ok (.invokevirtual 344, 3) := by decide +kernel
theorem dX12_isCase_15 : decode cX12_isCase 15 = .ok (.iconst 1, 1) := by decide +kernel
theorem dX12_isCase_16 : decode cX12_isCase 16 = .ok (.isub, 1) := by decide +kernel
theorem dX12_isCase_17 : decode cX12_isCase 17 = .ok (.invokestatic 119, 3) := by decide +kernel
theorem dX12_isCase_20 : decode cX12_isCase 20 = .ok (.ifCond .eq 7, 3) := by decide +kernel
theorem dX12_isCase_23 : decode cX12_isCase 23 = .ok (.iconst 1, 1) := by decide +kernel
theorem dX12_isCase_24 : decode cX12_isCase 24 = .ok (.goto 4, 3) := by decide +kernel
theorem dX12_isCase_27 : decode cX12_isCase 27 = .ok (.iconst 0, 1) := by decide +kernel
theorem dX12_isCase_28 : decode cX12_isCase 28 = .ok (.ireturn, 1) := by decide +kernel
theorem dX12_table__0 : decode cX12_table_ 0 = .ok (.aload_n 0, 1) := by decide +kernel
theorem dX12_table__1 : decode cX12_table_ 1 = .ok (.iconst 0, 1) := by decide +kernel
theorem dX12_table__2 : decode cX12_table_ 2 = .ok (.putfield 109, 3) := by decide +kernel
theorem dX12_table__5 : decode cX12_table_ 5 = .ok (.aload_n 0, 1) := by decide +kernel
theorem dX12_table__6 : decode cX12_table_ 6 = .ok (.iload_n 1, 1) := by decide +kernel
theorem dX12_table__7 : decode cX12_table_ 7 = .ok (.invokevirtual 459, 3) := by decide +kernel
theorem dX12_table__10 : decode cX12_table_ 10 = .ok (.ifCond .eq 21, 3) := by decide +kernel
theorem dX12_table__13 : decode cX12_table_ 13 = .ok (.iload_n 2, 1) := by decide +kernel
theorem dX12_table__14 : decode cX12_table_ 14 = .ok (.iconst 0, 1) := by decide +kernel
theorem dX12_table__15 : decode cX12_table_ 15 = .ok (.iconst 4, 1) := by decide +kernel
theorem dX12_table__16 : decode cX12_table_ 16 = .ok (.invokestatic 119, 3) := by decide +kernel
theorem dX12_table__19 : decode cX12_table_ 19 = .ok (.ifCond .eq 12, 3) := by decide +kernel
theorem dX12_table__22 : decode cX12_table_ 22 = .ok (.aload_n 0, 1) := by decide +kernel
theorem dX12_table__23 : decode cX12_table_ 23 = .ok (.iload_n 1, 1) := by decide +kernel
theorem dX12_table__24 : decode cX12_table_ 24 = .ok (.iload_n 2, 1) := by decide +kernel
theorem dX12_table__25 : decode cX12_table_ 25 = .ok (.invokevirtual 462, 3) := by decide +kernel
theorem dX12_table__28 : decode cX12_table_ 28 = .ok (.goto 8, 3) := by decide +kernel
theorem dX12_table__31 : decode cX12_table_ 31 = .ok (.aload_n 0, 1) := by decide +kernel
theorem dX12_table__32 : decode cX12_table_ 32 = .ok (.iconst 1, 1) := by decide +kernel
theorem dX12_table__33 : decode cX12_table_ 33 = .ok (.invokevirtual 115, 3) := by decide +kernel
theorem dX12_table__36 : decode cX12_table_ 36 = .ok (.ireturn, 1) := by decide +kernel
theorem dX12_caseOf_0 : decode cX12_caseOf 0 = .ok (.aload_n 0, 1) := by decide +kernel
theorem dX12_caseOf_1 : decode cX12_caseOf 1 = .ok (.iconst 0, 1) := by decide +kernel
theorem dX12_caseOf_2 : decode cX12_caseOf 2 = .ok (.putfield 109, 3) := by decide +kernel
theorem dX12_caseOf_5 : decode cX12_caseOf 5 = .ok (.aload_n 0, 1) := by decide +kernel
theorem dX12_caseOf_6 : decode cX12_caseOf 6 = .ok (.iload_n 1, 1) := by decide +kernel
theorem dX12_caseOf_7 : decode cX12_caseOf 7 = .ok (.iload_n 2, 1) := by decide +kernel
theorem dX12_caseOf_8 : decode cX12_caseOf 8 = .ok (.invokevirtual 465, 3) := by decide +kernel
theorem dX12_caseOf_11 : decode cX12_caseOf 11 = .ok (.ifCond .eq 35, 3) := by decide +kernel
theorem dX12_caseOf_14 : decode cX12_caseOf 14 = .ok (.iload_n 3, 1) := by decide +kernel
theorem dX12_caseOf_15 : decode cX12_caseOf 15 = .ok (.iconst 0, 1) := by decide +kernel
theorem dX12_caseOf_16 : decode cX12_caseOf 16 = .ok (.aload_n 0, 1) := by decide +kernel
theorem dX12_caseOf_17 : decode cX12_caseOf 17 = .ok (.getfield 54, 3) := by decide +kernel
theorem dX12_caseOf_20 : decode cX12_caseOf 20 = .ok (.aload_n 0, 1) := by decide +kernel
theorem dX12_caseOf_21 : decode cX12_caseOf 21 = .ok (.getfield 78, 3) := by decide +kernel
theorem dX12_caseOf_24 : decode cX12_caseOf 24 = .ok (.iload_n 1, 1) := by decide +kernel
theorem dX12_caseOf_25 : decode cX12_caseOf 25 = .ok (.iaload, 1) := by decide +kernel
theorem dX12_caseOf_26 : decode cX12_caseOf 26 = .ok (.iaload, 1) := by decide +kernel
theorem dX12_caseOf_27 : decode cX12_caseOf 27 = .ok (.iconst 1, 1) := by decide +kernel
theorem dX12_caseOf_28 : decode cX12_caseOf 28 = .ok (.isub, 1) := by decide +kernel
theorem dX12_caseOf_29 : decode cX12_caseOf 29 = .ok (.invokestatic 119, 3) := by decide +kernel
theorem dX12_caseOf_32 : decode cX12_caseOf 32 = .ok (.ifCond .eq 14, 3) := by decide +kernel
theorem dX12_caseOf_35 : decode cX12_caseOf 35 = .ok (.aload_n 0, 1) := by decide +kernel
theorem dX12_caseOf_36 : decode cX12_caseOf 36 = .ok (.iload_n 1, 1) := by decide +kernel
theorem dX12_caseOf_37 : decode cX12_caseOf 37 = .ok (.iload_n 2, 1) := by decide +kernel
theorem dX12_caseOf_38 : decode cX12_caseOf 38 = .ok (.invokevirtual 409, 3) := by decide +kernel
theorem dX12_caseOf_41 : decode cX12_caseOf 41 = .ok (.iload_n 3, 1) := by decide +kernel
theorem dX12_caseOf_42 : decode cX12_caseOf 42 = .ok (.iaload, 1) := by decide +kernel
theorem dX12_caseOf_43 : decode cX12_caseOf 43 = .ok (.goto 8, 3) := by decide +kernel
theorem dX12_caseOf_46 : decode cX12_caseOf 46 = .ok (.aload_n 0, 1) := by decide +kernel
theorem dX12_caseOf_47 : decode cX12_caseOf 47 = .ok (.iconst 1, 1) := by decide +kernel
theorem dX12_caseOf_48 : decode cX12_caseOf 48 = .ok (.invokevirtual 115, 3) := by decide +kernel
theorem dX12_caseOf_51 : decode cX12_caseOf 51 = .ok (.ireturn, 1) := by decide +kernel
theorem dX12_holds__0 : decode cX12_holds_ 0 = .ok (.aload_n 0, 1) := by decide +kernel
theorem dX12_holds__1 : decode cX12_holds_ 1 = .ok (.aload_n 0, 1) := by decide +kernel
theorem dX12_holds__2 : decode cX12_holds_ 2 = .ok (.iload_n 1, 1) := by decide +kernel
theorem dX12_holds__3 : decode cX12_holds_ 3 = .ok (.iload_n 2, 1) := by decide +kernel
theorem dX12_holds__4 : decode cX12_holds_ 4 = .ok (.invokevirtual 465, 3) := by decide +kernel
theorem dX12_holds__7 : decode cX12_holds_ 7 = .ok (.ifCond .eq 7, 3) := by decide +kernel
theorem dX12_holds__10 : decode cX12_holds_ 10 = .ok (.iconst 0, 1) := by decide +kernel
theorem dX12_holds__11 : decode cX12_holds_ 11 = .ok (.goto 4, 3) := by decide +kernel
theorem dX12_holds__14 : decode cX12_holds_ 14 = .ok (.iconst 1, 1) := by decide +kernel
theorem dX12_holds__15 : decode cX12_holds_ 15 = .ok (.putfield 109, 3) := by decide +kernel
theorem dX12_holds__18 : decode cX12_holds_ 18 = .ok (.aload_n 0, 1) := by decide +kernel
theorem dX12_holds__19 : decode cX12_holds_ 19 = .ok (.getfield 109, 3) := by decide +kernel
theorem dX12_holds__22 : decode cX12_holds_ 22 = .ok (.ifCond .ne 17, 3) := by decide +kernel
theorem dX12_holds__25 : decode cX12_holds_ 25 = .ok (.aload_n 0, 1) := by decide +kernel
theorem dX12_holds__26 : decode cX12_holds_ 26 = .ok (.iload_n 1, 1) := by decide +kernel
theorem dX12_holds__27 : decode cX12_holds_ 27 = .ok (.iload_n 2, 1) := by decide +kernel
theorem dX12_holds__28 : decode cX12_holds_ 28 = .ok (.iconst (-1), 1) := by decide +kernel
theorem dX12_holds__29 : decode cX12_holds_ 29 = .ok (.invokevirtual 456, 3) := by decide +kernel
theorem dX12_holds__32 : decode cX12_holds_ 32 = .ok (.ifCond .eq 7, 3) := by decide +kernel
theorem dX12_holds__35 : decode cX12_holds_ 35 = .ok (.iconst 1, 1) := by decide +kernel
theorem dX12_holds__36 : decode cX12_holds_ 36 = .ok (.goto 4, 3) := by decide +kernel
theorem dX12_holds__39 : decode cX12_holds_ 39 = .ok (.iconst 0, 1) := by decide +kernel
theorem dX12_holds__40 : decode cX12_holds_ 40 = .ok (.ireturn, 1) := by decide +kernel
theorem dX12_countBranches_0 : decode cX12_countBranches 0 = .ok (.iconst 0, 1) := by decide +kernel
theorem dX12_countBranches_1 : decode cX12_countBranches 1 = .ok (.istore_n 1, 1) := by decide +kernel
theorem dX12_countBranches_2 : decode cX12_countBranches 2 = .ok (.iload_n 1, 1) := by decide +kernel
theorem dX12_countBranches_3 : decode cX12_countBranches 3 = .ok (.aload_n 0, 1) := by decide +kernel
theorem dX12_countBranches_4 : decode cX12_countBranches 4 = .ok (.getfield 272, 3) := by decide +kernel
theorem dX12_countBranches_7 : decode cX12_countBranches 7 = .ok (.if_icmp .ge 23, 3) := by decide +kernel
theorem dX12_countBranches_10 : decode cX12_countBranches 10 = .ok (.aload_n 0, 1) := by decide +kernel
theorem dX12_countBranches_11 : decode cX12_countBranches 11 = .ok (.getfield 96, 3) := by decide +kernel
theorem dX12_countBranches_14 : decode cX12_countBranches 14 = .ok (.iload_n 1, 1) := by decide +kernel
theorem dX12_countBranches_15 : decode cX12_countBranches 15 = .ok (.iconst 0, 1) := by decide +kernel
theorem dX12_countBranches_16 : decode cX12_countBranches 16 = .ok (.iastore, 1) := by decide +kernel
theorem dX12_countBranches_17 : decode cX12_countBranches 17 = .ok (.aload_n 0, 1) := by decide +kernel
theorem dX12_countBranches_18 : decode cX12_countBranches 18 = .ok (.getfield 99, 3) := by decide +kernel
theorem dX12_countBranches_21 : decode cX12_countBranches 21 = .ok (.iload_n 1, 1) := by decide +kernel
theorem dX12_countBranches_22 : decode cX12_countBranches 22 = .ok (.iconst 0, 1) := by decide +kernel
theorem dX12_countBranches_23 : decode cX12_countBranches 23 = .ok (.iastore, 1) := by decide +kernel
theorem dX12_countBranches_24 : decode cX12_countBranches 24 = .ok (.iinc 1 1, 3) := by decide +kernel
theorem dX12_countBranches_27 : decode cX12_countBranches 27 = .ok (.goto (-25), 3) := by decide +kernel
theorem dX12_countBranches_30 : decode cX12_countBranches 30 = .ok (.aload_n 0, 1) := by decide +kernel
theorem dX12_countBranches_31 : decode cX12_countBranches 31 = .ok (.iconst 1, 1) := by decide +kernel
theorem dX12_countBranches_32 : decode cX12_countBranches 32 = .ok (.putfield 385, 3) := by decide +kernel
theorem dX12_countBranches_35 : decode cX12_countBranches 35 = .ok (.iconst 0, 1) := by decide +kernel
theorem dX12_countBranches_36 : decode cX12_countBranches 36 = .ok (.istore_n 1, 1) := by decide +kernel
theorem dX12_countBranches_37 : decode cX12_countBranches 37 = .ok (.iload_n 1, 1) := by decide +kernel
theorem dX12_countBranches_38 : decode cX12_countBranches 38 = .ok (.aload_n 0, 1) := by decide +kernel
theorem dX12_countBranches_39 : decode cX12_countBranches 39 = .ok (.getfield 282, 3) := by decide +kernel
theorem dX12_countBranches_42 : decode cX12_countBranches 42 = .ok (.if_icmp .ge 46, 3) := by decide +kernel
theorem dX12_countBranches_45 : decode cX12_countBranches 45 = .ok (.aload_n 0, 1) := by decide +kernel
theorem dX12_countBranches_46 : decode cX12_countBranches 46 = .ok (.iload_n 1, 1) := by decide +kernel
theorem dX12_countBranches_47 : decode cX12_countBranches 47 = .ok (.invokevirtual 344, 3) := by decide +kernel
theorem dX12_countBranches_50 : decode cX12_countBranches 50 = .ok (.istore_n 2, 1) := by decide +kernel
theorem dX12_countBranches_51 : decode cX12_countBranches 51 = .ok (.iconst 0, 1) := by decide +kernel
theorem dX12_countBranches_52 : decode cX12_countBranches 52 = .ok (.istore_n 3, 1) := by decide +kernel
theorem dX12_countBranches_53 : decode cX12_countBranches 53 = .ok (.iload_n 3, 1) := by decide +kernel
theorem dX12_countBranches_54 : decode cX12_countBranches 54 = .ok (.iload_n 2, 1) := by decide +kernel
theorem dX12_countBranches_55 : decode cX12_countBranches 55 = .ok (.if_icmp .ge 27, 3) := by decide +kernel
theorem dX12_countBranches_58 : decode cX12_countBranches 58 = .ok (.aload_n 0, 1) := by decide +kernel
theorem dX12_countBranches_59 : decode cX12_countBranches 59 = .ok (.aload_n 0, 1) := by decide +kernel
theorem dX12_countBranches_60 : decode cX12_countBranches 60 = .ok (.getfield 78, 3) := by decide +kernel
theorem dX12_countBranches_63 : decode cX12_countBranches 63 = .ok (.iload_n 1, 1) := by decide +kernel
theorem dX12_countBranches_64 : decode cX12_countBranches 64 = .ok (.iaload, 1) := by decide +kernel
theorem dX12_countBranches_65 : decode cX12_countBranches 65 = .ok (.aload_n 0, 1) := by decide +kernel
theorem dX12_countBranches_66 : decode cX12_countBranches 66 = .ok (.iload_n 1, 1) := by decide +kernel
theorem dX12_countBranches_67 : decode cX12_countBranches 67 = .ok (.iload_n 3, 1) := by decide +kernel
theorem dX12_countBranches_68 : decode cX12_countBranches 68 = .ok (.invokevirtual 409, 3) := by decide +kernel
theorem dX12_countBranches_71 : decode cX12_countBranches 71 = .ok (.iconst (-1), 1) := by decide +kernel
theorem dX12_countBranches_72 : decode cX12_countBranches 72 = .ok (.invokevirtual 439, 3) := by decide +kernel
theorem dX12_countBranches_75 : decode cX12_countBranches 75 = .ok (.pop2, 1) := by decide +kernel
theorem dX12_countBranches_76 : decode cX12_countBranches 76 = .ok (.iinc 3 1, 3) := by decide +kernel
theorem dX12_countBranches_79 : decode cX12_countBranches 79 = .ok (.goto (-26), 3) := by decide +kernel
theorem dX12_countBranches_82 : decode cX12_countBranches 82 = .ok (.iinc 1 1, 3) := by decide +kernel
theorem dX12_countBranches_85 : decode cX12_countBranches 85 = .ok (.goto (-48), 3) := by decide +kernel
theorem dX12_countBranches_88 : decode cX12_countBranches 88 = .ok (.aload_n 0, 1) := by decide +kernel
theorem dX12_countBranches_89 : decode cX12_countBranches 89 = .ok (.iconst 0, 1) := by decide +kernel
theorem dX12_countBranches_90 : decode cX12_countBranches 90 = .ok (.putfield 385, 3) := by decide +kernel
theorem dX12_countBranches_93 : decode cX12_countBranches 93 = .ok (.return_, 1) := by decide +kernel
theorem dX12_taken_0 : decode cX12_taken 0 = .ok (.aload_n 0, 1) := by decide +kernel
theorem dX12_taken_1 : decode cX12_taken 1 = .ok (.iconst 0, 1) := by decide +kernel
theorem dX12_taken_2 : decode cX12_taken 2 = .ok (.putfield 109, 3) := by decide +kernel
theorem dX12_taken_5 : decode cX12_taken 5 = .ok (.iload_n 1, 1) := by decide +kernel
theorem dX12_taken_6 : decode cX12_taken 6 = .ok (.iconst 0, 1) := by decide +kernel
theorem dX12_taken_7 : decode cX12_taken 7 = .ok (.aload_n 0, 1) := by decide +kernel
theorem dX12_taken_8 : decode cX12_taken 8 = .ok (.getfield 272, 3) := by decide +kernel
theorem dX12_taken_11 : decode cX12_taken 11 = .ok (.iconst 1, 1) := by decide +kernel
theorem dX12_taken_12 : decode cX12_taken 12 = .ok (.isub, 1) := by decide +kernel
theorem dX12_taken_13 : decode cX12_taken 13 = .ok (.invokestatic 119, 3) := by decide +kernel
theorem dX12_taken_16 : decode cX12_taken 16 = .ok (.ifCond .ne 9, 3) := by decide +kernel
theorem dX12_taken_19 : decode cX12_taken 19 = .ok (.aload_n 0, 1) := by decide +kernel
theorem dX12_taken_20 : decode cX12_taken 20 = .ok (.iconst 1, 1) := by decide +kernel
theorem dX12_taken_21 : decode cX12_taken 21 = .ok (.invokevirtual 115, 3) := by decide +kernel
theorem dX12_taken_24 : decode cX12_taken 24 = .ok (.ireturn, 1) := by decide +kernel
theorem dX12_taken_25 : decode cX12_taken 25 = .ok (.aload_n 0, 1) := by decide +kernel
theorem dX12_taken_26 : decode cX12_taken 26 = .ok (.invokevirtual 468, 3) := by decide +kernel
theorem dX12_taken_29 : decode cX12_taken 29 = .ok (.iload_n 2, 1) := by decide +kernel
theorem dX12_taken_30 : decode cX12_taken 30 = .ok (.ifCond .eq 12, 3) := by decide +kernel
theorem dX12_taken_33 : decode cX12_taken 33 = .ok (.aload_n 0, 1) := by decide +kernel
theorem dX12_taken_34 : decode cX12_taken 34 = .ok (.getfield 96, 3) := by decide +kernel
theorem dX12_taken_37 : decode cX12_taken 37 = .ok (.iload_n 1, 1) := by decide +kernel
theorem dX12_taken_38 : decode cX12_taken 38 = .ok (.iaload, 1) := by decide +kernel
theorem dX12_taken_39 : decode cX12_taken 39 = .ok (.goto 9, 3) := by decide +kernel
theorem dX12_taken_42 : decode cX12_taken 42 = .ok (.aload_n 0, 1) := by decide +kernel
theorem dX12_taken_43 : decode cX12_taken 43 = .ok (.getfield 99, 3) := by decide +kernel
theorem dX12_taken_46 : decode cX12_taken 46 = .ok (.iload_n 1, 1) := by decide +kernel
theorem dX12_taken_47 : decode cX12_taken 47 = .ok (.iaload, 1) := by decide +kernel
theorem dX12_taken_48 : decode cX12_taken 48 = .ok (.ireturn, 1) := by decide +kernel
theorem dX12_findsAt_0 : decode cX12_findsAt 0 = .ok (.aload_n 0, 1) := by decide +kernel
theorem dX12_findsAt_1 : decode cX12_findsAt 1 = .ok (.iload_n 1, 1) := by decide +kernel
theorem dX12_findsAt_2 : decode cX12_findsAt 2 = .ok (.invokevirtual 344, 3) := by decide +kernel
theorem dX12_findsAt_5 : decode cX12_findsAt 5 = .ok (.istore_n 3, 1) := by decide +kernel
theorem dX12_findsAt_6 : decode cX12_findsAt 6 = .ok (.iconst 0, 1) := by decide +kernel
theorem dX12_findsAt_7 : decode cX12_findsAt 7 = .ok (.istore 4, 2) := by decide +kernel
theorem dX12_findsAt_9 : decode cX12_findsAt 9 = .ok (.iload 4, 2) := by decide +kernel
theorem dX12_findsAt_11 : decode cX12_findsAt 11 = .ok (.iload_n 3, 1) := by decide +kernel
theorem dX12_findsAt_12 : decode cX12_findsAt 12 = .ok (.if_icmp .ge 33, 3) := by decide +kernel
theorem dX12_findsAt_15 : decode cX12_findsAt 15 = .ok (.aload_n 0, 1) := by decide +kernel
theorem dX12_findsAt_16 : decode cX12_findsAt 16 = .ok (.iload_n 1, 1) := by decide +kernel
theorem dX12_findsAt_17 : decode cX12_findsAt 17 = .ok (.iload 4, 2) := by decide +kernel
theorem dX12_findsAt_19 : decode cX12_findsAt 19 = .ok (.iconst (-1), 1) := by decide +kernel
theorem dX12_findsAt_20 : decode cX12_findsAt 20 = .ok (.invokevirtual 456, 3) := by decide +kernel
theorem dX12_findsAt_23 : decode cX12_findsAt 23 = .ok (.ifCond .eq 16, 3) := by decide +kernel
theorem dX12_findsAt_26 : decode cX12_findsAt 26 = .ok (.aload_n 0, 1) := by decide +kernel
theorem dX12_findsAt_27 : decode cX12_findsAt 27 = .ok (.iload_n 1, 1) := by decide +kernel
theorem dX12_findsAt_28 : decode cX12_findsAt 28 = .ok (.iload 4, 2) := by decide +kernel
theorem dX12_findsAt_30 : decode cX12_findsAt 30 = .ok (.iload_n 2, 1) := by decide +kernel
theorem dX12_findsAt_31 : decode cX12_findsAt 31 = .ok (.invokevirtual 456, 3) := by decide +kernel
theorem dX12_findsAt_34 : decode cX12_findsAt 34 = .ok (.ifCond .ne 5, 3) := by decide +kernel
theorem dX12_findsAt_37 : decode cX12_findsAt 37 = .ok (.iconst 1, 1) := by decide +kernel
theorem dX12_findsAt_38 : decode cX12_findsAt 38 = .ok (.ireturn, 1) := by decide +kernel
theorem dX12_findsAt_39 : decode cX12_findsAt 39 = .ok (.iinc 4 1, 3) := by decide +kernel
theorem dX12_findsAt_42 : decode cX12_findsAt 42 = .ok (.goto (-33), 3) := by decide +kernel
theorem dX12_findsAt_45 : decode cX12_findsAt 45 = .ok (.iconst 0, 1) := by decide +kernel
theorem dX12_findsAt_46 : decode cX12_findsAt 46 = .ok (.ireturn, 1) := by decide +kernel
theorem dX12_found_0 : decode cX12_found 0 = .ok (.iconst 0, 1) := by decide +kernel
theorem dX12_found_1 : decode cX12_found 1 = .ok (.istore_n 2, 1) := by decide +kernel
theorem dX12_found_2 : decode cX12_found 2 = .ok (.iconst 0, 1) := by decide +kernel
theorem dX12_found_3 : decode cX12_found 3 = .ok (.istore_n 3, 1) := by decide +kernel
theorem dX12_found_4 : decode cX12_found 4 = .ok (.iload_n 3, 1) := by decide +kernel
theorem dX12_found_5 : decode cX12_found 5 = .ok (.aload_n 0, 1) := by decide +kernel
theorem dX12_found_6 : decode cX12_found 6 = .ok (.getfield 69, 3) := by decide +kernel
theorem dX12_found_9 : decode cX12_found 9 = .ok (.aload_n 0, 1) := by decide +kernel
theorem dX12_found_10 : decode cX12_found 10 = .ok (.getfield 78, 3) := by decide +kernel
theorem dX12_found_13 : decode cX12_found 13 = .ok (.iload_n 1, 1) := by decide +kernel
theorem dX12_found_14 : decode cX12_found 14 = .ok (.iaload, 1) := by decide +kernel
theorem dX12_found_15 : decode cX12_found 15 = .ok (.iaload, 1) := by decide +kernel
theorem dX12_found_16 : decode cX12_found 16 = .ok (.if_icmp .ge 26, 3) := by decide +kernel
theorem dX12_found_19 : decode cX12_found 19 = .ok (.iload_n 2, 1) := by decide +kernel
theorem dX12_found_20 : decode cX12_found 20 = .ok (.aload_n 0, 1) := by decide +kernel
theorem dX12_found_21 : decode cX12_found 21 = .ok (.iload_n 1, 1) := by decide +kernel
theorem dX12_found_22 : decode cX12_found 22 = .ok (.iload_n 3, 1) := by decide +kernel
theorem dX12_found_23 : decode cX12_found 23 = .ok (.invokevirtual 471, 3) := by decide +kernel
theorem dX12_found_26 : decode cX12_found 26 = .ok (.ifCond .eq 7, 3) := by decide +kernel
theorem dX12_found_29 : decode cX12_found 29 = .ok (.iconst 1, 1) := by decide +kernel
theorem dX12_found_30 : decode cX12_found 30 = .ok (.goto 4, 3) := by decide +kernel
theorem dX12_found_33 : decode cX12_found 33 = .ok (.iconst 0, 1) := by decide +kernel
theorem dX12_found_34 : decode cX12_found 34 = .ok (.iadd, 1) := by decide +kernel
theorem dX12_found_35 : decode cX12_found 35 = .ok (.istore_n 2, 1) := by decide +kernel
theorem dX12_found_36 : decode cX12_found 36 = .ok (.iinc 3 1, 3) := by decide +kernel
theorem dX12_found_39 : decode cX12_found 39 = .ok (.goto (-35), 3) := by decide +kernel
theorem dX12_found_42 : decode cX12_found 42 = .ok (.iload_n 2, 1) := by decide +kernel
theorem dX12_found_43 : decode cX12_found 43 = .ok (.ireturn, 1) := by decide +kernel
theorem dX12_finds_0 : decode cX12_finds 0 = .ok (.aload_n 0, 1) := by decide +kernel
theorem dX12_finds_1 : decode cX12_finds 1 = .ok (.aload_n 0, 1) := by decide +kernel
theorem dX12_finds_2 : decode cX12_finds 2 = .ok (.iload_n 1, 1) := by decide +kernel
theorem dX12_finds_3 : decode cX12_finds 3 = .ok (.invokevirtual 459, 3) := by decide +kernel
theorem dX12_finds_6 : decode cX12_finds 6 = .ok (.ifCond .eq 28, 3) := by decide +kernel
theorem dX12_finds_9 : decode cX12_finds 9 = .ok (.iload_n 2, 1) := by decide +kernel
theorem dX12_finds_10 : decode cX12_finds 10 = .ok (.iconst 0, 1) := by decide +kernel
theorem dX12_finds_11 : decode cX12_finds 11 = .ok (.aload_n 0, 1) := by decide +kernel
theorem dX12_finds_12 : decode cX12_finds 12 = .ok (.getfield 69, 3) := by decide +kernel
theorem dX12_finds_15 : decode cX12_finds 15 = .ok (.aload_n 0, 1) := by decide +kernel
theorem dX12_finds_16 : decode cX12_finds 16 = .ok (.getfield 78, 3) := by decide +kernel
theorem dX12_finds_19 : decode cX12_finds 19 = .ok (.iload_n 1, 1) := by decide +kernel
theorem dX12_finds_20 : decode cX12_finds 20 = .ok (.iaload, 1) := by decide +kernel
theorem dX12_finds_21 : decode cX12_finds 21 = .ok (.iaload, 1) := by decide +kernel
theorem dX12_finds_22 : decode cX12_finds 22 = .ok (.iconst 1, 1) := by decide +kernel
theorem dX12_finds_23 : decode cX12_finds 23 = .ok (.isub, 1) := by decide +kernel
theorem dX12_finds_24 : decode cX12_finds 24 = .ok (.invokestatic 119, 3) := by decide +kernel
theorem dX12_finds_27 : decode cX12_finds 27 = .ok (.ifCond .eq 7, 3) := by decide +kernel
theorem dX12_finds_30 : decode cX12_finds 30 = .ok (.iconst 0, 1) := by decide +kernel
theorem dX12_finds_31 : decode cX12_finds 31 = .ok (.goto 4, 3) := by decide +kernel
theorem dX12_finds_34 : decode cX12_finds 34 = .ok (.iconst 1, 1) := by decide +kernel
theorem dX12_finds_35 : decode cX12_finds 35 = .ok (.putfield 109, 3) := by decide +kernel
theorem dX12_finds_38 : decode cX12_finds 38 = .ok (.aload_n 0, 1) := by decide +kernel
theorem dX12_finds_39 : decode cX12_finds 39 = .ok (.getfield 109, 3) := by decide +kernel
theorem dX12_finds_42 : decode cX12_finds 42 = .ok (.ifCond .ne 16, 3) := by decide +kernel
theorem dX12_finds_45 : decode cX12_finds 45 = .ok (.aload_n 0, 1) := by decide +kernel
theorem dX12_finds_46 : decode cX12_finds 46 = .ok (.iload_n 1, 1) := by decide +kernel
theorem dX12_finds_47 : decode cX12_finds 47 = .ok (.iload_n 2, 1) := by decide +kernel
theorem dX12_finds_48 : decode cX12_finds 48 = .ok (.invokevirtual 471, 3) := by decide +kernel
theorem dX12_finds_51 : decode cX12_finds 51 = .ok (.ifCond .eq 7, 3) := by decide +kernel
theorem dX12_finds_54 : decode cX12_finds 54 = .ok (.iconst 1, 1) := by decide +kernel
theorem dX12_finds_55 : decode cX12_finds 55 = .ok (.goto 4, 3) := by decide +kernel
theorem dX12_finds_58 : decode cX12_finds 58 = .ok (.iconst 0, 1) := by decide +kernel
theorem dX12_finds_59 : decode cX12_finds 59 = .ok (.ireturn, 1) := by decide +kernel
theorem dX12_score_0 : decode cX12_score 0 = .ok (.aload_n 0, 1) := by decide +kernel
theorem dX12_score_1 : decode cX12_score 1 = .ok (.aload_n 0, 1) := by decide +kernel
theorem dX12_score_2 : decode cX12_score 2 = .ok (.iload_n 1, 1) := by decide +kernel
theorem dX12_score_3 : decode cX12_score 3 = .ok (.invokevirtual 459, 3) := by decide +kernel
theorem dX12_score_6 : decode cX12_score 6 = .ok (.ifCond .eq 7, 3) := by decide +kernel
theorem dX12_score_9 : decode cX12_score 9 = .ok (.iconst 0, 1) := by decide +kernel
theorem dX12_score_10 : decode cX12_score 10 = .ok (.goto 4, 3) := by decide +kernel
theorem dX12_score_13 : decode cX12_score 13 = .ok (.iconst 1, 1) := by decide +kernel
theorem dX12_score_14 : decode cX12_score 14 = .ok (.putfield 109, 3) := by decide +kernel
theorem dX12_score_17 : decode cX12_score 17 = .ok (.aload_n 0, 1) := by decide +kernel
theorem dX12_score_18 : decode cX12_score 18 = .ok (.getfield 109, 3) := by decide +kernel
theorem dX12_score_21 : decode cX12_score 21 = .ok (.ifCond .eq 5, 3) := by decide +kernel
theorem dX12_score_24 : decode cX12_score 24 = .ok (.dconst 0, 1) := by decide +kernel
theorem dX12_score_25 : decode cX12_score 25 = .ok (.dreturn, 1) := by decide +kernel
theorem dX12_score_26 : decode cX12_score 26 = .ok (.aload_n 0, 1) := by decide +kernel
theorem dX12_score_27 : decode cX12_score 27 = .ok (.getfield 69, 3) := by decide +kernel
theorem dX12_score_30 : decode cX12_score 30 = .ok (.aload_n 0, 1) := by decide +kernel
theorem dX12_score_31 : decode cX12_score 31 = .ok (.getfield 78, 3) := by decide +kernel
theorem dX12_score_34 : decode cX12_score 34 = .ok (.iload_n 1, 1) := by decide +kernel
theorem dX12_score_35 : decode cX12_score 35 = .ok (.iaload, 1) := by decide +kernel
theorem dX12_score_36 : decode cX12_score 36 = .ok (.iaload, 1) := by decide +kernel
theorem dX12_score_37 : decode cX12_score 37 = .ok (.istore_n 2, 1) := by decide +kernel
theorem dX12_score_38 : decode cX12_score 38 = .ok (.iload_n 2, 1) := by decide +kernel
theorem dX12_score_39 : decode cX12_score 39 = .ok (.ifCond .ne 7, 3) := by decide +kernel
theorem dX12_score_42 : decode cX12_score 42 = .ok (.dconst 1, 1) := by decide +kernel
theorem dX12_score_43 : decode cX12_score 43 = .ok (.goto 12, 3) := by decide +kernel
theorem dX12_score_46 : decode cX12_score 46 = .ok (.aload_n 0, 1) := by decide +kernel
theorem dX12_score_47 : decode cX12_score 47 = .ok (.iload_n 1, 1) := by decide +kernel
theorem dX12_score_48 : decode cX12_score 48 = .ok (.invokevirtual 474, 3) := by decide +kernel
theorem dX12_score_51 : decode cX12_score 51 = .ok (.i2d, 1) := by decide +kernel
theorem dX12_score_52 : decode cX12_score 52 = .ok (.iload_n 2, 1) := by decide +kernel
theorem dX12_score_53 : decode cX12_score 53 = .ok (.i2d, 1) := by decide +kernel
theorem dX12_score_54 : decode cX12_score 54 = .ok (.ddiv, 1) := by decide +kernel
theorem dX12_score_55 : decode cX12_score 55 = .ok (.dreturn, 1) := by decide +kernel
theorem dX12_grow_0 : decode cX12_grow 0 = .ok (.aload_n 0, 1) := by decide +kernel
theorem dX12_grow_1 : decode cX12_grow 1 = .ok (.iconst 0, 1) := by decide +kernel
theorem dX12_grow_2 : decode cX12_grow 2 = .ok (.putfield 109, 3) := by decide +kernel
theorem dX12_grow_5 : decode cX12_grow 5 = .ok (.aload_n 0, 1) := by decide +kernel
theorem dX12_grow_6 : decode cX12_grow 6 = .ok (.iload_n 1, 1) := by decide +kernel
theorem dX12_grow_7 : decode cX12_grow 7 = .ok (.invokevirtual 459, 3) := by decide +kernel
theorem dX12_grow_10 : decode cX12_grow 10 = .ok (.ifCond .ne 9, 3) := by decide +kernel
theorem dX12_grow_13 : decode cX12_grow 13 = .ok (.aload_n 0, 1) := by decide +kernel
theorem dX12_grow_14 : decode cX12_grow 14 = .ok (.iconst 1, 1) := by decide +kernel
theorem dX12_grow_15 : decode cX12_grow 15 = .ok (.invokevirtual 115, 3) := by decide +kernel
theorem dX12_grow_18 : decode cX12_grow 18 = .ok (.ireturn, 1) := by decide +kernel
theorem dX12_grow_19 : decode cX12_grow 19 = .ok (.aload_n 0, 1) := by decide +kernel
theorem dX12_grow_20 : decode cX12_grow 20 = .ok (.getfield 78, 3) := by decide +kernel
theorem dX12_grow_23 : decode cX12_grow 23 = .ok (.iload_n 1, 1) := by decide +kernel
theorem dX12_grow_24 : decode cX12_grow 24 = .ok (.iaload, 1) := by decide +kernel
theorem dX12_grow_25 : decode cX12_grow 25 = .ok (.istore_n 2, 1) := by decide +kernel
theorem dX12_grow_26 : decode cX12_grow 26 = .ok (.aload_n 0, 1) := by decide +kernel
theorem dX12_grow_27 : decode cX12_grow 27 = .ok (.iload_n 2, 1) := by decide +kernel
theorem dX12_grow_28 : decode cX12_grow 28 = .ok (.invokevirtual 450, 3) := by decide +kernel
theorem dX12_grow_31 : decode cX12_grow 31 = .ok (.istore_n 3, 1) := by decide +kernel
theorem dX12_grow_32 : decode cX12_grow 32 = .ok (.iload_n 3, 1) := by decide +kernel
theorem dX12_grow_33 : decode cX12_grow 33 = .ok (.iconst (-1), 1) := by decide +kernel
theorem dX12_grow_34 : decode cX12_grow 34 = .ok (.if_icmp .eq 24, 3) := by decide +kernel
theorem dX12_grow_37 : decode cX12_grow 37 = .ok (.aload_n 0, 1) := by decide +kernel
theorem dX12_grow_38 : decode cX12_grow 38 = .ok (.getfield 81, 3) := by decide +kernel
theorem dX12_grow_41 : decode cX12_grow 41 = .ok (.iload_n 1, 1) := by decide +kernel
theorem dX12_grow_42 : decode cX12_grow 42 = .ok (.iaload, 1) := by decide +kernel
theorem dX12_grow_43 : decode cX12_grow 43 = .ok (.bipush 12, 2) := by decide +kernel
theorem dX12_grow_45 : decode cX12_grow 45 = .ok (.if_icmp .eq 13, 3) := by decide +kernel
theorem dX12_grow_48 : decode cX12_grow 48 = .ok (.aload_n 0, 1) := by decide +kernel
theorem dX12_grow_49 : decode cX12_grow 49 = .ok (.iload_n 1, 1) := by decide +kernel
theorem dX12_grow_50 : decode cX12_grow 50 = .ok (.invokevirtual 344, 3) := by decide +kernel
theorem dX12_grow_53 : decode cX12_grow 53 = .ok (.bipush 100, 2) := by decide +kernel
theorem dX12_grow_55 : decode cX12_grow 55 = .ok (.if_icmp .ne 9, 3) := by decide +kernel
theorem dX12_grow_58 : decode cX12_grow 58 = .ok (.aload_n 0, 1) := by decide +kernel
theorem dX12_grow_59 : decode cX12_grow 59 = .ok (.iconst 2, 1) := by decide +kernel
theorem dX12_grow_60 : decode cX12_grow 60 = .ok (.invokevirtual 115, 3) := by decide +kernel
theorem dX12_grow_63 : decode cX12_grow 63 = .ok (.ireturn, 1) := by decide +kernel
theorem dX12_grow_64 : decode cX12_grow 64 = .ok (.aload_n 0, 1) := by decide +kernel
theorem dX12_grow_65 : decode cX12_grow 65 = .ok (.iload_n 2, 1) := by decide +kernel
theorem dX12_grow_66 : decode cX12_grow 66 = .ok (.iload_n 3, 1) := by decide +kernel
theorem dX12_grow_67 : decode cX12_grow 67 = .ok (.invokevirtual 443, 3) := by decide +kernel
theorem dX12_grow_70 : decode cX12_grow 70 = .ok (.astore 4, 2) := by decide +kernel
theorem dX12_grow_72 : decode cX12_grow 72 = .ok (.bipush 12, 2) := by decide +kernel
theorem dX12_grow_74 : decode cX12_grow 74 = .ok (.iload_n 1, 1) := by decide +kernel
theorem dX12_grow_75 : decode cX12_grow 75 = .ok (.imul, 1) := by decide +kernel
theorem dX12_grow_76 : decode cX12_grow 76 = .ok (.aload_n 0, 1) := by decide +kernel
theorem dX12_grow_77 : decode cX12_grow 77 = .ok (.getfield 81, 3) := by decide +kernel
theorem dX12_grow_80 : decode cX12_grow 80 = .ok (.iload_n 1, 1) := by decide +kernel
theorem dX12_grow_81 : decode cX12_grow 81 = .ok (.iaload, 1) := by decide +kernel
theorem dX12_grow_82 : decode cX12_grow 82 = .ok (.iadd, 1) := by decide +kernel
theorem dX12_grow_83 : decode cX12_grow 83 = .ok (.istore 5, 2) := by decide +kernel
theorem dX12_grow_85 : decode cX12_grow 85 = .ok (.iconst 0, 1) := by decide +kernel
theorem dX12_grow_86 : decode cX12_grow 86 = .ok (.istore 6, 2) := by decide +kernel
theorem dX12_grow_88 : decode cX12_grow 88 = .ok (.iload 6, 2) := by decide +kernel
theorem dX12_grow_90 : decode cX12_grow 90 = .ok (.iconst 3, 1) := by decide +kernel
theorem dX12_grow_91 : decode cX12_grow 91 = .ok (.if_icmp .ge 45, 3) := by decide +kernel
theorem dX12_grow_94 : decode cX12_grow 94 = .ok (.aload_n 0, 1) := by decide +kernel
theorem dX12_grow_95 : decode cX12_grow 95 = .ok (.iconst 3, 1) := by decide +kernel
theorem dX12_grow_96 : decode cX12_grow 96 = .ok (.iload 5, 2) := by decide +kernel
theorem dX12_grow_98 : decode cX12_grow 98 = .ok (.imul, 1) := by decide +kernel
theorem dX12_grow_99 : decode cX12_grow 99 = .ok (.iload 6, 2) := by decide +kernel
theorem dX12_grow_101 : decode cX12_grow 101 = .ok (.iload 6, 2) := by decide +kernel
theorem dX12_grow_103 : decode cX12_grow 103 = .ok (.aload_n 0, 1) := by decide +kernel
theorem dX12_grow_104 : decode cX12_grow 104 = .ok (.getfield 54, 3) := by decide +kernel
theorem dX12_grow_107 : decode cX12_grow 107 = .ok (.iload_n 2, 1) := by decide +kernel
theorem dX12_grow_108 : decode cX12_grow 108 = .ok (.iaload, 1) := by decide +kernel
theorem dX12_grow_109 : decode cX12_grow 109 = .ok (.if_icmp .ge 7, 3) := by decide +kernel
theorem dX12_grow_112 : decode cX12_grow 112 = .ok (.iconst 1, 1) := by decide +kernel
theorem dX12_grow_113 : decode cX12_grow 113 = .ok (.goto 4, 3) := by decide +kernel
theorem dX12_grow_116 : decode cX12_grow 116 = .ok (.iconst 0, 1) := by decide +kernel
theorem dX12_grow_117 : decode cX12_grow 117 = .ok (.aload 4, 2) := by decide +kernel
theorem dX12_grow_119 : decode cX12_grow 119 = .ok (.iload 6, 2) := by decide +kernel
theorem dX12_grow_121 : decode cX12_grow 121 = .ok (.iaload, 1) := by decide +kernel
theorem dX12_grow_122 : decode cX12_grow 122 = .ok (.aload 4, 2) := by decide +kernel
theorem dX12_grow_124 : decode cX12_grow 124 = .ok (.iload 6, 2) := by decide +kernel
theorem dX12_grow_126 : decode cX12_grow 126 = .ok (.iaload, 1) := by decide +kernel
theorem dX12_grow_127 : decode cX12_grow 127 = .ok (.invokevirtual 347, 3) := by decide +kernel
theorem dX12_grow_130 : decode cX12_grow 130 = .ok (.iinc 6 1, 3) := by decide +kernel
theorem dX12_grow_133 : decode cX12_grow 133 = .ok (.goto (-45), 3) := by decide +kernel
theorem dX12_grow_136 : decode cX12_grow 136 = .ok (.aload_n 0, 1) := by decide +kernel
theorem dX12_grow_137 : decode cX12_grow 137 = .ok (.getfield 93, 3) := by decide +kernel
theorem dX12_grow_140 : decode cX12_grow 140 = .ok (.iload 5, 2) := by decide +kernel
theorem dX12_grow_142 : decode cX12_grow 142 = .ok (.aload_n 0, 1) := by decide +kernel
theorem dX12_grow_143 : decode cX12_grow 143 = .ok (.iload_n 2, 1) := by decide +kernel
theorem dX12_grow_144 : decode cX12_grow 144 = .ok (.aload 4, 2) := by decide +kernel
theorem dX12_grow_146 : decode cX12_grow 146 = .ok (.iconst (-1), 1) := by decide +kernel
theorem dX12_grow_147 : decode cX12_grow 147 = .ok (.invokevirtual 439, 3) := by decide +kernel
theorem dX12_grow_150 : decode cX12_grow 150 = .ok (.lastore, 1) := by decide +kernel
theorem dX12_grow_151 : decode cX12_grow 151 = .ok (.aload_n 0, 1) := by decide +kernel
theorem dX12_grow_152 : decode cX12_grow 152 = .ok (.getfield 90, 3) := by decide +kernel
theorem dX12_grow_155 : decode cX12_grow 155 = .ok (.iload 5, 2) := by decide +kernel
theorem dX12_grow_157 : decode cX12_grow 157 = .ok (.aload_n 0, 1) := by decide +kernel
theorem dX12_grow_158 : decode cX12_grow 158 = .ok (.getfield 363, 3) := by decide +kernel
theorem dX12_grow_161 : decode cX12_grow 161 = .ok (.ifCond .eq 8, 3) := by decide +kernel
theorem dX12_grow_164 : decode cX12_grow 164 = .ok (.bipush 21, 2) := by decide +kernel
theorem dX12_grow_166 : decode cX12_grow 166 = .ok (.goto 4, 3) := by decide +kernel
theorem dX12_grow_169 : decode cX12_grow 169 = .ok (.iconst 2, 1) := by decide +kernel
theorem dX12_grow_170 : decode cX12_grow 170 = .ok (.iastore, 1) := by decide +kernel
theorem dX12_grow_171 : decode cX12_grow 171 = .ok (.aload_n 0, 1) := by decide +kernel
theorem dX12_grow_172 : decode cX12_grow 172 = .ok (.getfield 81, 3) := by decide +kernel
theorem dX12_grow_175 : decode cX12_grow 175 = .ok (.iload_n 1, 1) := by decide +kernel
theorem dX12_grow_176 : decode cX12_grow 176 = .ok (.dup2, 1) := by decide +kernel
theorem dX12_grow_177 : decode cX12_grow 177 = .ok (.iaload, 1) := by decide +kernel
theorem dX12_grow_178 : decode cX12_grow 178 = .ok (.iconst 1, 1) := by decide +kernel
theorem dX12_grow_179 : decode cX12_grow 179 = .ok (.iadd, 1) := by decide +kernel
theorem dX12_grow_180 : decode cX12_grow 180 = .ok (.iastore, 1) := by decide +kernel
theorem dX12_grow_181 : decode cX12_grow 181 = .ok (.aload_n 0, 1) := by decide +kernel
theorem dX12_grow_182 : decode cX12_grow 182 = .ok (.iload_n 1, 1) := by decide +kernel
theorem dX12_grow_183 : decode cX12_grow 183 = .ok (.invokevirtual 344, 3) := by decide +kernel
theorem dX12_grow_186 : decode cX12_grow 186 = .ok (.ireturn, 1) := by decide +kernel
theorem dX12_copyRow_0 : decode cX12_copyRow 0 = .ok (.bipush 12, 2) := by decide +kernel
theorem dX12_copyRow_2 : decode cX12_copyRow 2 = .ok (.iload_n 1, 1) := by decide +kernel
theorem dX12_copyRow_3 : decode cX12_copyRow 3 = .ok (.imul, 1) := by decide +kernel
theorem dX12_copyRow_4 : decode cX12_copyRow 4 = .ok (.iload_n 2, 1) := by decide +kernel
theorem dX12_copyRow_5 : decode cX12_copyRow 5 = .ok (.iadd, 1) := by decide +kernel
theorem dX12_copyRow_6 : decode cX12_copyRow 6 = .ok (.istore 4, 2) := by decide +kernel
theorem dX12_copyRow_8 : decode cX12_copyRow 8 = .ok (.bipush 12, 2) := by decide +kernel
theorem dX12_copyRow_10 : decode cX12_copyRow 10 = .ok (.iload_n 1, 1) := by decide +kernel
theorem dX12_copyRow_11 : decode cX12_copyRow 11 = .ok (.imul, 1) := by decide +kernel
theorem dX12_copyRow_12 : decode cX12_copyRow 12 = .ok (.iload_n 3, 1) := by decide +kernel
theorem dX12_copyRow_13 : decode cX12_copyRow 13 = .ok (.iadd, 1) := by decide +kernel
theorem dX12_copyRow_14 : decode cX12_copyRow 14 = .ok (.istore 5, 2) := by decide +kernel
theorem dX12_copyRow_16 : decode cX12_copyRow 16 = .ok (.aload_n 0, 1) := by decide +kernel
theorem dX12_copyRow_17 : decode cX12_copyRow 17 = .ok (.getfield 90, 3) := by decide +kernel
theorem dX12_copyRow_20 : decode cX12_copyRow 20 = .ok (.iload 5, 2) := by decide +kernel
theorem dX12_copyRow_22 : decode cX12_copyRow 22 = .ok (.aload_n 0, 1) := by decide +kernel
theorem dX12_copyRow_23 : decode cX12_copyRow 23 = .ok (.getfield 90, 3) := by decide +kernel
theorem dX12_copyRow_26 : decode cX12_copyRow 26 = .ok (.iload 4, 2) := by decide +kernel
theorem dX12_copyRow_28 : decode cX12_copyRow 28 = .ok (.iaload, 1) := by decide +kernel
theorem dX12_copyRow_29 : decode cX12_copyRow 29 = .ok (.iastore, 1) := by decide +kernel
theorem dX12_copyRow_30 : decode cX12_copyRow 30 = .ok (.aload_n 0, 1) := by decide +kernel
theorem dX12_copyRow_31 : decode cX12_copyRow 31 = .ok (.getfield 93, 3) := by decide +kernel
theorem dX12_copyRow_34 : decode cX12_copyRow 34 = .ok (.iload 5, 2) := by decide +kernel
theorem dX12_copyRow_36 : decode cX12_copyRow 36 = .ok (.aload_n 0, 1) := by decide +kernel
theorem dX12_copyRow_37 : decode cX12_copyRow 37 = .ok (.getfield 93, 3) := by decide +kernel
theorem dX12_copyRow_40 : decode cX12_copyRow 40 = .ok (.iload 4, 2) := by decide +kernel
theorem dX12_copyRow_42 : decode cX12_copyRow 42 = .ok (.laload, 1) := by decide +kernel
theorem dX12_copyRow_43 : decode cX12_copyRow 43 = .ok (.lastore, 1) := by decide +kernel
theorem dX12_copyRow_44 : decode cX12_copyRow 44 = .ok (.iconst 0, 1) := by decide +kernel
theorem dX12_copyRow_45 : decode cX12_copyRow 45 = .ok (.istore 6, 2) := by decide +kernel
theorem dX12_copyRow_47 : decode cX12_copyRow 47 = .ok (.iload 6, 2) := by decide +kernel
theorem dX12_copyRow_49 : decode cX12_copyRow 49 = .ok (.iconst 3, 1) := by decide +kernel
theorem dX12_copyRow_50 : decode cX12_copyRow 50 = .ok (.if_icmp .ge 44, 3) := by decide +kernel
theorem dX12_copyRow_53 : decode cX12_copyRow 53 = .ok (.aload_n 0, 1) := by decide +kernel
theorem dX12_copyRow_54 : decode cX12_copyRow 54 = .ok (.iconst 3, 1) := by decide +kernel
theorem dX12_copyRow_55 : decode cX12_copyRow 55 = .ok (.iload 5, 2) := by decide +kernel
theorem dX12_copyRow_57 : decode cX12_copyRow 57 = .ok (.imul, 1) := by decide +kernel
theorem dX12_copyRow_58 : decode cX12_copyRow 58 = .ok (.iload 6, 2) := by decide +kernel
theorem dX12_copyRow_60 : decode cX12_copyRow 60 = .ok (.iconst 1, 1) := by decide +kernel
theorem dX12_copyRow_61 : decode cX12_copyRow 61 = .ok (.aload_n 0, 1) := by decide +kernel
theorem dX12_copyRow_62 : decode cX12_copyRow 62 = .ok (.getfield 84, 3) := by decide +kernel
theorem dX12_copyRow_65 : decode cX12_copyRow 65 = .ok (.iconst 3, 1) := by decide +kernel
theorem dX12_copyRow_66 : decode cX12_copyRow 66 = .ok (.iload 4, 2) := by decide +kernel
theorem dX12_copyRow_68 : decode cX12_copyRow 68 = .ok (.imul, 1) := by decide +kernel
theorem dX12_copyRow_69 : decode cX12_copyRow 69 = .ok (.iload 6, 2) := by decide +kernel
theorem dX12_copyRow_71 : decode cX12_copyRow 71 = .ok (.iadd, 1) := by decide +kernel
theorem dX12_copyRow_72 : decode cX12_copyRow 72 = .ok (.iaload, 1) := by decide +kernel
theorem dX12_copyRow_73 : decode cX12_copyRow 73 = .ok (.aload_n 0, 1) := by decide +kernel
theorem dX12_copyRow_74 : decode cX12_copyRow 74 = .ok (.getfield 87, 3) := by decide +kernel
theorem dX12_copyRow_77 : decode cX12_copyRow 77 = .ok (.iconst 3, 1) := by decide +kernel
theorem dX12_copyRow_78 : decode cX12_copyRow 78 = .ok (.iload 4, 2) := by decide +kernel
theorem dX12_copyRow_80 : decode cX12_copyRow 80 = .ok (.imul, 1) := by decide +kernel
theorem dX12_copyRow_81 : decode cX12_copyRow 81 = .ok (.iload 6, 2) := by decide +kernel
theorem dX12_copyRow_83 : decode cX12_copyRow 83 = .ok (.iadd, 1) := by decide +kernel
theorem dX12_copyRow_84 : decode cX12_copyRow 84 = .ok (.iaload, 1) := by decide +kernel
theorem dX12_copyRow_85 : decode cX12_copyRow 85 = .ok (.invokevirtual 347, 3) := by decide +kernel
theorem dX12_copyRow_88 : decode cX12_copyRow 88 = .ok (.iinc 6 1, 3) := by decide +kernel
theorem dX12_copyRow_91 : decode cX12_copyRow 91 = .ok (.goto (-44), 3) := by decide +kernel
theorem dX12_copyRow_94 : decode cX12_copyRow 94 = .ok (.return_, 1) := by decide +kernel
theorem dX12_shorten_0 : decode cX12_shorten 0 = .ok (.aload_n 0, 1) := by decide +kernel
theorem dX12_shorten_1 : decode cX12_shorten 1 = .ok (.iconst 0, 1) := by decide +kernel
theorem dX12_shorten_2 : decode cX12_shorten 2 = .ok (.putfield 109, 3) := by decide +kernel
theorem dX12_shorten_5 : decode cX12_shorten 5 = .ok (.aload_n 0, 1) := by decide +kernel
theorem dX12_shorten_6 : decode cX12_shorten 6 = .ok (.iload_n 1, 1) := by decide +kernel
theorem dX12_shorten_7 : decode cX12_shorten 7 = .ok (.invokevirtual 459, 3) := by decide +kernel
theorem dX12_shorten_10 : decode cX12_shorten 10 = .ok (.ifCond .ne 9, 3) := by decide +kernel
theorem dX12_shorten_13 : decode cX12_shorten 13 = .ok (.aload_n 0, 1) := by decide +kernel
theorem dX12_shorten_14 : decode cX12_shorten 14 = .ok (.iconst 1, 1) := by decide +kernel
theorem dX12_shorten_15 : decode cX12_shorten 15 = .ok (.invokevirtual 115, 3) := by decide +kernel
theorem dX12_shorten_18 : decode cX12_shorten 18 = .ok (.ireturn, 1) := by decide +kernel
theorem dX12_shorten_19 : decode cX12_shorten 19 = .ok (.aload_n 0, 1) := by decide +kernel
theorem dX12_shorten_20 : decode cX12_shorten 20 = .ok (.iload_n 1, 1) := by decide +kernel
theorem dX12_shorten_21 : decode cX12_shorten 21 = .ok (.invokevirtual 474, 3) := by decide +kernel
theorem dX12_shorten_24 : decode cX12_shorten 24 = .ok (.istore_n 2, 1) := by decide +kernel
theorem dX12_shorten_25 : decode cX12_shorten 25 = .ok (.aload_n 0, 1) := by decide +kernel
theorem dX12_shorten_26 : decode cX12_shorten 26 = .ok (.getfield 81, 3) := by decide +kernel
theorem dX12_shorten_29 : decode cX12_shorten 29 = .ok (.iload_n 1, 1) := by decide +kernel
theorem dX12_shorten_30 : decode cX12_shorten 30 = .ok (.iaload, 1) := by decide +kernel
theorem dX12_shorten_31 : decode cX12_shorten 31 = .ok (.iconst 1, 1) := by decide +kernel
theorem dX12_shorten_32 : decode cX12_shorten 32 = .ok (.isub, 1) := by decide +kernel
theorem dX12_shorten_33 : decode cX12_shorten 33 = .ok (.istore_n 3, 1) := by decide +kernel
theorem dX12_shorten_34 : decode cX12_shorten 34 = .ok (.iload_n 3, 1) := by decide +kernel
theorem dX12_shorten_35 : decode cX12_shorten 35 = .ok (.ifCond .lt 196, 3) := by decide +kernel
theorem dX12_shorten_38 : decode cX12_shorten 38 = .ok (.aload_n 0, 1) := by decide +kernel
theorem dX12_shorten_39 : decode cX12_shorten 39 = .ok (.getfield 81, 3) := by decide +kernel
theorem dX12_shorten_42 : decode cX12_shorten 42 = .ok (.iload_n 1, 1) := by decide +kernel
theorem dX12_shorten_43 : decode cX12_shorten 43 = .ok (.iaload, 1) := by decide +kernel
theorem dX12_shorten_44 : decode cX12_shorten 44 = .ok (.iconst 1, 1) := by decide +kernel
theorem dX12_shorten_45 : decode cX12_shorten 45 = .ok (.if_icmp .le 186, 3) := by decide +kernel
theorem dX12_shorten_48 : decode cX12_shorten 48 = .ok (.aload_n 0, 1) := by decide +kernel
theorem dX12_shorten_49 : decode cX12_shorten 49 = .ok (.getfield 84, 3) := by decide +kernel
theorem dX12_shorten_52 : decode cX12_shorten 52 = .ok (.invokevirtual 477, 3) := by decide +kernel
theorem dX12_shorten_55 : decode cX12_shorten 55 = .ok (.checkcast 478, 3) := by decide +kernel
theorem dX12_shorten_58 : decode cX12_shorten 58 = .ok (.astore 4, 2) := by decide +kernel
theorem dX12_shorten_60 : decode cX12_shorten 60 = .ok (.aload_n 0, 1) := by decide +kernel
theorem dX12_shorten_61 : decode cX12_shorten 61 = .ok (.getfield 87, 3) := by decide +kernel
theorem dX12_shorten_64 : decode cX12_shorten 64 = .ok (.invokevirtual 477, 3) := by decide +kernel
theorem dX12_shorten_67 : decode cX12_shorten 67 = .ok (.checkcast 478, 3) := by decide +kernel
theorem dX12_shorten_70 : decode cX12_shorten 70 = .ok (.astore 5, 2) := by decide +kernel
theorem dX12_shorten_72 : decode cX12_shorten 72 = .ok (.aload_n 0, 1) := by decide +kernel
theorem dX12_shorten_73 : decode cX12_shorten 73 = .ok (.getfield 90, 3) := by decide +kernel
theorem dX12_shorten_76 : decode cX12_shorten 76 = .ok (.invokevirtual 477, 3) := by decide +kernel
theorem dX12_shorten_79 : decode cX12_shorten 79 = .ok (.checkcast 478, 3) := by decide +kernel
theorem dX12_shorten_82 : decode cX12_shorten 82 = .ok (.astore 6, 2) := by decide +kernel
theorem dX12_shorten_84 : decode cX12_shorten 84 = .ok (.aload_n 0, 1) := by decide +kernel
theorem dX12_shorten_85 : decode cX12_shorten 85 = .ok (.getfield 93, 3) := by decide +kernel
theorem dX12_shorten_88 : decode cX12_shorten 88 = .ok (.invokevirtual 482, 3) := by decide +kernel
theorem dX12_shorten_91 : decode cX12_shorten 91 = .ok (.checkcast 483, 3) := by decide +kernel
theorem dX12_shorten_94 : decode cX12_shorten 94 = .ok (.astore 7, 2) := by decide +kernel
theorem dX12_shorten_96 : decode cX12_shorten 96 = .ok (.iload_n 3, 1) := by decide +kernel
theorem dX12_shorten_97 : decode cX12_shorten 97 = .ok (.istore 8, 2) := by decide +kernel
theorem dX12_shorten_99 : decode cX12_shorten 99 = .ok (.iload 8, 2) := by decide +kernel
theorem dX12_shorten_101 : decode cX12_shorten 101 = .ok (.iconst 1, 1) := by decide +kernel
theorem dX12_shorten_102 : decode cX12_shorten 102 = .ok (.iadd, 1) := by decide +kernel
theorem dX12_shorten_103 : decode cX12_shorten 103 = .ok (.aload_n 0, 1) := by decide +kernel
theorem dX12_shorten_104 : decode cX12_shorten 104 = .ok (.getfield 81, 3) := by decide +kernel
theorem dX12_shorten_107 : decode cX12_shorten 107 = .ok (.iload_n 1, 1) := by decide +kernel
theorem dX12_shorten_108 : decode cX12_shorten 108 = .ok (.iaload, 1) := by decide +kernel
theorem dX12_shorten_109 : decode cX12_shorten 109 = .ok (.if_icmp .ge 20, 3) := by decide +kernel
theorem dX12_shorten_112 : decode cX12_shorten 112 = .ok (.aload_n 0, 1) := by decide +kernel
theorem dX12_shorten_113 : decode cX12_shorten 113 = .ok (.iload_n 1, 1) := by decide +kernel
theorem dX12_shorten_114 : decode cX12_shorten 114 = .ok (.iload 8, 2) := by decide +kernel
theorem dX12_shorten_116 : decode cX12_shorten 116 = .ok (.iconst 1, 1) := by decide +kernel
theorem dX12_shorten_117 : decode cX12_shorten 117 = .ok (.iadd, 1) := by decide +kernel
theorem dX12_shorten_118 : decode cX12_shorten 118 = .ok (.iload 8, 2) := by decide +kernel
theorem dX12_shorten_120 : decode cX12_shorten 120 = .ok (.invokevirtual 484, 3) := by decide +kernel
theorem dX12_shorten_123 : decode cX12_shorten 123 = .ok (.iinc 8 1, 3) := by decide +kernel
theorem dX12_shorten_126 : decode cX12_shorten 126 = .ok (.goto (-27), 3) := by decide +kernel
theorem dX12_shorten_129 : decode cX12_shorten 129 = .ok (.aload_n 0, 1) := by decide +kernel
theorem dX12_shorten_130 : decode cX12_shorten 130 = .ok (.getfield 81, 3) := by decide +kernel
theorem dX12_shorten_133 : decode cX12_shorten 133 = .ok (.iload_n 1, 1) := by decide +kernel
theorem dX12_shorten_134 : decode cX12_shorten 134 = .ok (.dup2, 1) := by decide +kernel
theorem dX12_shorten_135 : decode cX12_shorten 135 = .ok (.iaload, 1) := by decide +kernel
theorem dX12_shorten_136 : decode cX12_shorten 136 = .ok (.iconst 1, 1) := by decide +kernel
theorem dX12_shorten_137 : decode cX12_shorten 137 = .ok (.isub, 1) := by decide +kernel
theorem dX12_shorten_138 : decode cX12_shorten 138 = .ok (.iastore, 1) := by decide +kernel
theorem dX12_shorten_139 : decode cX12_shorten 139 = .ok (.aload_n 0, 1) := by decide +kernel
theorem dX12_shorten_140 : decode cX12_shorten 140 = .ok (.iload_n 1, 1) := by decide +kernel
theorem dX12_shorten_141 : decode cX12_shorten 141 = .ok (.invokevirtual 474, 3) := by decide +kernel
theorem dX12_shorten_144 : decode cX12_shorten 144 = .ok (.iload_n 2, 1) := by decide +kernel
theorem dX12_shorten_145 : decode cX12_shorten 145 = .ok (.if_icmp .ne 6, 3) := by decide +kernel
theorem dX12_shorten_148 : decode cX12_shorten 148 = .ok (.goto 77, 3) := by decide +kernel
theorem dX12_shorten_151 : decode cX12_shorten 151 = .ok (.aload_n 0, 1) := by decide +kernel
theorem dX12_shorten_152 : decode cX12_shorten 152 = .ok (.getfield 81, 3) := by decide +kernel
theorem dX12_shorten_155 : decode cX12_shorten 155 = .ok (.iload_n 1, 1) := by decide +kernel
theorem dX12_shorten_156 : decode cX12_shorten 156 = .ok (.dup2, 1) := by decide +kernel
theorem dX12_shorten_157 : decode cX12_shorten 157 = .ok (.iaload, 1) := by decide +kernel
theorem dX12_shorten_158 : decode cX12_shorten 158 = .ok (.iconst 1, 1) := by decide +kernel
theorem dX12_shorten_159 : decode cX12_shorten 159 = .ok (.iadd, 1) := by decide +kernel
theorem dX12_shorten_160 : decode cX12_shorten 160 = .ok (.iastore, 1) := by decide +kernel
theorem dX12_shorten_161 : decode cX12_shorten 161 = .ok (.aload 4, 2) := by decide +kernel
theorem dX12_shorten_163 : decode cX12_shorten 163 = .ok (.iconst 0, 1) := by decide +kernel
theorem dX12_shorten_164 : decode cX12_shorten 164 = .ok (.aload_n 0, 1) := by decide +kernel
theorem dX12_shorten_165 : decode cX12_shorten 165 = .ok (.getfield 84, 3) := by decide +kernel
theorem dX12_shorten_168 : decode cX12_shorten 168 = .ok (.iconst 0, 1) := by decide +kernel
theorem dX12_shorten_169 : decode cX12_shorten 169 = .ok (.aload_n 0, 1) := by decide +kernel
theorem dX12_shorten_170 : decode cX12_shorten 170 = .ok (.getfield 84, 3) := by decide +kernel
theorem dX12_shorten_173 : decode cX12_shorten 173 = .ok (.arraylength, 1) := by decide +kernel
theorem dX12_shorten_174 : decode cX12_shorten 174 = .ok (.invokestatic 488, 3) := by decide +kernel
theorem dX12_shorten_177 : decode cX12_shorten 177 = .ok (.aload 5, 2) := by decide +kernel
theorem dX12_shorten_179 : decode cX12_shorten 179 = .ok (.iconst 0, 1) := by decide +kernel
theorem dX12_shorten_180 : decode cX12_shorten 180 = .ok (.aload_n 0, 1) := by decide +kernel
theorem dX12_shorten_181 : decode cX12_shorten 181 = .ok (.getfield 87, 3) := by decide +kernel
theorem dX12_shorten_184 : decode cX12_shorten 184 = .ok (.iconst 0, 1) := by decide +kernel
theorem dX12_shorten_185 : decode cX12_shorten 185 = .ok (.aload_n 0, 1) := by decide +kernel
theorem dX12_shorten_186 : decode cX12_shorten 186 = .ok (.getfield 87, 3) := by decide +kernel
theorem dX12_shorten_189 : decode cX12_shorten 189 = .ok (.arraylength, 1) := by decide +kernel
theorem dX12_shorten_190 : decode cX12_shorten 190 = .ok (.invokestatic 488, 3) := by decide +kernel
theorem dX12_shorten_193 : decode cX12_shorten 193 = .ok (.aload 6, 2) := by decide +kernel
theorem dX12_shorten_195 : decode cX12_shorten 195 = .ok (.iconst 0, 1) := by decide +kernel
theorem dX12_shorten_196 : decode cX12_shorten 196 = .ok (.aload_n 0, 1) := by decide +kernel
theorem dX12_shorten_197 : decode cX12_shorten 197 = .ok (.getfield 90, 3) := by decide +kernel
theorem dX12_shorten_200 : decode cX12_shorten 200 = .ok (.iconst 0, 1) := by decide +kernel
theorem dX12_shorten_201 : decode cX12_shorten 201 = .ok (.aload_n 0, 1) := by decide +kernel
theorem dX12_shorten_202 : decode cX12_shorten 202 = .ok (.getfield 90, 3) := by decide +kernel
theorem dX12_shorten_205 : decode cX12_shorten 205 = .ok (.arraylength, 1) := by decide +kernel
theorem dX12_shorten_206 : decode cX12_shorten 206 = .ok (.invokestatic 488, 3) := by decide +kernel
theorem dX12_shorten_209 : decode cX12_shorten 209 = .ok (.aload 7, 2) := by decide +kernel
theorem dX12_shorten_211 : decode cX12_shorten 211 = .ok (.iconst 0, 1) := by decide +kernel
theorem dX12_shorten_212 : decode cX12_shorten 212 = .ok (.aload_n 0, 1) := by decide +kernel
theorem dX12_shorten_213 : decode cX12_shorten 213 = .ok (.getfield 93, 3) := by decide +kernel
theorem dX12_shorten_216 : decode cX12_shorten 216 = .ok (.iconst 0, 1) := by decide +kernel
theorem dX12_shorten_217 : decode cX12_shorten 217 = .ok (.aload_n 0, 1) := by decide +kernel
theorem dX12_shorten_218 : decode cX12_shorten 218 = .ok (.getfield 93, 3) := by decide +kernel
theorem dX12_shorten_221 : decode cX12_shorten 221 = .ok (.arraylength, 1) := by decide +kernel
theorem dX12_shorten_222 : decode cX12_shorten 222 = .ok (.invokestatic 488, 3) := by decide +kernel
theorem dX12_shorten_225 : decode cX12_shorten 225 = .ok (.iinc 3 (-1), 3) := by decide +kernel
theorem dX12_shorten_228 : decode cX12_shorten 228 = .ok (.goto (-194), 3) := by decide +kernel
theorem dX12_shorten_231 : decode cX12_shorten 231 = .ok (.aload_n 0, 1) := by decide +kernel
theorem dX12_shorten_232 : decode cX12_shorten 232 = .ok (.getfield 81, 3) := by decide +kernel
theorem dX12_shorten_235 : decode cX12_shorten 235 = .ok (.iload_n 1, 1) := by decide +kernel
theorem dX12_shorten_236 : decode cX12_shorten 236 = .ok (.iaload, 1) := by decide +kernel
theorem dX12_shorten_237 : decode cX12_shorten 237 = .ok (.ireturn, 1) := by decide +kernel
theorem dX12_digest_0 : decode cX12_digest 0 = .ok (.aload_n 0, 1) := by decide +kernel
theorem dX12_digest_1 : decode cX12_digest 1 = .ok (.iconst 0, 1) := by decide +kernel
theorem dX12_digest_2 : decode cX12_digest 2 = .ok (.putfield 109, 3) := by decide +kernel
theorem dX12_digest_5 : decode cX12_digest 5 = .ok (.ldc2_w 494, 3) := by decide +kernel
theorem dX12_digest_8 : decode cX12_digest 8 = .ok (.lstore_n 1, 1) := by decide +kernel
theorem dX12_digest_9 : decode cX12_digest 9 = .ok (.iconst 0, 1) := by decide +kernel
theorem dX12_digest_10 : decode cX12_digest 10 = .ok (.istore_n 3, 1) := by decide +kernel
theorem dX12_digest_11 : decode cX12_digest 11 = .ok (.iload_n 3, 1) := by decide +kernel
theorem dX12_digest_12 : decode cX12_digest 12 = .ok (.iconst 5, 1) := by decide +kernel
theorem dX12_digest_13 : decode cX12_digest 13 = .ok (.if_icmp .ge 22, 3) := by decide +kernel
theorem dX12_digest_16 : decode cX12_digest 16 = .ok (.lload_n 1, 1) := by decide +kernel
theorem dX12_digest_17 : decode cX12_digest 17 = .ok (.ldc2_w 496, 3) := by decide +kernel
theorem dX12_digest_20 : decode cX12_digest 20 = .ok (.lmul, 1) := by decide +kernel
theorem dX12_digest_21 : decode cX12_digest 21 = .ok (.aload_n 0, 1) := by decide +kernel
theorem dX12_digest_22 : decode cX12_digest 22 = .ok (.iload_n 3, 1) := by decide +kernel
theorem dX12_digest_23 : decode cX12_digest 23 = .ok (.invokevirtual 399, 3) := by decide +kernel
theorem dX12_digest_26 : decode cX12_digest 26 = .ok (.i2l, 1) := by decide +kernel
theorem dX12_digest_27 : decode cX12_digest 27 = .ok (.ladd, 1) := by decide +kernel
theorem dX12_digest_28 : decode cX12_digest 28 = .ok (.lstore_n 1, 1) := by decide +kernel
theorem dX12_digest_29 : decode cX12_digest 29 = .ok (.iinc 3 1, 3) := by decide +kernel
theorem dX12_digest_32 : decode cX12_digest 32 = .ok (.goto (-21), 3) := by decide +kernel
theorem dX12_digest_35 : decode cX12_digest 35 = .ok (.iconst 0, 1) := by decide +kernel
theorem dX12_digest_36 : decode cX12_digest 36 = .ok (.istore_n 3, 1) := by decide +kernel
theorem dX12_digest_37 : decode cX12_digest 37 = .ok (.iload_n 3, 1) := by decide +kernel
theorem dX12_digest_38 : decode cX12_digest 38 = .ok (.aload_n 0, 1) := by decide +kernel
theorem dX12_digest_39 : decode cX12_digest 39 = .ok (.getfield 275, 3) := by decide +kernel
theorem dX12_digest_42 : decode cX12_digest 42 = .ok (.if_icmp .ge 40, 3) := by decide +kernel
theorem dX12_digest_45 : decode cX12_digest 45 = .ok (.iconst 0, 1) := by decide +kernel
theorem dX12_digest_46 : decode cX12_digest 46 = .ok (.istore 4, 2) := by decide +kernel
theorem dX12_digest_48 : decode cX12_digest 48 = .ok (.iload 4, 2) := by decide +kernel
theorem dX12_digest_50 : decode cX12_digest 50 = .ok (.bipush 6, 2) := by decide +kernel
theorem dX12_digest_52 : decode cX12_digest 52 = .ok (.if_icmp .ge 24, 3) := by decide +kernel
theorem dX12_digest_55 : decode cX12_digest 55 = .ok (.lload_n 1, 1) := by decide +kernel
theorem dX12_digest_56 : decode cX12_digest 56 = .ok (.ldc2_w 496, 3) := by decide +kernel
theorem dX12_digest_59 : decode cX12_digest 59 = .ok (.lmul, 1) := by decide +kernel
theorem dX12_digest_60 : decode cX12_digest 60 = .ok (.aload_n 0, 1) := by decide +kernel
theorem dX12_digest_61 : decode cX12_digest 61 = .ok (.iload_n 3, 1) := by decide +kernel
theorem dX12_digest_62 : decode cX12_digest 62 = .ok (.iload 4, 2) := by decide +kernel
theorem dX12_digest_64 : decode cX12_digest 64 = .ok (.invokevirtual 436, 3) := by decide +kernel
theorem dX12_digest_67 : decode cX12_digest 67 = .ok (.i2l, 1) := by decide +kernel
theorem dX12_digest_68 : decode cX12_digest 68 = .ok (.ladd, 1) := by decide +kernel
theorem dX12_digest_69 : decode cX12_digest 69 = .ok (.lstore_n 1, 1) := by decide +kernel
theorem dX12_digest_70 : decode cX12_digest 70 = .ok (.iinc 4 1, 3) := by decide +kernel
theorem dX12_digest_73 : decode cX12_digest 73 = .ok (.goto (-25), 3) := by decide +kernel
theorem dX12_digest_76 : decode cX12_digest 76 = .ok (.iinc 3 1, 3) := by decide +kernel
theorem dX12_digest_79 : decode cX12_digest 79 = .ok (.goto (-42), 3) := by decide +kernel
theorem dX12_digest_82 : decode cX12_digest 82 = .ok (.iconst 0, 1) := by decide +kernel
theorem dX12_digest_83 : decode cX12_digest 83 = .ok (.istore_n 3, 1) := by decide +kernel
theorem dX12_digest_84 : decode cX12_digest 84 = .ok (.iload_n 3, 1) := by decide +kernel
theorem dX12_digest_85 : decode cX12_digest 85 = .ok (.aload_n 0, 1) := by decide +kernel
theorem dX12_digest_86 : decode cX12_digest 86 = .ok (.getfield 282, 3) := by decide +kernel
theorem dX12_digest_89 : decode cX12_digest 89 = .ok (.if_icmp .ge 109, 3) := by decide +kernel
theorem dX12_digest_92 : decode cX12_digest 92 = .ok (.iconst 0, 1) := by decide +kernel
theorem dX12_digest_93 : decode cX12_digest 93 = .ok (.istore 4, 2) := by decide +kernel
theorem dX12_digest_95 : decode cX12_digest 95 = .ok (.iload 4, 2) := by decide +kernel
theorem dX12_digest_97 : decode cX12_digest 97 = .ok (.iconst 5, 1) := by decide +kernel
theorem dX12_digest_98 : decode cX12_digest 98 = .ok (.if_icmp .ge 24, 3) := by decide +kernel
theorem dX12_digest_101 : decode cX12_digest 101 = .ok (.lload_n 1, 1) := by decide +kernel
theorem dX12_digest_102 : decode cX12_digest 102 = .ok (.ldc2_w 496, 3) := by decide +kernel
theorem dX12_digest_105 : decode cX12_digest 105 = .ok (.lmul, 1) := by decide +kernel
theorem dX12_digest_106 : decode cX12_digest 106 = .ok (.aload_n 0, 1) := by decide +kernel
theorem dX12_digest_107 : decode cX12_digest 107 = .ok (.iload_n 3, 1) := by decide +kernel
theorem dX12_digest_108 : decode cX12_digest 108 = .ok (.iload 4, 2) := by decide +kernel
theorem dX12_digest_110 : decode cX12_digest 110 = .ok (.invokevirtual 462, 3) := by decide +kernel
theorem dX12_digest_113 : decode cX12_digest 113 = .ok (.i2l, 1) := by decide +kernel
theorem dX12_digest_114 : decode cX12_digest 114 = .ok (.ladd, 1) := by decide +kernel
theorem dX12_digest_115 : decode cX12_digest 115 = .ok (.lstore_n 1, 1) := by decide +kernel
theorem dX12_digest_116 : decode cX12_digest 116 = .ok (.iinc 4 1, 3) := by decide +kernel
theorem dX12_digest_119 : decode cX12_digest 119 = .ok (.goto (-24), 3) := by decide +kernel
theorem dX12_digest_122 : decode cX12_digest 122 = .ok (.aload_n 0, 1) := by decide +kernel
theorem dX12_digest_123 : decode cX12_digest 123 = .ok (.iload_n 3, 1) := by decide +kernel
theorem dX12_digest_124 : decode cX12_digest 124 = .ok (.invokevirtual 344, 3) := by decide +kernel
theorem dX12_digest_127 : decode cX12_digest 127 = .ok (.istore 4, 2) := by decide +kernel
theorem dX12_digest_129 : decode cX12_digest 129 = .ok (.iconst 0, 1) := by decide +kernel
theorem dX12_digest_130 : decode cX12_digest 130 = .ok (.istore 5, 2) := by decide +kernel
theorem dX12_digest_132 : decode cX12_digest 132 = .ok (.iload 5, 2) := by decide +kernel
theorem dX12_digest_134 : decode cX12_digest 134 = .ok (.iload 4, 2) := by decide +kernel
theorem dX12_digest_136 : decode cX12_digest 136 = .ok (.if_icmp .ge 56, 3) := by decide +kernel
theorem dX12_digest_139 : decode cX12_digest 139 = .ok (.aload_n 0, 1) := by decide +kernel
theorem dX12_digest_140 : decode cX12_digest 140 = .ok (.iload_n 3, 1) := by decide +kernel
theorem dX12_digest_141 : decode cX12_digest 141 = .ok (.iload 5, 2) := by decide +kernel
theorem dX12_digest_143 : decode cX12_digest 143 = .ok (.invokevirtual 409, 3) := by decide +kernel
theorem dX12_digest_146 : decode cX12_digest 146 = .ok (.astore 6, 2) := by decide +kernel
theorem dX12_digest_148 : decode cX12_digest 148 = .ok (.iconst 0, 1) := by decide +kernel
theorem dX12_digest_149 : decode cX12_digest 149 = .ok (.istore 7, 2) := by decide +kernel
theorem dX12_digest_151 : decode cX12_digest 151 = .ok (.iload 7, 2) := by decide +kernel
theorem dX12_digest_153 : decode cX12_digest 153 = .ok (.aload_n 0, 1) := by decide +kernel
theorem dX12_digest_154 : decode cX12_digest 154 = .ok (.getfield 54, 3) := by decide +kernel
theorem dX12_digest_157 : decode cX12_digest 157 = .ok (.aload_n 0, 1) := by decide +kernel
theorem dX12_digest_158 : decode cX12_digest 158 = .ok (.getfield 78, 3) := by decide +kernel
theorem dX12_digest_161 : decode cX12_digest 161 = .ok (.iload_n 3, 1) := by decide +kernel
theorem dX12_digest_162 : decode cX12_digest 162 = .ok (.iaload, 1) := by decide +kernel
theorem dX12_digest_163 : decode cX12_digest 163 = .ok (.iaload, 1) := by decide +kernel
theorem dX12_digest_164 : decode cX12_digest 164 = .ok (.if_icmp .ge 22, 3) := by decide +kernel
theorem dX12_digest_167 : decode cX12_digest 167 = .ok (.lload_n 1, 1) := by decide +kernel
theorem dX12_digest_168 : decode cX12_digest 168 = .ok (.ldc2_w 496, 3) := by decide +kernel
theorem dX12_digest_171 : decode cX12_digest 171 = .ok (.lmul, 1) := by decide +kernel
theorem dX12_digest_172 : decode cX12_digest 172 = .ok (.aload 6, 2) := by decide +kernel
theorem dX12_digest_174 : decode cX12_digest 174 = .ok (.iload 7, 2) := by decide +kernel
theorem dX12_digest_176 : decode cX12_digest 176 = .ok (.iaload, 1) := by decide +kernel
theorem dX12_digest_177 : decode cX12_digest 177 = .ok (.i2l, 1) := by decide +kernel
theorem dX12_digest_178 : decode cX12_digest 178 = .ok (.ladd, 1) := by decide +kernel
theorem dX12_digest_179 : decode cX12_digest 179 = .ok (.lstore_n 1, 1) := by decide +kernel
theorem dX12_digest_180 : decode cX12_digest 180 = .ok (.iinc 7 1, 3) := by decide +kernel
theorem dX12_digest_183 : decode cX12_digest 183 = .ok (.goto (-32), 3) := by decide +kernel
theorem dX12_digest_186 : decode cX12_digest 186 = .ok (.iinc 5 1, 3) := by decide +kernel
theorem dX12_digest_189 : decode cX12_digest 189 = .ok (.goto (-57), 3) := by decide +kernel
theorem dX12_digest_192 : decode cX12_digest 192 = .ok (.iinc 3 1, 3) := by decide +kernel
theorem dX12_digest_195 : decode cX12_digest 195 = .ok (.goto (-111), 3) := by decide +kernel
theorem dX12_digest_198 : decode cX12_digest 198 = .ok (.aload_n 0, 1) := by decide +kernel
theorem dX12_digest_199 : decode cX12_digest 199 = .ok (.invokevirtual 468, 3) := by decide +kernel
theorem dX12_digest_202 : decode cX12_digest 202 = .ok (.iconst 0, 1) := by decide +kernel
theorem dX12_digest_203 : decode cX12_digest 203 = .ok (.istore_n 3, 1) := by decide +kernel
theorem dX12_digest_204 : decode cX12_digest 204 = .ok (.iload_n 3, 1) := by decide +kernel
theorem dX12_digest_205 : decode cX12_digest 205 = .ok (.aload_n 0, 1) := by decide +kernel
theorem dX12_digest_206 : decode cX12_digest 206 = .ok (.getfield 272, 3) := by decide +kernel
theorem dX12_digest_209 : decode cX12_digest 209 = .ok (.if_icmp .ge 35, 3) := by decide +kernel
theorem dX12_digest_212 : decode cX12_digest 212 = .ok (.lload_n 1, 1) := by decide +kernel
theorem dX12_digest_213 : decode cX12_digest 213 = .ok (.ldc2_w 496, 3) := by decide +kernel
theorem dX12_digest_216 : decode cX12_digest 216 = .ok (.lmul, 1) := by decide +kernel
theorem dX12_digest_217 : decode cX12_digest 217 = .ok (.aload_n 0, 1) := by decide +kernel
theorem dX12_digest_218 : decode cX12_digest 218 = .ok (.getfield 96, 3) := by decide +kernel
theorem dX12_digest_221 : decode cX12_digest 221 = .ok (.iload_n 3, 1) := by decide +kernel
theorem dX12_digest_222 : decode cX12_digest 222 = .ok (.iaload, 1) := by decide +kernel
theorem dX12_digest_223 : decode cX12_digest 223 = .ok (.i2l, 1) := by decide +kernel
theorem dX12_digest_224 : decode cX12_digest 224 = .ok (.ladd, 1) := by decide +kernel
theorem dX12_digest_225 : decode cX12_digest 225 = .ok (.ldc2_w 496, 3) := by decide +kernel
theorem dX12_digest_228 : decode cX12_digest 228 = .ok (.lmul, 1) := by decide +kernel
theorem dX12_digest_229 : decode cX12_digest 229 = .ok (.aload_n 0, 1) := by decide +kernel
theorem dX12_digest_230 : decode cX12_digest 230 = .ok (.getfield 99, 3) := by decide +kernel
theorem dX12_digest_233 : decode cX12_digest 233 = .ok (.iload_n 3, 1) := by decide +kernel
theorem dX12_digest_234 : decode cX12_digest 234 = .ok (.iaload, 1) := by decide +kernel
theorem dX12_digest_235 : decode cX12_digest 235 = .ok (.i2l, 1) := by decide +kernel
theorem dX12_digest_236 : decode cX12_digest 236 = .ok (.ladd, 1) := by decide +kernel
theorem dX12_digest_237 : decode cX12_digest 237 = .ok (.lstore_n 1, 1) := by decide +kernel
theorem dX12_digest_238 : decode cX12_digest 238 = .ok (.iinc 3 1, 3) := by decide +kernel
theorem dX12_digest_241 : decode cX12_digest 241 = .ok (.goto (-37), 3) := by decide +kernel
theorem dX12_digest_244 : decode cX12_digest 244 = .ok (.lload_n 1, 1) := by decide +kernel
theorem dX12_digest_245 : decode cX12_digest 245 = .ok (.lreturn, 1) := by decide +kernel
theorem dJ13_bitCount_95d88_0 : decode cJ13_bitCount_95d88 0 = .ok (.lload_n 0, 1) := by decide +kernel
theorem dJ13_bitCount_95d88_1 : decode cJ13_bitCount_95d88 1 = .ok (.lload_n 0, 1) := by decide +kernel
theorem dJ13_bitCount_95d88_2 : decode cJ13_bitCount_95d88 2 = .ok (.iconst 1, 1) := by decide +kernel
theorem dJ13_bitCount_95d88_3 : decode cJ13_bitCount_95d88 3 = .ok (.lushr, 1) := by decide +kernel
theorem dJ13_bitCount_95d88_4 : decode cJ13_bitCount_95d88 4 = .ok (.ldc2_w 314, 3) := by decide +kernel
theorem dJ13_bitCount_95d88_7 : decode cJ13_bitCount_95d88 7 = .ok (.land, 1) := by decide +kernel
theorem dJ13_bitCount_95d88_8 : decode cJ13_bitCount_95d88 8 = .ok (.lsub, 1) := by decide +kernel
theorem dJ13_bitCount_95d88_9 : decode cJ13_bitCount_95d88 9 = .ok (.lstore_n 0, 1) := by decide +kernel
theorem dJ13_bitCount_95d88_10 : decode cJ13_bitCount_95d88 10 = .ok (.lload_n 0, 1) := by decide +kernel
theorem dJ13_bitCount_95d88_11 : decode cJ13_bitCount_95d88 11 = .ok (.ldc2_w 316, 3) := by decide +kernel
theorem dJ13_bitCount_95d88_14 : decode cJ13_bitCount_95d88 14 = .ok (.land, 1) := by decide +kernel
theorem dJ13_bitCount_95d88_15 : decode cJ13_bitCount_95d88 15 = .ok (.lload_n 0, 1) := by decide +kernel
theorem dJ13_bitCount_95d88_16 : decode cJ13_bitCount_95d88 16 = .ok (.iconst 2, 1) := by decide +kernel
theorem dJ13_bitCount_95d88_17 : decode cJ13_bitCount_95d88 17 = .ok (.lushr, 1) := by decide +kernel
theorem dJ13_bitCount_95d88_18 : decode cJ13_bitCount_95d88 18 = .ok (.ldc2_w 316, 3) := by decide +kernel
theorem dJ13_bitCount_95d88_21 : decode cJ13_bitCount_95d88 21 = .ok (.land, 1) := by decide +kernel
theorem dJ13_bitCount_95d88_22 : decode cJ13_bitCount_95d88 22 = .ok (.ladd, 1) := by decide +kernel
theorem dJ13_bitCount_95d88_23 : decode cJ13_bitCount_95d88 23 = .ok (.lstore_n 0, 1) := by decide +kernel
theorem dJ13_bitCount_95d88_24 : decode cJ13_bitCount_95d88 24 = .ok (.lload_n 0, 1) := by decide +kernel
theorem dJ13_bitCount_95d88_25 : decode cJ13_bitCount_95d88 25 = .ok (.lload_n 0, 1) := by decide +kernel
theorem dJ13_bitCount_95d88_26 : decode cJ13_bitCount_95d88 26 = .ok (.iconst 4, 1) := by decide +kernel
theorem dJ13_bitCount_95d88_27 : decode cJ13_bitCount_95d88 27 = .ok (.lushr, 1) := by decide +kernel
theorem dJ13_bitCount_95d88_28 : decode cJ13_bitCount_95d88 28 = .ok (.ladd, 1) := by decide +kernel
theorem dJ13_bitCount_95d88_29 : decode cJ13_bitCount_95d88 29 = .ok (.ldc2_w 318, 3) := by decide +kernel
theorem dJ13_bitCount_95d88_32 : decode cJ13_bitCount_95d88 32 = .ok (.land, 1) := by decide +kernel
theorem dJ13_bitCount_95d88_33 : decode cJ13_bitCount_95d88 33 = .ok (.lstore_n 0, 1) := by decide +kernel
theorem dJ13_bitCount_95d88_34 : decode cJ13_bitCount_95d88 34 = .ok (.lload_n 0, 1) := by decide +kernel
theorem dJ13_bitCount_95d88_35 : decode cJ13_bitCount_95d88 35 = .ok (.lload_n 0, 1) := by decide +kernel
theorem dJ13_bitCount_95d88_36 : decode cJ13_bitCount_95d88 36 = .ok (.bipush 8, 2) := by decide +kernel
theorem dJ13_bitCount_95d88_38 : decode cJ13_bitCount_95d88 38 = .ok (.lushr, 1) := by decide +kernel
theorem dJ13_bitCount_95d88_39 : decode cJ13_bitCount_95d88 39 = .ok (.ladd, 1) := by decide +kernel
theorem dJ13_bitCount_95d88_40 : decode cJ13_bitCount_95d88 40 = .ok (.lstore_n 0, 1) := by decide +kernel
theorem dJ13_bitCount_95d88_41 : decode cJ13_bitCount_95d88 41 = .ok (.lload_n 0, 1) := by decide +kernel
theorem dJ13_bitCount_95d88_42 : decode cJ13_bitCount_95d88 42 = .ok (.lload_n 0, 1) := by decide +kernel
theorem dJ13_bitCount_95d88_43 : decode cJ13_bitCount_95d88 43 = .ok (.bipush 16, 2) := by decide +kernel
theorem dJ13_bitCount_95d88_45 : decode cJ13_bitCount_95d88 45 = .ok (.lushr, 1) := by decide +kernel
theorem dJ13_bitCount_95d88_46 : decode cJ13_bitCount_95d88 46 = .ok (.ladd, 1) := by decide +kernel
theorem dJ13_bitCount_95d88_47 : decode cJ13_bitCount_95d88 47 = .ok (.lstore_n 0, 1) := by decide +kernel
theorem dJ13_bitCount_95d88_48 : decode cJ13_bitCount_95d88 48 = .ok (.lload_n 0, 1) := by decide +kernel
theorem dJ13_bitCount_95d88_49 : decode cJ13_bitCount_95d88 49 = .ok (.lload_n 0, 1) := by decide +kernel
theorem dJ13_bitCount_95d88_50 : decode cJ13_bitCount_95d88 50 = .ok (.bipush 32, 2) := by decide +kernel
theorem dJ13_bitCount_95d88_52 : decode cJ13_bitCount_95d88 52 = .ok (.lushr, 1) := by decide +kernel
theorem dJ13_bitCount_95d88_53 : decode cJ13_bitCount_95d88 53 = .ok (.ladd, 1) := by decide +kernel
theorem dJ13_bitCount_95d88_54 : decode cJ13_bitCount_95d88 54 = .ok (.lstore_n 0, 1) := by decide +kernel
theorem dJ13_bitCount_95d88_55 : decode cJ13_bitCount_95d88 55 = .ok (.lload_n 0, 1) := by decide +kernel
theorem dJ13_bitCount_95d88_56 : decode cJ13_bitCount_95d88 56 = .ok (.l2i, 1) := by decide +kernel
theorem dJ13_bitCount_95d88_57 : decode cJ13_bitCount_95d88 57 = .ok (.bipush 127, 2) := by decide +kernel
theorem dJ13_bitCount_95d88_59 : decode cJ13_bitCount_95d88 59 = .ok (.iand, 1) := by decide +kernel
theorem dJ13_bitCount_95d88_60 : decode cJ13_bitCount_95d88 60 = .ok (.ireturn, 1) := by decide +kernel
theorem dJ0_length_8abf5_0 : decode cJ0_length_8abf5 0 = .ok (.aload_n 0, 1) := by decide +kernel
theorem dJ0_length_8abf5_1 : decode cJ0_length_8abf5 1 = .ok (.getfield 9, 3) := by decide +kernel
theorem dJ0_length_8abf5_4 : decode cJ0_length_8abf5 4 = .ok (.arraylength, 1) := by decide +kernel
theorem dJ0_length_8abf5_5 : decode cJ0_length_8abf5 5 = .ok (.aload_n 0, 1) := by decide +kernel
theorem dJ0_length_8abf5_6 : decode cJ0_length_8abf5 6 = .ok (.invokevirtual 335, 3) := by decide +kernel
theorem dJ0_length_8abf5_9 : decode cJ0_length_8abf5 9 = .ok (.ishr, 1) := by decide +kernel
theorem dJ0_length_8abf5_10 : decode cJ0_length_8abf5 10 = .ok (.ireturn, 1) := by decide +kernel
theorem dJ0_charAt_5068e_0 : decode cJ0_charAt_5068e 0 = .ok (.aload_n 0, 1) := by decide +kernel
theorem dJ0_charAt_5068e_1 : decode cJ0_charAt_5068e 1 = .ok (.invokevirtual 492, 3) := by decide +kernel
theorem dJ0_charAt_5068e_4 : decode cJ0_charAt_5068e 4 = .ok (.ifCond .eq 12, 3) := by decide +kernel
theorem dJ0_charAt_5068e_7 : decode cJ0_charAt_5068e 7 = .ok (.aload_n 0, 1) := by decide +kernel
theorem dJ0_charAt_5068e_8 : decode cJ0_charAt_5068e 8 = .ok (.getfield 9, 3) := by decide +kernel
theorem dJ0_charAt_5068e_11 : decode cJ0_charAt_5068e 11 = .ok (.iload_n 1, 1) := by decide +kernel
theorem dJ0_charAt_5068e_12 : decode cJ0_charAt_5068e 12 = .ok (.invokestatic 495, 3) := by decide +kernel
theorem dJ0_charAt_5068e_15 : decode cJ0_charAt_5068e 15 = .ok (.ireturn, 1) := by decide +kernel
theorem dJ0_charAt_5068e_16 : decode cJ0_charAt_5068e 16 = .ok (.aload_n 0, 1) := by decide +kernel
theorem dJ0_charAt_5068e_17 : decode cJ0_charAt_5068e 17 = .ok (.getfield 9, 3) := by decide +kernel
theorem dJ0_charAt_5068e_20 : decode cJ0_charAt_5068e 20 = .ok (.iload_n 1, 1) := by decide +kernel
theorem dJ0_charAt_5068e_24 : decode cJ0_charAt_5068e 24 = .ok (.ireturn, 1) := by decide +kernel
theorem dJ0_indexOf_0f7a4_0 : decode cJ0_indexOf_0f7a4 0 = .ok (.aload_n 0, 1) := by decide +kernel
theorem dJ0_indexOf_0f7a4_1 : decode cJ0_indexOf_0f7a4 1 = .ok (.iload_n 1, 1) := by decide +kernel
theorem dJ0_indexOf_0f7a4_2 : decode cJ0_indexOf_0f7a4 2 = .ok (.iconst 0, 1) := by decide +kernel
theorem dJ0_indexOf_0f7a4_3 : decode cJ0_indexOf_0f7a4 3 = .ok (.invokevirtual 633, 3) := by decide +kernel
theorem dJ0_indexOf_0f7a4_6 : decode cJ0_indexOf_0f7a4 6 = .ok (.ireturn, 1) := by decide +kernel
theorem dJ0_indexOf_7cf53_0 : decode cJ0_indexOf_7cf53 0 = .ok (.aload_n 0, 1) := by decide +kernel
theorem dJ0_indexOf_7cf53_1 : decode cJ0_indexOf_7cf53 1 = .ok (.invokevirtual 492, 3) := by decide +kernel
theorem dJ0_indexOf_7cf53_4 : decode cJ0_indexOf_7cf53 4 = .ok (.ifCond .eq 19, 3) := by decide +kernel
theorem dJ0_indexOf_7cf53_7 : decode cJ0_indexOf_7cf53 7 = .ok (.aload_n 0, 1) := by decide +kernel
theorem dJ0_indexOf_7cf53_8 : decode cJ0_indexOf_7cf53 8 = .ok (.getfield 9, 3) := by decide +kernel
theorem dJ0_indexOf_7cf53_11 : decode cJ0_indexOf_7cf53 11 = .ok (.iload_n 1, 1) := by decide +kernel
theorem dJ0_indexOf_7cf53_12 : decode cJ0_indexOf_7cf53 12 = .ok (.iload_n 2, 1) := by decide +kernel
theorem dJ0_indexOf_7cf53_13 : decode cJ0_indexOf_7cf53 13 = .ok (.aload_n 0, 1) := by decide +kernel
theorem dJ0_indexOf_7cf53_14 : decode cJ0_indexOf_7cf53 14 = .ok (.invokevirtual 505, 3) := by decide +kernel
theorem dJ0_indexOf_7cf53_17 : decode cJ0_indexOf_7cf53 17 = .ok (.invokestatic 637, 3) := by decide +kernel
theorem dJ0_indexOf_7cf53_20 : decode cJ0_indexOf_7cf53 20 = .ok (.goto 16, 3) := by decide +kernel
theorem dJ0_indexOf_7cf53_23 : decode cJ0_indexOf_7cf53 23 = .ok (.aload_n 0, 1) := by decide +kernel
theorem dJ0_indexOf_7cf53_24 : decode cJ0_indexOf_7cf53 24 = .ok (.getfield 9, 3) := by decide +kernel
theorem dJ0_indexOf_7cf53_27 : decode cJ0_indexOf_7cf53 27 = .ok (.iload_n 1, 1) := by decide +kernel
theorem dJ0_indexOf_7cf53_28 : decode cJ0_indexOf_7cf53 28 = .ok (.iload_n 2, 1) := by decide +kernel
theorem dJ0_indexOf_7cf53_29 : decode cJ0_indexOf_7cf53 29 = .ok (.aload_n 0, 1) := by decide +kernel
theorem dJ0_indexOf_7cf53_30 : decode cJ0_indexOf_7cf53 30 = .ok (.invokevirtual 505, 3) := by decide +kernel
theorem dJ0_indexOf_7cf53_36 : decode cJ0_indexOf_7cf53 36 = .ok (.ireturn, 1) := by decide +kernel
theorem dJ0_coder_7d493_0 : decode cJ0_coder_7d493 0 = .ok (.getstatic 38, 3) := by decide +kernel
theorem dJ0_coder_7d493_3 : decode cJ0_coder_7d493 3 = .ok (.ifCond .eq 10, 3) := by decide +kernel
theorem dJ0_coder_7d493_6 : decode cJ0_coder_7d493 6 = .ok (.aload_n 0, 1) := by decide +kernel
theorem dJ0_coder_7d493_7 : decode cJ0_coder_7d493 7 = .ok (.getfield 15, 3) := by decide +kernel
theorem dJ0_coder_7d493_10 : decode cJ0_coder_7d493 10 = .ok (.goto 4, 3) := by decide +kernel
theorem dJ0_coder_7d493_13 : decode cJ0_coder_7d493 13 = .ok (.iconst 1, 1) := by decide +kernel
theorem dJ0_coder_7d493_14 : decode cJ0_coder_7d493 14 = .ok (.ireturn, 1) := by decide +kernel
theorem dJ0_isLatin1_aae02_0 : decode cJ0_isLatin1_aae02 0 = .ok (.getstatic 38, 3) := by decide +kernel
theorem dJ0_isLatin1_aae02_3 : decode cJ0_isLatin1_aae02 3 = .ok (.ifCond .eq 14, 3) := by decide +kernel
theorem dJ0_isLatin1_aae02_6 : decode cJ0_isLatin1_aae02 6 = .ok (.aload_n 0, 1) := by decide +kernel
theorem dJ0_isLatin1_aae02_7 : decode cJ0_isLatin1_aae02 7 = .ok (.getfield 15, 3) := by decide +kernel
theorem dJ0_isLatin1_aae02_10 : decode cJ0_isLatin1_aae02 10 = .ok (.ifCond .ne 7, 3) := by decide +kernel
theorem dJ0_isLatin1_aae02_13 : decode cJ0_isLatin1_aae02 13 = .ok (.iconst 1, 1) := by decide +kernel
theorem dJ0_isLatin1_aae02_14 : decode cJ0_isLatin1_aae02 14 = .ok (.goto 4, 3) := by decide +kernel
theorem dJ0_isLatin1_aae02_17 : decode cJ0_isLatin1_aae02 17 = .ok (.iconst 0, 1) := by decide +kernel
theorem dJ0_isLatin1_aae02_18 : decode cJ0_isLatin1_aae02 18 = .ok (.ireturn, 1) := by decide +kernel
theorem dJ0_checkIndex_df160_0 : decode cJ0_checkIndex_df160 0 = .ok (.iload_n 0, 1) := by decide +kernel
theorem dJ0_checkIndex_df160_1 : decode cJ0_checkIndex_df160 1 = .ok (.iload_n 1, 1) := by decide +kernel
theorem dJ0_checkIndex_df160_2 : decode cJ0_checkIndex_df160 2 = .ok (.getstatic 1053, 3) := by decide +kernel
theorem dJ0_checkIndex_df160_5 : decode cJ0_checkIndex_df160 5 = .ok (.invokestatic 1059, 3) := by decide +kernel
theorem dJ0_checkIndex_df160_8 : decode cJ0_checkIndex_df160 8 = .ok (.pop, 1) := by decide +kernel
theorem dJ0_checkIndex_df160_9 : decode cJ0_checkIndex_df160 9 = .ok (.return_, 1) := by decide +kernel
theorem dJ1_charAt_3b067_0 : decode cJ1_charAt_3b067 0 = .ok (.iload_n 1, 1) := by decide +kernel
theorem dJ1_charAt_3b067_1 : decode cJ1_charAt_3b067 1 = .ok (.aload_n 0, 1) := by decide +kernel
theorem dJ1_charAt_3b067_2 : decode cJ1_charAt_3b067 2 = .ok (.arraylength, 1) := by decide +kernel
theorem dJ1_charAt_3b067_3 : decode cJ1_charAt_3b067 3 = .ok (.invokestatic 9, 3) := by decide +kernel
theorem dJ1_charAt_3b067_6 : decode cJ1_charAt_3b067 6 = .ok (.aload_n 0, 1) := by decide +kernel
theorem dJ1_charAt_3b067_7 : decode cJ1_charAt_3b067 7 = .ok (.iload_n 1, 1) := by decide +kernel
theorem dJ1_charAt_3b067_8 : decode cJ1_charAt_3b067 8 = .ok (.baload, 1) := by decide +kernel
theorem dJ1_charAt_3b067_9 : decode cJ1_charAt_3b067 9 = .ok (.sipush 255, 3) := by decide +kernel
theorem dJ1_charAt_3b067_12 : decode cJ1_charAt_3b067 12 = .ok (.iand, 1) := by decide +kernel
theorem dJ1_charAt_3b067_13 : decode cJ1_charAt_3b067 13 = .ok (.i2c, 1) := by decide +kernel
theorem dJ1_charAt_3b067_14 : decode cJ1_charAt_3b067 14 = .ok (.ireturn, 1) := by decide +kernel
theorem dJ1_canEncode_9a6ad_0 : decode cJ1_canEncode_9a6ad 0 = .ok (.iload_n 0, 1) := by decide +kernel
theorem dJ1_canEncode_9a6ad_1 : decode cJ1_canEncode_9a6ad 1 = .ok (.ifCond .lt 14, 3) := by decide +kernel
theorem dJ1_canEncode_9a6ad_4 : decode cJ1_canEncode_9a6ad 4 = .ok (.iload_n 0, 1) := by decide +kernel
theorem dJ1_canEncode_9a6ad_5 : decode cJ1_canEncode_9a6ad 5 = .ok (.sipush 255, 3) := by decide +kernel
theorem dJ1_canEncode_9a6ad_8 : decode cJ1_canEncode_9a6ad 8 = .ok (.if_icmp .gt 7, 3) := by decide +kernel
theorem dJ1_canEncode_9a6ad_11 : decode cJ1_canEncode_9a6ad 11 = .ok (.iconst 1, 1) := by decide +kernel
theorem dJ1_canEncode_9a6ad_12 : decode cJ1_canEncode_9a6ad 12 = .ok (.goto 4, 3) := by decide +kernel
theorem dJ1_canEncode_9a6ad_15 : decode cJ1_canEncode_9a6ad 15 = .ok (.iconst 0, 1) := by decide +kernel
theorem dJ1_canEncode_9a6ad_16 : decode cJ1_canEncode_9a6ad 16 = .ok (.ireturn, 1) := by decide +kernel
theorem dJ1_indexOf_4cfef_0 : decode cJ1_indexOf_4cfef 0 = .ok (.iload_n 1, 1) := by decide +kernel
theorem dJ1_indexOf_4cfef_1 : decode cJ1_indexOf_4cfef 1 = .ok (.invokestatic 88, 3) := by decide +kernel
theorem dJ1_indexOf_4cfef_4 : decode cJ1_indexOf_4cfef 4 = .ok (.ifCond .ne 5, 3) := by decide +kernel
theorem dJ1_indexOf_4cfef_7 : decode cJ1_indexOf_4cfef 7 = .ok (.iconst (-1), 1) := by decide +kernel
theorem dJ1_indexOf_4cfef_8 : decode cJ1_indexOf_4cfef 8 = .ok (.ireturn, 1) := by decide +kernel
theorem dJ1_indexOf_4cfef_9 : decode cJ1_indexOf_4cfef 9 = .ok (.iload_n 2, 1) := by decide +kernel
theorem dJ1_indexOf_4cfef_10 : decode cJ1_indexOf_4cfef 10 = .ok (.iconst 0, 1) := by decide +kernel
theorem dJ1_indexOf_4cfef_11 : decode cJ1_indexOf_4cfef 11 = .ok (.invokestatic 92, 3) := by decide +kernel
theorem dJ1_indexOf_4cfef_14 : decode cJ1_indexOf_4cfef 14 = .ok (.istore_n 2, 1) := by decide +kernel
theorem dJ1_indexOf_4cfef_15 : decode cJ1_indexOf_4cfef 15 = .ok (.iload_n 3, 1) := by decide +kernel
theorem dJ1_indexOf_4cfef_16 : decode cJ1_indexOf_4cfef 16 = .ok (.aload_n 0, 1) := by decide +kernel
theorem dJ1_indexOf_4cfef_17 : decode cJ1_indexOf_4cfef 17 = .ok (.arraylength, 1) := by decide +kernel
theorem dJ1_indexOf_4cfef_18 : decode cJ1_indexOf_4cfef 18 = .ok (.invokestatic 38, 3) := by decide +kernel
theorem dJ1_indexOf_4cfef_21 : decode cJ1_indexOf_4cfef 21 = .ok (.istore_n 3, 1) := by decide +kernel
theorem dJ1_indexOf_4cfef_22 : decode cJ1_indexOf_4cfef 22 = .ok (.iload_n 2, 1) := by decide +kernel
theorem dJ1_indexOf_4cfef_23 : decode cJ1_indexOf_4cfef 23 = .ok (.iload_n 3, 1) := by decide +kernel
theorem dJ1_indexOf_4cfef_24 : decode cJ1_indexOf_4cfef 24 = .ok (.if_icmp .lt 5, 3) := by decide +kernel
theorem dJ1_indexOf_4cfef_27 : decode cJ1_indexOf_4cfef 27 = .ok (.iconst (-1), 1) := by decide +kernel
theorem dJ1_indexOf_4cfef_28 : decode cJ1_indexOf_4cfef 28 = .ok (.ireturn, 1) := by decide +kernel
theorem dJ1_indexOf_4cfef_29 : decode cJ1_indexOf_4cfef 29 = .ok (.aload_n 0, 1) := by decide +kernel
theorem dJ1_indexOf_4cfef_30 : decode cJ1_indexOf_4cfef 30 = .ok (.iload_n 1, 1) := by decide +kernel
theorem dJ1_indexOf_4cfef_31 : decode cJ1_indexOf_4cfef 31 = .ok (.iload_n 2, 1) := by decide +kernel
theorem dJ1_indexOf_4cfef_32 : decode cJ1_indexOf_4cfef 32 = .ok (.iload_n 3, 1) := by decide +kernel
theorem dJ1_indexOf_4cfef_33 : decode cJ1_indexOf_4cfef 33 = .ok (.invokestatic 95, 3) := by decide +kernel
theorem dJ1_indexOf_4cfef_36 : decode cJ1_indexOf_4cfef 36 = .ok (.ireturn, 1) := by decide +kernel
theorem dJ1_indexOfChar_4cfef_0 : decode cJ1_indexOfChar_4cfef 0 = .ok (.iload_n 1, 1) := by decide +kernel
theorem dJ1_indexOfChar_4cfef_1 : decode cJ1_indexOfChar_4cfef 1 = .ok (.i2b, 1) := by decide +kernel
theorem dJ1_indexOfChar_4cfef_2 : decode cJ1_indexOfChar_4cfef 2 = .ok (.istore 4, 2) := by decide +kernel
theorem dJ1_indexOfChar_4cfef_4 : decode cJ1_indexOfChar_4cfef 4 = .ok (.iload_n 2, 1) := by decide +kernel
theorem dJ1_indexOfChar_4cfef_5 : decode cJ1_indexOfChar_4cfef 5 = .ok (.istore 5, 2) := by decide +kernel
theorem dJ1_indexOfChar_4cfef_7 : decode cJ1_indexOfChar_4cfef 7 = .ok (.iload 5, 2) := by decide +kernel
theorem dJ1_indexOfChar_4cfef_9 : decode cJ1_indexOfChar_4cfef 9 = .ok (.iload_n 3, 1) := by decide +kernel
theorem dJ1_indexOfChar_4cfef_10 : decode cJ1_indexOfChar_4cfef 10 = .ok (.if_icmp .ge 21, 3) := by decide +kernel
theorem dJ1_indexOfChar_4cfef_13 : decode cJ1_indexOfChar_4cfef 13 = .ok (.aload_n 0, 1) := by decide +kernel
theorem dJ1_indexOfChar_4cfef_14 : decode cJ1_indexOfChar_4cfef 14 = .ok (.iload 5, 2) := by decide +kernel
theorem dJ1_indexOfChar_4cfef_16 : decode cJ1_indexOfChar_4cfef 16 = .ok (.baload, 1) := by decide +kernel
theorem dJ1_indexOfChar_4cfef_17 : decode cJ1_indexOfChar_4cfef 17 = .ok (.iload 4, 2) := by decide +kernel
theorem dJ1_indexOfChar_4cfef_19 : decode cJ1_indexOfChar_4cfef 19 = .ok (.if_icmp .ne 6, 3) := by decide +kernel
theorem dJ1_indexOfChar_4cfef_22 : decode cJ1_indexOfChar_4cfef 22 = .ok (.iload 5, 2) := by decide +kernel
theorem dJ1_indexOfChar_4cfef_24 : decode cJ1_indexOfChar_4cfef 24 = .ok (.ireturn, 1) := by decide +kernel
theorem dJ1_indexOfChar_4cfef_25 : decode cJ1_indexOfChar_4cfef 25 = .ok (.iinc 5 1, 3) := by decide +kernel
theorem dJ1_indexOfChar_4cfef_28 : decode cJ1_indexOfChar_4cfef 28 = .ok (.goto (-21), 3) := by decide +kernel
theorem dJ1_indexOfChar_4cfef_31 : decode cJ1_indexOfChar_4cfef 31 = .ok (.iconst (-1), 1) := by decide +kernel
theorem dJ1_indexOfChar_4cfef_32 : decode cJ1_indexOfChar_4cfef 32 = .ok (.ireturn, 1) := by decide +kernel
theorem dJ3_checkIndex_8e157_0 : decode cJ3_checkIndex_8e157 0 = .ok (.iload_n 0, 1) := by decide +kernel
theorem dJ3_checkIndex_8e157_1 : decode cJ3_checkIndex_8e157 1 = .ok (.ifCond .lt 8, 3) := by decide +kernel
theorem dJ3_checkIndex_8e157_4 : decode cJ3_checkIndex_8e157 4 = .ok (.iload_n 0, 1) := by decide +kernel
theorem dJ3_checkIndex_8e157_5 : decode cJ3_checkIndex_8e157 5 = .ok (.iload_n 1, 1) := by decide +kernel
theorem dJ3_checkIndex_8e157_6 : decode cJ3_checkIndex_8e157 6 = .ok (.if_icmp .lt 10, 3) := by decide +kernel
theorem dJ3_checkIndex_8e157_9 : decode cJ3_checkIndex_8e157 9 = .ok (.aload_n 2, 1) := by decide +kernel
theorem dJ3_checkIndex_8e157_10 : decode cJ3_checkIndex_8e157 10 = .ok (.iload_n 0, 1) := by decide +kernel
theorem dJ3_checkIndex_8e157_11 : decode cJ3_checkIndex_8e157 11 = .ok (.iload_n 1, 1) := by decide +kernel
theorem dJ3_checkIndex_8e157_16 : decode cJ3_checkIndex_8e157 16 = .ok (.iload_n 0, 1) := by decide +kernel
theorem dJ3_checkIndex_8e157_17 : decode cJ3_checkIndex_8e157 17 = .ok (.ireturn, 1) := by decide +kernel
