/-! decode rows (the kit printed them) -/
theorem dX0_init_0 : decode cX0_init 0 = .ok (.aload_n 0, 1) := by decide +kernel
theorem dX0_init_1 : decode cX0_init 1 = .ok (.invokespecial 3, 3) := by decide +kernel
theorem dX0_init_4 : decode cX0_init 4 = .ok (.aload_n 0, 1) := by decide +kernel
theorem dX0_init_5 : decode cX0_init 5 = .ok (.aload_n 1, 1) := by decide +kernel
theorem dX0_init_6 : decode cX0_init 6 = .ok (.putfield 9, 3) := by decide +kernel
theorem dX0_init_9 : decode cX0_init 9 = .ok (.aload_n 0, 1) := by decide +kernel
theorem dX0_init_10 : decode cX0_init 10 = .ok (.aload_n 2, 1) := by decide +kernel
theorem dX0_init_11 : decode cX0_init 11 = .ok (.putfield 15, 3) := by decide +kernel
theorem dX0_init_14 : decode cX0_init 14 = .ok (.aload_n 0, 1) := by decide +kernel
theorem dX0_init_15 : decode cX0_init 15 = .ok (.aload_n 2, 1) := by decide +kernel
theorem dX0_init_16 : decode cX0_init 16 = .ok (.iconst 0, 1) := by decide +kernel
theorem dX0_init_17 : decode cX0_init 17 = .ok (.invokevirtual 19, 3) := by decide +kernel
theorem dX0_init_20 : decode cX0_init 20 = .ok (.putfield 25, 3) := by decide +kernel
theorem dX0_init_23 : decode cX0_init 23 = .ok (.aload_n 0, 1) := by decide +kernel
theorem dX0_init_24 : decode cX0_init 24 = .ok (.aload_n 2, 1) := by decide +kernel
theorem dX0_init_25 : decode cX0_init 25 = .ok (.iconst 0, 1) := by decide +kernel
theorem dX0_init_26 : decode cX0_init 26 = .ok (.invokevirtual 29, 3) := by decide +kernel
theorem dX0_init_29 : decode cX0_init 29 = .ok (.putfield 33, 3) := by decide +kernel
theorem dX0_init_32 : decode cX0_init 32 = .ok (.return_, 1) := by decide +kernel
theorem dX0_translate_0 : decode cX0_translate 0 = .ok (.aload_n 0, 1) := by decide +kernel
theorem dX0_translate_1 : decode cX0_translate 1 = .ok (.iconst 0, 1) := by decide +kernel
theorem dX0_translate_2 : decode cX0_translate 2 = .ok (.putfield 37, 3) := by decide +kernel
theorem dX0_translate_5 : decode cX0_translate 5 = .ok (.aload_n 0, 1) := by decide +kernel
theorem dX0_translate_6 : decode cX0_translate 6 = .ok (.getfield 15, 3) := by decide +kernel
theorem dX0_translate_9 : decode cX0_translate 9 = .ok (.invokevirtual 41, 3) := by decide +kernel
theorem dX0_translate_12 : decode cX0_translate 12 = .ok (.iconst 1, 1) := by decide +kernel
theorem dX0_translate_13 : decode cX0_translate 13 = .ok (.istore_n 1, 1) := by decide +kernel
theorem dX0_translate_14 : decode cX0_translate 14 = .ok (.iconst 0, 1) := by decide +kernel
theorem dX0_translate_15 : decode cX0_translate 15 = .ok (.istore_n 2, 1) := by decide +kernel
theorem dX0_translate_16 : decode cX0_translate 16 = .ok (.iload_n 2, 1) := by decide +kernel
theorem dX0_translate_17 : decode cX0_translate 17 = .ok (.sipush 1500, 3) := by decide +kernel
theorem dX0_translate_20 : decode cX0_translate 20 = .ok (.if_icmp .ge 84, 3) := by decide +kernel
theorem dX0_translate_23 : decode cX0_translate 23 = .ok (.iload_n 1, 1) := by decide +kernel
theorem dX0_translate_24 : decode cX0_translate 24 = .ok (.ifCond .eq 80, 3) := by decide +kernel
theorem dX0_translate_27 : decode cX0_translate 27 = .ok (.aload_n 0, 1) := by decide +kernel
theorem dX0_translate_28 : decode cX0_translate 28 = .ok (.getfield 9, 3) := by decide +kernel
theorem dX0_translate_31 : decode cX0_translate 31 = .ok (.iconst 4, 1) := by decide +kernel
theorem dX0_translate_32 : decode cX0_translate 32 = .ok (.invokevirtual 44, 3) := by decide +kernel
theorem dX0_translate_35 : decode cX0_translate 35 = .ok (.ifCond .eq 10, 3) := by decide +kernel
theorem dX0_translate_38 : decode cX0_translate 38 = .ok (.aload_n 0, 1) := by decide +kernel
theorem dX0_translate_39 : decode cX0_translate 39 = .ok (.invokevirtual 50, 3) := by decide +kernel
theorem dX0_translate_42 : decode cX0_translate 42 = .ok (.goto 29, 3) := by decide +kernel
theorem dX0_translate_45 : decode cX0_translate 45 = .ok (.aload_n 0, 1) := by decide +kernel
theorem dX0_translate_46 : decode cX0_translate 46 = .ok (.getfield 9, 3) := by decide +kernel
theorem dX0_translate_49 : decode cX0_translate 49 = .ok (.bipush 12, 2) := by decide +kernel
theorem dX0_translate_51 : decode cX0_translate 51 = .ok (.invokevirtual 44, 3) := by decide +kernel
theorem dX0_translate_54 : decode cX0_translate 54 = .ok (.ifCond .eq 10, 3) := by decide +kernel
theorem dX0_translate_57 : decode cX0_translate 57 = .ok (.aload_n 0, 1) := by decide +kernel
theorem dX0_translate_58 : decode cX0_translate 58 = .ok (.invokevirtual 53, 3) := by decide +kernel
theorem dX0_translate_61 : decode cX0_translate 61 = .ok (.goto 10, 3) := by decide +kernel
theorem dX0_translate_64 : decode cX0_translate 64 = .ok (.aload_n 0, 1) := by decide +kernel
theorem dX0_translate_65 : decode cX0_translate 65 = .ok (.getfield 9, 3) := by decide +kernel
theorem dX0_translate_68 : decode cX0_translate 68 = .ok (.invokevirtual 56, 3) := by decide +kernel
theorem dX0_translate_71 : decode cX0_translate 71 = .ok (.aload_n 0, 1) := by decide +kernel
theorem dX0_translate_72 : decode cX0_translate 72 = .ok (.getfield 9, 3) := by decide +kernel
theorem dX0_translate_75 : decode cX0_translate 75 = .ok (.getfield 59, 3) := by decide +kernel
theorem dX0_translate_78 : decode cX0_translate 78 = .ok (.ifCond .ne 18, 3) := by decide +kernel
theorem dX0_translate_81 : decode cX0_translate 81 = .ok (.aload_n 0, 1) := by decide +kernel
theorem dX0_translate_82 : decode cX0_translate 82 = .ok (.getfield 9, 3) := by decide +kernel
theorem dX0_translate_85 : decode cX0_translate 85 = .ok (.iconst 0, 1) := by decide +kernel
theorem dX0_translate_86 : decode cX0_translate 86 = .ok (.invokevirtual 44, 3) := by decide +kernel
theorem dX0_translate_89 : decode cX0_translate 89 = .ok (.ifCond .ne 7, 3) := by decide +kernel
theorem dX0_translate_92 : decode cX0_translate 92 = .ok (.iconst 1, 1) := by decide +kernel
theorem dX0_translate_93 : decode cX0_translate 93 = .ok (.goto 4, 3) := by decide +kernel
theorem dX0_translate_96 : decode cX0_translate 96 = .ok (.iconst 0, 1) := by decide +kernel
theorem dX0_translate_97 : decode cX0_translate 97 = .ok (.istore_n 1, 1) := by decide +kernel
theorem dX0_translate_98 : decode cX0_translate 98 = .ok (.iinc 2 1, 3) := by decide +kernel
theorem dX0_translate_101 : decode cX0_translate 101 = .ok (.goto (-85), 3) := by decide +kernel
theorem dX0_translate_104 : decode cX0_translate 104 = .ok (.aload_n 0, 1) := by decide +kernel
theorem dX0_translate_105 : decode cX0_translate 105 = .ok (.getfield 9, 3) := by decide +kernel
theorem dX0_translate_108 : decode cX0_translate 108 = .ok (.getfield 59, 3) := by decide +kernel
theorem dX0_translate_111 : decode cX0_translate 111 = .ok (.ifCond .eq 7, 3) := by decide +kernel
theorem dX0_translate_114 : decode cX0_translate 114 = .ok (.iconst 1, 1) := by decide +kernel
theorem dX0_translate_115 : decode cX0_translate 115 = .ok (.goto 7, 3) := by decide +kernel
theorem dX0_translate_118 : decode cX0_translate 118 = .ok (.aload_n 0, 1) := by decide +kernel
theorem dX0_translate_119 : decode cX0_translate 119 = .ok (.getfield 37, 3) := by decide +kernel
theorem dX0_translate_122 : decode cX0_translate 122 = .ok (.istore_n 2, 1) := by decide +kernel
theorem dX0_translate_123 : decode cX0_translate 123 = .ok (.iload_n 2, 1) := by decide +kernel
theorem dX0_translate_124 : decode cX0_translate 124 = .ok (.ifCond .eq 10, 3) := by decide +kernel
theorem dX0_translate_127 : decode cX0_translate 127 = .ok (.aload_n 0, 1) := by decide +kernel
theorem dX0_translate_128 : decode cX0_translate 128 = .ok (.getfield 15, 3) := by decide +kernel
theorem dX0_translate_131 : decode cX0_translate 131 = .ok (.invokevirtual 41, 3) := by decide +kernel
theorem dX0_translate_134 : decode cX0_translate 134 = .ok (.iload_n 2, 1) := by decide +kernel
theorem dX0_translate_135 : decode cX0_translate 135 = .ok (.ireturn, 1) := by decide +kernel
theorem dX0_errorPlace_0 : decode cX0_errorPlace 0 = .ok (.aload_n 0, 1) := by decide +kernel
theorem dX0_errorPlace_1 : decode cX0_errorPlace 1 = .ok (.getfield 9, 3) := by decide +kernel
theorem dX0_errorPlace_4 : decode cX0_errorPlace 4 = .ok (.getfield 59, 3) := by decide +kernel
theorem dX0_errorPlace_7 : decode cX0_errorPlace 7 = .ok (.ifCond .eq 11, 3) := by decide +kernel
theorem dX0_errorPlace_10 : decode cX0_errorPlace 10 = .ok (.aload_n 0, 1) := by decide +kernel
theorem dX0_errorPlace_11 : decode cX0_errorPlace 11 = .ok (.getfield 9, 3) := by decide +kernel
theorem dX0_errorPlace_14 : decode cX0_errorPlace 14 = .ok (.invokevirtual 63, 3) := by decide +kernel
theorem dX0_errorPlace_17 : decode cX0_errorPlace 17 = .ok (.ireturn, 1) := by decide +kernel
theorem dX0_errorPlace_18 : decode cX0_errorPlace 18 = .ok (.aload_n 0, 1) := by decide +kernel
theorem dX0_errorPlace_19 : decode cX0_errorPlace 19 = .ok (.getfield 37, 3) := by decide +kernel
theorem dX0_errorPlace_22 : decode cX0_errorPlace 22 = .ok (.ifCond .ne 7, 3) := by decide +kernel
theorem dX0_errorPlace_25 : decode cX0_errorPlace 25 = .ok (.iconst (-1), 1) := by decide +kernel
theorem dX0_errorPlace_26 : decode cX0_errorPlace 26 = .ok (.goto 7, 3) := by decide +kernel
theorem dX0_errorPlace_29 : decode cX0_errorPlace 29 = .ok (.aload_n 0, 1) := by decide +kernel
theorem dX0_errorPlace_30 : decode cX0_errorPlace 30 = .ok (.getfield 67, 3) := by decide +kernel
theorem dX0_errorPlace_33 : decode cX0_errorPlace 33 = .ok (.ireturn, 1) := by decide +kernel
theorem dX0_complain_0 : decode cX0_complain 0 = .ok (.aload_n 0, 1) := by decide +kernel
theorem dX0_complain_1 : decode cX0_complain 1 = .ok (.getfield 37, 3) := by decide +kernel
theorem dX0_complain_4 : decode cX0_complain 4 = .ok (.ifCond .ne 13, 3) := by decide +kernel
theorem dX0_complain_7 : decode cX0_complain 7 = .ok (.aload_n 0, 1) := by decide +kernel
theorem dX0_complain_8 : decode cX0_complain 8 = .ok (.iload_n 1, 1) := by decide +kernel
theorem dX0_complain_9 : decode cX0_complain 9 = .ok (.putfield 37, 3) := by decide +kernel
theorem dX0_complain_12 : decode cX0_complain 12 = .ok (.aload_n 0, 1) := by decide +kernel
theorem dX0_complain_13 : decode cX0_complain 13 = .ok (.iload_n 2, 1) := by decide +kernel
theorem dX0_complain_14 : decode cX0_complain 14 = .ok (.putfield 67, 3) := by decide +kernel
theorem dX0_complain_17 : decode cX0_complain 17 = .ok (.return_, 1) := by decide +kernel
theorem dX0_readWhole_0 : decode cX0_readWhole 0 = .ok (.aload_n 0, 1) := by decide +kernel
theorem dX0_readWhole_1 : decode cX0_readWhole 1 = .ok (.getfield 9, 3) := by decide +kernel
theorem dX0_readWhole_4 : decode cX0_readWhole 4 = .ok (.bipush 29, 2) := by decide +kernel
theorem dX0_readWhole_6 : decode cX0_readWhole 6 = .ok (.invokevirtual 70, 3) := by decide +kernel
theorem dX0_readWhole_9 : decode cX0_readWhole 9 = .ok (.istore_n 3, 1) := by decide +kernel
theorem dX0_readWhole_10 : decode cX0_readWhole 10 = .ok (.aload_n 0, 1) := by decide +kernel
theorem dX0_readWhole_11 : decode cX0_readWhole 11 = .ok (.getfield 9, 3) := by decide +kernel
theorem dX0_readWhole_14 : decode cX0_readWhole 14 = .ok (.invokevirtual 63, 3) := by decide +kernel
theorem dX0_readWhole_17 : decode cX0_readWhole 17 = .ok (.istore 4, 2) := by decide +kernel
theorem dX0_readWhole_19 : decode cX0_readWhole 19 = .ok (.aload_n 0, 1) := by decide +kernel
theorem dX0_readWhole_20 : decode cX0_readWhole 20 = .ok (.getfield 9, 3) := by decide +kernel
theorem dX0_readWhole_23 : decode cX0_readWhole 23 = .ok (.invokevirtual 73, 3) := by decide +kernel
theorem dX0_readWhole_26 : decode cX0_readWhole 26 = .ok (.l2i, 1) := by decide +kernel
theorem dX0_readWhole_27 : decode cX0_readWhole 27 = .ok (.istore 5, 2) := by decide +kernel
theorem dX0_readWhole_29 : decode cX0_readWhole 29 = .ok (.aload_n 0, 1) := by decide +kernel
theorem dX0_readWhole_30 : decode cX0_readWhole 30 = .ok (.getfield 9, 3) := by decide +kernel
theorem dX0_readWhole_33 : decode cX0_readWhole 33 = .ok (.iconst 2, 1) := by decide +kernel
theorem dX0_readWhole_34 : decode cX0_readWhole 34 = .ok (.invokevirtual 77, 3) := by decide +kernel
theorem dX0_readWhole_37 : decode cX0_readWhole 37 = .ok (.pop, 1) := by decide +kernel
theorem dX0_readWhole_38 : decode cX0_readWhole 38 = .ok (.iload_n 3, 1) := by decide +kernel
theorem dX0_readWhole_39 : decode cX0_readWhole 39 = .ok (.ifCond .eq 9, 3) := by decide +kernel
theorem dX0_readWhole_42 : decode cX0_readWhole 42 = .ok (.iload 5, 2) := by decide +kernel
theorem dX0_readWhole_44 : decode cX0_readWhole 44 = .ok (.ineg, 1) := by decide +kernel
theorem dX0_readWhole_45 : decode cX0_readWhole 45 = .ok (.goto 5, 3) := by decide +kernel
theorem dX0_readWhole_48 : decode cX0_readWhole 48 = .ok (.iload 5, 2) := by decide +kernel
theorem dX0_readWhole_50 : decode cX0_readWhole 50 = .ok (.istore 6, 2) := by decide +kernel
theorem dX0_readWhole_52 : decode cX0_readWhole 52 = .ok (.iload 6, 2) := by decide +kernel
theorem dX0_readWhole_54 : decode cX0_readWhole 54 = .ok (.iload_n 1, 1) := by decide +kernel
theorem dX0_readWhole_55 : decode cX0_readWhole 55 = .ok (.if_icmp .lt 9, 3) := by decide +kernel
theorem dX0_readWhole_58 : decode cX0_readWhole 58 = .ok (.iload 6, 2) := by decide +kernel
theorem dX0_readWhole_60 : decode cX0_readWhole 60 = .ok (.iload_n 2, 1) := by decide +kernel
theorem dX0_readWhole_61 : decode cX0_readWhole 61 = .ok (.if_icmp .le 10, 3) := by decide +kernel
theorem dX0_readWhole_64 : decode cX0_readWhole 64 = .ok (.aload_n 0, 1) := by decide +kernel
theorem dX0_readWhole_65 : decode cX0_readWhole 65 = .ok (.iconst 5, 1) := by decide +kernel
theorem dX0_readWhole_66 : decode cX0_readWhole 66 = .ok (.iload 4, 2) := by decide +kernel
theorem dX0_readWhole_68 : decode cX0_readWhole 68 = .ok (.invokevirtual 80, 3) := by decide +kernel
theorem dX0_readWhole_71 : decode cX0_readWhole 71 = .ok (.iload 6, 2) := by decide +kernel
theorem dX0_readWhole_73 : decode cX0_readWhole 73 = .ok (.ireturn, 1) := by decide +kernel
theorem dX0_readItemName_0 : decode cX0_readItemName 0 = .ok (.aload_n 0, 1) := by decide +kernel
theorem dX0_readItemName_1 : decode cX0_readItemName 1 = .ok (.getfield 9, 3) := by decide +kernel
theorem dX0_readItemName_4 : decode cX0_readItemName 4 = .ok (.invokevirtual 73, 3) := by decide +kernel
theorem dX0_readItemName_7 : decode cX0_readItemName 7 = .ok (.lstore_n 1, 1) := by decide +kernel
theorem dX0_readItemName_8 : decode cX0_readItemName 8 = .ok (.aload_n 0, 1) := by decide +kernel
theorem dX0_readItemName_9 : decode cX0_readItemName 9 = .ok (.getfield 9, 3) := by decide +kernel
theorem dX0_readItemName_12 : decode cX0_readItemName 12 = .ok (.invokevirtual 63, 3) := by decide +kernel
theorem dX0_readItemName_15 : decode cX0_readItemName 15 = .ok (.istore_n 3, 1) := by decide +kernel
theorem dX0_readItemName_16 : decode cX0_readItemName 16 = .ok (.aload_n 0, 1) := by decide +kernel
theorem dX0_readItemName_17 : decode cX0_readItemName 17 = .ok (.getfield 9, 3) := by decide +kernel
theorem dX0_readItemName_20 : decode cX0_readItemName 20 = .ok (.iconst 3, 1) := by decide +kernel
theorem dX0_readItemName_21 : decode cX0_readItemName 21 = .ok (.invokevirtual 77, 3) := by decide +kernel
theorem dX0_readItemName_24 : decode cX0_readItemName 24 = .ok (.ifCond .eq 20, 3) := by decide +kernel
theorem dX0_readItemName_27 : decode cX0_readItemName 27 = .ok (.aload_n 0, 1) := by decide +kernel
theorem dX0_readItemName_28 : decode cX0_readItemName 28 = .ok (.getfield 15, 3) := by decide +kernel
theorem dX0_readItemName_31 : decode cX0_readItemName 31 = .ok (.lload_n 1, 1) := by decide +kernel
theorem dX0_readItemName_32 : decode cX0_readItemName 32 = .ok (.invokevirtual 84, 3) := by decide +kernel
theorem dX0_readItemName_35 : decode cX0_readItemName 35 = .ok (.ifCond .eq 9, 3) := by decide +kernel
theorem dX0_readItemName_38 : decode cX0_readItemName 38 = .ok (.aload_n 0, 1) := by decide +kernel
theorem dX0_readItemName_39 : decode cX0_readItemName 39 = .ok (.iconst 3, 1) := by decide +kernel
theorem dX0_readItemName_40 : decode cX0_readItemName 40 = .ok (.iload_n 3, 1) := by decide +kernel
theorem dX0_readItemName_41 : decode cX0_readItemName 41 = .ok (.invokevirtual 80, 3) := by decide +kernel
theorem dX0_readItemName_44 : decode cX0_readItemName 44 = .ok (.lload_n 1, 1) := by decide +kernel
theorem dX0_readItemName_45 : decode cX0_readItemName 45 = .ok (.lreturn, 1) := by decide +kernel
theorem dX0_readFun_0 : decode cX0_readFun 0 = .ok (.aload_n 0, 1) := by decide +kernel
theorem dX0_readFun_1 : decode cX0_readFun 1 = .ok (.getfield 15, 3) := by decide +kernel
theorem dX0_readFun_4 : decode cX0_readFun 4 = .ok (.getfield 88, 3) := by decide +kernel
theorem dX0_readFun_7 : decode cX0_readFun 7 = .ok (.bipush 6, 2) := by decide +kernel
theorem dX0_readFun_9 : decode cX0_readFun 9 = .ok (.if_icmp .lt 15, 3) := by decide +kernel
theorem dX0_readFun_12 : decode cX0_readFun 12 = .ok (.aload_n 0, 1) := by decide +kernel
theorem dX0_readFun_13 : decode cX0_readFun 13 = .ok (.iconst 4, 1) := by decide +kernel
theorem dX0_readFun_14 : decode cX0_readFun 14 = .ok (.aload_n 0, 1) := by decide +kernel
theorem dX0_readFun_15 : decode cX0_readFun 15 = .ok (.getfield 9, 3) := by decide +kernel
theorem dX0_readFun_18 : decode cX0_readFun 18 = .ok (.invokevirtual 63, 3) := by decide +kernel
theorem dX0_readFun_21 : decode cX0_readFun 21 = .ok (.invokevirtual 80, 3) := by decide +kernel
theorem dX0_readFun_24 : decode cX0_readFun 24 = .ok (.aload_n 0, 1) := by decide +kernel
theorem dX0_readFun_25 : decode cX0_readFun 25 = .ok (.getfield 9, 3) := by decide +kernel
theorem dX0_readFun_28 : decode cX0_readFun 28 = .ok (.iconst 4, 1) := by decide +kernel
theorem dX0_readFun_29 : decode cX0_readFun 29 = .ok (.invokevirtual 77, 3) := by decide +kernel
theorem dX0_readFun_32 : decode cX0_readFun 32 = .ok (.pop, 1) := by decide +kernel
theorem dX0_readFun_33 : decode cX0_readFun 33 = .ok (.aload_n 0, 1) := by decide +kernel
theorem dX0_readFun_34 : decode cX0_readFun 34 = .ok (.aload_n 0, 1) := by decide +kernel
theorem dX0_readFun_35 : decode cX0_readFun 35 = .ok (.getfield 15, 3) := by decide +kernel
theorem dX0_readFun_38 : decode cX0_readFun 38 = .ok (.invokevirtual 91, 3) := by decide +kernel
theorem dX0_readFun_41 : decode cX0_readFun 41 = .ok (.putfield 25, 3) := by decide +kernel
theorem dX0_readFun_44 : decode cX0_readFun 44 = .ok (.aload_n 0, 1) := by decide +kernel
theorem dX0_readFun_45 : decode cX0_readFun 45 = .ok (.getfield 9, 3) := by decide +kernel
theorem dX0_readFun_48 : decode cX0_readFun 48 = .ok (.invokevirtual 63, 3) := by decide +kernel
theorem dX0_readFun_51 : decode cX0_readFun 51 = .ok (.istore_n 1, 1) := by decide +kernel
theorem dX0_readFun_52 : decode cX0_readFun 52 = .ok (.aload_n 0, 1) := by decide +kernel
theorem dX0_readFun_53 : decode cX0_readFun 53 = .ok (.getfield 25, 3) := by decide +kernel
theorem dX0_readFun_56 : decode cX0_readFun 56 = .ok (.aload_n 0, 1) := by decide +kernel
theorem dX0_readFun_57 : decode cX0_readFun 57 = .ok (.invokevirtual 95, 3) := by decide +kernel
theorem dX0_readFun_60 : decode cX0_readFun 60 = .ok (.putfield 98, 3) := by decide +kernel
theorem dX0_readFun_63 : decode cX0_readFun 63 = .ok (.aload_n 0, 1) := by decide +kernel
theorem dX0_readFun_64 : decode cX0_readFun 64 = .ok (.getfield 9, 3) := by decide +kernel
theorem dX0_readFun_67 : decode cX0_readFun 67 = .ok (.bipush 16, 2) := by decide +kernel
theorem dX0_readFun_69 : decode cX0_readFun 69 = .ok (.invokevirtual 77, 3) := by decide +kernel
theorem dX0_readFun_72 : decode cX0_readFun 72 = .ok (.pop, 1) := by decide +kernel
theorem dX0_readFun_73 : decode cX0_readFun 73 = .ok (.aload_n 0, 1) := by decide +kernel
theorem dX0_readFun_74 : decode cX0_readFun 74 = .ok (.invokevirtual 104, 3) := by decide +kernel
theorem dX0_readFun_77 : decode cX0_readFun 77 = .ok (.iconst 1, 1) := by decide +kernel
theorem dX0_readFun_78 : decode cX0_readFun 78 = .ok (.istore_n 2, 1) := by decide +kernel
theorem dX0_readFun_79 : decode cX0_readFun 79 = .ok (.iload_n 2, 1) := by decide +kernel
theorem dX0_readFun_80 : decode cX0_readFun 80 = .ok (.sipush 1500, 3) := by decide +kernel
theorem dX0_readFun_83 : decode cX0_readFun 83 = .ok (.if_icmp .ge 25, 3) := by decide +kernel
theorem dX0_readFun_86 : decode cX0_readFun 86 = .ok (.aload_n 0, 1) := by decide +kernel
theorem dX0_readFun_87 : decode cX0_readFun 87 = .ok (.getfield 9, 3) := by decide +kernel
theorem dX0_readFun_90 : decode cX0_readFun 90 = .ok (.bipush 18, 2) := by decide +kernel
theorem dX0_readFun_92 : decode cX0_readFun 92 = .ok (.invokevirtual 70, 3) := by decide +kernel
theorem dX0_readFun_95 : decode cX0_readFun 95 = .ok (.ifCond .eq 13, 3) := by decide +kernel
theorem dX0_readFun_98 : decode cX0_readFun 98 = .ok (.aload_n 0, 1) := by decide +kernel
theorem dX0_readFun_99 : decode cX0_readFun 99 = .ok (.invokevirtual 104, 3) := by decide +kernel
theorem dX0_readFun_102 : decode cX0_readFun 102 = .ok (.iinc 2 1, 3) := by decide +kernel
theorem dX0_readFun_105 : decode cX0_readFun 105 = .ok (.goto (-26), 3) := by decide +kernel
theorem dX0_readFun_108 : decode cX0_readFun 108 = .ok (.aload_n 0, 1) := by decide +kernel
theorem dX0_readFun_109 : decode cX0_readFun 109 = .ok (.getfield 9, 3) := by decide +kernel
theorem dX0_readFun_112 : decode cX0_readFun 112 = .ok (.bipush 17, 2) := by decide +kernel
theorem dX0_readFun_114 : decode cX0_readFun 114 = .ok (.invokevirtual 77, 3) := by decide +kernel
theorem dX0_readFun_117 : decode cX0_readFun 117 = .ok (.pop, 1) := by decide +kernel
theorem dX0_readFun_118 : decode cX0_readFun 118 = .ok (.aload_n 0, 1) := by decide +kernel
theorem dX0_readFun_119 : decode cX0_readFun 119 = .ok (.getfield 9, 3) := by decide +kernel
theorem dX0_readFun_122 : decode cX0_readFun 122 = .ok (.bipush 22, 2) := by decide +kernel
theorem dX0_readFun_124 : decode cX0_readFun 124 = .ok (.invokevirtual 77, 3) := by decide +kernel
theorem dX0_readFun_127 : decode cX0_readFun 127 = .ok (.pop, 1) := by decide +kernel
theorem dX0_readFun_128 : decode cX0_readFun 128 = .ok (.aload_n 0, 1) := by decide +kernel
theorem dX0_readFun_129 : decode cX0_readFun 129 = .ok (.invokevirtual 107, 3) := by decide +kernel
theorem dX0_readFun_132 : decode cX0_readFun 132 = .ok (.aload_n 0, 1) := by decide +kernel
theorem dX0_readFun_133 : decode cX0_readFun 133 = .ok (.getfield 25, 3) := by decide +kernel
theorem dX0_readFun_136 : decode cX0_readFun 136 = .ok (.getfield 110, 3) := by decide +kernel
theorem dX0_readFun_139 : decode cX0_readFun 139 = .ok (.sipush 200, 3) := by decide +kernel
theorem dX0_readFun_142 : decode cX0_readFun 142 = .ok (.if_icmp .le 9, 3) := by decide +kernel
theorem dX0_readFun_145 : decode cX0_readFun 145 = .ok (.aload_n 0, 1) := by decide +kernel
theorem dX0_readFun_146 : decode cX0_readFun 146 = .ok (.iconst 4, 1) := by decide +kernel
theorem dX0_readFun_147 : decode cX0_readFun 147 = .ok (.iload_n 1, 1) := by decide +kernel
theorem dX0_readFun_148 : decode cX0_readFun 148 = .ok (.invokevirtual 80, 3) := by decide +kernel
theorem dX0_readFun_151 : decode cX0_readFun 151 = .ok (.aload_n 0, 1) := by decide +kernel
theorem dX0_readFun_152 : decode cX0_readFun 152 = .ok (.getfield 9, 3) := by decide +kernel
theorem dX0_readFun_155 : decode cX0_readFun 155 = .ok (.bipush 19, 2) := by decide +kernel
theorem dX0_readFun_157 : decode cX0_readFun 157 = .ok (.invokevirtual 77, 3) := by decide +kernel
theorem dX0_readFun_160 : decode cX0_readFun 160 = .ok (.pop, 1) := by decide +kernel
theorem dX0_readFun_161 : decode cX0_readFun 161 = .ok (.aload_n 0, 1) := by decide +kernel
theorem dX0_readFun_162 : decode cX0_readFun 162 = .ok (.getfield 15, 3) := by decide +kernel
theorem dX0_readFun_165 : decode cX0_readFun 165 = .ok (.invokevirtual 113, 3) := by decide +kernel
theorem dX0_readFun_168 : decode cX0_readFun 168 = .ok (.return_, 1) := by decide +kernel
theorem dX0_readInput_0 : decode cX0_readInput 0 = .ok (.aload_n 0, 1) := by decide +kernel
theorem dX0_readInput_1 : decode cX0_readInput 1 = .ok (.getfield 9, 3) := by decide +kernel
theorem dX0_readInput_4 : decode cX0_readInput 4 = .ok (.invokevirtual 73, 3) := by decide +kernel
theorem dX0_readInput_7 : decode cX0_readInput 7 = .ok (.lstore_n 1, 1) := by decide +kernel
theorem dX0_readInput_8 : decode cX0_readInput 8 = .ok (.aload_n 0, 1) := by decide +kernel
theorem dX0_readInput_9 : decode cX0_readInput 9 = .ok (.getfield 9, 3) := by decide +kernel
theorem dX0_readInput_12 : decode cX0_readInput 12 = .ok (.invokevirtual 63, 3) := by decide +kernel
theorem dX0_readInput_15 : decode cX0_readInput 15 = .ok (.istore_n 3, 1) := by decide +kernel
theorem dX0_readInput_16 : decode cX0_readInput 16 = .ok (.aload_n 0, 1) := by decide +kernel
theorem dX0_readInput_17 : decode cX0_readInput 17 = .ok (.getfield 9, 3) := by decide +kernel
theorem dX0_readInput_20 : decode cX0_readInput 20 = .ok (.iconst 3, 1) := by decide +kernel
theorem dX0_readInput_21 : decode cX0_readInput 21 = .ok (.invokevirtual 77, 3) := by decide +kernel
theorem dX0_readInput_24 : decode cX0_readInput 24 = .ok (.pop, 1) := by decide +kernel
theorem dX0_readInput_25 : decode cX0_readInput 25 = .ok (.aload_n 0, 1) := by decide +kernel
theorem dX0_readInput_26 : decode cX0_readInput 26 = .ok (.getfield 25, 3) := by decide +kernel
theorem dX0_readInput_29 : decode cX0_readInput 29 = .ok (.getfield 116, 3) := by decide +kernel
theorem dX0_readInput_32 : decode cX0_readInput 32 = .ok (.iconst 3, 1) := by decide +kernel
theorem dX0_readInput_33 : decode cX0_readInput 33 = .ok (.if_icmp .lt 12, 3) := by decide +kernel
theorem dX0_readInput_36 : decode cX0_readInput 36 = .ok (.aload_n 0, 1) := by decide +kernel
theorem dX0_readInput_37 : decode cX0_readInput 37 = .ok (.iconst 4, 1) := by decide +kernel
theorem dX0_readInput_38 : decode cX0_readInput 38 = .ok (.iload_n 3, 1) := by decide +kernel
theorem dX0_readInput_39 : decode cX0_readInput 39 = .ok (.invokevirtual 80, 3) := by decide +kernel
theorem dX0_readInput_42 : decode cX0_readInput 42 = .ok (.goto 20, 3) := by decide +kernel
theorem dX0_readInput_45 : decode cX0_readInput 45 = .ok (.aload_n 0, 1) := by decide +kernel
theorem dX0_readInput_46 : decode cX0_readInput 46 = .ok (.getfield 25, 3) := by decide +kernel
theorem dX0_readInput_49 : decode cX0_readInput 49 = .ok (.lload_n 1, 1) := by decide +kernel
theorem dX0_readInput_50 : decode cX0_readInput 50 = .ok (.invokevirtual 119, 3) := by decide +kernel
theorem dX0_readInput_53 : decode cX0_readInput 53 = .ok (.ifCond .lt 9, 3) := by decide +kernel
theorem dX0_readInput_56 : decode cX0_readInput 56 = .ok (.aload_n 0, 1) := by decide +kernel
theorem dX0_readInput_57 : decode cX0_readInput 57 = .ok (.iconst 3, 1) := by decide +kernel
theorem dX0_readInput_58 : decode cX0_readInput 58 = .ok (.iload_n 3, 1) := by decide +kernel
theorem dX0_readInput_59 : decode cX0_readInput 59 = .ok (.invokevirtual 80, 3) := by decide +kernel
theorem dX0_readInput_62 : decode cX0_readInput 62 = .ok (.aload_n 0, 1) := by decide +kernel
theorem dX0_readInput_63 : decode cX0_readInput 63 = .ok (.getfield 9, 3) := by decide +kernel
theorem dX0_readInput_66 : decode cX0_readInput 66 = .ok (.iconst 5, 1) := by decide +kernel
theorem dX0_readInput_67 : decode cX0_readInput 67 = .ok (.invokevirtual 77, 3) := by decide +kernel
theorem dX0_readInput_70 : decode cX0_readInput 70 = .ok (.pop, 1) := by decide +kernel
theorem dX0_readInput_71 : decode cX0_readInput 71 = .ok (.aload_n 0, 1) := by decide +kernel
theorem dX0_readInput_72 : decode cX0_readInput 72 = .ok (.bipush (-20), 2) := by decide +kernel
theorem dX0_readInput_74 : decode cX0_readInput 74 = .ok (.bipush 20, 2) := by decide +kernel
theorem dX0_readInput_76 : decode cX0_readInput 76 = .ok (.invokevirtual 123, 3) := by decide +kernel
theorem dX0_readInput_79 : decode cX0_readInput 79 = .ok (.istore 4, 2) := by decide +kernel
theorem dX0_readInput_81 : decode cX0_readInput 81 = .ok (.aload_n 0, 1) := by decide +kernel
theorem dX0_readInput_82 : decode cX0_readInput 82 = .ok (.getfield 9, 3) := by decide +kernel
theorem dX0_readInput_85 : decode cX0_readInput 85 = .ok (.bipush 33, 2) := by decide +kernel
theorem dX0_readInput_87 : decode cX0_readInput 87 = .ok (.invokevirtual 77, 3) := by decide +kernel
theorem dX0_readInput_90 : decode cX0_readInput 90 = .ok (.pop, 1) := by decide +kernel
theorem dX0_readInput_91 : decode cX0_readInput 91 = .ok (.aload_n 0, 1) := by decide +kernel
theorem dX0_readInput_92 : decode cX0_readInput 92 = .ok (.iload 4, 2) := by decide +kernel
theorem dX0_readInput_94 : decode cX0_readInput 94 = .ok (.bipush 20, 2) := by decide +kernel
theorem dX0_readInput_96 : decode cX0_readInput 96 = .ok (.invokevirtual 123, 3) := by decide +kernel
theorem dX0_readInput_99 : decode cX0_readInput 99 = .ok (.istore 5, 2) := by decide +kernel
theorem dX0_readInput_101 : decode cX0_readInput 101 = .ok (.aload_n 0, 1) := by decide +kernel
theorem dX0_readInput_102 : decode cX0_readInput 102 = .ok (.getfield 25, 3) := by decide +kernel
theorem dX0_readInput_105 : decode cX0_readInput 105 = .ok (.lload_n 1, 1) := by decide +kernel
theorem dX0_readInput_106 : decode cX0_readInput 106 = .ok (.iload 4, 2) := by decide +kernel
theorem dX0_readInput_108 : decode cX0_readInput 108 = .ok (.iload 5, 2) := by decide +kernel
theorem dX0_readInput_110 : decode cX0_readInput 110 = .ok (.invokevirtual 127, 3) := by decide +kernel
theorem dX0_readInput_113 : decode cX0_readInput 113 = .ok (.return_, 1) := by decide +kernel
theorem dX0_readTable_0 : decode cX0_readTable 0 = .ok (.aload_n 0, 1) := by decide +kernel
theorem dX0_readTable_1 : decode cX0_readTable 1 = .ok (.getfield 15, 3) := by decide +kernel
theorem dX0_readTable_4 : decode cX0_readTable 4 = .ok (.getfield 131, 3) := by decide +kernel
theorem dX0_readTable_7 : decode cX0_readTable 7 = .ok (.bipush 6, 2) := by decide +kernel
theorem dX0_readTable_9 : decode cX0_readTable 9 = .ok (.if_icmp .lt 15, 3) := by decide +kernel
theorem dX0_readTable_12 : decode cX0_readTable 12 = .ok (.aload_n 0, 1) := by decide +kernel
theorem dX0_readTable_13 : decode cX0_readTable 13 = .ok (.iconst 4, 1) := by decide +kernel
theorem dX0_readTable_14 : decode cX0_readTable 14 = .ok (.aload_n 0, 1) := by decide +kernel
theorem dX0_readTable_15 : decode cX0_readTable 15 = .ok (.getfield 9, 3) := by decide +kernel
theorem dX0_readTable_18 : decode cX0_readTable 18 = .ok (.invokevirtual 63, 3) := by decide +kernel
theorem dX0_readTable_21 : decode cX0_readTable 21 = .ok (.invokevirtual 80, 3) := by decide +kernel
theorem dX0_readTable_24 : decode cX0_readTable 24 = .ok (.aload_n 0, 1) := by decide +kernel
theorem dX0_readTable_25 : decode cX0_readTable 25 = .ok (.getfield 9, 3) := by decide +kernel
theorem dX0_readTable_28 : decode cX0_readTable 28 = .ok (.bipush 12, 2) := by decide +kernel
theorem dX0_readTable_30 : decode cX0_readTable 30 = .ok (.invokevirtual 77, 3) := by decide +kernel
theorem dX0_readTable_33 : decode cX0_readTable 33 = .ok (.pop, 1) := by decide +kernel
theorem dX0_readTable_34 : decode cX0_readTable 34 = .ok (.aload_n 0, 1) := by decide +kernel
theorem dX0_readTable_35 : decode cX0_readTable 35 = .ok (.aload_n 0, 1) := by decide +kernel
theorem dX0_readTable_36 : decode cX0_readTable 36 = .ok (.getfield 15, 3) := by decide +kernel
theorem dX0_readTable_39 : decode cX0_readTable 39 = .ok (.invokevirtual 134, 3) := by decide +kernel
theorem dX0_readTable_42 : decode cX0_readTable 42 = .ok (.putfield 33, 3) := by decide +kernel
theorem dX0_readTable_45 : decode cX0_readTable 45 = .ok (.aload_n 0, 1) := by decide +kernel
theorem dX0_readTable_46 : decode cX0_readTable 46 = .ok (.getfield 33, 3) := by decide +kernel
theorem dX0_readTable_49 : decode cX0_readTable 49 = .ok (.aload_n 0, 1) := by decide +kernel
theorem dX0_readTable_50 : decode cX0_readTable 50 = .ok (.invokevirtual 95, 3) := by decide +kernel
theorem dX0_readTable_53 : decode cX0_readTable 53 = .ok (.putfield 138, 3) := by decide +kernel
theorem dX0_readTable_56 : decode cX0_readTable 56 = .ok (.aload_n 0, 1) := by decide +kernel
theorem dX0_readTable_57 : decode cX0_readTable 57 = .ok (.getfield 9, 3) := by decide +kernel
theorem dX0_readTable_60 : decode cX0_readTable 60 = .ok (.bipush 13, 2) := by decide +kernel
theorem dX0_readTable_62 : decode cX0_readTable 62 = .ok (.invokevirtual 77, 3) := by decide +kernel
theorem dX0_readTable_65 : decode cX0_readTable 65 = .ok (.pop, 1) := by decide +kernel
theorem dX0_readTable_66 : decode cX0_readTable 66 = .ok (.aload_n 0, 1) := by decide +kernel
theorem dX0_readTable_67 : decode cX0_readTable 67 = .ok (.getfield 9, 3) := by decide +kernel
theorem dX0_readTable_70 : decode cX0_readTable 70 = .ok (.invokevirtual 63, 3) := by decide +kernel
theorem dX0_readTable_73 : decode cX0_readTable 73 = .ok (.istore_n 1, 1) := by decide +kernel
theorem dX0_readTable_74 : decode cX0_readTable 74 = .ok (.aload_n 0, 1) := by decide +kernel
theorem dX0_readTable_75 : decode cX0_readTable 75 = .ok (.getfield 33, 3) := by decide +kernel
theorem dX0_readTable_78 : decode cX0_readTable 78 = .ok (.aload_n 0, 1) := by decide +kernel
theorem dX0_readTable_79 : decode cX0_readTable 79 = .ok (.getfield 15, 3) := by decide +kernel
theorem dX0_readTable_82 : decode cX0_readTable 82 = .ok (.aload_n 0, 1) := by decide +kernel
theorem dX0_readTable_83 : decode cX0_readTable 83 = .ok (.getfield 9, 3) := by decide +kernel
theorem dX0_readTable_86 : decode cX0_readTable 86 = .ok (.invokevirtual 73, 3) := by decide +kernel
theorem dX0_readTable_89 : decode cX0_readTable 89 = .ok (.invokevirtual 141, 3) := by decide +kernel
theorem dX0_readTable_92 : decode cX0_readTable 92 = .ok (.putfield 144, 3) := by decide +kernel
theorem dX0_readTable_95 : decode cX0_readTable 95 = .ok (.aload_n 0, 1) := by decide +kernel
theorem dX0_readTable_96 : decode cX0_readTable 96 = .ok (.getfield 9, 3) := by decide +kernel
theorem dX0_readTable_99 : decode cX0_readTable 99 = .ok (.iconst 3, 1) := by decide +kernel
theorem dX0_readTable_100 : decode cX0_readTable 100 = .ok (.invokevirtual 77, 3) := by decide +kernel
theorem dX0_readTable_103 : decode cX0_readTable 103 = .ok (.pop, 1) := by decide +kernel
theorem dX0_readTable_104 : decode cX0_readTable 104 = .ok (.aload_n 0, 1) := by decide +kernel
theorem dX0_readTable_105 : decode cX0_readTable 105 = .ok (.getfield 33, 3) := by decide +kernel
theorem dX0_readTable_108 : decode cX0_readTable 108 = .ok (.getfield 144, 3) := by decide +kernel
theorem dX0_readTable_111 : decode cX0_readTable 111 = .ok (.ifCond .ge 9, 3) := by decide +kernel
theorem dX0_readTable_114 : decode cX0_readTable 114 = .ok (.aload_n 0, 1) := by decide +kernel
theorem dX0_readTable_115 : decode cX0_readTable 115 = .ok (.iconst 2, 1) := by decide +kernel
theorem dX0_readTable_116 : decode cX0_readTable 116 = .ok (.iload_n 1, 1) := by decide +kernel
theorem dX0_readTable_117 : decode cX0_readTable 117 = .ok (.invokevirtual 80, 3) := by decide +kernel
theorem dX0_readTable_120 : decode cX0_readTable 120 = .ok (.aload_n 0, 1) := by decide +kernel
theorem dX0_readTable_121 : decode cX0_readTable 121 = .ok (.aload_n 0, 1) := by decide +kernel
theorem dX0_readTable_122 : decode cX0_readTable 122 = .ok (.getfield 15, 3) := by decide +kernel
theorem dX0_readTable_125 : decode cX0_readTable 125 = .ok (.aload_n 0, 1) := by decide +kernel
theorem dX0_readTable_126 : decode cX0_readTable 126 = .ok (.getfield 33, 3) := by decide +kernel
theorem dX0_readTable_129 : decode cX0_readTable 129 = .ok (.getfield 144, 3) := by decide +kernel
theorem dX0_readTable_132 : decode cX0_readTable 132 = .ok (.invokevirtual 19, 3) := by decide +kernel
theorem dX0_readTable_135 : decode cX0_readTable 135 = .ok (.putfield 25, 3) := by decide +kernel
theorem dX0_readTable_138 : decode cX0_readTable 138 = .ok (.aload_n 0, 1) := by decide +kernel
theorem dX0_readTable_139 : decode cX0_readTable 139 = .ok (.getfield 9, 3) := by decide +kernel
theorem dX0_readTable_142 : decode cX0_readTable 142 = .ok (.bipush 20, 2) := by decide +kernel
theorem dX0_readTable_144 : decode cX0_readTable 144 = .ok (.invokevirtual 77, 3) := by decide +kernel
theorem dX0_readTable_147 : decode cX0_readTable 147 = .ok (.pop, 1) := by decide +kernel
theorem dX0_readTable_148 : decode cX0_readTable 148 = .ok (.aload_n 0, 1) := by decide +kernel
theorem dX0_readTable_149 : decode cX0_readTable 149 = .ok (.invokevirtual 146, 3) := by decide +kernel
theorem dX0_readTable_152 : decode cX0_readTable 152 = .ok (.iconst 1, 1) := by decide +kernel
theorem dX0_readTable_153 : decode cX0_readTable 153 = .ok (.istore_n 2, 1) := by decide +kernel
theorem dX0_readTable_154 : decode cX0_readTable 154 = .ok (.iload_n 2, 1) := by decide +kernel
theorem dX0_readTable_155 : decode cX0_readTable 155 = .ok (.sipush 1500, 3) := by decide +kernel
theorem dX0_readTable_158 : decode cX0_readTable 158 = .ok (.if_icmp .ge 25, 3) := by decide +kernel
theorem dX0_readTable_161 : decode cX0_readTable 161 = .ok (.aload_n 0, 1) := by decide +kernel
theorem dX0_readTable_162 : decode cX0_readTable 162 = .ok (.getfield 9, 3) := by decide +kernel
theorem dX0_readTable_165 : decode cX0_readTable 165 = .ok (.bipush 21, 2) := by decide +kernel
theorem dX0_readTable_167 : decode cX0_readTable 167 = .ok (.invokevirtual 70, 3) := by decide +kernel
theorem dX0_readTable_170 : decode cX0_readTable 170 = .ok (.ifCond .eq 13, 3) := by decide +kernel
theorem dX0_readTable_173 : decode cX0_readTable 173 = .ok (.aload_n 0, 1) := by decide +kernel
theorem dX0_readTable_174 : decode cX0_readTable 174 = .ok (.invokevirtual 146, 3) := by decide +kernel
theorem dX0_readTable_177 : decode cX0_readTable 177 = .ok (.iinc 2 1, 3) := by decide +kernel
theorem dX0_readTable_180 : decode cX0_readTable 180 = .ok (.goto (-26), 3) := by decide +kernel
theorem dX0_readTable_183 : decode cX0_readTable 183 = .ok (.aload_n 0, 1) := by decide +kernel
theorem dX0_readTable_184 : decode cX0_readTable 184 = .ok (.getfield 9, 3) := by decide +kernel
theorem dX0_readTable_187 : decode cX0_readTable 187 = .ok (.bipush 19, 2) := by decide +kernel
theorem dX0_readTable_189 : decode cX0_readTable 189 = .ok (.invokevirtual 77, 3) := by decide +kernel
theorem dX0_readTable_192 : decode cX0_readTable 192 = .ok (.pop, 1) := by decide +kernel
theorem dX0_readTable_193 : decode cX0_readTable 193 = .ok (.aload_n 0, 1) := by decide +kernel
theorem dX0_readTable_194 : decode cX0_readTable 194 = .ok (.getfield 15, 3) := by decide +kernel
theorem dX0_readTable_197 : decode cX0_readTable 197 = .ok (.invokevirtual 149, 3) := by decide +kernel
theorem dX0_readTable_200 : decode cX0_readTable 200 = .ok (.return_, 1) := by decide +kernel
theorem dX0_readRow_0 : decode cX0_readRow 0 = .ok (.aload_n 0, 1) := by decide +kernel
theorem dX0_readRow_1 : decode cX0_readRow 1 = .ok (.getfield 9, 3) := by decide +kernel
theorem dX0_readRow_4 : decode cX0_readRow 4 = .ok (.invokevirtual 63, 3) := by decide +kernel
theorem dX0_readRow_7 : decode cX0_readRow 7 = .ok (.istore_n 1, 1) := by decide +kernel
theorem dX0_readRow_8 : decode cX0_readRow 8 = .ok (.aload_n 0, 1) := by decide +kernel
theorem dX0_readRow_9 : decode cX0_readRow 9 = .ok (.getfield 33, 3) := by decide +kernel
theorem dX0_readRow_12 : decode cX0_readRow 12 = .ok (.getfield 152, 3) := by decide +kernel
theorem dX0_readRow_15 : decode cX0_readRow 15 = .ok (.bipush 12, 2) := by decide +kernel
theorem dX0_readRow_17 : decode cX0_readRow 17 = .ok (.if_icmp .lt 9, 3) := by decide +kernel
theorem dX0_readRow_20 : decode cX0_readRow 20 = .ok (.aload_n 0, 1) := by decide +kernel
theorem dX0_readRow_21 : decode cX0_readRow 21 = .ok (.iconst 4, 1) := by decide +kernel
theorem dX0_readRow_22 : decode cX0_readRow 22 = .ok (.iload_n 1, 1) := by decide +kernel
theorem dX0_readRow_23 : decode cX0_readRow 23 = .ok (.invokevirtual 80, 3) := by decide +kernel
theorem dX0_readRow_26 : decode cX0_readRow 26 = .ok (.aload_n 0, 1) := by decide +kernel
theorem dX0_readRow_27 : decode cX0_readRow 27 = .ok (.getfield 33, 3) := by decide +kernel
theorem dX0_readRow_30 : decode cX0_readRow 30 = .ok (.invokevirtual 155, 3) := by decide +kernel
theorem dX0_readRow_33 : decode cX0_readRow 33 = .ok (.astore_n 2, 1) := by decide +kernel
theorem dX0_readRow_34 : decode cX0_readRow 34 = .ok (.aload_n 0, 1) := by decide +kernel
theorem dX0_readRow_35 : decode cX0_readRow 35 = .ok (.aload_n 2, 1) := by decide +kernel
theorem dX0_readRow_36 : decode cX0_readRow 36 = .ok (.iconst 0, 1) := by decide +kernel
theorem dX0_readRow_37 : decode cX0_readRow 37 = .ok (.invokevirtual 159, 3) := by decide +kernel
theorem dX0_readRow_40 : decode cX0_readRow 40 = .ok (.iconst 1, 1) := by decide +kernel
theorem dX0_readRow_41 : decode cX0_readRow 41 = .ok (.istore_n 3, 1) := by decide +kernel
theorem dX0_readRow_42 : decode cX0_readRow 42 = .ok (.iload_n 3, 1) := by decide +kernel
theorem dX0_readRow_43 : decode cX0_readRow 43 = .ok (.sipush 1500, 3) := by decide +kernel
theorem dX0_readRow_46 : decode cX0_readRow 46 = .ok (.if_icmp .ge 27, 3) := by decide +kernel
theorem dX0_readRow_49 : decode cX0_readRow 49 = .ok (.aload_n 0, 1) := by decide +kernel
theorem dX0_readRow_50 : decode cX0_readRow 50 = .ok (.getfield 9, 3) := by decide +kernel
theorem dX0_readRow_53 : decode cX0_readRow 53 = .ok (.bipush 18, 2) := by decide +kernel
theorem dX0_readRow_55 : decode cX0_readRow 55 = .ok (.invokevirtual 70, 3) := by decide +kernel
theorem dX0_readRow_58 : decode cX0_readRow 58 = .ok (.ifCond .eq 15, 3) := by decide +kernel
theorem dX0_readRow_61 : decode cX0_readRow 61 = .ok (.aload_n 0, 1) := by decide +kernel
theorem dX0_readRow_62 : decode cX0_readRow 62 = .ok (.aload_n 2, 1) := by decide +kernel
theorem dX0_readRow_63 : decode cX0_readRow 63 = .ok (.iload_n 3, 1) := by decide +kernel
theorem dX0_readRow_64 : decode cX0_readRow 64 = .ok (.invokevirtual 159, 3) := by decide +kernel
theorem dX0_readRow_67 : decode cX0_readRow 67 = .ok (.iinc 3 1, 3) := by decide +kernel
theorem dX0_readRow_70 : decode cX0_readRow 70 = .ok (.goto (-28), 3) := by decide +kernel
theorem dX0_readRow_73 : decode cX0_readRow 73 = .ok (.iload_n 3, 1) := by decide +kernel
theorem dX0_readRow_74 : decode cX0_readRow 74 = .ok (.aload_n 0, 1) := by decide +kernel
theorem dX0_readRow_75 : decode cX0_readRow 75 = .ok (.getfield 25, 3) := by decide +kernel
theorem dX0_readRow_78 : decode cX0_readRow 78 = .ok (.getfield 116, 3) := by decide +kernel
theorem dX0_readRow_81 : decode cX0_readRow 81 = .ok (.if_icmp .eq 10, 3) := by decide +kernel
theorem dX0_readRow_84 : decode cX0_readRow 84 = .ok (.aload_n 0, 1) := by decide +kernel
theorem dX0_readRow_85 : decode cX0_readRow 85 = .ok (.bipush 6, 2) := by decide +kernel
theorem dX0_readRow_87 : decode cX0_readRow 87 = .ok (.iload_n 1, 1) := by decide +kernel
theorem dX0_readRow_88 : decode cX0_readRow 88 = .ok (.invokevirtual 80, 3) := by decide +kernel
theorem dX0_readRow_91 : decode cX0_readRow 91 = .ok (.aload_n 0, 1) := by decide +kernel
theorem dX0_readRow_92 : decode cX0_readRow 92 = .ok (.getfield 9, 3) := by decide +kernel
theorem dX0_readRow_95 : decode cX0_readRow 95 = .ok (.bipush 20, 2) := by decide +kernel
theorem dX0_readRow_97 : decode cX0_readRow 97 = .ok (.invokevirtual 77, 3) := by decide +kernel
theorem dX0_readRow_100 : decode cX0_readRow 100 = .ok (.pop, 1) := by decide +kernel
theorem dX0_readRow_101 : decode cX0_readRow 101 = .ok (.aload_n 0, 1) := by decide +kernel
theorem dX0_readRow_102 : decode cX0_readRow 102 = .ok (.aload_n 2, 1) := by decide +kernel
theorem dX0_readRow_103 : decode cX0_readRow 103 = .ok (.invokevirtual 163, 3) := by decide +kernel
theorem dX0_readRow_106 : decode cX0_readRow 106 = .ok (.aload_n 0, 1) := by decide +kernel
theorem dX0_readRow_107 : decode cX0_readRow 107 = .ok (.getfield 33, 3) := by decide +kernel
theorem dX0_readRow_110 : decode cX0_readRow 110 = .ok (.invokevirtual 167, 3) := by decide +kernel
theorem dX0_readRow_113 : decode cX0_readRow 113 = .ok (.aload_n 0, 1) := by decide +kernel
theorem dX0_readRow_114 : decode cX0_readRow 114 = .ok (.getfield 33, 3) := by decide +kernel
theorem dX0_readRow_117 : decode cX0_readRow 117 = .ok (.getfield 170, 3) := by decide +kernel
theorem dX0_readRow_120 : decode cX0_readRow 120 = .ok (.bipush 100, 2) := by decide +kernel
theorem dX0_readRow_122 : decode cX0_readRow 122 = .ok (.if_icmp .le 9, 3) := by decide +kernel
theorem dX0_readRow_125 : decode cX0_readRow 125 = .ok (.aload_n 0, 1) := by decide +kernel
theorem dX0_readRow_126 : decode cX0_readRow 126 = .ok (.iconst 4, 1) := by decide +kernel
theorem dX0_readRow_127 : decode cX0_readRow 127 = .ok (.iload_n 1, 1) := by decide +kernel
theorem dX0_readRow_128 : decode cX0_readRow 128 = .ok (.invokevirtual 80, 3) := by decide +kernel
theorem dX0_readRow_131 : decode cX0_readRow 131 = .ok (.return_, 1) := by decide +kernel
theorem dX0_readCell_0 : decode cX0_readCell 0 = .ok (.iload_n 2, 1) := by decide +kernel
theorem dX0_readCell_1 : decode cX0_readCell 1 = .ok (.aload_n 0, 1) := by decide +kernel
theorem dX0_readCell_2 : decode cX0_readCell 2 = .ok (.getfield 25, 3) := by decide +kernel
theorem dX0_readCell_5 : decode cX0_readCell 5 = .ok (.getfield 116, 3) := by decide +kernel
theorem dX0_readCell_8 : decode cX0_readCell 8 = .ok (.if_icmp .ge 7, 3) := by decide +kernel
theorem dX0_readCell_11 : decode cX0_readCell 11 = .ok (.iconst 1, 1) := by decide +kernel
theorem dX0_readCell_12 : decode cX0_readCell 12 = .ok (.goto 4, 3) := by decide +kernel
theorem dX0_readCell_15 : decode cX0_readCell 15 = .ok (.iconst 0, 1) := by decide +kernel
theorem dX0_readCell_16 : decode cX0_readCell 16 = .ok (.istore_n 3, 1) := by decide +kernel
theorem dX0_readCell_17 : decode cX0_readCell 17 = .ok (.iload_n 3, 1) := by decide +kernel
theorem dX0_readCell_18 : decode cX0_readCell 18 = .ok (.ifCond .eq 17, 3) := by decide +kernel
theorem dX0_readCell_21 : decode cX0_readCell 21 = .ok (.aload_n 0, 1) := by decide +kernel
theorem dX0_readCell_22 : decode cX0_readCell 22 = .ok (.getfield 25, 3) := by decide +kernel
theorem dX0_readCell_25 : decode cX0_readCell 25 = .ok (.getfield 173, 3) := by decide +kernel
theorem dX0_readCell_28 : decode cX0_readCell 28 = .ok (.iload_n 2, 1) := by decide +kernel
theorem dX0_readCell_29 : decode cX0_readCell 29 = .ok (.invokevirtual 177, 3) := by decide +kernel
theorem dX0_readCell_32 : decode cX0_readCell 32 = .ok (.goto 6, 3) := by decide +kernel
theorem dX0_readCell_35 : decode cX0_readCell 35 = .ok (.sipush (-9999), 3) := by decide +kernel
theorem dX0_readCell_38 : decode cX0_readCell 38 = .ok (.istore 4, 2) := by decide +kernel
theorem dX0_readCell_40 : decode cX0_readCell 40 = .ok (.iload_n 3, 1) := by decide +kernel
theorem dX0_readCell_41 : decode cX0_readCell 41 = .ok (.ifCond .eq 17, 3) := by decide +kernel
theorem dX0_readCell_44 : decode cX0_readCell 44 = .ok (.aload_n 0, 1) := by decide +kernel
theorem dX0_readCell_45 : decode cX0_readCell 45 = .ok (.getfield 25, 3) := by decide +kernel
theorem dX0_readCell_48 : decode cX0_readCell 48 = .ok (.getfield 173, 3) := by decide +kernel
theorem dX0_readCell_51 : decode cX0_readCell 51 = .ok (.iload_n 2, 1) := by decide +kernel
theorem dX0_readCell_52 : decode cX0_readCell 52 = .ok (.invokevirtual 183, 3) := by decide +kernel
theorem dX0_readCell_55 : decode cX0_readCell 55 = .ok (.goto 6, 3) := by decide +kernel
theorem dX0_readCell_58 : decode cX0_readCell 58 = .ok (.sipush 9999, 3) := by decide +kernel
theorem dX0_readCell_61 : decode cX0_readCell 61 = .ok (.istore 5, 2) := by decide +kernel
theorem dX0_readCell_63 : decode cX0_readCell 63 = .ok (.aload_n 0, 1) := by decide +kernel
theorem dX0_readCell_64 : decode cX0_readCell 64 = .ok (.getfield 9, 3) := by decide +kernel
theorem dX0_readCell_67 : decode cX0_readCell 67 = .ok (.bipush 30, 2) := by decide +kernel
theorem dX0_readCell_69 : decode cX0_readCell 69 = .ok (.invokevirtual 70, 3) := by decide +kernel
theorem dX0_readCell_72 : decode cX0_readCell 72 = .ok (.ifCond .eq 16, 3) := by decide +kernel
theorem dX0_readCell_75 : decode cX0_readCell 75 = .ok (.aload_n 1, 1) := by decide +kernel
theorem dX0_readCell_76 : decode cX0_readCell 76 = .ok (.getfield 186, 3) := by decide +kernel
theorem dX0_readCell_79 : decode cX0_readCell 79 = .ok (.iload_n 2, 1) := by decide +kernel
theorem dX0_readCell_80 : decode cX0_readCell 80 = .ok (.iload 4, 2) := by decide +kernel
theorem dX0_readCell_82 : decode cX0_readCell 82 = .ok (.iload 5, 2) := by decide +kernel
theorem dX0_readCell_84 : decode cX0_readCell 84 = .ok (.invokevirtual 189, 3) := by decide +kernel
theorem dX0_readCell_87 : decode cX0_readCell 87 = .ok (.return_, 1) := by decide +kernel
theorem dX0_readCell_88 : decode cX0_readCell 88 = .ok (.aload_n 0, 1) := by decide +kernel
theorem dX0_readCell_89 : decode cX0_readCell 89 = .ok (.iload 4, 2) := by decide +kernel
theorem dX0_readCell_91 : decode cX0_readCell 91 = .ok (.iload 5, 2) := by decide +kernel
theorem dX0_readCell_93 : decode cX0_readCell 93 = .ok (.invokevirtual 123, 3) := by decide +kernel
theorem dX0_readCell_96 : decode cX0_readCell 96 = .ok (.istore 6, 2) := by decide +kernel
theorem dX0_readCell_98 : decode cX0_readCell 98 = .ok (.aload_n 0, 1) := by decide +kernel
theorem dX0_readCell_99 : decode cX0_readCell 99 = .ok (.getfield 9, 3) := by decide +kernel
theorem dX0_readCell_102 : decode cX0_readCell 102 = .ok (.bipush 33, 2) := by decide +kernel
theorem dX0_readCell_104 : decode cX0_readCell 104 = .ok (.invokevirtual 70, 3) := by decide +kernel
theorem dX0_readCell_107 : decode cX0_readCell 107 = .ok (.ifCond .eq 23, 3) := by decide +kernel
theorem dX0_readCell_110 : decode cX0_readCell 110 = .ok (.aload_n 0, 1) := by decide +kernel
theorem dX0_readCell_111 : decode cX0_readCell 111 = .ok (.iload_n 3, 1) := by decide +kernel
theorem dX0_readCell_112 : decode cX0_readCell 112 = .ok (.ifCond .eq 8, 3) := by decide +kernel
theorem dX0_readCell_115 : decode cX0_readCell 115 = .ok (.iload 6, 2) := by decide +kernel
theorem dX0_readCell_117 : decode cX0_readCell 117 = .ok (.goto 5, 3) := by decide +kernel
theorem dX0_readCell_120 : decode cX0_readCell 120 = .ok (.iload 4, 2) := by decide +kernel
theorem dX0_readCell_122 : decode cX0_readCell 122 = .ok (.iload 5, 2) := by decide +kernel
theorem dX0_readCell_124 : decode cX0_readCell 124 = .ok (.invokevirtual 123, 3) := by decide +kernel
theorem dX0_readCell_127 : decode cX0_readCell 127 = .ok (.goto 5, 3) := by decide +kernel
theorem dX0_readCell_130 : decode cX0_readCell 130 = .ok (.iload 6, 2) := by decide +kernel
theorem dX0_readCell_132 : decode cX0_readCell 132 = .ok (.istore 7, 2) := by decide +kernel
theorem dX0_readCell_134 : decode cX0_readCell 134 = .ok (.aload_n 1, 1) := by decide +kernel
theorem dX0_readCell_135 : decode cX0_readCell 135 = .ok (.getfield 186, 3) := by decide +kernel
theorem dX0_readCell_138 : decode cX0_readCell 138 = .ok (.iload_n 2, 1) := by decide +kernel
theorem dX0_readCell_139 : decode cX0_readCell 139 = .ok (.iload 6, 2) := by decide +kernel
theorem dX0_readCell_141 : decode cX0_readCell 141 = .ok (.iload 7, 2) := by decide +kernel
theorem dX0_readCell_143 : decode cX0_readCell 143 = .ok (.invokevirtual 189, 3) := by decide +kernel
theorem dX0_readCell_146 : decode cX0_readCell 146 = .ok (.return_, 1) := by decide +kernel
theorem dX0_readResult_0 : decode cX0_readResult 0 = .ok (.aload_n 0, 1) := by decide +kernel
theorem dX0_readResult_1 : decode cX0_readResult 1 = .ok (.getfield 9, 3) := by decide +kernel
theorem dX0_readResult_4 : decode cX0_readResult 4 = .ok (.bipush 22, 2) := by decide +kernel
theorem dX0_readResult_6 : decode cX0_readResult 6 = .ok (.bipush 27, 2) := by decide +kernel
theorem dX0_readResult_8 : decode cX0_readResult 8 = .ok (.invokevirtual 193, 3) := by decide +kernel
theorem dX0_readResult_11 : decode cX0_readResult 11 = .ok (.istore_n 2, 1) := by decide +kernel
theorem dX0_readResult_12 : decode cX0_readResult 12 = .ok (.aload_n 0, 1) := by decide +kernel
theorem dX0_readResult_13 : decode cX0_readResult 13 = .ok (.getfield 9, 3) := by decide +kernel
theorem dX0_readResult_16 : decode cX0_readResult 16 = .ok (.iload_n 2, 1) := by decide +kernel
theorem dX0_readResult_17 : decode cX0_readResult 17 = .ok (.invokevirtual 70, 3) := by decide +kernel
theorem dX0_readResult_20 : decode cX0_readResult 20 = .ok (.ifCond .eq 26, 3) := by decide +kernel
theorem dX0_readResult_23 : decode cX0_readResult 23 = .ok (.aload_n 1, 1) := by decide +kernel
theorem dX0_readResult_24 : decode cX0_readResult 24 = .ok (.iload_n 2, 1) := by decide +kernel
theorem dX0_readResult_25 : decode cX0_readResult 25 = .ok (.putfield 196, 3) := by decide +kernel
theorem dX0_readResult_28 : decode cX0_readResult 28 = .ok (.aload_n 1, 1) := by decide +kernel
theorem dX0_readResult_29 : decode cX0_readResult 29 = .ok (.aload_n 0, 1) := by decide +kernel
theorem dX0_readResult_30 : decode cX0_readResult 30 = .ok (.sipush (-9999), 3) := by decide +kernel
theorem dX0_readResult_33 : decode cX0_readResult 33 = .ok (.sipush 9999, 3) := by decide +kernel
theorem dX0_readResult_36 : decode cX0_readResult 36 = .ok (.invokevirtual 123, 3) := by decide +kernel
theorem dX0_readResult_39 : decode cX0_readResult 39 = .ok (.i2l, 1) := by decide +kernel
theorem dX0_readResult_40 : decode cX0_readResult 40 = .ok (.putfield 199, 3) := by decide +kernel
theorem dX0_readResult_43 : decode cX0_readResult 43 = .ok (.goto 40, 3) := by decide +kernel
theorem dX0_readResult_46 : decode cX0_readResult 46 = .ok (.aload_n 0, 1) := by decide +kernel
theorem dX0_readResult_47 : decode cX0_readResult 47 = .ok (.getfield 9, 3) := by decide +kernel
theorem dX0_readResult_50 : decode cX0_readResult 50 = .ok (.bipush 14, 2) := by decide +kernel
theorem dX0_readResult_52 : decode cX0_readResult 52 = .ok (.invokevirtual 70, 3) := by decide +kernel
theorem dX0_readResult_55 : decode cX0_readResult 55 = .ok (.ifCond .eq 12, 3) := by decide +kernel
theorem dX0_readResult_58 : decode cX0_readResult 58 = .ok (.aload_n 1, 1) := by decide +kernel
theorem dX0_readResult_59 : decode cX0_readResult 59 = .ok (.bipush 14, 2) := by decide +kernel
theorem dX0_readResult_61 : decode cX0_readResult 61 = .ok (.putfield 196, 3) := by decide +kernel
theorem dX0_readResult_64 : decode cX0_readResult 64 = .ok (.goto 19, 3) := by decide +kernel
theorem dX0_readResult_67 : decode cX0_readResult 67 = .ok (.aload_n 0, 1) := by decide +kernel
theorem dX0_readResult_68 : decode cX0_readResult 68 = .ok (.getfield 9, 3) := by decide +kernel
theorem dX0_readResult_71 : decode cX0_readResult 71 = .ok (.bipush 15, 2) := by decide +kernel
theorem dX0_readResult_73 : decode cX0_readResult 73 = .ok (.invokevirtual 77, 3) := by decide +kernel
theorem dX0_readResult_76 : decode cX0_readResult 76 = .ok (.pop, 1) := by decide +kernel
theorem dX0_readResult_77 : decode cX0_readResult 77 = .ok (.aload_n 1, 1) := by decide +kernel
theorem dX0_readResult_78 : decode cX0_readResult 78 = .ok (.bipush 15, 2) := by decide +kernel
theorem dX0_readResult_80 : decode cX0_readResult 80 = .ok (.putfield 196, 3) := by decide +kernel
theorem dX0_readResult_83 : decode cX0_readResult 83 = .ok (.return_, 1) := by decide +kernel
theorem dX0_readBody_0 : decode cX0_readBody 0 = .ok (.aload_n 0, 1) := by decide +kernel
theorem dX0_readBody_1 : decode cX0_readBody 1 = .ok (.getfield 9, 3) := by decide +kernel
theorem dX0_readBody_4 : decode cX0_readBody 4 = .ok (.getfield 202, 3) := by decide +kernel
theorem dX0_readBody_7 : decode cX0_readBody 7 = .ok (.istore_n 1, 1) := by decide +kernel
theorem dX0_readBody_8 : decode cX0_readBody 8 = .ok (.aload_n 0, 1) := by decide +kernel
theorem dX0_readBody_9 : decode cX0_readBody 9 = .ok (.getfield 9, 3) := by decide +kernel
theorem dX0_readBody_12 : decode cX0_readBody 12 = .ok (.bipush 50, 2) := by decide +kernel
theorem dX0_readBody_14 : decode cX0_readBody 14 = .ok (.invokevirtual 205, 3) := by decide +kernel
theorem dX0_readBody_17 : decode cX0_readBody 17 = .ok (.aload_n 0, 1) := by decide +kernel
theorem dX0_readBody_18 : decode cX0_readBody 18 = .ok (.iconst 0, 1) := by decide +kernel
theorem dX0_readBody_19 : decode cX0_readBody 19 = .ok (.invokevirtual 209, 3) := by decide +kernel
theorem dX0_readBody_22 : decode cX0_readBody 22 = .ok (.aload_n 0, 1) := by decide +kernel
theorem dX0_readBody_23 : decode cX0_readBody 23 = .ok (.getfield 9, 3) := by decide +kernel
theorem dX0_readBody_26 : decode cX0_readBody 26 = .ok (.invokevirtual 212, 3) := by decide +kernel
theorem dX0_readBody_29 : decode cX0_readBody 29 = .ok (.aload_n 0, 1) := by decide +kernel
theorem dX0_readBody_30 : decode cX0_readBody 30 = .ok (.getfield 25, 3) := by decide +kernel
theorem dX0_readBody_33 : decode cX0_readBody 33 = .ok (.dup, 1) := by decide +kernel
theorem dX0_readBody_34 : decode cX0_readBody 34 = .ok (.getfield 110, 3) := by decide +kernel
theorem dX0_readBody_37 : decode cX0_readBody 37 = .ok (.aload_n 0, 1) := by decide +kernel
theorem dX0_readBody_38 : decode cX0_readBody 38 = .ok (.getfield 9, 3) := by decide +kernel
theorem dX0_readBody_41 : decode cX0_readBody 41 = .ok (.getfield 202, 3) := by decide +kernel
theorem dX0_readBody_44 : decode cX0_readBody 44 = .ok (.iload_n 1, 1) := by decide +kernel
theorem dX0_readBody_45 : decode cX0_readBody 45 = .ok (.isub, 1) := by decide +kernel
theorem dX0_readBody_46 : decode cX0_readBody 46 = .ok (.iadd, 1) := by decide +kernel
theorem dX0_readBody_47 : decode cX0_readBody 47 = .ok (.putfield 110, 3) := by decide +kernel
theorem dX0_readBody_50 : decode cX0_readBody 50 = .ok (.return_, 1) := by decide +kernel
theorem dX0_readExpression_0 : decode cX0_readExpression 0 = .ok (.aload_n 0, 1) := by decide +kernel
theorem dX0_readExpression_1 : decode cX0_readExpression 1 = .ok (.getfield 9, 3) := by decide +kernel
theorem dX0_readExpression_4 : decode cX0_readExpression 4 = .ok (.bipush 6, 2) := by decide +kernel
theorem dX0_readExpression_6 : decode cX0_readExpression 6 = .ok (.invokevirtual 44, 3) := by decide +kernel
theorem dX0_readExpression_9 : decode cX0_readExpression 9 = .ok (.ifCond .eq 9, 3) := by decide +kernel
theorem dX0_readExpression_12 : decode cX0_readExpression 12 = .ok (.aload_n 0, 1) := by decide +kernel
theorem dX0_readExpression_13 : decode cX0_readExpression 13 = .ok (.iload_n 1, 1) := by decide +kernel
theorem dX0_readExpression_14 : decode cX0_readExpression 14 = .ok (.invokevirtual 215, 3) := by decide +kernel
theorem dX0_readExpression_17 : decode cX0_readExpression 17 = .ok (.return_, 1) := by decide +kernel
theorem dX0_readExpression_18 : decode cX0_readExpression 18 = .ok (.aload_n 0, 1) := by decide +kernel
theorem dX0_readExpression_19 : decode cX0_readExpression 19 = .ok (.iload_n 1, 1) := by decide +kernel
theorem dX0_readExpression_20 : decode cX0_readExpression 20 = .ok (.invokevirtual 218, 3) := by decide +kernel
theorem dX0_readExpression_23 : decode cX0_readExpression 23 = .ok (.iconst 1, 1) := by decide +kernel
theorem dX0_readExpression_24 : decode cX0_readExpression 24 = .ok (.istore_n 2, 1) := by decide +kernel
theorem dX0_readExpression_25 : decode cX0_readExpression 25 = .ok (.iload_n 2, 1) := by decide +kernel
theorem dX0_readExpression_26 : decode cX0_readExpression 26 = .ok (.bipush 50, 2) := by decide +kernel
theorem dX0_readExpression_28 : decode cX0_readExpression 28 = .ok (.if_icmp .ge 49, 3) := by decide +kernel
theorem dX0_readExpression_31 : decode cX0_readExpression 31 = .ok (.aload_n 0, 1) := by decide +kernel
theorem dX0_readExpression_32 : decode cX0_readExpression 32 = .ok (.getfield 9, 3) := by decide +kernel
theorem dX0_readExpression_35 : decode cX0_readExpression 35 = .ok (.bipush 10, 2) := by decide +kernel
theorem dX0_readExpression_37 : decode cX0_readExpression 37 = .ok (.invokevirtual 70, 3) := by decide +kernel
theorem dX0_readExpression_40 : decode cX0_readExpression 40 = .ok (.ifCond .eq 37, 3) := by decide +kernel
theorem dX0_readExpression_43 : decode cX0_readExpression 43 = .ok (.aload_n 0, 1) := by decide +kernel
theorem dX0_readExpression_44 : decode cX0_readExpression 44 = .ok (.getfield 25, 3) := by decide +kernel
theorem dX0_readExpression_47 : decode cX0_readExpression 47 = .ok (.bipush 10, 2) := by decide +kernel
theorem dX0_readExpression_49 : decode cX0_readExpression 49 = .ok (.iconst 0, 1) := by decide +kernel
theorem dX0_readExpression_50 : decode cX0_readExpression 50 = .ok (.aload_n 0, 1) := by decide +kernel
theorem dX0_readExpression_51 : decode cX0_readExpression 51 = .ok (.getfield 25, 3) := by decide +kernel
theorem dX0_readExpression_54 : decode cX0_readExpression 54 = .ok (.invokevirtual 221, 3) := by decide +kernel
theorem dX0_readExpression_57 : decode cX0_readExpression 57 = .ok (.invokevirtual 224, 3) := by decide +kernel
theorem dX0_readExpression_60 : decode cX0_readExpression 60 = .ok (.istore_n 3, 1) := by decide +kernel
theorem dX0_readExpression_61 : decode cX0_readExpression 61 = .ok (.aload_n 0, 1) := by decide +kernel
theorem dX0_readExpression_62 : decode cX0_readExpression 62 = .ok (.iload_n 1, 1) := by decide +kernel
theorem dX0_readExpression_63 : decode cX0_readExpression 63 = .ok (.invokevirtual 218, 3) := by decide +kernel
theorem dX0_readExpression_66 : decode cX0_readExpression 66 = .ok (.aload_n 0, 1) := by decide +kernel
theorem dX0_readExpression_67 : decode cX0_readExpression 67 = .ok (.iload_n 3, 1) := by decide +kernel
theorem dX0_readExpression_68 : decode cX0_readExpression 68 = .ok (.invokevirtual 228, 3) := by decide +kernel
theorem dX0_readExpression_71 : decode cX0_readExpression 71 = .ok (.iinc 2 1, 3) := by decide +kernel
theorem dX0_readExpression_74 : decode cX0_readExpression 74 = .ok (.goto (-49), 3) := by decide +kernel
theorem dX0_readExpression_77 : decode cX0_readExpression 77 = .ok (.return_, 1) := by decide +kernel
theorem dX0_readBoth_0 : decode cX0_readBoth 0 = .ok (.aload_n 0, 1) := by decide +kernel
theorem dX0_readBoth_1 : decode cX0_readBoth 1 = .ok (.iload_n 1, 1) := by decide +kernel
theorem dX0_readBoth_2 : decode cX0_readBoth 2 = .ok (.invokevirtual 231, 3) := by decide +kernel
theorem dX0_readBoth_5 : decode cX0_readBoth 5 = .ok (.iconst 1, 1) := by decide +kernel
theorem dX0_readBoth_6 : decode cX0_readBoth 6 = .ok (.istore_n 2, 1) := by decide +kernel
theorem dX0_readBoth_7 : decode cX0_readBoth 7 = .ok (.iload_n 2, 1) := by decide +kernel
theorem dX0_readBoth_8 : decode cX0_readBoth 8 = .ok (.bipush 50, 2) := by decide +kernel
theorem dX0_readBoth_10 : decode cX0_readBoth 10 = .ok (.if_icmp .ge 49, 3) := by decide +kernel
theorem dX0_readBoth_13 : decode cX0_readBoth 13 = .ok (.aload_n 0, 1) := by decide +kernel
theorem dX0_readBoth_14 : decode cX0_readBoth 14 = .ok (.getfield 9, 3) := by decide +kernel
theorem dX0_readBoth_17 : decode cX0_readBoth 17 = .ok (.bipush 9, 2) := by decide +kernel
theorem dX0_readBoth_19 : decode cX0_readBoth 19 = .ok (.invokevirtual 70, 3) := by decide +kernel
theorem dX0_readBoth_22 : decode cX0_readBoth 22 = .ok (.ifCond .eq 37, 3) := by decide +kernel
theorem dX0_readBoth_25 : decode cX0_readBoth 25 = .ok (.aload_n 0, 1) := by decide +kernel
theorem dX0_readBoth_26 : decode cX0_readBoth 26 = .ok (.getfield 25, 3) := by decide +kernel
theorem dX0_readBoth_29 : decode cX0_readBoth 29 = .ok (.bipush 9, 2) := by decide +kernel
theorem dX0_readBoth_31 : decode cX0_readBoth 31 = .ok (.iconst 0, 1) := by decide +kernel
theorem dX0_readBoth_32 : decode cX0_readBoth 32 = .ok (.aload_n 0, 1) := by decide +kernel
theorem dX0_readBoth_33 : decode cX0_readBoth 33 = .ok (.getfield 25, 3) := by decide +kernel
theorem dX0_readBoth_36 : decode cX0_readBoth 36 = .ok (.invokevirtual 221, 3) := by decide +kernel
theorem dX0_readBoth_39 : decode cX0_readBoth 39 = .ok (.invokevirtual 224, 3) := by decide +kernel
theorem dX0_readBoth_42 : decode cX0_readBoth 42 = .ok (.istore_n 3, 1) := by decide +kernel
theorem dX0_readBoth_43 : decode cX0_readBoth 43 = .ok (.aload_n 0, 1) := by decide +kernel
theorem dX0_readBoth_44 : decode cX0_readBoth 44 = .ok (.iload_n 1, 1) := by decide +kernel
theorem dX0_readBoth_45 : decode cX0_readBoth 45 = .ok (.invokevirtual 231, 3) := by decide +kernel
theorem dX0_readBoth_48 : decode cX0_readBoth 48 = .ok (.aload_n 0, 1) := by decide +kernel
theorem dX0_readBoth_49 : decode cX0_readBoth 49 = .ok (.iload_n 3, 1) := by decide +kernel
theorem dX0_readBoth_50 : decode cX0_readBoth 50 = .ok (.invokevirtual 228, 3) := by decide +kernel
theorem dX0_readBoth_53 : decode cX0_readBoth 53 = .ok (.iinc 2 1, 3) := by decide +kernel
theorem dX0_readBoth_56 : decode cX0_readBoth 56 = .ok (.goto (-49), 3) := by decide +kernel
theorem dX0_readBoth_59 : decode cX0_readBoth 59 = .ok (.return_, 1) := by decide +kernel
theorem dX0_endSecond_0 : decode cX0_endSecond 0 = .ok (.aload_n 0, 1) := by decide +kernel
theorem dX0_endSecond_1 : decode cX0_endSecond 1 = .ok (.getfield 25, 3) := by decide +kernel
theorem dX0_endSecond_4 : decode cX0_endSecond 4 = .ok (.bipush 37, 2) := by decide +kernel
theorem dX0_endSecond_6 : decode cX0_endSecond 6 = .ok (.iconst 0, 1) := by decide +kernel
theorem dX0_endSecond_7 : decode cX0_endSecond 7 = .ok (.iconst (-1), 1) := by decide +kernel
theorem dX0_endSecond_8 : decode cX0_endSecond 8 = .ok (.invokevirtual 224, 3) := by decide +kernel
theorem dX0_endSecond_11 : decode cX0_endSecond 11 = .ok (.pop, 1) := by decide +kernel
theorem dX0_endSecond_12 : decode cX0_endSecond 12 = .ok (.aload_n 0, 1) := by decide +kernel
theorem dX0_endSecond_13 : decode cX0_endSecond 13 = .ok (.getfield 25, 3) := by decide +kernel
theorem dX0_endSecond_16 : decode cX0_endSecond 16 = .ok (.iload_n 1, 1) := by decide +kernel
theorem dX0_endSecond_17 : decode cX0_endSecond 17 = .ok (.invokevirtual 234, 3) := by decide +kernel
theorem dX0_endSecond_20 : decode cX0_endSecond 20 = .ok (.return_, 1) := by decide +kernel
theorem dX0_readChoice_0 : decode cX0_readChoice 0 = .ok (.iload_n 1, 1) := by decide +kernel
theorem dX0_readChoice_1 : decode cX0_readChoice 1 = .ok (.bipush 8, 2) := by decide +kernel
theorem dX0_readChoice_3 : decode cX0_readChoice 3 = .ok (.if_icmp .lt 11, 3) := by decide +kernel
theorem dX0_readChoice_6 : decode cX0_readChoice 6 = .ok (.aload_n 0, 1) := by decide +kernel
theorem dX0_readChoice_7 : decode cX0_readChoice 7 = .ok (.getfield 9, 3) := by decide +kernel
theorem dX0_readChoice_10 : decode cX0_readChoice 10 = .ok (.invokevirtual 56, 3) := by decide +kernel
theorem dX0_readChoice_13 : decode cX0_readChoice 13 = .ok (.return_, 1) := by decide +kernel
theorem dX0_readChoice_14 : decode cX0_readChoice 14 = .ok (.aload_n 0, 1) := by decide +kernel
theorem dX0_readChoice_15 : decode cX0_readChoice 15 = .ok (.getfield 9, 3) := by decide +kernel
theorem dX0_readChoice_18 : decode cX0_readChoice 18 = .ok (.bipush 6, 2) := by decide +kernel
theorem dX0_readChoice_20 : decode cX0_readChoice 20 = .ok (.invokevirtual 77, 3) := by decide +kernel
theorem dX0_readChoice_23 : decode cX0_readChoice 23 = .ok (.pop, 1) := by decide +kernel
theorem dX0_readChoice_24 : decode cX0_readChoice 24 = .ok (.aload_n 0, 1) := by decide +kernel
theorem dX0_readChoice_25 : decode cX0_readChoice 25 = .ok (.getfield 25, 3) := by decide +kernel
theorem dX0_readChoice_28 : decode cX0_readChoice 28 = .ok (.invokevirtual 221, 3) := by decide +kernel
theorem dX0_readChoice_31 : decode cX0_readChoice 31 = .ok (.istore_n 2, 1) := by decide +kernel
theorem dX0_readChoice_32 : decode cX0_readChoice 32 = .ok (.aload_n 0, 1) := by decide +kernel
theorem dX0_readChoice_33 : decode cX0_readChoice 33 = .ok (.getfield 15, 3) := by decide +kernel
theorem dX0_readChoice_36 : decode cX0_readChoice 36 = .ok (.invokevirtual 237, 3) := by decide +kernel
theorem dX0_readChoice_39 : decode cX0_readChoice 39 = .ok (.istore_n 3, 1) := by decide +kernel
theorem dX0_readChoice_40 : decode cX0_readChoice 40 = .ok (.aload_n 0, 1) := by decide +kernel
theorem dX0_readChoice_41 : decode cX0_readChoice 41 = .ok (.iload_n 1, 1) := by decide +kernel
theorem dX0_readChoice_42 : decode cX0_readChoice 42 = .ok (.iconst 1, 1) := by decide +kernel
theorem dX0_readChoice_43 : decode cX0_readChoice 43 = .ok (.iadd, 1) := by decide +kernel
theorem dX0_readChoice_44 : decode cX0_readChoice 44 = .ok (.invokevirtual 209, 3) := by decide +kernel
theorem dX0_readChoice_47 : decode cX0_readChoice 47 = .ok (.aload_n 0, 1) := by decide +kernel
theorem dX0_readChoice_48 : decode cX0_readChoice 48 = .ok (.getfield 25, 3) := by decide +kernel
theorem dX0_readChoice_51 : decode cX0_readChoice 51 = .ok (.bipush 6, 2) := by decide +kernel
theorem dX0_readChoice_53 : decode cX0_readChoice 53 = .ok (.iload_n 3, 1) := by decide +kernel
theorem dX0_readChoice_54 : decode cX0_readChoice 54 = .ok (.iload_n 2, 1) := by decide +kernel
theorem dX0_readChoice_55 : decode cX0_readChoice 55 = .ok (.invokevirtual 224, 3) := by decide +kernel
theorem dX0_readChoice_58 : decode cX0_readChoice 58 = .ok (.pop, 1) := by decide +kernel
theorem dX0_readChoice_59 : decode cX0_readChoice 59 = .ok (.aload_n 0, 1) := by decide +kernel
theorem dX0_readChoice_60 : decode cX0_readChoice 60 = .ok (.getfield 25, 3) := by decide +kernel
theorem dX0_readChoice_63 : decode cX0_readChoice 63 = .ok (.bipush 38, 2) := by decide +kernel
theorem dX0_readChoice_65 : decode cX0_readChoice 65 = .ok (.iconst 0, 1) := by decide +kernel
theorem dX0_readChoice_66 : decode cX0_readChoice 66 = .ok (.iconst (-1), 1) := by decide +kernel
theorem dX0_readChoice_67 : decode cX0_readChoice 67 = .ok (.invokevirtual 224, 3) := by decide +kernel
theorem dX0_readChoice_70 : decode cX0_readChoice 70 = .ok (.istore 4, 2) := by decide +kernel
theorem dX0_readChoice_72 : decode cX0_readChoice 72 = .ok (.aload_n 0, 1) := by decide +kernel
theorem dX0_readChoice_73 : decode cX0_readChoice 73 = .ok (.getfield 9, 3) := by decide +kernel
theorem dX0_readChoice_76 : decode cX0_readChoice 76 = .ok (.bipush 7, 2) := by decide +kernel
theorem dX0_readChoice_78 : decode cX0_readChoice 78 = .ok (.invokevirtual 77, 3) := by decide +kernel
theorem dX0_readChoice_81 : decode cX0_readChoice 81 = .ok (.pop, 1) := by decide +kernel
theorem dX0_readChoice_82 : decode cX0_readChoice 82 = .ok (.aload_n 0, 1) := by decide +kernel
theorem dX0_readChoice_83 : decode cX0_readChoice 83 = .ok (.iload_n 1, 1) := by decide +kernel
theorem dX0_readChoice_84 : decode cX0_readChoice 84 = .ok (.iconst 1, 1) := by decide +kernel
theorem dX0_readChoice_85 : decode cX0_readChoice 85 = .ok (.iadd, 1) := by decide +kernel
theorem dX0_readChoice_86 : decode cX0_readChoice 86 = .ok (.invokevirtual 209, 3) := by decide +kernel
theorem dX0_readChoice_89 : decode cX0_readChoice 89 = .ok (.aload_n 0, 1) := by decide +kernel
theorem dX0_readChoice_90 : decode cX0_readChoice 90 = .ok (.getfield 25, 3) := by decide +kernel
theorem dX0_readChoice_93 : decode cX0_readChoice 93 = .ok (.bipush 38, 2) := by decide +kernel
theorem dX0_readChoice_95 : decode cX0_readChoice 95 = .ok (.iconst 0, 1) := by decide +kernel
theorem dX0_readChoice_96 : decode cX0_readChoice 96 = .ok (.iconst (-1), 1) := by decide +kernel
theorem dX0_readChoice_97 : decode cX0_readChoice 97 = .ok (.invokevirtual 224, 3) := by decide +kernel
theorem dX0_readChoice_100 : decode cX0_readChoice 100 = .ok (.istore 5, 2) := by decide +kernel
theorem dX0_readChoice_102 : decode cX0_readChoice 102 = .ok (.aload_n 0, 1) := by decide +kernel
theorem dX0_readChoice_103 : decode cX0_readChoice 103 = .ok (.getfield 9, 3) := by decide +kernel
theorem dX0_readChoice_106 : decode cX0_readChoice 106 = .ok (.bipush 8, 2) := by decide +kernel
theorem dX0_readChoice_108 : decode cX0_readChoice 108 = .ok (.invokevirtual 77, 3) := by decide +kernel
theorem dX0_readChoice_111 : decode cX0_readChoice 111 = .ok (.pop, 1) := by decide +kernel
theorem dX0_readChoice_112 : decode cX0_readChoice 112 = .ok (.aload_n 0, 1) := by decide +kernel
theorem dX0_readChoice_113 : decode cX0_readChoice 113 = .ok (.getfield 25, 3) := by decide +kernel
theorem dX0_readChoice_116 : decode cX0_readChoice 116 = .ok (.iload 4, 2) := by decide +kernel
theorem dX0_readChoice_118 : decode cX0_readChoice 118 = .ok (.invokevirtual 234, 3) := by decide +kernel
theorem dX0_readChoice_121 : decode cX0_readChoice 121 = .ok (.aload_n 0, 1) := by decide +kernel
theorem dX0_readChoice_122 : decode cX0_readChoice 122 = .ok (.iload_n 1, 1) := by decide +kernel
theorem dX0_readChoice_123 : decode cX0_readChoice 123 = .ok (.iconst 1, 1) := by decide +kernel
theorem dX0_readChoice_124 : decode cX0_readChoice 124 = .ok (.iadd, 1) := by decide +kernel
theorem dX0_readChoice_125 : decode cX0_readChoice 125 = .ok (.invokevirtual 209, 3) := by decide +kernel
theorem dX0_readChoice_128 : decode cX0_readChoice 128 = .ok (.aload_n 0, 1) := by decide +kernel
theorem dX0_readChoice_129 : decode cX0_readChoice 129 = .ok (.getfield 25, 3) := by decide +kernel
theorem dX0_readChoice_132 : decode cX0_readChoice 132 = .ok (.iload 5, 2) := by decide +kernel
theorem dX0_readChoice_134 : decode cX0_readChoice 134 = .ok (.invokevirtual 234, 3) := by decide +kernel
theorem dX0_readChoice_137 : decode cX0_readChoice 137 = .ok (.return_, 1) := by decide +kernel
theorem dX0_readRelation_0 : decode cX0_readRelation 0 = .ok (.aload_n 0, 1) := by decide +kernel
theorem dX0_readRelation_1 : decode cX0_readRelation 1 = .ok (.iload_n 1, 1) := by decide +kernel
theorem dX0_readRelation_2 : decode cX0_readRelation 2 = .ok (.invokevirtual 240, 3) := by decide +kernel
theorem dX0_readRelation_5 : decode cX0_readRelation 5 = .ok (.aload_n 0, 1) := by decide +kernel
theorem dX0_readRelation_6 : decode cX0_readRelation 6 = .ok (.getfield 9, 3) := by decide +kernel
theorem dX0_readRelation_9 : decode cX0_readRelation 9 = .ok (.bipush 22, 2) := by decide +kernel
theorem dX0_readRelation_11 : decode cX0_readRelation 11 = .ok (.bipush 27, 2) := by decide +kernel
theorem dX0_readRelation_13 : decode cX0_readRelation 13 = .ok (.invokevirtual 193, 3) := by decide +kernel
theorem dX0_readRelation_16 : decode cX0_readRelation 16 = .ok (.istore_n 2, 1) := by decide +kernel
theorem dX0_readRelation_17 : decode cX0_readRelation 17 = .ok (.aload_n 0, 1) := by decide +kernel
theorem dX0_readRelation_18 : decode cX0_readRelation 18 = .ok (.getfield 9, 3) := by decide +kernel
theorem dX0_readRelation_21 : decode cX0_readRelation 21 = .ok (.iload_n 2, 1) := by decide +kernel
theorem dX0_readRelation_22 : decode cX0_readRelation 22 = .ok (.invokevirtual 70, 3) := by decide +kernel
theorem dX0_readRelation_25 : decode cX0_readRelation 25 = .ok (.ifCond .eq 27, 3) := by decide +kernel
theorem dX0_readRelation_28 : decode cX0_readRelation 28 = .ok (.aload_n 0, 1) := by decide +kernel
theorem dX0_readRelation_29 : decode cX0_readRelation 29 = .ok (.getfield 25, 3) := by decide +kernel
theorem dX0_readRelation_32 : decode cX0_readRelation 32 = .ok (.invokevirtual 221, 3) := by decide +kernel
theorem dX0_readRelation_35 : decode cX0_readRelation 35 = .ok (.istore_n 3, 1) := by decide +kernel
theorem dX0_readRelation_36 : decode cX0_readRelation 36 = .ok (.aload_n 0, 1) := by decide +kernel
theorem dX0_readRelation_37 : decode cX0_readRelation 37 = .ok (.iload_n 1, 1) := by decide +kernel
theorem dX0_readRelation_38 : decode cX0_readRelation 38 = .ok (.invokevirtual 240, 3) := by decide +kernel
theorem dX0_readRelation_41 : decode cX0_readRelation 41 = .ok (.aload_n 0, 1) := by decide +kernel
theorem dX0_readRelation_42 : decode cX0_readRelation 42 = .ok (.getfield 25, 3) := by decide +kernel
theorem dX0_readRelation_45 : decode cX0_readRelation 45 = .ok (.iload_n 2, 1) := by decide +kernel
theorem dX0_readRelation_46 : decode cX0_readRelation 46 = .ok (.iconst 0, 1) := by decide +kernel
theorem dX0_readRelation_47 : decode cX0_readRelation 47 = .ok (.iload_n 3, 1) := by decide +kernel
theorem dX0_readRelation_48 : decode cX0_readRelation 48 = .ok (.invokevirtual 224, 3) := by decide +kernel
theorem dX0_readRelation_51 : decode cX0_readRelation 51 = .ok (.pop, 1) := by decide +kernel
theorem dX0_readRelation_52 : decode cX0_readRelation 52 = .ok (.return_, 1) := by decide +kernel
theorem dX0_readSum_0 : decode cX0_readSum 0 = .ok (.aload_n 0, 1) := by decide +kernel
theorem dX0_readSum_1 : decode cX0_readSum 1 = .ok (.iload_n 1, 1) := by decide +kernel
theorem dX0_readSum_2 : decode cX0_readSum 2 = .ok (.invokevirtual 243, 3) := by decide +kernel
theorem dX0_readSum_5 : decode cX0_readSum 5 = .ok (.aload_n 0, 1) := by decide +kernel
theorem dX0_readSum_6 : decode cX0_readSum 6 = .ok (.getfield 9, 3) := by decide +kernel
theorem dX0_readSum_9 : decode cX0_readSum 9 = .ok (.bipush 28, 2) := by decide +kernel
theorem dX0_readSum_11 : decode cX0_readSum 11 = .ok (.bipush 29, 2) := by decide +kernel
theorem dX0_readSum_13 : decode cX0_readSum 13 = .ok (.invokevirtual 193, 3) := by decide +kernel
theorem dX0_readSum_16 : decode cX0_readSum 16 = .ok (.istore_n 2, 1) := by decide +kernel
theorem dX0_readSum_17 : decode cX0_readSum 17 = .ok (.iconst 1, 1) := by decide +kernel
theorem dX0_readSum_18 : decode cX0_readSum 18 = .ok (.istore_n 3, 1) := by decide +kernel
theorem dX0_readSum_19 : decode cX0_readSum 19 = .ok (.iload_n 3, 1) := by decide +kernel
theorem dX0_readSum_20 : decode cX0_readSum 20 = .ok (.bipush 50, 2) := by decide +kernel
theorem dX0_readSum_22 : decode cX0_readSum 22 = .ok (.if_icmp .ge 58, 3) := by decide +kernel
theorem dX0_readSum_25 : decode cX0_readSum 25 = .ok (.aload_n 0, 1) := by decide +kernel
theorem dX0_readSum_26 : decode cX0_readSum 26 = .ok (.getfield 9, 3) := by decide +kernel
theorem dX0_readSum_29 : decode cX0_readSum 29 = .ok (.iload_n 2, 1) := by decide +kernel
theorem dX0_readSum_30 : decode cX0_readSum 30 = .ok (.invokevirtual 70, 3) := by decide +kernel
theorem dX0_readSum_33 : decode cX0_readSum 33 = .ok (.ifCond .eq 47, 3) := by decide +kernel
theorem dX0_readSum_36 : decode cX0_readSum 36 = .ok (.aload_n 0, 1) := by decide +kernel
theorem dX0_readSum_37 : decode cX0_readSum 37 = .ok (.getfield 25, 3) := by decide +kernel
theorem dX0_readSum_40 : decode cX0_readSum 40 = .ok (.invokevirtual 221, 3) := by decide +kernel
theorem dX0_readSum_43 : decode cX0_readSum 43 = .ok (.istore 4, 2) := by decide +kernel
theorem dX0_readSum_45 : decode cX0_readSum 45 = .ok (.aload_n 0, 1) := by decide +kernel
theorem dX0_readSum_46 : decode cX0_readSum 46 = .ok (.iload_n 1, 1) := by decide +kernel
theorem dX0_readSum_47 : decode cX0_readSum 47 = .ok (.invokevirtual 243, 3) := by decide +kernel
theorem dX0_readSum_50 : decode cX0_readSum 50 = .ok (.aload_n 0, 1) := by decide +kernel
theorem dX0_readSum_51 : decode cX0_readSum 51 = .ok (.getfield 25, 3) := by decide +kernel
theorem dX0_readSum_54 : decode cX0_readSum 54 = .ok (.iload_n 2, 1) := by decide +kernel
theorem dX0_readSum_55 : decode cX0_readSum 55 = .ok (.iconst 0, 1) := by decide +kernel
theorem dX0_readSum_56 : decode cX0_readSum 56 = .ok (.iload 4, 2) := by decide +kernel
theorem dX0_readSum_58 : decode cX0_readSum 58 = .ok (.invokevirtual 224, 3) := by decide +kernel
theorem dX0_readSum_61 : decode cX0_readSum 61 = .ok (.pop, 1) := by decide +kernel
theorem dX0_readSum_62 : decode cX0_readSum 62 = .ok (.aload_n 0, 1) := by decide +kernel
theorem dX0_readSum_63 : decode cX0_readSum 63 = .ok (.getfield 9, 3) := by decide +kernel
theorem dX0_readSum_66 : decode cX0_readSum 66 = .ok (.bipush 28, 2) := by decide +kernel
theorem dX0_readSum_68 : decode cX0_readSum 68 = .ok (.bipush 29, 2) := by decide +kernel
theorem dX0_readSum_70 : decode cX0_readSum 70 = .ok (.invokevirtual 193, 3) := by decide +kernel
theorem dX0_readSum_73 : decode cX0_readSum 73 = .ok (.istore_n 2, 1) := by decide +kernel
theorem dX0_readSum_74 : decode cX0_readSum 74 = .ok (.iinc 3 1, 3) := by decide +kernel
theorem dX0_readSum_77 : decode cX0_readSum 77 = .ok (.goto (-58), 3) := by decide +kernel
theorem dX0_readSum_80 : decode cX0_readSum 80 = .ok (.return_, 1) := by decide +kernel
theorem dX0_readProduct_0 : decode cX0_readProduct 0 = .ok (.aload_n 0, 1) := by decide +kernel
theorem dX0_readProduct_1 : decode cX0_readProduct 1 = .ok (.iload_n 1, 1) := by decide +kernel
theorem dX0_readProduct_2 : decode cX0_readProduct 2 = .ok (.invokevirtual 246, 3) := by decide +kernel
theorem dX0_readProduct_5 : decode cX0_readProduct 5 = .ok (.aload_n 0, 1) := by decide +kernel
theorem dX0_readProduct_6 : decode cX0_readProduct 6 = .ok (.getfield 9, 3) := by decide +kernel
theorem dX0_readProduct_9 : decode cX0_readProduct 9 = .ok (.bipush 30, 2) := by decide +kernel
theorem dX0_readProduct_11 : decode cX0_readProduct 11 = .ok (.bipush 32, 2) := by decide +kernel
theorem dX0_readProduct_13 : decode cX0_readProduct 13 = .ok (.invokevirtual 193, 3) := by decide +kernel
theorem dX0_readProduct_16 : decode cX0_readProduct 16 = .ok (.istore_n 2, 1) := by decide +kernel
theorem dX0_readProduct_17 : decode cX0_readProduct 17 = .ok (.iconst 1, 1) := by decide +kernel
theorem dX0_readProduct_18 : decode cX0_readProduct 18 = .ok (.istore_n 3, 1) := by decide +kernel
theorem dX0_readProduct_19 : decode cX0_readProduct 19 = .ok (.iload_n 3, 1) := by decide +kernel
theorem dX0_readProduct_20 : decode cX0_readProduct 20 = .ok (.bipush 50, 2) := by decide +kernel
theorem dX0_readProduct_22 : decode cX0_readProduct 22 = .ok (.if_icmp .ge 58, 3) := by decide +kernel
theorem dX0_readProduct_25 : decode cX0_readProduct 25 = .ok (.aload_n 0, 1) := by decide +kernel
theorem dX0_readProduct_26 : decode cX0_readProduct 26 = .ok (.getfield 9, 3) := by decide +kernel
theorem dX0_readProduct_29 : decode cX0_readProduct 29 = .ok (.iload_n 2, 1) := by decide +kernel
theorem dX0_readProduct_30 : decode cX0_readProduct 30 = .ok (.invokevirtual 70, 3) := by decide +kernel
theorem dX0_readProduct_33 : decode cX0_readProduct 33 = .ok (.ifCond .eq 47, 3) := by decide +kernel
theorem dX0_readProduct_36 : decode cX0_readProduct 36 = .ok (.aload_n 0, 1) := by decide +kernel
theorem dX0_readProduct_37 : decode cX0_readProduct 37 = .ok (.getfield 25, 3) := by decide +kernel
theorem dX0_readProduct_40 : decode cX0_readProduct 40 = .ok (.invokevirtual 221, 3) := by decide +kernel
theorem dX0_readProduct_43 : decode cX0_readProduct 43 = .ok (.istore 4, 2) := by decide +kernel
theorem dX0_readProduct_45 : decode cX0_readProduct 45 = .ok (.aload_n 0, 1) := by decide +kernel
theorem dX0_readProduct_46 : decode cX0_readProduct 46 = .ok (.iload_n 1, 1) := by decide +kernel
theorem dX0_readProduct_47 : decode cX0_readProduct 47 = .ok (.invokevirtual 246, 3) := by decide +kernel
theorem dX0_readProduct_50 : decode cX0_readProduct 50 = .ok (.aload_n 0, 1) := by decide +kernel
theorem dX0_readProduct_51 : decode cX0_readProduct 51 = .ok (.getfield 25, 3) := by decide +kernel
theorem dX0_readProduct_54 : decode cX0_readProduct 54 = .ok (.iload_n 2, 1) := by decide +kernel
theorem dX0_readProduct_55 : decode cX0_readProduct 55 = .ok (.iconst 0, 1) := by decide +kernel
theorem dX0_readProduct_56 : decode cX0_readProduct 56 = .ok (.iload 4, 2) := by decide +kernel
theorem dX0_readProduct_58 : decode cX0_readProduct 58 = .ok (.invokevirtual 224, 3) := by decide +kernel
theorem dX0_readProduct_61 : decode cX0_readProduct 61 = .ok (.pop, 1) := by decide +kernel
theorem dX0_readProduct_62 : decode cX0_readProduct 62 = .ok (.aload_n 0, 1) := by decide +kernel
theorem dX0_readProduct_63 : decode cX0_readProduct 63 = .ok (.getfield 9, 3) := by decide +kernel
theorem dX0_readProduct_66 : decode cX0_readProduct 66 = .ok (.bipush 30, 2) := by decide +kernel
theorem dX0_readProduct_68 : decode cX0_readProduct 68 = .ok (.bipush 32, 2) := by decide +kernel
theorem dX0_readProduct_70 : decode cX0_readProduct 70 = .ok (.invokevirtual 193, 3) := by decide +kernel
theorem dX0_readProduct_73 : decode cX0_readProduct 73 = .ok (.istore_n 2, 1) := by decide +kernel
theorem dX0_readProduct_74 : decode cX0_readProduct 74 = .ok (.iinc 3 1, 3) := by decide +kernel
theorem dX0_readProduct_77 : decode cX0_readProduct 77 = .ok (.goto (-58), 3) := by decide +kernel
theorem dX0_readProduct_80 : decode cX0_readProduct 80 = .ok (.return_, 1) := by decide +kernel
theorem dX0_readFactor_0 : decode cX0_readFactor 0 = .ok (.aload_n 0, 1) := by decide +kernel
theorem dX0_readFactor_1 : decode cX0_readFactor 1 = .ok (.getfield 9, 3) := by decide +kernel
theorem dX0_readFactor_4 : decode cX0_readFactor 4 = .ok (.invokevirtual 73, 3) := by decide +kernel
theorem dX0_readFactor_7 : decode cX0_readFactor 7 = .ok (.lstore_n 2, 1) := by decide +kernel
theorem dX0_readFactor_8 : decode cX0_readFactor 8 = .ok (.aload_n 0, 1) := by decide +kernel
theorem dX0_readFactor_9 : decode cX0_readFactor 9 = .ok (.getfield 9, 3) := by decide +kernel
theorem dX0_readFactor_12 : decode cX0_readFactor 12 = .ok (.invokevirtual 63, 3) := by decide +kernel
theorem dX0_readFactor_15 : decode cX0_readFactor 15 = .ok (.istore 4, 2) := by decide +kernel
theorem dX0_readFactor_17 : decode cX0_readFactor 17 = .ok (.aload_n 0, 1) := by decide +kernel
theorem dX0_readFactor_18 : decode cX0_readFactor 18 = .ok (.getfield 9, 3) := by decide +kernel
theorem dX0_readFactor_21 : decode cX0_readFactor 21 = .ok (.iconst 2, 1) := by decide +kernel
theorem dX0_readFactor_22 : decode cX0_readFactor 22 = .ok (.invokevirtual 70, 3) := by decide +kernel
theorem dX0_readFactor_25 : decode cX0_readFactor 25 = .ok (.ifCond .eq 24, 3) := by decide +kernel
theorem dX0_readFactor_28 : decode cX0_readFactor 28 = .ok (.aload_n 0, 1) := by decide +kernel
theorem dX0_readFactor_29 : decode cX0_readFactor 29 = .ok (.getfield 25, 3) := by decide +kernel
theorem dX0_readFactor_32 : decode cX0_readFactor 32 = .ok (.iconst 2, 1) := by decide +kernel
theorem dX0_readFactor_33 : decode cX0_readFactor 33 = .ok (.lload_n 2, 1) := by decide +kernel
theorem dX0_readFactor_34 : decode cX0_readFactor 34 = .ok (.l2i, 1) := by decide +kernel
theorem dX0_readFactor_35 : decode cX0_readFactor 35 = .ok (.aload_n 0, 1) := by decide +kernel
theorem dX0_readFactor_36 : decode cX0_readFactor 36 = .ok (.getfield 25, 3) := by decide +kernel
theorem dX0_readFactor_39 : decode cX0_readFactor 39 = .ok (.invokevirtual 221, 3) := by decide +kernel
theorem dX0_readFactor_42 : decode cX0_readFactor 42 = .ok (.invokevirtual 224, 3) := by decide +kernel
theorem dX0_readFactor_45 : decode cX0_readFactor 45 = .ok (.pop, 1) := by decide +kernel
theorem dX0_readFactor_46 : decode cX0_readFactor 46 = .ok (.goto 148, 3) := by decide +kernel
theorem dX0_readFactor_49 : decode cX0_readFactor 49 = .ok (.aload_n 0, 1) := by decide +kernel
theorem dX0_readFactor_50 : decode cX0_readFactor 50 = .ok (.getfield 9, 3) := by decide +kernel
theorem dX0_readFactor_53 : decode cX0_readFactor 53 = .ok (.iconst 3, 1) := by decide +kernel
theorem dX0_readFactor_54 : decode cX0_readFactor 54 = .ok (.invokevirtual 70, 3) := by decide +kernel
theorem dX0_readFactor_57 : decode cX0_readFactor 57 = .ok (.ifCond .eq 14, 3) := by decide +kernel
theorem dX0_readFactor_60 : decode cX0_readFactor 60 = .ok (.aload_n 0, 1) := by decide +kernel
theorem dX0_readFactor_61 : decode cX0_readFactor 61 = .ok (.lload_n 2, 1) := by decide +kernel
theorem dX0_readFactor_62 : decode cX0_readFactor 62 = .ok (.iload 4, 2) := by decide +kernel
theorem dX0_readFactor_64 : decode cX0_readFactor 64 = .ok (.iload_n 1, 1) := by decide +kernel
theorem dX0_readFactor_65 : decode cX0_readFactor 65 = .ok (.invokevirtual 249, 3) := by decide +kernel
theorem dX0_readFactor_68 : decode cX0_readFactor 68 = .ok (.goto 126, 3) := by decide +kernel
theorem dX0_readFactor_71 : decode cX0_readFactor 71 = .ok (.iload_n 1, 1) := by decide +kernel
theorem dX0_readFactor_72 : decode cX0_readFactor 72 = .ok (.bipush 8, 2) := by decide +kernel
theorem dX0_readFactor_74 : decode cX0_readFactor 74 = .ok (.if_icmp .lt 13, 3) := by decide +kernel
theorem dX0_readFactor_77 : decode cX0_readFactor 77 = .ok (.aload_n 0, 1) := by decide +kernel
theorem dX0_readFactor_78 : decode cX0_readFactor 78 = .ok (.getfield 9, 3) := by decide +kernel
theorem dX0_readFactor_81 : decode cX0_readFactor 81 = .ok (.invokevirtual 56, 3) := by decide +kernel
theorem dX0_readFactor_84 : decode cX0_readFactor 84 = .ok (.goto 110, 3) := by decide +kernel
theorem dX0_readFactor_87 : decode cX0_readFactor 87 = .ok (.aload_n 0, 1) := by decide +kernel
theorem dX0_readFactor_88 : decode cX0_readFactor 88 = .ok (.getfield 9, 3) := by decide +kernel
theorem dX0_readFactor_91 : decode cX0_readFactor 91 = .ok (.bipush 16, 2) := by decide +kernel
theorem dX0_readFactor_93 : decode cX0_readFactor 93 = .ok (.invokevirtual 70, 3) := by decide +kernel
theorem dX0_readFactor_96 : decode cX0_readFactor 96 = .ok (.ifCond .eq 23, 3) := by decide +kernel
theorem dX0_readFactor_99 : decode cX0_readFactor 99 = .ok (.aload_n 0, 1) := by decide +kernel
theorem dX0_readFactor_100 : decode cX0_readFactor 100 = .ok (.iload_n 1, 1) := by decide +kernel
theorem dX0_readFactor_101 : decode cX0_readFactor 101 = .ok (.iconst 1, 1) := by decide +kernel
theorem dX0_readFactor_102 : decode cX0_readFactor 102 = .ok (.iadd, 1) := by decide +kernel
theorem dX0_readFactor_103 : decode cX0_readFactor 103 = .ok (.invokevirtual 209, 3) := by decide +kernel
theorem dX0_readFactor_106 : decode cX0_readFactor 106 = .ok (.aload_n 0, 1) := by decide +kernel
theorem dX0_readFactor_107 : decode cX0_readFactor 107 = .ok (.getfield 9, 3) := by decide +kernel
theorem dX0_readFactor_110 : decode cX0_readFactor 110 = .ok (.bipush 17, 2) := by decide +kernel
theorem dX0_readFactor_112 : decode cX0_readFactor 112 = .ok (.invokevirtual 77, 3) := by decide +kernel
theorem dX0_readFactor_115 : decode cX0_readFactor 115 = .ok (.pop, 1) := by decide +kernel
theorem dX0_readFactor_116 : decode cX0_readFactor 116 = .ok (.goto 78, 3) := by decide +kernel
theorem dX0_readFactor_119 : decode cX0_readFactor 119 = .ok (.aload_n 0, 1) := by decide +kernel
theorem dX0_readFactor_120 : decode cX0_readFactor 120 = .ok (.getfield 9, 3) := by decide +kernel
theorem dX0_readFactor_123 : decode cX0_readFactor 123 = .ok (.bipush 29, 2) := by decide +kernel
theorem dX0_readFactor_125 : decode cX0_readFactor 125 = .ok (.invokevirtual 70, 3) := by decide +kernel
theorem dX0_readFactor_128 : decode cX0_readFactor 128 = .ok (.ifCond .eq 25, 3) := by decide +kernel
theorem dX0_readFactor_131 : decode cX0_readFactor 131 = .ok (.aload_n 0, 1) := by decide +kernel
theorem dX0_readFactor_132 : decode cX0_readFactor 132 = .ok (.iload_n 1, 1) := by decide +kernel
theorem dX0_readFactor_133 : decode cX0_readFactor 133 = .ok (.iconst 1, 1) := by decide +kernel
theorem dX0_readFactor_134 : decode cX0_readFactor 134 = .ok (.iadd, 1) := by decide +kernel
theorem dX0_readFactor_135 : decode cX0_readFactor 135 = .ok (.invokevirtual 246, 3) := by decide +kernel
theorem dX0_readFactor_138 : decode cX0_readFactor 138 = .ok (.aload_n 0, 1) := by decide +kernel
theorem dX0_readFactor_139 : decode cX0_readFactor 139 = .ok (.getfield 25, 3) := by decide +kernel
theorem dX0_readFactor_142 : decode cX0_readFactor 142 = .ok (.bipush 36, 2) := by decide +kernel
theorem dX0_readFactor_144 : decode cX0_readFactor 144 = .ok (.iconst 0, 1) := by decide +kernel
theorem dX0_readFactor_145 : decode cX0_readFactor 145 = .ok (.iconst (-1), 1) := by decide +kernel
theorem dX0_readFactor_146 : decode cX0_readFactor 146 = .ok (.invokevirtual 224, 3) := by decide +kernel
theorem dX0_readFactor_149 : decode cX0_readFactor 149 = .ok (.pop, 1) := by decide +kernel
theorem dX0_readFactor_150 : decode cX0_readFactor 150 = .ok (.goto 44, 3) := by decide +kernel
theorem dX0_readFactor_153 : decode cX0_readFactor 153 = .ok (.aload_n 0, 1) := by decide +kernel
theorem dX0_readFactor_154 : decode cX0_readFactor 154 = .ok (.getfield 9, 3) := by decide +kernel
theorem dX0_readFactor_157 : decode cX0_readFactor 157 = .ok (.bipush 11, 2) := by decide +kernel
theorem dX0_readFactor_159 : decode cX0_readFactor 159 = .ok (.invokevirtual 70, 3) := by decide +kernel
theorem dX0_readFactor_162 : decode cX0_readFactor 162 = .ok (.ifCond .eq 25, 3) := by decide +kernel
theorem dX0_readFactor_165 : decode cX0_readFactor 165 = .ok (.aload_n 0, 1) := by decide +kernel
theorem dX0_readFactor_166 : decode cX0_readFactor 166 = .ok (.iload_n 1, 1) := by decide +kernel
theorem dX0_readFactor_167 : decode cX0_readFactor 167 = .ok (.iconst 1, 1) := by decide +kernel
theorem dX0_readFactor_168 : decode cX0_readFactor 168 = .ok (.iadd, 1) := by decide +kernel
theorem dX0_readFactor_169 : decode cX0_readFactor 169 = .ok (.invokevirtual 246, 3) := by decide +kernel
theorem dX0_readFactor_172 : decode cX0_readFactor 172 = .ok (.aload_n 0, 1) := by decide +kernel
theorem dX0_readFactor_173 : decode cX0_readFactor 173 = .ok (.getfield 25, 3) := by decide +kernel
theorem dX0_readFactor_176 : decode cX0_readFactor 176 = .ok (.bipush 11, 2) := by decide +kernel
theorem dX0_readFactor_178 : decode cX0_readFactor 178 = .ok (.iconst 0, 1) := by decide +kernel
theorem dX0_readFactor_179 : decode cX0_readFactor 179 = .ok (.iconst (-1), 1) := by decide +kernel
theorem dX0_readFactor_180 : decode cX0_readFactor 180 = .ok (.invokevirtual 224, 3) := by decide +kernel
theorem dX0_readFactor_183 : decode cX0_readFactor 183 = .ok (.pop, 1) := by decide +kernel
theorem dX0_readFactor_184 : decode cX0_readFactor 184 = .ok (.goto 10, 3) := by decide +kernel
theorem dX0_readFactor_187 : decode cX0_readFactor 187 = .ok (.aload_n 0, 1) := by decide +kernel
theorem dX0_readFactor_188 : decode cX0_readFactor 188 = .ok (.getfield 9, 3) := by decide +kernel
theorem dX0_readFactor_191 : decode cX0_readFactor 191 = .ok (.invokevirtual 56, 3) := by decide +kernel
theorem dX0_readFactor_194 : decode cX0_readFactor 194 = .ok (.return_, 1) := by decide +kernel
theorem dX0_readNamed_0 : decode cX0_readNamed 0 = .ok (.aload_n 0, 1) := by decide +kernel
theorem dX0_readNamed_1 : decode cX0_readNamed 1 = .ok (.getfield 9, 3) := by decide +kernel
theorem dX0_readNamed_4 : decode cX0_readNamed 4 = .ok (.bipush 16, 2) := by decide +kernel
theorem dX0_readNamed_6 : decode cX0_readNamed 6 = .ok (.invokevirtual 44, 3) := by decide +kernel
theorem dX0_readNamed_9 : decode cX0_readNamed 9 = .ok (.ifCond .eq 12, 3) := by decide +kernel
theorem dX0_readNamed_12 : decode cX0_readNamed 12 = .ok (.aload_n 0, 1) := by decide +kernel
theorem dX0_readNamed_13 : decode cX0_readNamed 13 = .ok (.lload_n 1, 1) := by decide +kernel
theorem dX0_readNamed_14 : decode cX0_readNamed 14 = .ok (.iload_n 3, 1) := by decide +kernel
theorem dX0_readNamed_15 : decode cX0_readNamed 15 = .ok (.iload 4, 2) := by decide +kernel
theorem dX0_readNamed_17 : decode cX0_readNamed 17 = .ok (.invokevirtual 252, 3) := by decide +kernel
theorem dX0_readNamed_20 : decode cX0_readNamed 20 = .ok (.return_, 1) := by decide +kernel
theorem dX0_readNamed_21 : decode cX0_readNamed 21 = .ok (.aload_n 0, 1) := by decide +kernel
theorem dX0_readNamed_22 : decode cX0_readNamed 22 = .ok (.getfield 25, 3) := by decide +kernel
theorem dX0_readNamed_25 : decode cX0_readNamed 25 = .ok (.lload_n 1, 1) := by decide +kernel
theorem dX0_readNamed_26 : decode cX0_readNamed 26 = .ok (.invokevirtual 119, 3) := by decide +kernel
theorem dX0_readNamed_29 : decode cX0_readNamed 29 = .ok (.istore 5, 2) := by decide +kernel
theorem dX0_readNamed_31 : decode cX0_readNamed 31 = .ok (.iload 5, 2) := by decide +kernel
theorem dX0_readNamed_33 : decode cX0_readNamed 33 = .ok (.ifCond .ge 9, 3) := by decide +kernel
theorem dX0_readNamed_36 : decode cX0_readNamed 36 = .ok (.aload_n 0, 1) := by decide +kernel
theorem dX0_readNamed_37 : decode cX0_readNamed 37 = .ok (.iconst 2, 1) := by decide +kernel
theorem dX0_readNamed_38 : decode cX0_readNamed 38 = .ok (.iload_n 3, 1) := by decide +kernel
theorem dX0_readNamed_39 : decode cX0_readNamed 39 = .ok (.invokevirtual 80, 3) := by decide +kernel
theorem dX0_readNamed_42 : decode cX0_readNamed 42 = .ok (.aload_n 0, 1) := by decide +kernel
theorem dX0_readNamed_43 : decode cX0_readNamed 43 = .ok (.getfield 25, 3) := by decide +kernel
theorem dX0_readNamed_46 : decode cX0_readNamed 46 = .ok (.bipush 34, 2) := by decide +kernel
theorem dX0_readNamed_48 : decode cX0_readNamed 48 = .ok (.iload 5, 2) := by decide +kernel
theorem dX0_readNamed_50 : decode cX0_readNamed 50 = .ok (.iconst (-1), 1) := by decide +kernel
theorem dX0_readNamed_51 : decode cX0_readNamed 51 = .ok (.invokevirtual 224, 3) := by decide +kernel
theorem dX0_readNamed_54 : decode cX0_readNamed 54 = .ok (.pop, 1) := by decide +kernel
theorem dX0_readNamed_55 : decode cX0_readNamed 55 = .ok (.return_, 1) := by decide +kernel
theorem dX0_readArguments_0 : decode cX0_readArguments 0 = .ok (.iload 4, 2) := by decide +kernel
theorem dX0_readArguments_2 : decode cX0_readArguments 2 = .ok (.bipush 8, 2) := by decide +kernel
theorem dX0_readArguments_4 : decode cX0_readArguments 4 = .ok (.if_icmp .lt 11, 3) := by decide +kernel
theorem dX0_readArguments_7 : decode cX0_readArguments 7 = .ok (.aload_n 0, 1) := by decide +kernel
theorem dX0_readArguments_8 : decode cX0_readArguments 8 = .ok (.getfield 9, 3) := by decide +kernel
theorem dX0_readArguments_11 : decode cX0_readArguments 11 = .ok (.invokevirtual 56, 3) := by decide +kernel
theorem dX0_readArguments_14 : decode cX0_readArguments 14 = .ok (.return_, 1) := by decide +kernel
theorem dX0_readArguments_15 : decode cX0_readArguments 15 = .ok (.aload_n 0, 1) := by decide +kernel
theorem dX0_readArguments_16 : decode cX0_readArguments 16 = .ok (.getfield 9, 3) := by decide +kernel
theorem dX0_readArguments_19 : decode cX0_readArguments 19 = .ok (.bipush 16, 2) := by decide +kernel
theorem dX0_readArguments_21 : decode cX0_readArguments 21 = .ok (.invokevirtual 77, 3) := by decide +kernel
theorem dX0_readArguments_24 : decode cX0_readArguments 24 = .ok (.pop, 1) := by decide +kernel
theorem dX0_readArguments_25 : decode cX0_readArguments 25 = .ok (.aload_n 0, 1) := by decide +kernel
theorem dX0_readArguments_26 : decode cX0_readArguments 26 = .ok (.getfield 15, 3) := by decide +kernel
theorem dX0_readArguments_29 : decode cX0_readArguments 29 = .ok (.lload_n 1, 1) := by decide +kernel
theorem dX0_readArguments_30 : decode cX0_readArguments 30 = .ok (.invokevirtual 141, 3) := by decide +kernel
theorem dX0_readArguments_33 : decode cX0_readArguments 33 = .ok (.istore 5, 2) := by decide +kernel
theorem dX0_readArguments_35 : decode cX0_readArguments 35 = .ok (.iload 5, 2) := by decide +kernel
theorem dX0_readArguments_37 : decode cX0_readArguments 37 = .ok (.ifCond .ge 9, 3) := by decide +kernel
theorem dX0_readArguments_40 : decode cX0_readArguments 40 = .ok (.aload_n 0, 1) := by decide +kernel
theorem dX0_readArguments_41 : decode cX0_readArguments 41 = .ok (.iconst 2, 1) := by decide +kernel
theorem dX0_readArguments_42 : decode cX0_readArguments 42 = .ok (.iload_n 3, 1) := by decide +kernel
theorem dX0_readArguments_43 : decode cX0_readArguments 43 = .ok (.invokevirtual 80, 3) := by decide +kernel
theorem dX0_readArguments_46 : decode cX0_readArguments 46 = .ok (.aload_n 0, 1) := by decide +kernel
theorem dX0_readArguments_47 : decode cX0_readArguments 47 = .ok (.iload 4, 2) := by decide +kernel
theorem dX0_readArguments_49 : decode cX0_readArguments 49 = .ok (.iconst 1, 1) := by decide +kernel
theorem dX0_readArguments_50 : decode cX0_readArguments 50 = .ok (.iadd, 1) := by decide +kernel
theorem dX0_readArguments_51 : decode cX0_readArguments 51 = .ok (.invokevirtual 209, 3) := by decide +kernel
theorem dX0_readArguments_54 : decode cX0_readArguments 54 = .ok (.iconst 1, 1) := by decide +kernel
theorem dX0_readArguments_55 : decode cX0_readArguments 55 = .ok (.istore 6, 2) := by decide +kernel
theorem dX0_readArguments_57 : decode cX0_readArguments 57 = .ok (.iload 6, 2) := by decide +kernel
theorem dX0_readArguments_59 : decode cX0_readArguments 59 = .ok (.bipush 50, 2) := by decide +kernel
theorem dX0_readArguments_61 : decode cX0_readArguments 61 = .ok (.if_icmp .ge 29, 3) := by decide +kernel
theorem dX0_readArguments_64 : decode cX0_readArguments 64 = .ok (.aload_n 0, 1) := by decide +kernel
theorem dX0_readArguments_65 : decode cX0_readArguments 65 = .ok (.getfield 9, 3) := by decide +kernel
theorem dX0_readArguments_68 : decode cX0_readArguments 68 = .ok (.bipush 18, 2) := by decide +kernel
theorem dX0_readArguments_70 : decode cX0_readArguments 70 = .ok (.invokevirtual 70, 3) := by decide +kernel
theorem dX0_readArguments_73 : decode cX0_readArguments 73 = .ok (.ifCond .eq 17, 3) := by decide +kernel
theorem dX0_readArguments_76 : decode cX0_readArguments 76 = .ok (.aload_n 0, 1) := by decide +kernel
theorem dX0_readArguments_77 : decode cX0_readArguments 77 = .ok (.iload 4, 2) := by decide +kernel
theorem dX0_readArguments_79 : decode cX0_readArguments 79 = .ok (.iconst 1, 1) := by decide +kernel
theorem dX0_readArguments_80 : decode cX0_readArguments 80 = .ok (.iadd, 1) := by decide +kernel
theorem dX0_readArguments_81 : decode cX0_readArguments 81 = .ok (.invokevirtual 209, 3) := by decide +kernel
theorem dX0_readArguments_84 : decode cX0_readArguments 84 = .ok (.iinc 6 1, 3) := by decide +kernel
theorem dX0_readArguments_87 : decode cX0_readArguments 87 = .ok (.goto (-30), 3) := by decide +kernel
theorem dX0_readArguments_90 : decode cX0_readArguments 90 = .ok (.aload_n 0, 1) := by decide +kernel
theorem dX0_readArguments_91 : decode cX0_readArguments 91 = .ok (.getfield 9, 3) := by decide +kernel
theorem dX0_readArguments_94 : decode cX0_readArguments 94 = .ok (.bipush 17, 2) := by decide +kernel
theorem dX0_readArguments_96 : decode cX0_readArguments 96 = .ok (.invokevirtual 77, 3) := by decide +kernel
theorem dX0_readArguments_99 : decode cX0_readArguments 99 = .ok (.pop, 1) := by decide +kernel
theorem dX0_readArguments_100 : decode cX0_readArguments 100 = .ok (.aload_n 0, 1) := by decide +kernel
theorem dX0_readArguments_101 : decode cX0_readArguments 101 = .ok (.getfield 15, 3) := by decide +kernel
theorem dX0_readArguments_104 : decode cX0_readArguments 104 = .ok (.iload 5, 2) := by decide +kernel
theorem dX0_readArguments_106 : decode cX0_readArguments 106 = .ok (.invokevirtual 19, 3) := by decide +kernel
theorem dX0_readArguments_109 : decode cX0_readArguments 109 = .ok (.astore 7, 2) := by decide +kernel
theorem dX0_readArguments_111 : decode cX0_readArguments 111 = .ok (.iload 6, 2) := by decide +kernel
theorem dX0_readArguments_113 : decode cX0_readArguments 113 = .ok (.aload 7, 2) := by decide +kernel
theorem dX0_readArguments_115 : decode cX0_readArguments 115 = .ok (.getfield 116, 3) := by decide +kernel
theorem dX0_readArguments_118 : decode cX0_readArguments 118 = .ok (.if_icmp .eq 10, 3) := by decide +kernel
theorem dX0_readArguments_121 : decode cX0_readArguments 121 = .ok (.aload_n 0, 1) := by decide +kernel
theorem dX0_readArguments_122 : decode cX0_readArguments 122 = .ok (.bipush 6, 2) := by decide +kernel
theorem dX0_readArguments_124 : decode cX0_readArguments 124 = .ok (.iload_n 3, 1) := by decide +kernel
theorem dX0_readArguments_125 : decode cX0_readArguments 125 = .ok (.invokevirtual 80, 3) := by decide +kernel
theorem dX0_readArguments_128 : decode cX0_readArguments 128 = .ok (.aload_n 0, 1) := by decide +kernel
theorem dX0_readArguments_129 : decode cX0_readArguments 129 = .ok (.getfield 25, 3) := by decide +kernel
theorem dX0_readArguments_132 : decode cX0_readArguments 132 = .ok (.dup, 1) := by decide +kernel
theorem dX0_readArguments_133 : decode cX0_readArguments 133 = .ok (.getfield 110, 3) := by decide +kernel
theorem dX0_readArguments_136 : decode cX0_readArguments 136 = .ok (.aload 7, 2) := by decide +kernel
theorem dX0_readArguments_138 : decode cX0_readArguments 138 = .ok (.getfield 110, 3) := by decide +kernel
theorem dX0_readArguments_141 : decode cX0_readArguments 141 = .ok (.iadd, 1) := by decide +kernel
theorem dX0_readArguments_142 : decode cX0_readArguments 142 = .ok (.putfield 110, 3) := by decide +kernel
theorem dX0_readArguments_145 : decode cX0_readArguments 145 = .ok (.aload_n 0, 1) := by decide +kernel
theorem dX0_readArguments_146 : decode cX0_readArguments 146 = .ok (.getfield 25, 3) := by decide +kernel
theorem dX0_readArguments_149 : decode cX0_readArguments 149 = .ok (.bipush 35, 2) := by decide +kernel
theorem dX0_readArguments_151 : decode cX0_readArguments 151 = .ok (.iload 5, 2) := by decide +kernel
theorem dX0_readArguments_153 : decode cX0_readArguments 153 = .ok (.iconst (-1), 1) := by decide +kernel
theorem dX0_readArguments_154 : decode cX0_readArguments 154 = .ok (.invokevirtual 224, 3) := by decide +kernel
theorem dX0_readArguments_157 : decode cX0_readArguments 157 = .ok (.pop, 1) := by decide +kernel
theorem dX0_readArguments_158 : decode cX0_readArguments 158 = .ok (.return_, 1) := by decide +kernel
theorem dX1_init_0 : decode cX1_init 0 = .ok (.aload_n 0, 1) := by decide +kernel
theorem dX1_init_1 : decode cX1_init 1 = .ok (.invokespecial 3, 3) := by decide +kernel
theorem dX1_init_4 : decode cX1_init 4 = .ok (.aload_n 0, 1) := by decide +kernel
theorem dX1_init_5 : decode cX1_init 5 = .ok (.iconst 3, 1) := by decide +kernel
theorem dX1_init_6 : decode cX1_init 6 = .ok (.newarray .long, 2) := by decide +kernel
theorem dX1_init_8 : decode cX1_init 8 = .ok (.putfield 9, 3) := by decide +kernel
theorem dX1_init_11 : decode cX1_init 11 = .ok (.aload_n 0, 1) := by decide +kernel
theorem dX1_init_12 : decode cX1_init 12 = .ok (.new 15, 3) := by decide +kernel
theorem dX1_init_15 : decode cX1_init 15 = .ok (.dup, 1) := by decide +kernel
theorem dX1_init_16 : decode cX1_init 16 = .ok (.invokespecial 17, 3) := by decide +kernel
theorem dX1_init_19 : decode cX1_init 19 = .ok (.putfield 18, 3) := by decide +kernel
theorem dX1_init_22 : decode cX1_init 22 = .ok (.aload_n 0, 1) := by decide +kernel
theorem dX1_init_23 : decode cX1_init 23 = .ok (.bipush 100, 2) := by decide +kernel
theorem dX1_init_25 : decode cX1_init 25 = .ok (.newarray .int, 2) := by decide +kernel
theorem dX1_init_27 : decode cX1_init 27 = .ok (.putfield 22, 3) := by decide +kernel
theorem dX1_init_30 : decode cX1_init 30 = .ok (.aload_n 0, 1) := by decide +kernel
theorem dX1_init_31 : decode cX1_init 31 = .ok (.bipush 100, 2) := by decide +kernel
theorem dX1_init_33 : decode cX1_init 33 = .ok (.newarray .int, 2) := by decide +kernel
theorem dX1_init_35 : decode cX1_init 35 = .ok (.putfield 26, 3) := by decide +kernel
theorem dX1_init_38 : decode cX1_init 38 = .ok (.aload_n 0, 1) := by decide +kernel
theorem dX1_init_39 : decode cX1_init 39 = .ok (.bipush 100, 2) := by decide +kernel
theorem dX1_init_41 : decode cX1_init 41 = .ok (.newarray .int, 2) := by decide +kernel
theorem dX1_init_43 : decode cX1_init 43 = .ok (.putfield 29, 3) := by decide +kernel
theorem dX1_init_46 : decode cX1_init 46 = .ok (.return_, 1) := by decide +kernel
theorem dX1_clear_0 : decode cX1_clear 0 = .ok (.aload_n 0, 1) := by decide +kernel
theorem dX1_clear_1 : decode cX1_clear 1 = .ok (.getfield 18, 3) := by decide +kernel
theorem dX1_clear_4 : decode cX1_clear 4 = .ok (.invokevirtual 32, 3) := by decide +kernel
theorem dX1_clear_7 : decode cX1_clear 7 = .ok (.aload_n 0, 1) := by decide +kernel
theorem dX1_clear_8 : decode cX1_clear 8 = .ok (.lconst 0, 1) := by decide +kernel
theorem dX1_clear_9 : decode cX1_clear 9 = .ok (.putfield 35, 3) := by decide +kernel
theorem dX1_clear_12 : decode cX1_clear 12 = .ok (.aload_n 0, 1) := by decide +kernel
theorem dX1_clear_13 : decode cX1_clear 13 = .ok (.iconst 0, 1) := by decide +kernel
theorem dX1_clear_14 : decode cX1_clear 14 = .ok (.putfield 39, 3) := by decide +kernel
theorem dX1_clear_17 : decode cX1_clear 17 = .ok (.aload_n 0, 1) := by decide +kernel
theorem dX1_clear_18 : decode cX1_clear 18 = .ok (.iconst 0, 1) := by decide +kernel
theorem dX1_clear_19 : decode cX1_clear 19 = .ok (.putfield 43, 3) := by decide +kernel
theorem dX1_clear_22 : decode cX1_clear 22 = .ok (.aload_n 0, 1) := by decide +kernel
theorem dX1_clear_23 : decode cX1_clear 23 = .ok (.iconst 0, 1) := by decide +kernel
theorem dX1_clear_24 : decode cX1_clear 24 = .ok (.putfield 46, 3) := by decide +kernel
theorem dX1_clear_27 : decode cX1_clear 27 = .ok (.aload_n 0, 1) := by decide +kernel
theorem dX1_clear_28 : decode cX1_clear 28 = .ok (.iconst 0, 1) := by decide +kernel
theorem dX1_clear_29 : decode cX1_clear 29 = .ok (.putfield 49, 3) := by decide +kernel
theorem dX1_clear_32 : decode cX1_clear 32 = .ok (.return_, 1) := by decide +kernel
theorem dX1_addInput_0 : decode cX1_addInput 0 = .ok (.aload_n 0, 1) := by decide +kernel
theorem dX1_addInput_1 : decode cX1_addInput 1 = .ok (.getfield 39, 3) := by decide +kernel
theorem dX1_addInput_4 : decode cX1_addInput 4 = .ok (.ifCond .lt 49, 3) := by decide +kernel
theorem dX1_addInput_7 : decode cX1_addInput 7 = .ok (.aload_n 0, 1) := by decide +kernel
theorem dX1_addInput_8 : decode cX1_addInput 8 = .ok (.getfield 39, 3) := by decide +kernel
theorem dX1_addInput_11 : decode cX1_addInput 11 = .ok (.aload_n 0, 1) := by decide +kernel
theorem dX1_addInput_12 : decode cX1_addInput 12 = .ok (.getfield 9, 3) := by decide +kernel
theorem dX1_addInput_15 : decode cX1_addInput 15 = .ok (.arraylength, 1) := by decide +kernel
theorem dX1_addInput_16 : decode cX1_addInput 16 = .ok (.if_icmp .ge 37, 3) := by decide +kernel
theorem dX1_addInput_19 : decode cX1_addInput 19 = .ok (.aload_n 0, 1) := by decide +kernel
theorem dX1_addInput_20 : decode cX1_addInput 20 = .ok (.getfield 9, 3) := by decide +kernel
theorem dX1_addInput_23 : decode cX1_addInput 23 = .ok (.aload_n 0, 1) := by decide +kernel
theorem dX1_addInput_24 : decode cX1_addInput 24 = .ok (.getfield 39, 3) := by decide +kernel
theorem dX1_addInput_27 : decode cX1_addInput 27 = .ok (.lload_n 1, 1) := by decide +kernel
theorem dX1_addInput_28 : decode cX1_addInput 28 = .ok (.lastore, 1) := by decide +kernel
theorem dX1_addInput_29 : decode cX1_addInput 29 = .ok (.aload_n 0, 1) := by decide +kernel
theorem dX1_addInput_30 : decode cX1_addInput 30 = .ok (.getfield 18, 3) := by decide +kernel
theorem dX1_addInput_33 : decode cX1_addInput 33 = .ok (.aload_n 0, 1) := by decide +kernel
theorem dX1_addInput_34 : decode cX1_addInput 34 = .ok (.getfield 39, 3) := by decide +kernel
theorem dX1_addInput_37 : decode cX1_addInput 37 = .ok (.iload_n 3, 1) := by decide +kernel
theorem dX1_addInput_38 : decode cX1_addInput 38 = .ok (.iload 4, 2) := by decide +kernel
theorem dX1_addInput_40 : decode cX1_addInput 40 = .ok (.invokevirtual 52, 3) := by decide +kernel
theorem dX1_addInput_43 : decode cX1_addInput 43 = .ok (.aload_n 0, 1) := by decide +kernel
theorem dX1_addInput_44 : decode cX1_addInput 44 = .ok (.dup, 1) := by decide +kernel
theorem dX1_addInput_45 : decode cX1_addInput 45 = .ok (.getfield 39, 3) := by decide +kernel
theorem dX1_addInput_48 : decode cX1_addInput 48 = .ok (.iconst 1, 1) := by decide +kernel
theorem dX1_addInput_49 : decode cX1_addInput 49 = .ok (.iadd, 1) := by decide +kernel
theorem dX1_addInput_50 : decode cX1_addInput 50 = .ok (.putfield 39, 3) := by decide +kernel
theorem dX1_addInput_53 : decode cX1_addInput 53 = .ok (.return_, 1) := by decide +kernel
theorem dX1_inputNamed_0 : decode cX1_inputNamed 0 = .ok (.iconst 0, 1) := by decide +kernel
theorem dX1_inputNamed_1 : decode cX1_inputNamed 1 = .ok (.istore_n 3, 1) := by decide +kernel
theorem dX1_inputNamed_2 : decode cX1_inputNamed 2 = .ok (.iload_n 3, 1) := by decide +kernel
theorem dX1_inputNamed_3 : decode cX1_inputNamed 3 = .ok (.aload_n 0, 1) := by decide +kernel
theorem dX1_inputNamed_4 : decode cX1_inputNamed 4 = .ok (.getfield 39, 3) := by decide +kernel
theorem dX1_inputNamed_7 : decode cX1_inputNamed 7 = .ok (.if_icmp .ge 31, 3) := by decide +kernel
theorem dX1_inputNamed_10 : decode cX1_inputNamed 10 = .ok (.iload_n 3, 1) := by decide +kernel
theorem dX1_inputNamed_11 : decode cX1_inputNamed 11 = .ok (.aload_n 0, 1) := by decide +kernel
theorem dX1_inputNamed_12 : decode cX1_inputNamed 12 = .ok (.getfield 9, 3) := by decide +kernel
theorem dX1_inputNamed_15 : decode cX1_inputNamed 15 = .ok (.arraylength, 1) := by decide +kernel
theorem dX1_inputNamed_16 : decode cX1_inputNamed 16 = .ok (.if_icmp .ge 22, 3) := by decide +kernel
theorem dX1_inputNamed_19 : decode cX1_inputNamed 19 = .ok (.aload_n 0, 1) := by decide +kernel
theorem dX1_inputNamed_20 : decode cX1_inputNamed 20 = .ok (.getfield 9, 3) := by decide +kernel
theorem dX1_inputNamed_23 : decode cX1_inputNamed 23 = .ok (.iload_n 3, 1) := by decide +kernel
theorem dX1_inputNamed_24 : decode cX1_inputNamed 24 = .ok (.laload, 1) := by decide +kernel
theorem dX1_inputNamed_25 : decode cX1_inputNamed 25 = .ok (.lload_n 1, 1) := by decide +kernel
theorem dX1_inputNamed_26 : decode cX1_inputNamed 26 = .ok (.lcmp, 1) := by decide +kernel
theorem dX1_inputNamed_27 : decode cX1_inputNamed 27 = .ok (.ifCond .ne 5, 3) := by decide +kernel
theorem dX1_inputNamed_30 : decode cX1_inputNamed 30 = .ok (.iload_n 3, 1) := by decide +kernel
theorem dX1_inputNamed_31 : decode cX1_inputNamed 31 = .ok (.ireturn, 1) := by decide +kernel
theorem dX1_inputNamed_32 : decode cX1_inputNamed 32 = .ok (.iinc 3 1, 3) := by decide +kernel
theorem dX1_inputNamed_35 : decode cX1_inputNamed 35 = .ok (.goto (-33), 3) := by decide +kernel
theorem dX1_inputNamed_38 : decode cX1_inputNamed 38 = .ok (.iconst (-1), 1) := by decide +kernel
theorem dX1_inputNamed_39 : decode cX1_inputNamed 39 = .ok (.ireturn, 1) := by decide +kernel
theorem dX1_nextPlace_0 : decode cX1_nextPlace 0 = .ok (.aload_n 0, 1) := by decide +kernel
theorem dX1_nextPlace_1 : decode cX1_nextPlace 1 = .ok (.dup, 1) := by decide +kernel
theorem dX1_nextPlace_2 : decode cX1_nextPlace 2 = .ok (.getfield 46, 3) := by decide +kernel
theorem dX1_nextPlace_5 : decode cX1_nextPlace 5 = .ok (.iconst 1, 1) := by decide +kernel
theorem dX1_nextPlace_6 : decode cX1_nextPlace 6 = .ok (.iadd, 1) := by decide +kernel
theorem dX1_nextPlace_7 : decode cX1_nextPlace 7 = .ok (.putfield 46, 3) := by decide +kernel
theorem dX1_nextPlace_10 : decode cX1_nextPlace 10 = .ok (.aload_n 0, 1) := by decide +kernel
theorem dX1_nextPlace_11 : decode cX1_nextPlace 11 = .ok (.getfield 46, 3) := by decide +kernel
theorem dX1_nextPlace_14 : decode cX1_nextPlace 14 = .ok (.iconst 1, 1) := by decide +kernel
theorem dX1_nextPlace_15 : decode cX1_nextPlace 15 = .ok (.isub, 1) := by decide +kernel
theorem dX1_nextPlace_16 : decode cX1_nextPlace 16 = .ok (.ireturn, 1) := by decide +kernel
theorem dX1_emit_0 : decode cX1_emit 0 = .ok (.aload_n 0, 1) := by decide +kernel
theorem dX1_emit_1 : decode cX1_emit 1 = .ok (.getfield 43, 3) := by decide +kernel
theorem dX1_emit_4 : decode cX1_emit 4 = .ok (.istore 4, 2) := by decide +kernel
theorem dX1_emit_6 : decode cX1_emit 6 = .ok (.iload 4, 2) := by decide +kernel
theorem dX1_emit_8 : decode cX1_emit 8 = .ok (.ifCond .lt 67, 3) := by decide +kernel
theorem dX1_emit_11 : decode cX1_emit 11 = .ok (.iload 4, 2) := by decide +kernel
theorem dX1_emit_13 : decode cX1_emit 13 = .ok (.aload_n 0, 1) := by decide +kernel
theorem dX1_emit_14 : decode cX1_emit 14 = .ok (.getfield 22, 3) := by decide +kernel
theorem dX1_emit_17 : decode cX1_emit 17 = .ok (.arraylength, 1) := by decide +kernel
theorem dX1_emit_18 : decode cX1_emit 18 = .ok (.if_icmp .ge 57, 3) := by decide +kernel
theorem dX1_emit_21 : decode cX1_emit 21 = .ok (.iload 4, 2) := by decide +kernel
theorem dX1_emit_23 : decode cX1_emit 23 = .ok (.aload_n 0, 1) := by decide +kernel
theorem dX1_emit_24 : decode cX1_emit 24 = .ok (.getfield 26, 3) := by decide +kernel
theorem dX1_emit_27 : decode cX1_emit 27 = .ok (.arraylength, 1) := by decide +kernel
theorem dX1_emit_28 : decode cX1_emit 28 = .ok (.if_icmp .ge 47, 3) := by decide +kernel
theorem dX1_emit_31 : decode cX1_emit 31 = .ok (.iload 4, 2) := by decide +kernel
theorem dX1_emit_33 : decode cX1_emit 33 = .ok (.aload_n 0, 1) := by decide +kernel
theorem dX1_emit_34 : decode cX1_emit 34 = .ok (.getfield 29, 3) := by decide +kernel
theorem dX1_emit_37 : decode cX1_emit 37 = .ok (.arraylength, 1) := by decide +kernel
theorem dX1_emit_38 : decode cX1_emit 38 = .ok (.if_icmp .ge 37, 3) := by decide +kernel
theorem dX1_emit_41 : decode cX1_emit 41 = .ok (.aload_n 0, 1) := by decide +kernel
theorem dX1_emit_42 : decode cX1_emit 42 = .ok (.getfield 22, 3) := by decide +kernel
theorem dX1_emit_45 : decode cX1_emit 45 = .ok (.iload 4, 2) := by decide +kernel
theorem dX1_emit_47 : decode cX1_emit 47 = .ok (.iload_n 1, 1) := by decide +kernel
theorem dX1_emit_48 : decode cX1_emit 48 = .ok (.iastore, 1) := by decide +kernel
theorem dX1_emit_49 : decode cX1_emit 49 = .ok (.aload_n 0, 1) := by decide +kernel
theorem dX1_emit_50 : decode cX1_emit 50 = .ok (.getfield 26, 3) := by decide +kernel
theorem dX1_emit_53 : decode cX1_emit 53 = .ok (.iload 4, 2) := by decide +kernel
theorem dX1_emit_55 : decode cX1_emit 55 = .ok (.iload_n 2, 1) := by decide +kernel
theorem dX1_emit_56 : decode cX1_emit 56 = .ok (.iastore, 1) := by decide +kernel
theorem dX1_emit_57 : decode cX1_emit 57 = .ok (.aload_n 0, 1) := by decide +kernel
theorem dX1_emit_58 : decode cX1_emit 58 = .ok (.getfield 29, 3) := by decide +kernel
theorem dX1_emit_61 : decode cX1_emit 61 = .ok (.iload 4, 2) := by decide +kernel
theorem dX1_emit_63 : decode cX1_emit 63 = .ok (.iload_n 3, 1) := by decide +kernel
theorem dX1_emit_64 : decode cX1_emit 64 = .ok (.iastore, 1) := by decide +kernel
theorem dX1_emit_65 : decode cX1_emit 65 = .ok (.aload_n 0, 1) := by decide +kernel
theorem dX1_emit_66 : decode cX1_emit 66 = .ok (.dup, 1) := by decide +kernel
theorem dX1_emit_67 : decode cX1_emit 67 = .ok (.getfield 43, 3) := by decide +kernel
theorem dX1_emit_70 : decode cX1_emit 70 = .ok (.iconst 1, 1) := by decide +kernel
theorem dX1_emit_71 : decode cX1_emit 71 = .ok (.iadd, 1) := by decide +kernel
theorem dX1_emit_72 : decode cX1_emit 72 = .ok (.putfield 43, 3) := by decide +kernel
theorem dX1_emit_75 : decode cX1_emit 75 = .ok (.iload 4, 2) := by decide +kernel
theorem dX1_emit_77 : decode cX1_emit 77 = .ok (.ireturn, 1) := by decide +kernel
theorem dX1_aimHere_0 : decode cX1_aimHere 0 = .ok (.iload_n 1, 1) := by decide +kernel
theorem dX1_aimHere_1 : decode cX1_aimHere 1 = .ok (.ifCond .lt 22, 3) := by decide +kernel
theorem dX1_aimHere_4 : decode cX1_aimHere 4 = .ok (.iload_n 1, 1) := by decide +kernel
theorem dX1_aimHere_5 : decode cX1_aimHere 5 = .ok (.aload_n 0, 1) := by decide +kernel
theorem dX1_aimHere_6 : decode cX1_aimHere 6 = .ok (.getfield 26, 3) := by decide +kernel
theorem dX1_aimHere_9 : decode cX1_aimHere 9 = .ok (.arraylength, 1) := by decide +kernel
theorem dX1_aimHere_10 : decode cX1_aimHere 10 = .ok (.if_icmp .ge 13, 3) := by decide +kernel
theorem dX1_aimHere_13 : decode cX1_aimHere 13 = .ok (.aload_n 0, 1) := by decide +kernel
theorem dX1_aimHere_14 : decode cX1_aimHere 14 = .ok (.getfield 26, 3) := by decide +kernel
theorem dX1_aimHere_17 : decode cX1_aimHere 17 = .ok (.iload_n 1, 1) := by decide +kernel
theorem dX1_aimHere_18 : decode cX1_aimHere 18 = .ok (.aload_n 0, 1) := by decide +kernel
theorem dX1_aimHere_19 : decode cX1_aimHere 19 = .ok (.getfield 43, 3) := by decide +kernel
theorem dX1_aimHere_22 : decode cX1_aimHere 22 = .ok (.iastore, 1) := by decide +kernel
theorem dX1_aimHere_23 : decode cX1_aimHere 23 = .ok (.return_, 1) := by decide +kernel
theorem dX1_operationAt_0 : decode cX1_operationAt 0 = .ok (.iload_n 1, 1) := by decide +kernel
theorem dX1_operationAt_1 : decode cX1_operationAt 1 = .ok (.ifCond .lt 21, 3) := by decide +kernel
theorem dX1_operationAt_4 : decode cX1_operationAt 4 = .ok (.iload_n 1, 1) := by decide +kernel
theorem dX1_operationAt_5 : decode cX1_operationAt 5 = .ok (.aload_n 0, 1) := by decide +kernel
theorem dX1_operationAt_6 : decode cX1_operationAt 6 = .ok (.getfield 22, 3) := by decide +kernel
theorem dX1_operationAt_9 : decode cX1_operationAt 9 = .ok (.arraylength, 1) := by decide +kernel
theorem dX1_operationAt_10 : decode cX1_operationAt 10 = .ok (.if_icmp .ge 12, 3) := by decide +kernel
theorem dX1_operationAt_13 : decode cX1_operationAt 13 = .ok (.aload_n 0, 1) := by decide +kernel
theorem dX1_operationAt_14 : decode cX1_operationAt 14 = .ok (.getfield 22, 3) := by decide +kernel
theorem dX1_operationAt_17 : decode cX1_operationAt 17 = .ok (.iload_n 1, 1) := by decide +kernel
theorem dX1_operationAt_18 : decode cX1_operationAt 18 = .ok (.iaload, 1) := by decide +kernel
theorem dX1_operationAt_19 : decode cX1_operationAt 19 = .ok (.goto 5, 3) := by decide +kernel
theorem dX1_operationAt_22 : decode cX1_operationAt 22 = .ok (.bipush 37, 2) := by decide +kernel
theorem dX1_operationAt_24 : decode cX1_operationAt 24 = .ok (.ireturn, 1) := by decide +kernel
theorem dX1_operandAt_0 : decode cX1_operandAt 0 = .ok (.iload_n 1, 1) := by decide +kernel
theorem dX1_operandAt_1 : decode cX1_operandAt 1 = .ok (.ifCond .lt 21, 3) := by decide +kernel
theorem dX1_operandAt_4 : decode cX1_operandAt 4 = .ok (.iload_n 1, 1) := by decide +kernel
theorem dX1_operandAt_5 : decode cX1_operandAt 5 = .ok (.aload_n 0, 1) := by decide +kernel
theorem dX1_operandAt_6 : decode cX1_operandAt 6 = .ok (.getfield 26, 3) := by decide +kernel
theorem dX1_operandAt_9 : decode cX1_operandAt 9 = .ok (.arraylength, 1) := by decide +kernel
theorem dX1_operandAt_10 : decode cX1_operandAt 10 = .ok (.if_icmp .ge 12, 3) := by decide +kernel
theorem dX1_operandAt_13 : decode cX1_operandAt 13 = .ok (.aload_n 0, 1) := by decide +kernel
theorem dX1_operandAt_14 : decode cX1_operandAt 14 = .ok (.getfield 26, 3) := by decide +kernel
theorem dX1_operandAt_17 : decode cX1_operandAt 17 = .ok (.iload_n 1, 1) := by decide +kernel
theorem dX1_operandAt_18 : decode cX1_operandAt 18 = .ok (.iaload, 1) := by decide +kernel
theorem dX1_operandAt_19 : decode cX1_operandAt 19 = .ok (.goto 4, 3) := by decide +kernel
theorem dX1_operandAt_22 : decode cX1_operandAt 22 = .ok (.iconst 0, 1) := by decide +kernel
theorem dX1_operandAt_23 : decode cX1_operandAt 23 = .ok (.ireturn, 1) := by decide +kernel
theorem dX1_placeAt_0 : decode cX1_placeAt 0 = .ok (.iload_n 1, 1) := by decide +kernel
theorem dX1_placeAt_1 : decode cX1_placeAt 1 = .ok (.ifCond .lt 21, 3) := by decide +kernel
theorem dX1_placeAt_4 : decode cX1_placeAt 4 = .ok (.iload_n 1, 1) := by decide +kernel
theorem dX1_placeAt_5 : decode cX1_placeAt 5 = .ok (.aload_n 0, 1) := by decide +kernel
theorem dX1_placeAt_6 : decode cX1_placeAt 6 = .ok (.getfield 29, 3) := by decide +kernel
theorem dX1_placeAt_9 : decode cX1_placeAt 9 = .ok (.arraylength, 1) := by decide +kernel
theorem dX1_placeAt_10 : decode cX1_placeAt 10 = .ok (.if_icmp .ge 12, 3) := by decide +kernel
theorem dX1_placeAt_13 : decode cX1_placeAt 13 = .ok (.aload_n 0, 1) := by decide +kernel
theorem dX1_placeAt_14 : decode cX1_placeAt 14 = .ok (.getfield 29, 3) := by decide +kernel
theorem dX1_placeAt_17 : decode cX1_placeAt 17 = .ok (.iload_n 1, 1) := by decide +kernel
theorem dX1_placeAt_18 : decode cX1_placeAt 18 = .ok (.iaload, 1) := by decide +kernel
theorem dX1_placeAt_19 : decode cX1_placeAt 19 = .ok (.goto 4, 3) := by decide +kernel
theorem dX1_placeAt_22 : decode cX1_placeAt 22 = .ok (.iconst (-1), 1) := by decide +kernel
theorem dX1_placeAt_23 : decode cX1_placeAt 23 = .ok (.ireturn, 1) := by decide +kernel
theorem dX1_pairCount_0 : decode cX1_pairCount 0 = .ok (.aload_n 0, 1) := by decide +kernel
theorem dX1_pairCount_1 : decode cX1_pairCount 1 = .ok (.getfield 18, 3) := by decide +kernel
theorem dX1_pairCount_4 : decode cX1_pairCount 4 = .ok (.iconst 0, 1) := by decide +kernel
theorem dX1_pairCount_5 : decode cX1_pairCount 5 = .ok (.invokevirtual 56, 3) := by decide +kernel
theorem dX1_pairCount_8 : decode cX1_pairCount 8 = .ok (.aload_n 0, 1) := by decide +kernel
theorem dX1_pairCount_9 : decode cX1_pairCount 9 = .ok (.getfield 18, 3) := by decide +kernel
theorem dX1_pairCount_12 : decode cX1_pairCount 12 = .ok (.iconst 1, 1) := by decide +kernel
theorem dX1_pairCount_13 : decode cX1_pairCount 13 = .ok (.invokevirtual 56, 3) := by decide +kernel
theorem dX1_pairCount_16 : decode cX1_pairCount 16 = .ok (.imul, 1) := by decide +kernel
theorem dX1_pairCount_17 : decode cX1_pairCount 17 = .ok (.istore_n 1, 1) := by decide +kernel
theorem dX1_pairCount_18 : decode cX1_pairCount 18 = .ok (.aload_n 0, 1) := by decide +kernel
theorem dX1_pairCount_19 : decode cX1_pairCount 19 = .ok (.getfield 39, 3) := by decide +kernel
theorem dX1_pairCount_22 : decode cX1_pairCount 22 = .ok (.iconst 3, 1) := by decide +kernel
theorem dX1_pairCount_23 : decode cX1_pairCount 23 = .ok (.if_icmp .ne 41, 3) := by decide +kernel
theorem dX1_pairCount_26 : decode cX1_pairCount 26 = .ok (.iload_n 1, 1) := by decide +kernel
theorem dX1_pairCount_27 : decode cX1_pairCount 27 = .ok (.aload_n 0, 1) := by decide +kernel
theorem dX1_pairCount_28 : decode cX1_pairCount 28 = .ok (.getfield 18, 3) := by decide +kernel
theorem dX1_pairCount_31 : decode cX1_pairCount 31 = .ok (.iconst 0, 1) := by decide +kernel
theorem dX1_pairCount_32 : decode cX1_pairCount 32 = .ok (.invokevirtual 56, 3) := by decide +kernel
theorem dX1_pairCount_35 : decode cX1_pairCount 35 = .ok (.aload_n 0, 1) := by decide +kernel
theorem dX1_pairCount_36 : decode cX1_pairCount 36 = .ok (.getfield 18, 3) := by decide +kernel
theorem dX1_pairCount_39 : decode cX1_pairCount 39 = .ok (.iconst 2, 1) := by decide +kernel
theorem dX1_pairCount_40 : decode cX1_pairCount 40 = .ok (.invokevirtual 56, 3) := by decide +kernel
theorem dX1_pairCount_43 : decode cX1_pairCount 43 = .ok (.imul, 1) := by decide +kernel
theorem dX1_pairCount_44 : decode cX1_pairCount 44 = .ok (.aload_n 0, 1) := by decide +kernel
theorem dX1_pairCount_45 : decode cX1_pairCount 45 = .ok (.getfield 18, 3) := by decide +kernel
theorem dX1_pairCount_48 : decode cX1_pairCount 48 = .ok (.iconst 1, 1) := by decide +kernel
theorem dX1_pairCount_49 : decode cX1_pairCount 49 = .ok (.invokevirtual 56, 3) := by decide +kernel
theorem dX1_pairCount_52 : decode cX1_pairCount 52 = .ok (.aload_n 0, 1) := by decide +kernel
theorem dX1_pairCount_53 : decode cX1_pairCount 53 = .ok (.getfield 18, 3) := by decide +kernel
theorem dX1_pairCount_56 : decode cX1_pairCount 56 = .ok (.iconst 2, 1) := by decide +kernel
theorem dX1_pairCount_57 : decode cX1_pairCount 57 = .ok (.invokevirtual 56, 3) := by decide +kernel
theorem dX1_pairCount_60 : decode cX1_pairCount 60 = .ok (.imul, 1) := by decide +kernel
theorem dX1_pairCount_61 : decode cX1_pairCount 61 = .ok (.iadd, 1) := by decide +kernel
theorem dX1_pairCount_62 : decode cX1_pairCount 62 = .ok (.iadd, 1) := by decide +kernel
theorem dX1_pairCount_63 : decode cX1_pairCount 63 = .ok (.istore_n 1, 1) := by decide +kernel
theorem dX1_pairCount_64 : decode cX1_pairCount 64 = .ok (.iload_n 1, 1) := by decide +kernel
theorem dX1_pairCount_65 : decode cX1_pairCount 65 = .ok (.ireturn, 1) := by decide +kernel
theorem dX2_init_0 : decode cX2_init 0 = .ok (.aload_n 0, 1) := by decide +kernel
theorem dX2_init_1 : decode cX2_init 1 = .ok (.invokespecial 3, 3) := by decide +kernel
theorem dX2_init_4 : decode cX2_init 4 = .ok (.aload_n 0, 1) := by decide +kernel
theorem dX2_init_5 : decode cX2_init 5 = .ok (.sipush 203, 3) := by decide +kernel
theorem dX2_init_8 : decode cX2_init 8 = .ok (.newarray .long, 2) := by decide +kernel
theorem dX2_init_10 : decode cX2_init 10 = .ok (.putfield 9, 3) := by decide +kernel
theorem dX2_init_13 : decode cX2_init 13 = .ok (.aload_n 0, 1) := by decide +kernel
theorem dX2_init_14 : decode cX2_init 14 = .ok (.bipush 54, 2) := by decide +kernel
theorem dX2_init_16 : decode cX2_init 16 = .ok (.newarray .int, 2) := by decide +kernel
theorem dX2_init_18 : decode cX2_init 18 = .ok (.putfield 15, 3) := by decide +kernel
theorem dX2_init_21 : decode cX2_init 21 = .ok (.aload_n 0, 1) := by decide +kernel
theorem dX2_init_22 : decode cX2_init 22 = .ok (.bipush 54, 2) := by decide +kernel
theorem dX2_init_24 : decode cX2_init 24 = .ok (.newarray .int, 2) := by decide +kernel
theorem dX2_init_26 : decode cX2_init 26 = .ok (.putfield 19, 3) := by decide +kernel
theorem dX2_init_29 : decode cX2_init 29 = .ok (.aload_n 0, 1) := by decide +kernel
theorem dX2_init_30 : decode cX2_init 30 = .ok (.aload_n 1, 1) := by decide +kernel
theorem dX2_init_31 : decode cX2_init 31 = .ok (.putfield 22, 3) := by decide +kernel
theorem dX2_init_34 : decode cX2_init 34 = .ok (.return_, 1) := by decide +kernel
theorem dX2_reckon_0 : decode cX2_reckon 0 = .ok (.aload_n 0, 1) := by decide +kernel
theorem dX2_reckon_1 : decode cX2_reckon 1 = .ok (.iconst 0, 1) := by decide +kernel
theorem dX2_reckon_2 : decode cX2_reckon 2 = .ok (.putfield 26, 3) := by decide +kernel
theorem dX2_reckon_5 : decode cX2_reckon 5 = .ok (.aload_n 0, 1) := by decide +kernel
theorem dX2_reckon_6 : decode cX2_reckon 6 = .ok (.iconst 0, 1) := by decide +kernel
theorem dX2_reckon_7 : decode cX2_reckon 7 = .ok (.putfield 30, 3) := by decide +kernel
theorem dX2_reckon_10 : decode cX2_reckon 10 = .ok (.aload_n 0, 1) := by decide +kernel
theorem dX2_reckon_11 : decode cX2_reckon 11 = .ok (.lload_n 3, 1) := by decide +kernel
theorem dX2_reckon_12 : decode cX2_reckon 12 = .ok (.invokevirtual 34, 3) := by decide +kernel
theorem dX2_reckon_15 : decode cX2_reckon 15 = .ok (.aload_n 0, 1) := by decide +kernel
theorem dX2_reckon_16 : decode cX2_reckon 16 = .ok (.lload 5, 2) := by decide +kernel
theorem dX2_reckon_18 : decode cX2_reckon 18 = .ok (.invokevirtual 34, 3) := by decide +kernel
theorem dX2_reckon_21 : decode cX2_reckon 21 = .ok (.aload_n 0, 1) := by decide +kernel
theorem dX2_reckon_22 : decode cX2_reckon 22 = .ok (.lload 7, 2) := by decide +kernel
theorem dX2_reckon_24 : decode cX2_reckon 24 = .ok (.invokevirtual 34, 3) := by decide +kernel
theorem dX2_reckon_27 : decode cX2_reckon 27 = .ok (.aload_n 0, 1) := by decide +kernel
theorem dX2_reckon_28 : decode cX2_reckon 28 = .ok (.iload_n 1, 1) := by decide +kernel
theorem dX2_reckon_29 : decode cX2_reckon 29 = .ok (.iconst 0, 1) := by decide +kernel
theorem dX2_reckon_30 : decode cX2_reckon 30 = .ok (.iload_n 2, 1) := by decide +kernel
theorem dX2_reckon_31 : decode cX2_reckon 31 = .ok (.invokevirtual 38, 3) := by decide +kernel
theorem dX2_reckon_34 : decode cX2_reckon 34 = .ok (.aload_n 0, 1) := by decide +kernel
theorem dX2_reckon_35 : decode cX2_reckon 35 = .ok (.getfield 26, 3) := by decide +kernel
theorem dX2_reckon_38 : decode cX2_reckon 38 = .ok (.ifCond .eq 7, 3) := by decide +kernel
theorem dX2_reckon_41 : decode cX2_reckon 41 = .ok (.lconst 0, 1) := by decide +kernel
theorem dX2_reckon_42 : decode cX2_reckon 42 = .ok (.goto 7, 3) := by decide +kernel
theorem dX2_reckon_45 : decode cX2_reckon 45 = .ok (.aload_n 0, 1) := by decide +kernel
theorem dX2_reckon_46 : decode cX2_reckon 46 = .ok (.invokevirtual 42, 3) := by decide +kernel
theorem dX2_reckon_49 : decode cX2_reckon 49 = .ok (.lreturn, 1) := by decide +kernel
theorem dX2_hasFailed_0 : decode cX2_hasFailed 0 = .ok (.aload_n 0, 1) := by decide +kernel
theorem dX2_hasFailed_1 : decode cX2_hasFailed 1 = .ok (.getfield 26, 3) := by decide +kernel
theorem dX2_hasFailed_4 : decode cX2_hasFailed 4 = .ok (.ireturn, 1) := by decide +kernel
theorem dX2_startCounting_0 : decode cX2_startCounting 0 = .ok (.aload_n 0, 1) := by decide +kernel
theorem dX2_startCounting_1 : decode cX2_startCounting 1 = .ok (.iconst 1, 1) := by decide +kernel
theorem dX2_startCounting_2 : decode cX2_startCounting 2 = .ok (.putfield 46, 3) := by decide +kernel
theorem dX2_startCounting_5 : decode cX2_startCounting 5 = .ok (.iconst 0, 1) := by decide +kernel
theorem dX2_startCounting_6 : decode cX2_startCounting 6 = .ok (.istore_n 1, 1) := by decide +kernel
theorem dX2_startCounting_7 : decode cX2_startCounting 7 = .ok (.iload_n 1, 1) := by decide +kernel
theorem dX2_startCounting_8 : decode cX2_startCounting 8 = .ok (.aload_n 0, 1) := by decide +kernel
theorem dX2_startCounting_9 : decode cX2_startCounting 9 = .ok (.getfield 15, 3) := by decide +kernel
theorem dX2_startCounting_12 : decode cX2_startCounting 12 = .ok (.arraylength, 1) := by decide +kernel
theorem dX2_startCounting_13 : decode cX2_startCounting 13 = .ok (.if_icmp .ge 16, 3) := by decide +kernel
theorem dX2_startCounting_16 : decode cX2_startCounting 16 = .ok (.aload_n 0, 1) := by decide +kernel
theorem dX2_startCounting_17 : decode cX2_startCounting 17 = .ok (.getfield 15, 3) := by decide +kernel
theorem dX2_startCounting_20 : decode cX2_startCounting 20 = .ok (.iload_n 1, 1) := by decide +kernel
theorem dX2_startCounting_21 : decode cX2_startCounting 21 = .ok (.iconst 0, 1) := by decide +kernel
theorem dX2_startCounting_22 : decode cX2_startCounting 22 = .ok (.iastore, 1) := by decide +kernel
theorem dX2_startCounting_23 : decode cX2_startCounting 23 = .ok (.iinc 1 1, 3) := by decide +kernel
theorem dX2_startCounting_26 : decode cX2_startCounting 26 = .ok (.goto (-19), 3) := by decide +kernel
theorem dX2_startCounting_29 : decode cX2_startCounting 29 = .ok (.iconst 0, 1) := by decide +kernel
theorem dX2_startCounting_30 : decode cX2_startCounting 30 = .ok (.istore_n 1, 1) := by decide +kernel
theorem dX2_startCounting_31 : decode cX2_startCounting 31 = .ok (.iload_n 1, 1) := by decide +kernel
theorem dX2_startCounting_32 : decode cX2_startCounting 32 = .ok (.aload_n 0, 1) := by decide +kernel
theorem dX2_startCounting_33 : decode cX2_startCounting 33 = .ok (.getfield 19, 3) := by decide +kernel
theorem dX2_startCounting_36 : decode cX2_startCounting 36 = .ok (.arraylength, 1) := by decide +kernel
theorem dX2_startCounting_37 : decode cX2_startCounting 37 = .ok (.if_icmp .ge 16, 3) := by decide +kernel
theorem dX2_startCounting_40 : decode cX2_startCounting 40 = .ok (.aload_n 0, 1) := by decide +kernel
theorem dX2_startCounting_41 : decode cX2_startCounting 41 = .ok (.getfield 19, 3) := by decide +kernel
theorem dX2_startCounting_44 : decode cX2_startCounting 44 = .ok (.iload_n 1, 1) := by decide +kernel
theorem dX2_startCounting_45 : decode cX2_startCounting 45 = .ok (.iconst 0, 1) := by decide +kernel
theorem dX2_startCounting_46 : decode cX2_startCounting 46 = .ok (.iastore, 1) := by decide +kernel
theorem dX2_startCounting_47 : decode cX2_startCounting 47 = .ok (.iinc 1 1, 3) := by decide +kernel
theorem dX2_startCounting_50 : decode cX2_startCounting 50 = .ok (.goto (-19), 3) := by decide +kernel
theorem dX2_startCounting_53 : decode cX2_startCounting 53 = .ok (.return_, 1) := by decide +kernel
theorem dX2_stopCounting_0 : decode cX2_stopCounting 0 = .ok (.aload_n 0, 1) := by decide +kernel
theorem dX2_stopCounting_1 : decode cX2_stopCounting 1 = .ok (.iconst 0, 1) := by decide +kernel
theorem dX2_stopCounting_2 : decode cX2_stopCounting 2 = .ok (.putfield 46, 3) := by decide +kernel
theorem dX2_stopCounting_5 : decode cX2_stopCounting 5 = .ok (.return_, 1) := by decide +kernel
theorem dX2_branchCount_0 : decode cX2_branchCount 0 = .ok (.iload_n 2, 1) := by decide +kernel
theorem dX2_branchCount_1 : decode cX2_branchCount 1 = .ok (.ifCond .eq 10, 3) := by decide +kernel
theorem dX2_branchCount_4 : decode cX2_branchCount 4 = .ok (.aload_n 0, 1) := by decide +kernel
theorem dX2_branchCount_5 : decode cX2_branchCount 5 = .ok (.getfield 15, 3) := by decide +kernel
theorem dX2_branchCount_8 : decode cX2_branchCount 8 = .ok (.goto 7, 3) := by decide +kernel
theorem dX2_branchCount_11 : decode cX2_branchCount 11 = .ok (.aload_n 0, 1) := by decide +kernel
theorem dX2_branchCount_12 : decode cX2_branchCount 12 = .ok (.getfield 19, 3) := by decide +kernel
theorem dX2_branchCount_15 : decode cX2_branchCount 15 = .ok (.astore_n 3, 1) := by decide +kernel
theorem dX2_branchCount_16 : decode cX2_branchCount 16 = .ok (.iload_n 1, 1) := by decide +kernel
theorem dX2_branchCount_17 : decode cX2_branchCount 17 = .ok (.ifCond .lt 15, 3) := by decide +kernel
theorem dX2_branchCount_20 : decode cX2_branchCount 20 = .ok (.iload_n 1, 1) := by decide +kernel
theorem dX2_branchCount_21 : decode cX2_branchCount 21 = .ok (.aload_n 3, 1) := by decide +kernel
theorem dX2_branchCount_22 : decode cX2_branchCount 22 = .ok (.arraylength, 1) := by decide +kernel
theorem dX2_branchCount_23 : decode cX2_branchCount 23 = .ok (.if_icmp .ge 9, 3) := by decide +kernel
theorem dX2_branchCount_26 : decode cX2_branchCount 26 = .ok (.aload_n 3, 1) := by decide +kernel
theorem dX2_branchCount_27 : decode cX2_branchCount 27 = .ok (.iload_n 1, 1) := by decide +kernel
theorem dX2_branchCount_28 : decode cX2_branchCount 28 = .ok (.iaload, 1) := by decide +kernel
theorem dX2_branchCount_29 : decode cX2_branchCount 29 = .ok (.goto 4, 3) := by decide +kernel
theorem dX2_branchCount_32 : decode cX2_branchCount 32 = .ok (.iconst 0, 1) := by decide +kernel
theorem dX2_branchCount_33 : decode cX2_branchCount 33 = .ok (.ireturn, 1) := by decide +kernel
theorem dX2_countBranch_0 : decode cX2_countBranch 0 = .ok (.iload_n 2, 1) := by decide +kernel
theorem dX2_countBranch_1 : decode cX2_countBranch 1 = .ok (.ifCond .eq 10, 3) := by decide +kernel
theorem dX2_countBranch_4 : decode cX2_countBranch 4 = .ok (.aload_n 0, 1) := by decide +kernel
theorem dX2_countBranch_5 : decode cX2_countBranch 5 = .ok (.getfield 15, 3) := by decide +kernel
theorem dX2_countBranch_8 : decode cX2_countBranch 8 = .ok (.goto 7, 3) := by decide +kernel
theorem dX2_countBranch_11 : decode cX2_countBranch 11 = .ok (.aload_n 0, 1) := by decide +kernel
theorem dX2_countBranch_12 : decode cX2_countBranch 12 = .ok (.getfield 19, 3) := by decide +kernel
theorem dX2_countBranch_15 : decode cX2_countBranch 15 = .ok (.astore_n 3, 1) := by decide +kernel
theorem dX2_countBranch_16 : decode cX2_countBranch 16 = .ok (.aload_n 0, 1) := by decide +kernel
theorem dX2_countBranch_17 : decode cX2_countBranch 17 = .ok (.getfield 46, 3) := by decide +kernel
theorem dX2_countBranch_20 : decode cX2_countBranch 20 = .ok (.ifCond .eq 20, 3) := by decide +kernel
theorem dX2_countBranch_23 : decode cX2_countBranch 23 = .ok (.iload_n 1, 1) := by decide +kernel
theorem dX2_countBranch_24 : decode cX2_countBranch 24 = .ok (.ifCond .lt 16, 3) := by decide +kernel
theorem dX2_countBranch_27 : decode cX2_countBranch 27 = .ok (.iload_n 1, 1) := by decide +kernel
theorem dX2_countBranch_28 : decode cX2_countBranch 28 = .ok (.aload_n 3, 1) := by decide +kernel
theorem dX2_countBranch_29 : decode cX2_countBranch 29 = .ok (.arraylength, 1) := by decide +kernel
theorem dX2_countBranch_30 : decode cX2_countBranch 30 = .ok (.if_icmp .ge 10, 3) := by decide +kernel
theorem dX2_countBranch_33 : decode cX2_countBranch 33 = .ok (.aload_n 3, 1) := by decide +kernel
theorem dX2_countBranch_34 : decode cX2_countBranch 34 = .ok (.iload_n 1, 1) := by decide +kernel
theorem dX2_countBranch_35 : decode cX2_countBranch 35 = .ok (.dup2, 1) := by decide +kernel
theorem dX2_countBranch_36 : decode cX2_countBranch 36 = .ok (.iaload, 1) := by decide +kernel
theorem dX2_countBranch_37 : decode cX2_countBranch 37 = .ok (.iconst 1, 1) := by decide +kernel
theorem dX2_countBranch_38 : decode cX2_countBranch 38 = .ok (.iadd, 1) := by decide +kernel
theorem dX2_countBranch_39 : decode cX2_countBranch 39 = .ok (.iastore, 1) := by decide +kernel
theorem dX2_countBranch_40 : decode cX2_countBranch 40 = .ok (.return_, 1) := by decide +kernel
theorem dX2_push_0 : decode cX2_push 0 = .ok (.aload_n 0, 1) := by decide +kernel
theorem dX2_push_1 : decode cX2_push 1 = .ok (.getfield 30, 3) := by decide +kernel
theorem dX2_push_4 : decode cX2_push 4 = .ok (.ifCond .lt 35, 3) := by decide +kernel
theorem dX2_push_7 : decode cX2_push 7 = .ok (.aload_n 0, 1) := by decide +kernel
theorem dX2_push_8 : decode cX2_push 8 = .ok (.getfield 30, 3) := by decide +kernel
theorem dX2_push_11 : decode cX2_push 11 = .ok (.aload_n 0, 1) := by decide +kernel
theorem dX2_push_12 : decode cX2_push 12 = .ok (.getfield 9, 3) := by decide +kernel
theorem dX2_push_15 : decode cX2_push 15 = .ok (.arraylength, 1) := by decide +kernel
theorem dX2_push_16 : decode cX2_push 16 = .ok (.if_icmp .ge 23, 3) := by decide +kernel
theorem dX2_push_19 : decode cX2_push 19 = .ok (.aload_n 0, 1) := by decide +kernel
theorem dX2_push_20 : decode cX2_push 20 = .ok (.getfield 9, 3) := by decide +kernel
theorem dX2_push_23 : decode cX2_push 23 = .ok (.aload_n 0, 1) := by decide +kernel
theorem dX2_push_24 : decode cX2_push 24 = .ok (.getfield 30, 3) := by decide +kernel
theorem dX2_push_27 : decode cX2_push 27 = .ok (.lload_n 1, 1) := by decide +kernel
theorem dX2_push_28 : decode cX2_push 28 = .ok (.lastore, 1) := by decide +kernel
theorem dX2_push_29 : decode cX2_push 29 = .ok (.aload_n 0, 1) := by decide +kernel
theorem dX2_push_30 : decode cX2_push 30 = .ok (.dup, 1) := by decide +kernel
theorem dX2_push_31 : decode cX2_push 31 = .ok (.getfield 30, 3) := by decide +kernel
theorem dX2_push_34 : decode cX2_push 34 = .ok (.iconst 1, 1) := by decide +kernel
theorem dX2_push_35 : decode cX2_push 35 = .ok (.iadd, 1) := by decide +kernel
theorem dX2_push_36 : decode cX2_push 36 = .ok (.putfield 30, 3) := by decide +kernel
theorem dX2_push_39 : decode cX2_push 39 = .ok (.return_, 1) := by decide +kernel
theorem dX2_pop_0 : decode cX2_pop 0 = .ok (.aload_n 0, 1) := by decide +kernel
theorem dX2_pop_1 : decode cX2_pop 1 = .ok (.getfield 30, 3) := by decide +kernel
theorem dX2_pop_4 : decode cX2_pop 4 = .ok (.ifCond .le 15, 3) := by decide +kernel
theorem dX2_pop_7 : decode cX2_pop 7 = .ok (.aload_n 0, 1) := by decide +kernel
theorem dX2_pop_8 : decode cX2_pop 8 = .ok (.getfield 30, 3) := by decide +kernel
theorem dX2_pop_11 : decode cX2_pop 11 = .ok (.aload_n 0, 1) := by decide +kernel
theorem dX2_pop_12 : decode cX2_pop 12 = .ok (.getfield 9, 3) := by decide +kernel
theorem dX2_pop_15 : decode cX2_pop 15 = .ok (.arraylength, 1) := by decide +kernel
theorem dX2_pop_16 : decode cX2_pop 16 = .ok (.if_icmp .le 5, 3) := by decide +kernel
theorem dX2_pop_19 : decode cX2_pop 19 = .ok (.lconst 0, 1) := by decide +kernel
theorem dX2_pop_20 : decode cX2_pop 20 = .ok (.lreturn, 1) := by decide +kernel
theorem dX2_pop_21 : decode cX2_pop 21 = .ok (.aload_n 0, 1) := by decide +kernel
theorem dX2_pop_22 : decode cX2_pop 22 = .ok (.dup, 1) := by decide +kernel
theorem dX2_pop_23 : decode cX2_pop 23 = .ok (.getfield 30, 3) := by decide +kernel
theorem dX2_pop_26 : decode cX2_pop 26 = .ok (.iconst 1, 1) := by decide +kernel
theorem dX2_pop_27 : decode cX2_pop 27 = .ok (.isub, 1) := by decide +kernel
theorem dX2_pop_28 : decode cX2_pop 28 = .ok (.putfield 30, 3) := by decide +kernel
theorem dX2_pop_31 : decode cX2_pop 31 = .ok (.aload_n 0, 1) := by decide +kernel
theorem dX2_pop_32 : decode cX2_pop 32 = .ok (.getfield 9, 3) := by decide +kernel
theorem dX2_pop_35 : decode cX2_pop 35 = .ok (.aload_n 0, 1) := by decide +kernel
theorem dX2_pop_36 : decode cX2_pop 36 = .ok (.getfield 30, 3) := by decide +kernel
theorem dX2_pop_39 : decode cX2_pop 39 = .ok (.laload, 1) := by decide +kernel
theorem dX2_pop_40 : decode cX2_pop 40 = .ok (.lreturn, 1) := by decide +kernel
theorem dX2_valueAt_0 : decode cX2_valueAt 0 = .ok (.iload_n 1, 1) := by decide +kernel
theorem dX2_valueAt_1 : decode cX2_valueAt 1 = .ok (.ifCond .lt 21, 3) := by decide +kernel
theorem dX2_valueAt_4 : decode cX2_valueAt 4 = .ok (.iload_n 1, 1) := by decide +kernel
theorem dX2_valueAt_5 : decode cX2_valueAt 5 = .ok (.aload_n 0, 1) := by decide +kernel
theorem dX2_valueAt_6 : decode cX2_valueAt 6 = .ok (.getfield 9, 3) := by decide +kernel
theorem dX2_valueAt_9 : decode cX2_valueAt 9 = .ok (.arraylength, 1) := by decide +kernel
theorem dX2_valueAt_10 : decode cX2_valueAt 10 = .ok (.if_icmp .ge 12, 3) := by decide +kernel
theorem dX2_valueAt_13 : decode cX2_valueAt 13 = .ok (.aload_n 0, 1) := by decide +kernel
theorem dX2_valueAt_14 : decode cX2_valueAt 14 = .ok (.getfield 9, 3) := by decide +kernel
theorem dX2_valueAt_17 : decode cX2_valueAt 17 = .ok (.iload_n 1, 1) := by decide +kernel
theorem dX2_valueAt_18 : decode cX2_valueAt 18 = .ok (.laload, 1) := by decide +kernel
theorem dX2_valueAt_19 : decode cX2_valueAt 19 = .ok (.goto 4, 3) := by decide +kernel
theorem dX2_valueAt_22 : decode cX2_valueAt 22 = .ok (.lconst 0, 1) := by decide +kernel
theorem dX2_valueAt_23 : decode cX2_valueAt 23 = .ok (.lreturn, 1) := by decide +kernel
theorem dX2_run_0 : decode cX2_run 0 = .ok (.aload_n 0, 1) := by decide +kernel
theorem dX2_run_1 : decode cX2_run 1 = .ok (.getfield 22, 3) := by decide +kernel
theorem dX2_run_4 : decode cX2_run 4 = .ok (.iload_n 1, 1) := by decide +kernel
theorem dX2_run_5 : decode cX2_run 5 = .ok (.invokevirtual 49, 3) := by decide +kernel
theorem dX2_run_8 : decode cX2_run 8 = .ok (.astore 4, 2) := by decide +kernel
theorem dX2_run_10 : decode cX2_run 10 = .ok (.iconst 0, 1) := by decide +kernel
theorem dX2_run_11 : decode cX2_run 11 = .ok (.istore 5, 2) := by decide +kernel
theorem dX2_run_13 : decode cX2_run 13 = .ok (.iconst 0, 1) := by decide +kernel
theorem dX2_run_14 : decode cX2_run 14 = .ok (.istore 6, 2) := by decide +kernel
theorem dX2_run_16 : decode cX2_run 16 = .ok (.iload 6, 2) := by decide +kernel
theorem dX2_run_18 : decode cX2_run 18 = .ok (.bipush 100, 2) := by decide +kernel
theorem dX2_run_20 : decode cX2_run 20 = .ok (.if_icmp .ge 286, 3) := by decide +kernel
theorem dX2_run_23 : decode cX2_run 23 = .ok (.iload 5, 2) := by decide +kernel
theorem dX2_run_25 : decode cX2_run 25 = .ok (.aload 4, 2) := by decide +kernel
theorem dX2_run_27 : decode cX2_run 27 = .ok (.getfield 55, 3) := by decide +kernel
theorem dX2_run_30 : decode cX2_run 30 = .ok (.if_icmp .ge 276, 3) := by decide +kernel
theorem dX2_run_33 : decode cX2_run 33 = .ok (.aload_n 0, 1) := by decide +kernel
theorem dX2_run_34 : decode cX2_run 34 = .ok (.getfield 26, 3) := by decide +kernel
theorem dX2_run_37 : decode cX2_run 37 = .ok (.ifCond .ne 269, 3) := by decide +kernel
theorem dX2_run_40 : decode cX2_run 40 = .ok (.aload 4, 2) := by decide +kernel
theorem dX2_run_42 : decode cX2_run 42 = .ok (.iload 5, 2) := by decide +kernel
theorem dX2_run_44 : decode cX2_run 44 = .ok (.invokevirtual 60, 3) := by decide +kernel
theorem dX2_run_47 : decode cX2_run 47 = .ok (.istore 7, 2) := by decide +kernel
theorem dX2_run_49 : decode cX2_run 49 = .ok (.aload 4, 2) := by decide +kernel
theorem dX2_run_51 : decode cX2_run 51 = .ok (.iload 5, 2) := by decide +kernel
theorem dX2_run_53 : decode cX2_run 53 = .ok (.invokevirtual 64, 3) := by decide +kernel
theorem dX2_run_56 : decode cX2_run 56 = .ok (.istore 8, 2) := by decide +kernel
theorem dX2_run_58 : decode cX2_run 58 = .ok (.iload_n 3, 1) := by decide +kernel
theorem dX2_run_59 : decode cX2_run 59 = .ok (.iconst (-1), 1) := by decide +kernel
theorem dX2_run_60 : decode cX2_run 60 = .ok (.if_icmp .eq 18, 3) := by decide +kernel
theorem dX2_run_63 : decode cX2_run 63 = .ok (.aload 4, 2) := by decide +kernel
theorem dX2_run_65 : decode cX2_run 65 = .ok (.iload 5, 2) := by decide +kernel
theorem dX2_run_67 : decode cX2_run 67 = .ok (.invokevirtual 67, 3) := by decide +kernel
theorem dX2_run_70 : decode cX2_run 70 = .ok (.iload_n 3, 1) := by decide +kernel
theorem dX2_run_71 : decode cX2_run 71 = .ok (.if_icmp .ne 7, 3) := by decide +kernel
theorem dX2_run_74 : decode cX2_run 74 = .ok (.iconst 1, 1) := by decide +kernel
theorem dX2_run_75 : decode cX2_run 75 = .ok (.goto 4, 3) := by decide +kernel
theorem dX2_run_78 : decode cX2_run 78 = .ok (.iconst 0, 1) := by decide +kernel
theorem dX2_run_79 : decode cX2_run 79 = .ok (.istore 9, 2) := by decide +kernel
theorem dX2_run_81 : decode cX2_run 81 = .ok (.iinc 5 1, 3) := by decide +kernel
theorem dX2_run_84 : decode cX2_run 84 = .ok (.iload 7, 2) := by decide +kernel
theorem dX2_run_86 : decode cX2_run 86 = .ok (.lookupswitch 195 #[(2, 81), (6, 114), (9, 145), (10, 166), (34, 66), (35, 104), (38, 138)], 66) := by decide +kernel
theorem dX2_run_152 : decode cX2_run 152 = .ok (.aload_n 0, 1) := by decide +kernel
theorem dX2_run_153 : decode cX2_run 153 = .ok (.aload_n 0, 1) := by decide +kernel
theorem dX2_run_154 : decode cX2_run 154 = .ok (.iload_n 2, 1) := by decide +kernel
theorem dX2_run_155 : decode cX2_run 155 = .ok (.iload 8, 2) := by decide +kernel
theorem dX2_run_157 : decode cX2_run 157 = .ok (.iadd, 1) := by decide +kernel
theorem dX2_run_158 : decode cX2_run 158 = .ok (.invokevirtual 70, 3) := by decide +kernel
theorem dX2_run_161 : decode cX2_run 161 = .ok (.invokevirtual 34, 3) := by decide +kernel
theorem dX2_run_164 : decode cX2_run 164 = .ok (.goto 136, 3) := by decide +kernel
theorem dX2_run_167 : decode cX2_run 167 = .ok (.aload_n 0, 1) := by decide +kernel
theorem dX2_run_168 : decode cX2_run 168 = .ok (.iload 9, 2) := by decide +kernel
theorem dX2_run_170 : decode cX2_run 170 = .ok (.ifCond .eq 11, 3) := by decide +kernel
theorem dX2_run_173 : decode cX2_run 173 = .ok (.iload 8, 2) := by decide +kernel
theorem dX2_run_175 : decode cX2_run 175 = .ok (.iconst 1, 1) := by decide +kernel
theorem dX2_run_176 : decode cX2_run 176 = .ok (.iadd, 1) := by decide +kernel
theorem dX2_run_177 : decode cX2_run 177 = .ok (.i2l, 1) := by decide +kernel
theorem dX2_run_178 : decode cX2_run 178 = .ok (.goto 6, 3) := by decide +kernel
theorem dX2_run_181 : decode cX2_run 181 = .ok (.iload 8, 2) := by decide +kernel
theorem dX2_run_183 : decode cX2_run 183 = .ok (.i2l, 1) := by decide +kernel
theorem dX2_run_184 : decode cX2_run 184 = .ok (.invokevirtual 34, 3) := by decide +kernel
theorem dX2_run_187 : decode cX2_run 187 = .ok (.goto 113, 3) := by decide +kernel
theorem dX2_run_190 : decode cX2_run 190 = .ok (.aload_n 0, 1) := by decide +kernel
theorem dX2_run_191 : decode cX2_run 191 = .ok (.iload_n 1, 1) := by decide +kernel
theorem dX2_run_192 : decode cX2_run 192 = .ok (.iload 8, 2) := by decide +kernel
theorem dX2_run_194 : decode cX2_run 194 = .ok (.invokevirtual 74, 3) := by decide +kernel
theorem dX2_run_197 : decode cX2_run 197 = .ok (.goto 103, 3) := by decide +kernel
theorem dX2_run_200 : decode cX2_run 200 = .ok (.iload 5, 2) := by decide +kernel
theorem dX2_run_202 : decode cX2_run 202 = .ok (.aload_n 0, 1) := by decide +kernel
theorem dX2_run_203 : decode cX2_run 203 = .ok (.iload 8, 2) := by decide +kernel
theorem dX2_run_205 : decode cX2_run 205 = .ok (.iload 9, 2) := by decide +kernel
theorem dX2_run_207 : decode cX2_run 207 = .ok (.invokevirtual 78, 3) := by decide +kernel
theorem dX2_run_210 : decode cX2_run 210 = .ok (.ifCond .eq 7, 3) := by decide +kernel
theorem dX2_run_213 : decode cX2_run 213 = .ok (.iconst 1, 1) := by decide +kernel
theorem dX2_run_214 : decode cX2_run 214 = .ok (.goto 4, 3) := by decide +kernel
theorem dX2_run_217 : decode cX2_run 217 = .ok (.iconst 0, 1) := by decide +kernel
theorem dX2_run_218 : decode cX2_run 218 = .ok (.iadd, 1) := by decide +kernel
theorem dX2_run_219 : decode cX2_run 219 = .ok (.istore 5, 2) := by decide +kernel
theorem dX2_run_221 : decode cX2_run 221 = .ok (.goto 79, 3) := by decide +kernel
theorem dX2_run_224 : decode cX2_run 224 = .ok (.iload 8, 2) := by decide +kernel
theorem dX2_run_226 : decode cX2_run 226 = .ok (.istore 5, 2) := by decide +kernel
theorem dX2_run_228 : decode cX2_run 228 = .ok (.goto 72, 3) := by decide +kernel
theorem dX2_run_231 : decode cX2_run 231 = .ok (.aload_n 0, 1) := by decide +kernel
theorem dX2_run_232 : decode cX2_run 232 = .ok (.iload 9, 2) := by decide +kernel
theorem dX2_run_234 : decode cX2_run 234 = .ok (.invokevirtual 82, 3) := by decide +kernel
theorem dX2_run_237 : decode cX2_run 237 = .ok (.ifCond .eq 8, 3) := by decide +kernel
theorem dX2_run_240 : decode cX2_run 240 = .ok (.iload 8, 2) := by decide +kernel
theorem dX2_run_242 : decode cX2_run 242 = .ok (.goto 5, 3) := by decide +kernel
theorem dX2_run_245 : decode cX2_run 245 = .ok (.iload 5, 2) := by decide +kernel
theorem dX2_run_247 : decode cX2_run 247 = .ok (.istore 5, 2) := by decide +kernel
theorem dX2_run_249 : decode cX2_run 249 = .ok (.goto 51, 3) := by decide +kernel
theorem dX2_run_252 : decode cX2_run 252 = .ok (.aload_n 0, 1) := by decide +kernel
theorem dX2_run_253 : decode cX2_run 253 = .ok (.iload 9, 2) := by decide +kernel
theorem dX2_run_255 : decode cX2_run 255 = .ok (.ifCond .ne 7, 3) := by decide +kernel
theorem dX2_run_258 : decode cX2_run 258 = .ok (.iconst 1, 1) := by decide +kernel
theorem dX2_run_259 : decode cX2_run 259 = .ok (.goto 4, 3) := by decide +kernel
theorem dX2_run_262 : decode cX2_run 262 = .ok (.iconst 0, 1) := by decide +kernel
theorem dX2_run_263 : decode cX2_run 263 = .ok (.invokevirtual 82, 3) := by decide +kernel
theorem dX2_run_266 : decode cX2_run 266 = .ok (.ifCond .eq 8, 3) := by decide +kernel
theorem dX2_run_269 : decode cX2_run 269 = .ok (.iload 8, 2) := by decide +kernel
theorem dX2_run_271 : decode cX2_run 271 = .ok (.goto 5, 3) := by decide +kernel
theorem dX2_run_274 : decode cX2_run 274 = .ok (.iload 5, 2) := by decide +kernel
theorem dX2_run_276 : decode cX2_run 276 = .ok (.istore 5, 2) := by decide +kernel
theorem dX2_run_278 : decode cX2_run 278 = .ok (.goto 22, 3) := by decide +kernel
theorem dX2_run_281 : decode cX2_run 281 = .ok (.aload_n 0, 1) := by decide +kernel
theorem dX2_run_282 : decode cX2_run 282 = .ok (.iload 9, 2) := by decide +kernel
theorem dX2_run_284 : decode cX2_run 284 = .ok (.ifCond .eq 11, 3) := by decide +kernel
theorem dX2_run_287 : decode cX2_run 287 = .ok (.iload 7, 2) := by decide +kernel
theorem dX2_run_289 : decode cX2_run 289 = .ok (.invokestatic 86, 3) := by decide +kernel
theorem dX2_run_292 : decode cX2_run 292 = .ok (.goto 5, 3) := by decide +kernel
theorem dX2_run_295 : decode cX2_run 295 = .ok (.iload 7, 2) := by decide +kernel
theorem dX2_run_297 : decode cX2_run 297 = .ok (.invokevirtual 89, 3) := by decide +kernel
theorem dX2_run_300 : decode cX2_run 300 = .ok (.iinc 6 1, 3) := by decide +kernel
theorem dX2_run_303 : decode cX2_run 303 = .ok (.goto (-287), 3) := by decide +kernel
theorem dX2_run_306 : decode cX2_run 306 = .ok (.return_, 1) := by decide +kernel
theorem dX2_runCalled_0 : decode cX2_runCalled 0 = .ok (.iload_n 2, 1) := by decide +kernel
theorem dX2_runCalled_1 : decode cX2_runCalled 1 = .ok (.ifCond .lt 8, 3) := by decide +kernel
theorem dX2_runCalled_4 : decode cX2_runCalled 4 = .ok (.iload_n 2, 1) := by decide +kernel
theorem dX2_runCalled_5 : decode cX2_runCalled 5 = .ok (.iload_n 1, 1) := by decide +kernel
theorem dX2_runCalled_6 : decode cX2_runCalled 6 = .ok (.if_icmp .lt 9, 3) := by decide +kernel
theorem dX2_runCalled_9 : decode cX2_runCalled 9 = .ok (.aload_n 0, 1) := by decide +kernel
theorem dX2_runCalled_10 : decode cX2_runCalled 10 = .ok (.iconst 1, 1) := by decide +kernel
theorem dX2_runCalled_11 : decode cX2_runCalled 11 = .ok (.putfield 26, 3) := by decide +kernel
theorem dX2_runCalled_14 : decode cX2_runCalled 14 = .ok (.return_, 1) := by decide +kernel
theorem dX2_runCalled_15 : decode cX2_runCalled 15 = .ok (.aload_n 0, 1) := by decide +kernel
theorem dX2_runCalled_16 : decode cX2_runCalled 16 = .ok (.getfield 30, 3) := by decide +kernel
theorem dX2_runCalled_19 : decode cX2_runCalled 19 = .ok (.aload_n 0, 1) := by decide +kernel
theorem dX2_runCalled_20 : decode cX2_runCalled 20 = .ok (.getfield 22, 3) := by decide +kernel
theorem dX2_runCalled_23 : decode cX2_runCalled 23 = .ok (.iload_n 2, 1) := by decide +kernel
theorem dX2_runCalled_24 : decode cX2_runCalled 24 = .ok (.invokevirtual 49, 3) := by decide +kernel
theorem dX2_runCalled_27 : decode cX2_runCalled 27 = .ok (.getfield 93, 3) := by decide +kernel
theorem dX2_runCalled_30 : decode cX2_runCalled 30 = .ok (.isub, 1) := by decide +kernel
theorem dX2_runCalled_31 : decode cX2_runCalled 31 = .ok (.istore_n 3, 1) := by decide +kernel
theorem dX2_runCalled_32 : decode cX2_runCalled 32 = .ok (.aload_n 0, 1) := by decide +kernel
theorem dX2_runCalled_33 : decode cX2_runCalled 33 = .ok (.iload_n 2, 1) := by decide +kernel
theorem dX2_runCalled_34 : decode cX2_runCalled 34 = .ok (.iload_n 3, 1) := by decide +kernel
theorem dX2_runCalled_35 : decode cX2_runCalled 35 = .ok (.iconst (-1), 1) := by decide +kernel
theorem dX2_runCalled_36 : decode cX2_runCalled 36 = .ok (.invokevirtual 38, 3) := by decide +kernel
theorem dX2_runCalled_39 : decode cX2_runCalled 39 = .ok (.aload_n 0, 1) := by decide +kernel
theorem dX2_runCalled_40 : decode cX2_runCalled 40 = .ok (.invokevirtual 42, 3) := by decide +kernel
theorem dX2_runCalled_43 : decode cX2_runCalled 43 = .ok (.lstore 4, 2) := by decide +kernel
theorem dX2_runCalled_45 : decode cX2_runCalled 45 = .ok (.aload_n 0, 1) := by decide +kernel
theorem dX2_runCalled_46 : decode cX2_runCalled 46 = .ok (.iload_n 3, 1) := by decide +kernel
theorem dX2_runCalled_47 : decode cX2_runCalled 47 = .ok (.putfield 30, 3) := by decide +kernel
theorem dX2_runCalled_50 : decode cX2_runCalled 50 = .ok (.aload_n 0, 1) := by decide +kernel
theorem dX2_runCalled_51 : decode cX2_runCalled 51 = .ok (.lload 4, 2) := by decide +kernel
theorem dX2_runCalled_53 : decode cX2_runCalled 53 = .ok (.invokevirtual 34, 3) := by decide +kernel
theorem dX2_runCalled_56 : decode cX2_runCalled 56 = .ok (.return_, 1) := by decide +kernel
theorem dX2_takesThen_0 : decode cX2_takesThen 0 = .ok (.aload_n 0, 1) := by decide +kernel
theorem dX2_takesThen_1 : decode cX2_takesThen 1 = .ok (.invokevirtual 42, 3) := by decide +kernel
theorem dX2_takesThen_4 : decode cX2_takesThen 4 = .ok (.lconst 0, 1) := by decide +kernel
theorem dX2_takesThen_5 : decode cX2_takesThen 5 = .ok (.lcmp, 1) := by decide +kernel
theorem dX2_takesThen_6 : decode cX2_takesThen 6 = .ok (.ifCond .eq 7, 3) := by decide +kernel
theorem dX2_takesThen_9 : decode cX2_takesThen 9 = .ok (.iconst 1, 1) := by decide +kernel
theorem dX2_takesThen_10 : decode cX2_takesThen 10 = .ok (.goto 4, 3) := by decide +kernel
theorem dX2_takesThen_13 : decode cX2_takesThen 13 = .ok (.iconst 0, 1) := by decide +kernel
theorem dX2_takesThen_14 : decode cX2_takesThen 14 = .ok (.istore_n 3, 1) := by decide +kernel
theorem dX2_takesThen_15 : decode cX2_takesThen 15 = .ok (.iload_n 3, 1) := by decide +kernel
theorem dX2_takesThen_16 : decode cX2_takesThen 16 = .ok (.iload_n 2, 1) := by decide +kernel
theorem dX2_takesThen_17 : decode cX2_takesThen 17 = .ok (.if_icmp .eq 7, 3) := by decide +kernel
theorem dX2_takesThen_20 : decode cX2_takesThen 20 = .ok (.iconst 1, 1) := by decide +kernel
theorem dX2_takesThen_21 : decode cX2_takesThen 21 = .ok (.goto 4, 3) := by decide +kernel
theorem dX2_takesThen_24 : decode cX2_takesThen 24 = .ok (.iconst 0, 1) := by decide +kernel
theorem dX2_takesThen_25 : decode cX2_takesThen 25 = .ok (.istore 4, 2) := by decide +kernel
theorem dX2_takesThen_27 : decode cX2_takesThen 27 = .ok (.aload_n 0, 1) := by decide +kernel
theorem dX2_takesThen_28 : decode cX2_takesThen 28 = .ok (.iload_n 1, 1) := by decide +kernel
theorem dX2_takesThen_29 : decode cX2_takesThen 29 = .ok (.iload 4, 2) := by decide +kernel
theorem dX2_takesThen_31 : decode cX2_takesThen 31 = .ok (.invokevirtual 96, 3) := by decide +kernel
theorem dX2_takesThen_34 : decode cX2_takesThen 34 = .ok (.iload 4, 2) := by decide +kernel
theorem dX2_takesThen_36 : decode cX2_takesThen 36 = .ok (.ireturn, 1) := by decide +kernel
theorem dX2_isDecided_0 : decode cX2_isDecided 0 = .ok (.aload_n 0, 1) := by decide +kernel
theorem dX2_isDecided_1 : decode cX2_isDecided 1 = .ok (.invokevirtual 42, 3) := by decide +kernel
theorem dX2_isDecided_4 : decode cX2_isDecided 4 = .ok (.lconst 0, 1) := by decide +kernel
theorem dX2_isDecided_5 : decode cX2_isDecided 5 = .ok (.lcmp, 1) := by decide +kernel
theorem dX2_isDecided_6 : decode cX2_isDecided 6 = .ok (.ifCond .eq 7, 3) := by decide +kernel
theorem dX2_isDecided_9 : decode cX2_isDecided 9 = .ok (.iconst 1, 1) := by decide +kernel
theorem dX2_isDecided_10 : decode cX2_isDecided 10 = .ok (.goto 4, 3) := by decide +kernel
theorem dX2_isDecided_13 : decode cX2_isDecided 13 = .ok (.iconst 0, 1) := by decide +kernel
theorem dX2_isDecided_14 : decode cX2_isDecided 14 = .ok (.istore_n 2, 1) := by decide +kernel
theorem dX2_isDecided_15 : decode cX2_isDecided 15 = .ok (.iload_n 2, 1) := by decide +kernel
theorem dX2_isDecided_16 : decode cX2_isDecided 16 = .ok (.iload_n 1, 1) := by decide +kernel
theorem dX2_isDecided_17 : decode cX2_isDecided 17 = .ok (.if_icmp .eq 5, 3) := by decide +kernel
theorem dX2_isDecided_20 : decode cX2_isDecided 20 = .ok (.iconst 0, 1) := by decide +kernel
theorem dX2_isDecided_21 : decode cX2_isDecided 21 = .ok (.ireturn, 1) := by decide +kernel
theorem dX2_isDecided_22 : decode cX2_isDecided 22 = .ok (.aload_n 0, 1) := by decide +kernel
theorem dX2_isDecided_23 : decode cX2_isDecided 23 = .ok (.iload_n 2, 1) := by decide +kernel
theorem dX2_isDecided_24 : decode cX2_isDecided 24 = .ok (.ifCond .eq 7, 3) := by decide +kernel
theorem dX2_isDecided_27 : decode cX2_isDecided 27 = .ok (.lconst 1, 1) := by decide +kernel
theorem dX2_isDecided_28 : decode cX2_isDecided 28 = .ok (.goto 4, 3) := by decide +kernel
theorem dX2_isDecided_31 : decode cX2_isDecided 31 = .ok (.lconst 0, 1) := by decide +kernel
theorem dX2_isDecided_32 : decode cX2_isDecided 32 = .ok (.invokevirtual 34, 3) := by decide +kernel
theorem dX2_isDecided_35 : decode cX2_isDecided 35 = .ok (.iconst 1, 1) := by decide +kernel
theorem dX2_isDecided_36 : decode cX2_isDecided 36 = .ok (.ireturn, 1) := by decide +kernel
theorem dX2_apply_0 : decode cX2_apply 0 = .ok (.aload_n 0, 1) := by decide +kernel
theorem dX2_apply_1 : decode cX2_apply 1 = .ok (.invokevirtual 42, 3) := by decide +kernel
theorem dX2_apply_4 : decode cX2_apply 4 = .ok (.lstore_n 2, 1) := by decide +kernel
theorem dX2_apply_5 : decode cX2_apply 5 = .ok (.iload_n 1, 1) := by decide +kernel
theorem dX2_apply_6 : decode cX2_apply 6 = .ok (.tableswitch 250 11 37 #[131, 250, 250, 250, 250, 250, 250, 250, 250, 250, 250, 250, 250, 250, 250, 250, 250, 167, 180, 193, 206, 206, 250, 250, 250, 122, 149], 122) := by decide +kernel
theorem dX2_apply_128 : decode cX2_apply 128 = .ok (.aload_n 0, 1) := by decide +kernel
theorem dX2_apply_129 : decode cX2_apply 129 = .ok (.lload_n 2, 1) := by decide +kernel
theorem dX2_apply_130 : decode cX2_apply 130 = .ok (.lneg, 1) := by decide +kernel
theorem dX2_apply_131 : decode cX2_apply 131 = .ok (.invokevirtual 34, 3) := by decide +kernel
theorem dX2_apply_134 : decode cX2_apply 134 = .ok (.goto 143, 3) := by decide +kernel
theorem dX2_apply_137 : decode cX2_apply 137 = .ok (.aload_n 0, 1) := by decide +kernel
theorem dX2_apply_138 : decode cX2_apply 138 = .ok (.lload_n 2, 1) := by decide +kernel
theorem dX2_apply_139 : decode cX2_apply 139 = .ok (.lconst 0, 1) := by decide +kernel
theorem dX2_apply_140 : decode cX2_apply 140 = .ok (.lcmp, 1) := by decide +kernel
theorem dX2_apply_141 : decode cX2_apply 141 = .ok (.ifCond .ne 7, 3) := by decide +kernel
theorem dX2_apply_144 : decode cX2_apply 144 = .ok (.lconst 1, 1) := by decide +kernel
theorem dX2_apply_145 : decode cX2_apply 145 = .ok (.goto 4, 3) := by decide +kernel
theorem dX2_apply_148 : decode cX2_apply 148 = .ok (.lconst 0, 1) := by decide +kernel
theorem dX2_apply_149 : decode cX2_apply 149 = .ok (.invokevirtual 34, 3) := by decide +kernel
theorem dX2_apply_152 : decode cX2_apply 152 = .ok (.goto 125, 3) := by decide +kernel
theorem dX2_apply_155 : decode cX2_apply 155 = .ok (.aload_n 0, 1) := by decide +kernel
theorem dX2_apply_156 : decode cX2_apply 156 = .ok (.lload_n 2, 1) := by decide +kernel
theorem dX2_apply_157 : decode cX2_apply 157 = .ok (.lconst 0, 1) := by decide +kernel
theorem dX2_apply_158 : decode cX2_apply 158 = .ok (.lcmp, 1) := by decide +kernel
theorem dX2_apply_159 : decode cX2_apply 159 = .ok (.ifCond .ne 7, 3) := by decide +kernel
theorem dX2_apply_162 : decode cX2_apply 162 = .ok (.lconst 0, 1) := by decide +kernel
theorem dX2_apply_163 : decode cX2_apply 163 = .ok (.goto 4, 3) := by decide +kernel
theorem dX2_apply_166 : decode cX2_apply 166 = .ok (.lconst 1, 1) := by decide +kernel
theorem dX2_apply_167 : decode cX2_apply 167 = .ok (.invokevirtual 34, 3) := by decide +kernel
theorem dX2_apply_170 : decode cX2_apply 170 = .ok (.goto 107, 3) := by decide +kernel
theorem dX2_apply_173 : decode cX2_apply 173 = .ok (.aload_n 0, 1) := by decide +kernel
theorem dX2_apply_174 : decode cX2_apply 174 = .ok (.aload_n 0, 1) := by decide +kernel
theorem dX2_apply_175 : decode cX2_apply 175 = .ok (.invokevirtual 42, 3) := by decide +kernel
theorem dX2_apply_178 : decode cX2_apply 178 = .ok (.lload_n 2, 1) := by decide +kernel
theorem dX2_apply_179 : decode cX2_apply 179 = .ok (.ladd, 1) := by decide +kernel
theorem dX2_apply_180 : decode cX2_apply 180 = .ok (.invokevirtual 34, 3) := by decide +kernel
theorem dX2_apply_183 : decode cX2_apply 183 = .ok (.goto 94, 3) := by decide +kernel
theorem dX2_apply_186 : decode cX2_apply 186 = .ok (.aload_n 0, 1) := by decide +kernel
theorem dX2_apply_187 : decode cX2_apply 187 = .ok (.aload_n 0, 1) := by decide +kernel
theorem dX2_apply_188 : decode cX2_apply 188 = .ok (.invokevirtual 42, 3) := by decide +kernel
theorem dX2_apply_191 : decode cX2_apply 191 = .ok (.lload_n 2, 1) := by decide +kernel
theorem dX2_apply_192 : decode cX2_apply 192 = .ok (.lsub, 1) := by decide +kernel
theorem dX2_apply_193 : decode cX2_apply 193 = .ok (.invokevirtual 34, 3) := by decide +kernel
theorem dX2_apply_196 : decode cX2_apply 196 = .ok (.goto 81, 3) := by decide +kernel
theorem dX2_apply_199 : decode cX2_apply 199 = .ok (.aload_n 0, 1) := by decide +kernel
theorem dX2_apply_200 : decode cX2_apply 200 = .ok (.aload_n 0, 1) := by decide +kernel
theorem dX2_apply_201 : decode cX2_apply 201 = .ok (.invokevirtual 42, 3) := by decide +kernel
theorem dX2_apply_204 : decode cX2_apply 204 = .ok (.lload_n 2, 1) := by decide +kernel
theorem dX2_apply_205 : decode cX2_apply 205 = .ok (.lmul, 1) := by decide +kernel
theorem dX2_apply_206 : decode cX2_apply 206 = .ok (.invokevirtual 34, 3) := by decide +kernel
theorem dX2_apply_209 : decode cX2_apply 209 = .ok (.goto 68, 3) := by decide +kernel
theorem dX2_apply_212 : decode cX2_apply 212 = .ok (.lload_n 2, 1) := by decide +kernel
theorem dX2_apply_213 : decode cX2_apply 213 = .ok (.lconst 0, 1) := by decide +kernel
theorem dX2_apply_214 : decode cX2_apply 214 = .ok (.lcmp, 1) := by decide +kernel
theorem dX2_apply_215 : decode cX2_apply 215 = .ok (.ifCond .ne 11, 3) := by decide +kernel
theorem dX2_apply_218 : decode cX2_apply 218 = .ok (.aload_n 0, 1) := by decide +kernel
theorem dX2_apply_219 : decode cX2_apply 219 = .ok (.iconst 1, 1) := by decide +kernel
theorem dX2_apply_220 : decode cX2_apply 220 = .ok (.putfield 26, 3) := by decide +kernel
theorem dX2_apply_223 : decode cX2_apply 223 = .ok (.goto 54, 3) := by decide +kernel
theorem dX2_apply_226 : decode cX2_apply 226 = .ok (.aload_n 0, 1) := by decide +kernel
theorem dX2_apply_227 : decode cX2_apply 227 = .ok (.invokevirtual 42, 3) := by decide +kernel
theorem dX2_apply_230 : decode cX2_apply 230 = .ok (.lstore 4, 2) := by decide +kernel
theorem dX2_apply_232 : decode cX2_apply 232 = .ok (.aload_n 0, 1) := by decide +kernel
theorem dX2_apply_233 : decode cX2_apply 233 = .ok (.iload_n 1, 1) := by decide +kernel
theorem dX2_apply_234 : decode cX2_apply 234 = .ok (.bipush 31, 2) := by decide +kernel
theorem dX2_apply_236 : decode cX2_apply 236 = .ok (.if_icmp .ne 10, 3) := by decide +kernel
theorem dX2_apply_239 : decode cX2_apply 239 = .ok (.lload 4, 2) := by decide +kernel
theorem dX2_apply_241 : decode cX2_apply 241 = .ok (.lload_n 2, 1) := by decide +kernel
theorem dX2_apply_242 : decode cX2_apply 242 = .ok (.ldiv, 1) := by decide +kernel
theorem dX2_apply_243 : decode cX2_apply 243 = .ok (.goto 7, 3) := by decide +kernel
theorem dX2_apply_246 : decode cX2_apply 246 = .ok (.lload 4, 2) := by decide +kernel
theorem dX2_apply_248 : decode cX2_apply 248 = .ok (.lload_n 2, 1) := by decide +kernel
theorem dX2_apply_249 : decode cX2_apply 249 = .ok (.lrem, 1) := by decide +kernel
theorem dX2_apply_250 : decode cX2_apply 250 = .ok (.invokevirtual 34, 3) := by decide +kernel
theorem dX2_apply_253 : decode cX2_apply 253 = .ok (.goto 24, 3) := by decide +kernel
theorem dX2_apply_256 : decode cX2_apply 256 = .ok (.aload_n 0, 1) := by decide +kernel
theorem dX2_apply_257 : decode cX2_apply 257 = .ok (.iload_n 1, 1) := by decide +kernel
theorem dX2_apply_258 : decode cX2_apply 258 = .ok (.aload_n 0, 1) := by decide +kernel
theorem dX2_apply_259 : decode cX2_apply 259 = .ok (.invokevirtual 42, 3) := by decide +kernel
theorem dX2_apply_262 : decode cX2_apply 262 = .ok (.lload_n 2, 1) := by decide +kernel
theorem dX2_apply_263 : decode cX2_apply 263 = .ok (.invokestatic 100, 3) := by decide +kernel
theorem dX2_apply_266 : decode cX2_apply 266 = .ok (.ifCond .eq 7, 3) := by decide +kernel
theorem dX2_apply_269 : decode cX2_apply 269 = .ok (.lconst 1, 1) := by decide +kernel
theorem dX2_apply_270 : decode cX2_apply 270 = .ok (.goto 4, 3) := by decide +kernel
theorem dX2_apply_273 : decode cX2_apply 273 = .ok (.lconst 0, 1) := by decide +kernel
theorem dX2_apply_274 : decode cX2_apply 274 = .ok (.invokevirtual 34, 3) := by decide +kernel
theorem dX2_apply_277 : decode cX2_apply 277 = .ok (.return_, 1) := by decide +kernel
theorem dX2_changedOperator_0 : decode cX2_changedOperator 0 = .ok (.iload_n 0, 1) := by decide +kernel
theorem dX2_changedOperator_1 : decode cX2_changedOperator 1 = .ok (.tableswitch 78 22 30 #[51, 54, 57, 60, 63, 66, 69, 72, 75], 51) := by decide +kernel
theorem dX2_changedOperator_52 : decode cX2_changedOperator 52 = .ok (.bipush 23, 2) := by decide +kernel
theorem dX2_changedOperator_54 : decode cX2_changedOperator 54 = .ok (.ireturn, 1) := by decide +kernel
theorem dX2_changedOperator_55 : decode cX2_changedOperator 55 = .ok (.bipush 22, 2) := by decide +kernel
theorem dX2_changedOperator_57 : decode cX2_changedOperator 57 = .ok (.ireturn, 1) := by decide +kernel
theorem dX2_changedOperator_58 : decode cX2_changedOperator 58 = .ok (.bipush 25, 2) := by decide +kernel
theorem dX2_changedOperator_60 : decode cX2_changedOperator 60 = .ok (.ireturn, 1) := by decide +kernel
theorem dX2_changedOperator_61 : decode cX2_changedOperator 61 = .ok (.bipush 24, 2) := by decide +kernel
theorem dX2_changedOperator_63 : decode cX2_changedOperator 63 = .ok (.ireturn, 1) := by decide +kernel
theorem dX2_changedOperator_64 : decode cX2_changedOperator 64 = .ok (.bipush 27, 2) := by decide +kernel
theorem dX2_changedOperator_66 : decode cX2_changedOperator 66 = .ok (.ireturn, 1) := by decide +kernel
theorem dX2_changedOperator_67 : decode cX2_changedOperator 67 = .ok (.bipush 26, 2) := by decide +kernel
theorem dX2_changedOperator_69 : decode cX2_changedOperator 69 = .ok (.ireturn, 1) := by decide +kernel
theorem dX2_changedOperator_70 : decode cX2_changedOperator 70 = .ok (.bipush 29, 2) := by decide +kernel
theorem dX2_changedOperator_72 : decode cX2_changedOperator 72 = .ok (.ireturn, 1) := by decide +kernel
theorem dX2_changedOperator_73 : decode cX2_changedOperator 73 = .ok (.bipush 28, 2) := by decide +kernel
theorem dX2_changedOperator_75 : decode cX2_changedOperator 75 = .ok (.ireturn, 1) := by decide +kernel
theorem dX2_changedOperator_76 : decode cX2_changedOperator 76 = .ok (.bipush 31, 2) := by decide +kernel
theorem dX2_changedOperator_78 : decode cX2_changedOperator 78 = .ok (.ireturn, 1) := by decide +kernel
theorem dX2_changedOperator_79 : decode cX2_changedOperator 79 = .ok (.bipush 30, 2) := by decide +kernel
theorem dX2_changedOperator_81 : decode cX2_changedOperator 81 = .ok (.ireturn, 1) := by decide +kernel
theorem dX3_init_0 : decode cX3_init 0 = .ok (.aload_n 0, 1) := by decide +kernel
theorem dX3_init_1 : decode cX3_init 1 = .ok (.invokespecial 3, 3) := by decide +kernel
theorem dX3_init_4 : decode cX3_init 4 = .ok (.aload_n 0, 1) := by decide +kernel
theorem dX3_init_5 : decode cX3_init 5 = .ok (.bipush 6, 2) := by decide +kernel
theorem dX3_init_7 : decode cX3_init 7 = .ok (.anewarray 9, 3) := by decide +kernel
theorem dX3_init_10 : decode cX3_init 10 = .ok (.putfield 11, 3) := by decide +kernel
theorem dX3_init_13 : decode cX3_init 13 = .ok (.aload_n 0, 1) := by decide +kernel
theorem dX3_init_14 : decode cX3_init 14 = .ok (.bipush 6, 2) := by decide +kernel
theorem dX3_init_16 : decode cX3_init 16 = .ok (.anewarray 17, 3) := by decide +kernel
theorem dX3_init_19 : decode cX3_init 19 = .ok (.putfield 19, 3) := by decide +kernel
theorem dX3_init_22 : decode cX3_init 22 = .ok (.aload_n 0, 1) := by decide +kernel
theorem dX3_init_23 : decode cX3_init 23 = .ok (.new 9, 3) := by decide +kernel
theorem dX3_init_26 : decode cX3_init 26 = .ok (.dup, 1) := by decide +kernel
theorem dX3_init_27 : decode cX3_init 27 = .ok (.invokespecial 23, 3) := by decide +kernel
theorem dX3_init_30 : decode cX3_init 30 = .ok (.putfield 24, 3) := by decide +kernel
theorem dX3_init_33 : decode cX3_init 33 = .ok (.aload_n 0, 1) := by decide +kernel
theorem dX3_init_34 : decode cX3_init 34 = .ok (.new 17, 3) := by decide +kernel
theorem dX3_init_37 : decode cX3_init 37 = .ok (.dup, 1) := by decide +kernel
theorem dX3_init_38 : decode cX3_init 38 = .ok (.invokespecial 28, 3) := by decide +kernel
theorem dX3_init_41 : decode cX3_init 41 = .ok (.putfield 29, 3) := by decide +kernel
theorem dX3_init_44 : decode cX3_init 44 = .ok (.iconst 0, 1) := by decide +kernel
theorem dX3_init_45 : decode cX3_init 45 = .ok (.istore_n 1, 1) := by decide +kernel
theorem dX3_init_46 : decode cX3_init 46 = .ok (.iload_n 1, 1) := by decide +kernel
theorem dX3_init_47 : decode cX3_init 47 = .ok (.aload_n 0, 1) := by decide +kernel
theorem dX3_init_48 : decode cX3_init 48 = .ok (.getfield 11, 3) := by decide +kernel
theorem dX3_init_51 : decode cX3_init 51 = .ok (.arraylength, 1) := by decide +kernel
theorem dX3_init_52 : decode cX3_init 52 = .ok (.if_icmp .ge 22, 3) := by decide +kernel
theorem dX3_init_55 : decode cX3_init 55 = .ok (.aload_n 0, 1) := by decide +kernel
theorem dX3_init_56 : decode cX3_init 56 = .ok (.getfield 11, 3) := by decide +kernel
theorem dX3_init_59 : decode cX3_init 59 = .ok (.iload_n 1, 1) := by decide +kernel
theorem dX3_init_60 : decode cX3_init 60 = .ok (.new 9, 3) := by decide +kernel
theorem dX3_init_63 : decode cX3_init 63 = .ok (.dup, 1) := by decide +kernel
theorem dX3_init_64 : decode cX3_init 64 = .ok (.invokespecial 23, 3) := by decide +kernel
theorem dX3_init_67 : decode cX3_init 67 = .ok (.aastore, 1) := by decide +kernel
theorem dX3_init_68 : decode cX3_init 68 = .ok (.iinc 1 1, 3) := by decide +kernel
theorem dX3_init_71 : decode cX3_init 71 = .ok (.goto (-25), 3) := by decide +kernel
theorem dX3_init_74 : decode cX3_init 74 = .ok (.iconst 0, 1) := by decide +kernel
theorem dX3_init_75 : decode cX3_init 75 = .ok (.istore_n 1, 1) := by decide +kernel
theorem dX3_init_76 : decode cX3_init 76 = .ok (.iload_n 1, 1) := by decide +kernel
theorem dX3_init_77 : decode cX3_init 77 = .ok (.aload_n 0, 1) := by decide +kernel
theorem dX3_init_78 : decode cX3_init 78 = .ok (.getfield 19, 3) := by decide +kernel
theorem dX3_init_81 : decode cX3_init 81 = .ok (.arraylength, 1) := by decide +kernel
theorem dX3_init_82 : decode cX3_init 82 = .ok (.if_icmp .ge 22, 3) := by decide +kernel
theorem dX3_init_85 : decode cX3_init 85 = .ok (.aload_n 0, 1) := by decide +kernel
theorem dX3_init_86 : decode cX3_init 86 = .ok (.getfield 19, 3) := by decide +kernel
theorem dX3_init_89 : decode cX3_init 89 = .ok (.iload_n 1, 1) := by decide +kernel
theorem dX3_init_90 : decode cX3_init 90 = .ok (.new 17, 3) := by decide +kernel
theorem dX3_init_93 : decode cX3_init 93 = .ok (.dup, 1) := by decide +kernel
theorem dX3_init_94 : decode cX3_init 94 = .ok (.invokespecial 28, 3) := by decide +kernel
theorem dX3_init_97 : decode cX3_init 97 = .ok (.aastore, 1) := by decide +kernel
theorem dX3_init_98 : decode cX3_init 98 = .ok (.iinc 1 1, 3) := by decide +kernel
theorem dX3_init_101 : decode cX3_init 101 = .ok (.goto (-25), 3) := by decide +kernel
theorem dX3_init_104 : decode cX3_init 104 = .ok (.return_, 1) := by decide +kernel
theorem dX3_clear_0 : decode cX3_clear 0 = .ok (.aload_n 0, 1) := by decide +kernel
theorem dX3_clear_1 : decode cX3_clear 1 = .ok (.iconst 0, 1) := by decide +kernel
theorem dX3_clear_2 : decode cX3_clear 2 = .ok (.putfield 33, 3) := by decide +kernel
theorem dX3_clear_5 : decode cX3_clear 5 = .ok (.aload_n 0, 1) := by decide +kernel
theorem dX3_clear_6 : decode cX3_clear 6 = .ok (.iconst 0, 1) := by decide +kernel
theorem dX3_clear_7 : decode cX3_clear 7 = .ok (.putfield 37, 3) := by decide +kernel
theorem dX3_clear_10 : decode cX3_clear 10 = .ok (.aload_n 0, 1) := by decide +kernel
theorem dX3_clear_11 : decode cX3_clear 11 = .ok (.iconst 0, 1) := by decide +kernel
theorem dX3_clear_12 : decode cX3_clear 12 = .ok (.putfield 40, 3) := by decide +kernel
theorem dX3_clear_15 : decode cX3_clear 15 = .ok (.return_, 1) := by decide +kernel
theorem dX3_funAt_0 : decode cX3_funAt 0 = .ok (.iload_n 1, 1) := by decide +kernel
theorem dX3_funAt_1 : decode cX3_funAt 1 = .ok (.ifCond .lt 21, 3) := by decide +kernel
theorem dX3_funAt_4 : decode cX3_funAt 4 = .ok (.iload_n 1, 1) := by decide +kernel
theorem dX3_funAt_5 : decode cX3_funAt 5 = .ok (.aload_n 0, 1) := by decide +kernel
theorem dX3_funAt_6 : decode cX3_funAt 6 = .ok (.getfield 11, 3) := by decide +kernel
theorem dX3_funAt_9 : decode cX3_funAt 9 = .ok (.arraylength, 1) := by decide +kernel
theorem dX3_funAt_10 : decode cX3_funAt 10 = .ok (.if_icmp .ge 12, 3) := by decide +kernel
theorem dX3_funAt_13 : decode cX3_funAt 13 = .ok (.aload_n 0, 1) := by decide +kernel
theorem dX3_funAt_14 : decode cX3_funAt 14 = .ok (.getfield 11, 3) := by decide +kernel
theorem dX3_funAt_17 : decode cX3_funAt 17 = .ok (.iload_n 1, 1) := by decide +kernel
theorem dX3_funAt_18 : decode cX3_funAt 18 = .ok (.aaload, 1) := by decide +kernel
theorem dX3_funAt_19 : decode cX3_funAt 19 = .ok (.goto 4, 3) := by decide +kernel
theorem dX3_funAt_22 : decode cX3_funAt 22 = .ok (.aconst_null, 1) := by decide +kernel
theorem dX3_funAt_23 : decode cX3_funAt 23 = .ok (.astore_n 2, 1) := by decide +kernel
theorem dX3_funAt_24 : decode cX3_funAt 24 = .ok (.aload_n 2, 1) := by decide +kernel
theorem dX3_funAt_25 : decode cX3_funAt 25 = .ok (.ifnonnull 10, 3) := by decide +kernel
theorem dX3_funAt_28 : decode cX3_funAt 28 = .ok (.aload_n 0, 1) := by decide +kernel
theorem dX3_funAt_29 : decode cX3_funAt 29 = .ok (.getfield 24, 3) := by decide +kernel
theorem dX3_funAt_32 : decode cX3_funAt 32 = .ok (.goto 4, 3) := by decide +kernel
theorem dX3_funAt_35 : decode cX3_funAt 35 = .ok (.aload_n 2, 1) := by decide +kernel
theorem dX3_funAt_36 : decode cX3_funAt 36 = .ok (.areturn, 1) := by decide +kernel
theorem dX3_tableAt_0 : decode cX3_tableAt 0 = .ok (.iload_n 1, 1) := by decide +kernel
theorem dX3_tableAt_1 : decode cX3_tableAt 1 = .ok (.ifCond .lt 21, 3) := by decide +kernel
theorem dX3_tableAt_4 : decode cX3_tableAt 4 = .ok (.iload_n 1, 1) := by decide +kernel
theorem dX3_tableAt_5 : decode cX3_tableAt 5 = .ok (.aload_n 0, 1) := by decide +kernel
theorem dX3_tableAt_6 : decode cX3_tableAt 6 = .ok (.getfield 19, 3) := by decide +kernel
theorem dX3_tableAt_9 : decode cX3_tableAt 9 = .ok (.arraylength, 1) := by decide +kernel
theorem dX3_tableAt_10 : decode cX3_tableAt 10 = .ok (.if_icmp .ge 12, 3) := by decide +kernel
theorem dX3_tableAt_13 : decode cX3_tableAt 13 = .ok (.aload_n 0, 1) := by decide +kernel
theorem dX3_tableAt_14 : decode cX3_tableAt 14 = .ok (.getfield 19, 3) := by decide +kernel
theorem dX3_tableAt_17 : decode cX3_tableAt 17 = .ok (.iload_n 1, 1) := by decide +kernel
theorem dX3_tableAt_18 : decode cX3_tableAt 18 = .ok (.aaload, 1) := by decide +kernel
theorem dX3_tableAt_19 : decode cX3_tableAt 19 = .ok (.goto 4, 3) := by decide +kernel
theorem dX3_tableAt_22 : decode cX3_tableAt 22 = .ok (.aconst_null, 1) := by decide +kernel
theorem dX3_tableAt_23 : decode cX3_tableAt 23 = .ok (.astore_n 2, 1) := by decide +kernel
theorem dX3_tableAt_24 : decode cX3_tableAt 24 = .ok (.aload_n 2, 1) := by decide +kernel
theorem dX3_tableAt_25 : decode cX3_tableAt 25 = .ok (.ifnonnull 10, 3) := by decide +kernel
theorem dX3_tableAt_28 : decode cX3_tableAt 28 = .ok (.aload_n 0, 1) := by decide +kernel
theorem dX3_tableAt_29 : decode cX3_tableAt 29 = .ok (.getfield 29, 3) := by decide +kernel
theorem dX3_tableAt_32 : decode cX3_tableAt 32 = .ok (.goto 4, 3) := by decide +kernel
theorem dX3_tableAt_35 : decode cX3_tableAt 35 = .ok (.aload_n 2, 1) := by decide +kernel
theorem dX3_tableAt_36 : decode cX3_tableAt 36 = .ok (.areturn, 1) := by decide +kernel
theorem dX3_nextFun_0 : decode cX3_nextFun 0 = .ok (.aload_n 0, 1) := by decide +kernel
theorem dX3_nextFun_1 : decode cX3_nextFun 1 = .ok (.aload_n 0, 1) := by decide +kernel
theorem dX3_nextFun_2 : decode cX3_nextFun 2 = .ok (.getfield 33, 3) := by decide +kernel
theorem dX3_nextFun_5 : decode cX3_nextFun 5 = .ok (.invokevirtual 43, 3) := by decide +kernel
theorem dX3_nextFun_8 : decode cX3_nextFun 8 = .ok (.astore_n 1, 1) := by decide +kernel
theorem dX3_nextFun_9 : decode cX3_nextFun 9 = .ok (.aload_n 1, 1) := by decide +kernel
theorem dX3_nextFun_10 : decode cX3_nextFun 10 = .ok (.invokevirtual 47, 3) := by decide +kernel
theorem dX3_nextFun_13 : decode cX3_nextFun 13 = .ok (.aload_n 1, 1) := by decide +kernel
theorem dX3_nextFun_14 : decode cX3_nextFun 14 = .ok (.areturn, 1) := by decide +kernel
theorem dX3_keepFun_0 : decode cX3_keepFun 0 = .ok (.aload_n 0, 1) := by decide +kernel
theorem dX3_keepFun_1 : decode cX3_keepFun 1 = .ok (.getfield 33, 3) := by decide +kernel
theorem dX3_keepFun_4 : decode cX3_keepFun 4 = .ok (.bipush 6, 2) := by decide +kernel
theorem dX3_keepFun_6 : decode cX3_keepFun 6 = .ok (.if_icmp .ge 13, 3) := by decide +kernel
theorem dX3_keepFun_9 : decode cX3_keepFun 9 = .ok (.aload_n 0, 1) := by decide +kernel
theorem dX3_keepFun_10 : decode cX3_keepFun 10 = .ok (.dup, 1) := by decide +kernel
theorem dX3_keepFun_11 : decode cX3_keepFun 11 = .ok (.getfield 33, 3) := by decide +kernel
theorem dX3_keepFun_14 : decode cX3_keepFun 14 = .ok (.iconst 1, 1) := by decide +kernel
theorem dX3_keepFun_15 : decode cX3_keepFun 15 = .ok (.iadd, 1) := by decide +kernel
theorem dX3_keepFun_16 : decode cX3_keepFun 16 = .ok (.putfield 33, 3) := by decide +kernel
theorem dX3_keepFun_19 : decode cX3_keepFun 19 = .ok (.return_, 1) := by decide +kernel
theorem dX3_nextTable_0 : decode cX3_nextTable 0 = .ok (.aload_n 0, 1) := by decide +kernel
theorem dX3_nextTable_1 : decode cX3_nextTable 1 = .ok (.aload_n 0, 1) := by decide +kernel
theorem dX3_nextTable_2 : decode cX3_nextTable 2 = .ok (.getfield 37, 3) := by decide +kernel
theorem dX3_nextTable_5 : decode cX3_nextTable 5 = .ok (.invokevirtual 50, 3) := by decide +kernel
theorem dX3_nextTable_8 : decode cX3_nextTable 8 = .ok (.astore_n 1, 1) := by decide +kernel
theorem dX3_nextTable_9 : decode cX3_nextTable 9 = .ok (.aload_n 1, 1) := by decide +kernel
theorem dX3_nextTable_10 : decode cX3_nextTable 10 = .ok (.invokevirtual 54, 3) := by decide +kernel
theorem dX3_nextTable_13 : decode cX3_nextTable 13 = .ok (.aload_n 1, 1) := by decide +kernel
theorem dX3_nextTable_14 : decode cX3_nextTable 14 = .ok (.areturn, 1) := by decide +kernel
theorem dX3_keepTable_0 : decode cX3_keepTable 0 = .ok (.aload_n 0, 1) := by decide +kernel
theorem dX3_keepTable_1 : decode cX3_keepTable 1 = .ok (.getfield 37, 3) := by decide +kernel
theorem dX3_keepTable_4 : decode cX3_keepTable 4 = .ok (.bipush 6, 2) := by decide +kernel
theorem dX3_keepTable_6 : decode cX3_keepTable 6 = .ok (.if_icmp .ge 13, 3) := by decide +kernel
theorem dX3_keepTable_9 : decode cX3_keepTable 9 = .ok (.aload_n 0, 1) := by decide +kernel
theorem dX3_keepTable_10 : decode cX3_keepTable 10 = .ok (.dup, 1) := by decide +kernel
theorem dX3_keepTable_11 : decode cX3_keepTable 11 = .ok (.getfield 37, 3) := by decide +kernel
theorem dX3_keepTable_14 : decode cX3_keepTable 14 = .ok (.iconst 1, 1) := by decide +kernel
theorem dX3_keepTable_15 : decode cX3_keepTable 15 = .ok (.iadd, 1) := by decide +kernel
theorem dX3_keepTable_16 : decode cX3_keepTable 16 = .ok (.putfield 37, 3) := by decide +kernel
theorem dX3_keepTable_19 : decode cX3_keepTable 19 = .ok (.return_, 1) := by decide +kernel
theorem dX3_nextIf_0 : decode cX3_nextIf 0 = .ok (.aload_n 0, 1) := by decide +kernel
theorem dX3_nextIf_1 : decode cX3_nextIf 1 = .ok (.dup, 1) := by decide +kernel
theorem dX3_nextIf_2 : decode cX3_nextIf 2 = .ok (.getfield 40, 3) := by decide +kernel
theorem dX3_nextIf_5 : decode cX3_nextIf 5 = .ok (.iconst 1, 1) := by decide +kernel
theorem dX3_nextIf_6 : decode cX3_nextIf 6 = .ok (.iadd, 1) := by decide +kernel
theorem dX3_nextIf_7 : decode cX3_nextIf 7 = .ok (.putfield 40, 3) := by decide +kernel
theorem dX3_nextIf_10 : decode cX3_nextIf 10 = .ok (.aload_n 0, 1) := by decide +kernel
theorem dX3_nextIf_11 : decode cX3_nextIf 11 = .ok (.getfield 40, 3) := by decide +kernel
theorem dX3_nextIf_14 : decode cX3_nextIf 14 = .ok (.iconst 1, 1) := by decide +kernel
theorem dX3_nextIf_15 : decode cX3_nextIf 15 = .ok (.isub, 1) := by decide +kernel
theorem dX3_nextIf_16 : decode cX3_nextIf 16 = .ok (.ireturn, 1) := by decide +kernel
theorem dX3_funNamed_0 : decode cX3_funNamed 0 = .ok (.iconst 0, 1) := by decide +kernel
theorem dX3_funNamed_1 : decode cX3_funNamed 1 = .ok (.istore_n 3, 1) := by decide +kernel
theorem dX3_funNamed_2 : decode cX3_funNamed 2 = .ok (.iload_n 3, 1) := by decide +kernel
theorem dX3_funNamed_3 : decode cX3_funNamed 3 = .ok (.aload_n 0, 1) := by decide +kernel
theorem dX3_funNamed_4 : decode cX3_funNamed 4 = .ok (.getfield 33, 3) := by decide +kernel
theorem dX3_funNamed_7 : decode cX3_funNamed 7 = .ok (.if_icmp .ge 24, 3) := by decide +kernel
theorem dX3_funNamed_10 : decode cX3_funNamed 10 = .ok (.aload_n 0, 1) := by decide +kernel
theorem dX3_funNamed_11 : decode cX3_funNamed 11 = .ok (.iload_n 3, 1) := by decide +kernel
theorem dX3_funNamed_12 : decode cX3_funNamed 12 = .ok (.invokevirtual 43, 3) := by decide +kernel
theorem dX3_funNamed_15 : decode cX3_funNamed 15 = .ok (.getfield 55, 3) := by decide +kernel
theorem dX3_funNamed_18 : decode cX3_funNamed 18 = .ok (.lload_n 1, 1) := by decide +kernel
theorem dX3_funNamed_19 : decode cX3_funNamed 19 = .ok (.lcmp, 1) := by decide +kernel
theorem dX3_funNamed_20 : decode cX3_funNamed 20 = .ok (.ifCond .ne 5, 3) := by decide +kernel
theorem dX3_funNamed_23 : decode cX3_funNamed 23 = .ok (.iload_n 3, 1) := by decide +kernel
theorem dX3_funNamed_24 : decode cX3_funNamed 24 = .ok (.ireturn, 1) := by decide +kernel
theorem dX3_funNamed_25 : decode cX3_funNamed 25 = .ok (.iinc 3 1, 3) := by decide +kernel
theorem dX3_funNamed_28 : decode cX3_funNamed 28 = .ok (.goto (-26), 3) := by decide +kernel
theorem dX3_funNamed_31 : decode cX3_funNamed 31 = .ok (.iconst (-1), 1) := by decide +kernel
theorem dX3_funNamed_32 : decode cX3_funNamed 32 = .ok (.ireturn, 1) := by decide +kernel
theorem dX3_hasItem_0 : decode cX3_hasItem 0 = .ok (.iconst 0, 1) := by decide +kernel
theorem dX3_hasItem_1 : decode cX3_hasItem 1 = .ok (.istore_n 3, 1) := by decide +kernel
theorem dX3_hasItem_2 : decode cX3_hasItem 2 = .ok (.iload_n 3, 1) := by decide +kernel
theorem dX3_hasItem_3 : decode cX3_hasItem 3 = .ok (.aload_n 0, 1) := by decide +kernel
theorem dX3_hasItem_4 : decode cX3_hasItem 4 = .ok (.getfield 37, 3) := by decide +kernel
theorem dX3_hasItem_7 : decode cX3_hasItem 7 = .ok (.if_icmp .ge 24, 3) := by decide +kernel
theorem dX3_hasItem_10 : decode cX3_hasItem 10 = .ok (.aload_n 0, 1) := by decide +kernel
theorem dX3_hasItem_11 : decode cX3_hasItem 11 = .ok (.iload_n 3, 1) := by decide +kernel
theorem dX3_hasItem_12 : decode cX3_hasItem 12 = .ok (.invokevirtual 50, 3) := by decide +kernel
theorem dX3_hasItem_15 : decode cX3_hasItem 15 = .ok (.getfield 59, 3) := by decide +kernel
theorem dX3_hasItem_18 : decode cX3_hasItem 18 = .ok (.lload_n 1, 1) := by decide +kernel
theorem dX3_hasItem_19 : decode cX3_hasItem 19 = .ok (.lcmp, 1) := by decide +kernel
theorem dX3_hasItem_20 : decode cX3_hasItem 20 = .ok (.ifCond .ne 5, 3) := by decide +kernel
theorem dX3_hasItem_23 : decode cX3_hasItem 23 = .ok (.iconst 1, 1) := by decide +kernel
theorem dX3_hasItem_24 : decode cX3_hasItem 24 = .ok (.ireturn, 1) := by decide +kernel
theorem dX3_hasItem_25 : decode cX3_hasItem 25 = .ok (.iinc 3 1, 3) := by decide +kernel
theorem dX3_hasItem_28 : decode cX3_hasItem 28 = .ok (.goto (-26), 3) := by decide +kernel
theorem dX3_hasItem_31 : decode cX3_hasItem 31 = .ok (.aload_n 0, 1) := by decide +kernel
theorem dX3_hasItem_32 : decode cX3_hasItem 32 = .ok (.lload_n 1, 1) := by decide +kernel
theorem dX3_hasItem_33 : decode cX3_hasItem 33 = .ok (.invokevirtual 60, 3) := by decide +kernel
theorem dX3_hasItem_36 : decode cX3_hasItem 36 = .ok (.ifCond .lt 7, 3) := by decide +kernel
theorem dX3_hasItem_39 : decode cX3_hasItem 39 = .ok (.iconst 1, 1) := by decide +kernel
theorem dX3_hasItem_40 : decode cX3_hasItem 40 = .ok (.goto 4, 3) := by decide +kernel
theorem dX3_hasItem_43 : decode cX3_hasItem 43 = .ok (.iconst 0, 1) := by decide +kernel
theorem dX3_hasItem_44 : decode cX3_hasItem 44 = .ok (.ireturn, 1) := by decide +kernel
theorem dX3_tablesOf_0 : decode cX3_tablesOf 0 = .ok (.iconst 0, 1) := by decide +kernel
theorem dX3_tablesOf_1 : decode cX3_tablesOf 1 = .ok (.istore_n 2, 1) := by decide +kernel
theorem dX3_tablesOf_2 : decode cX3_tablesOf 2 = .ok (.iconst 0, 1) := by decide +kernel
theorem dX3_tablesOf_3 : decode cX3_tablesOf 3 = .ok (.istore_n 3, 1) := by decide +kernel
theorem dX3_tablesOf_4 : decode cX3_tablesOf 4 = .ok (.iload_n 3, 1) := by decide +kernel
theorem dX3_tablesOf_5 : decode cX3_tablesOf 5 = .ok (.aload_n 0, 1) := by decide +kernel
theorem dX3_tablesOf_6 : decode cX3_tablesOf 6 = .ok (.getfield 37, 3) := by decide +kernel
theorem dX3_tablesOf_9 : decode cX3_tablesOf 9 = .ok (.if_icmp .ge 24, 3) := by decide +kernel
theorem dX3_tablesOf_12 : decode cX3_tablesOf 12 = .ok (.aload_n 0, 1) := by decide +kernel
theorem dX3_tablesOf_13 : decode cX3_tablesOf 13 = .ok (.iload_n 3, 1) := by decide +kernel
theorem dX3_tablesOf_14 : decode cX3_tablesOf 14 = .ok (.invokevirtual 50, 3) := by decide +kernel
theorem dX3_tablesOf_17 : decode cX3_tablesOf 17 = .ok (.getfield 64, 3) := by decide +kernel
theorem dX3_tablesOf_20 : decode cX3_tablesOf 20 = .ok (.iload_n 1, 1) := by decide +kernel
theorem dX3_tablesOf_21 : decode cX3_tablesOf 21 = .ok (.if_icmp .ne 6, 3) := by decide +kernel
theorem dX3_tablesOf_24 : decode cX3_tablesOf 24 = .ok (.iinc 2 1, 3) := by decide +kernel
theorem dX3_tablesOf_27 : decode cX3_tablesOf 27 = .ok (.iinc 3 1, 3) := by decide +kernel
theorem dX3_tablesOf_30 : decode cX3_tablesOf 30 = .ok (.goto (-26), 3) := by decide +kernel
theorem dX3_tablesOf_33 : decode cX3_tablesOf 33 = .ok (.iload_n 2, 1) := by decide +kernel
theorem dX3_tablesOf_34 : decode cX3_tablesOf 34 = .ok (.ireturn, 1) := by decide +kernel
theorem dX3_caseCount_0 : decode cX3_caseCount 0 = .ok (.iconst 0, 1) := by decide +kernel
theorem dX3_caseCount_1 : decode cX3_caseCount 1 = .ok (.istore_n 1, 1) := by decide +kernel
theorem dX3_caseCount_2 : decode cX3_caseCount 2 = .ok (.iconst 0, 1) := by decide +kernel
theorem dX3_caseCount_3 : decode cX3_caseCount 3 = .ok (.istore_n 2, 1) := by decide +kernel
theorem dX3_caseCount_4 : decode cX3_caseCount 4 = .ok (.iload_n 2, 1) := by decide +kernel
theorem dX3_caseCount_5 : decode cX3_caseCount 5 = .ok (.aload_n 0, 1) := by decide +kernel
theorem dX3_caseCount_6 : decode cX3_caseCount 6 = .ok (.getfield 37, 3) := by decide +kernel
theorem dX3_caseCount_9 : decode cX3_caseCount 9 = .ok (.if_icmp .ge 20, 3) := by decide +kernel
theorem dX3_caseCount_12 : decode cX3_caseCount 12 = .ok (.iload_n 1, 1) := by decide +kernel
theorem dX3_caseCount_13 : decode cX3_caseCount 13 = .ok (.aload_n 0, 1) := by decide +kernel
theorem dX3_caseCount_14 : decode cX3_caseCount 14 = .ok (.iload_n 2, 1) := by decide +kernel
theorem dX3_caseCount_15 : decode cX3_caseCount 15 = .ok (.invokevirtual 50, 3) := by decide +kernel
theorem dX3_caseCount_18 : decode cX3_caseCount 18 = .ok (.getfield 67, 3) := by decide +kernel
theorem dX3_caseCount_21 : decode cX3_caseCount 21 = .ok (.iadd, 1) := by decide +kernel
theorem dX3_caseCount_22 : decode cX3_caseCount 22 = .ok (.istore_n 1, 1) := by decide +kernel
theorem dX3_caseCount_23 : decode cX3_caseCount 23 = .ok (.iinc 2 1, 3) := by decide +kernel
theorem dX3_caseCount_26 : decode cX3_caseCount 26 = .ok (.goto (-22), 3) := by decide +kernel
theorem dX3_caseCount_29 : decode cX3_caseCount 29 = .ok (.iload_n 1, 1) := by decide +kernel
theorem dX3_caseCount_30 : decode cX3_caseCount 30 = .ok (.ireturn, 1) := by decide +kernel
theorem dX4_init_0 : decode cX4_init 0 = .ok (.aload_n 0, 1) := by decide +kernel
theorem dX4_init_1 : decode cX4_init 1 = .ok (.invokespecial 3, 3) := by decide +kernel
theorem dX4_init_4 : decode cX4_init 4 = .ok (.aload_n 0, 1) := by decide +kernel
theorem dX4_init_5 : decode cX4_init 5 = .ok (.iconst 3, 1) := by decide +kernel
theorem dX4_init_6 : decode cX4_init 6 = .ok (.newarray .int, 2) := by decide +kernel
theorem dX4_init_8 : decode cX4_init 8 = .ok (.putfield 9, 3) := by decide +kernel
theorem dX4_init_11 : decode cX4_init 11 = .ok (.aload_n 0, 1) := by decide +kernel
theorem dX4_init_12 : decode cX4_init 12 = .ok (.iconst 3, 1) := by decide +kernel
theorem dX4_init_13 : decode cX4_init 13 = .ok (.newarray .int, 2) := by decide +kernel
theorem dX4_init_15 : decode cX4_init 15 = .ok (.putfield 15, 3) := by decide +kernel
theorem dX4_init_18 : decode cX4_init 18 = .ok (.return_, 1) := by decide +kernel
theorem dX4_clear_0 : decode cX4_clear 0 = .ok (.iconst 0, 1) := by decide +kernel
theorem dX4_clear_1 : decode cX4_clear 1 = .ok (.istore_n 1, 1) := by decide +kernel
theorem dX4_clear_2 : decode cX4_clear 2 = .ok (.iload_n 1, 1) := by decide +kernel
theorem dX4_clear_3 : decode cX4_clear 3 = .ok (.iconst 3, 1) := by decide +kernel
theorem dX4_clear_4 : decode cX4_clear 4 = .ok (.if_icmp .ge 16, 3) := by decide +kernel
theorem dX4_clear_7 : decode cX4_clear 7 = .ok (.aload_n 0, 1) := by decide +kernel
theorem dX4_clear_8 : decode cX4_clear 8 = .ok (.iload_n 1, 1) := by decide +kernel
theorem dX4_clear_9 : decode cX4_clear 9 = .ok (.iconst 0, 1) := by decide +kernel
theorem dX4_clear_10 : decode cX4_clear 10 = .ok (.iconst 0, 1) := by decide +kernel
theorem dX4_clear_11 : decode cX4_clear 11 = .ok (.invokevirtual 18, 3) := by decide +kernel
theorem dX4_clear_14 : decode cX4_clear 14 = .ok (.iinc 1 1, 3) := by decide +kernel
theorem dX4_clear_17 : decode cX4_clear 17 = .ok (.goto (-15), 3) := by decide +kernel
theorem dX4_clear_20 : decode cX4_clear 20 = .ok (.return_, 1) := by decide +kernel
theorem dX4_put_0 : decode cX4_put 0 = .ok (.iload_n 1, 1) := by decide +kernel
theorem dX4_put_1 : decode cX4_put 1 = .ok (.ifCond .lt 35, 3) := by decide +kernel
theorem dX4_put_4 : decode cX4_put 4 = .ok (.iload_n 1, 1) := by decide +kernel
theorem dX4_put_5 : decode cX4_put 5 = .ok (.aload_n 0, 1) := by decide +kernel
theorem dX4_put_6 : decode cX4_put 6 = .ok (.getfield 9, 3) := by decide +kernel
theorem dX4_put_9 : decode cX4_put 9 = .ok (.arraylength, 1) := by decide +kernel
theorem dX4_put_10 : decode cX4_put 10 = .ok (.if_icmp .ge 26, 3) := by decide +kernel
theorem dX4_put_13 : decode cX4_put 13 = .ok (.iload_n 1, 1) := by decide +kernel
theorem dX4_put_14 : decode cX4_put 14 = .ok (.aload_n 0, 1) := by decide +kernel
theorem dX4_put_15 : decode cX4_put 15 = .ok (.getfield 15, 3) := by decide +kernel
theorem dX4_put_18 : decode cX4_put 18 = .ok (.arraylength, 1) := by decide +kernel
theorem dX4_put_19 : decode cX4_put 19 = .ok (.if_icmp .ge 17, 3) := by decide +kernel
theorem dX4_put_22 : decode cX4_put 22 = .ok (.aload_n 0, 1) := by decide +kernel
theorem dX4_put_23 : decode cX4_put 23 = .ok (.getfield 9, 3) := by decide +kernel
theorem dX4_put_26 : decode cX4_put 26 = .ok (.iload_n 1, 1) := by decide +kernel
theorem dX4_put_27 : decode cX4_put 27 = .ok (.iload_n 2, 1) := by decide +kernel
theorem dX4_put_28 : decode cX4_put 28 = .ok (.iastore, 1) := by decide +kernel
theorem dX4_put_29 : decode cX4_put 29 = .ok (.aload_n 0, 1) := by decide +kernel
theorem dX4_put_30 : decode cX4_put 30 = .ok (.getfield 15, 3) := by decide +kernel
theorem dX4_put_33 : decode cX4_put 33 = .ok (.iload_n 1, 1) := by decide +kernel
theorem dX4_put_34 : decode cX4_put 34 = .ok (.iload_n 3, 1) := by decide +kernel
theorem dX4_put_35 : decode cX4_put 35 = .ok (.iastore, 1) := by decide +kernel
theorem dX4_put_36 : decode cX4_put 36 = .ok (.return_, 1) := by decide +kernel
theorem dX4_low_0 : decode cX4_low 0 = .ok (.iload_n 1, 1) := by decide +kernel
theorem dX4_low_1 : decode cX4_low 1 = .ok (.ifCond .lt 21, 3) := by decide +kernel
theorem dX4_low_4 : decode cX4_low 4 = .ok (.iload_n 1, 1) := by decide +kernel
theorem dX4_low_5 : decode cX4_low 5 = .ok (.aload_n 0, 1) := by decide +kernel
theorem dX4_low_6 : decode cX4_low 6 = .ok (.getfield 9, 3) := by decide +kernel
theorem dX4_low_9 : decode cX4_low 9 = .ok (.arraylength, 1) := by decide +kernel
theorem dX4_low_10 : decode cX4_low 10 = .ok (.if_icmp .ge 12, 3) := by decide +kernel
theorem dX4_low_13 : decode cX4_low 13 = .ok (.aload_n 0, 1) := by decide +kernel
theorem dX4_low_14 : decode cX4_low 14 = .ok (.getfield 9, 3) := by decide +kernel
theorem dX4_low_17 : decode cX4_low 17 = .ok (.iload_n 1, 1) := by decide +kernel
theorem dX4_low_18 : decode cX4_low 18 = .ok (.iaload, 1) := by decide +kernel
theorem dX4_low_19 : decode cX4_low 19 = .ok (.goto 4, 3) := by decide +kernel
theorem dX4_low_22 : decode cX4_low 22 = .ok (.iconst 0, 1) := by decide +kernel
theorem dX4_low_23 : decode cX4_low 23 = .ok (.ireturn, 1) := by decide +kernel
theorem dX4_high_0 : decode cX4_high 0 = .ok (.iload_n 1, 1) := by decide +kernel
theorem dX4_high_1 : decode cX4_high 1 = .ok (.ifCond .lt 21, 3) := by decide +kernel
theorem dX4_high_4 : decode cX4_high 4 = .ok (.iload_n 1, 1) := by decide +kernel
theorem dX4_high_5 : decode cX4_high 5 = .ok (.aload_n 0, 1) := by decide +kernel
theorem dX4_high_6 : decode cX4_high 6 = .ok (.getfield 15, 3) := by decide +kernel
theorem dX4_high_9 : decode cX4_high 9 = .ok (.arraylength, 1) := by decide +kernel
theorem dX4_high_10 : decode cX4_high 10 = .ok (.if_icmp .ge 12, 3) := by decide +kernel
theorem dX4_high_13 : decode cX4_high 13 = .ok (.aload_n 0, 1) := by decide +kernel
theorem dX4_high_14 : decode cX4_high 14 = .ok (.getfield 15, 3) := by decide +kernel
theorem dX4_high_17 : decode cX4_high 17 = .ok (.iload_n 1, 1) := by decide +kernel
theorem dX4_high_18 : decode cX4_high 18 = .ok (.iaload, 1) := by decide +kernel
theorem dX4_high_19 : decode cX4_high 19 = .ok (.goto 4, 3) := by decide +kernel
theorem dX4_high_22 : decode cX4_high 22 = .ok (.iconst 0, 1) := by decide +kernel
theorem dX4_high_23 : decode cX4_high 23 = .ok (.ireturn, 1) := by decide +kernel
theorem dX4_width_0 : decode cX4_width 0 = .ok (.aload_n 0, 1) := by decide +kernel
theorem dX4_width_1 : decode cX4_width 1 = .ok (.iload_n 1, 1) := by decide +kernel
theorem dX4_width_2 : decode cX4_width 2 = .ok (.invokevirtual 22, 3) := by decide +kernel
theorem dX4_width_5 : decode cX4_width 5 = .ok (.aload_n 0, 1) := by decide +kernel
theorem dX4_width_6 : decode cX4_width 6 = .ok (.iload_n 1, 1) := by decide +kernel
theorem dX4_width_7 : decode cX4_width 7 = .ok (.invokevirtual 26, 3) := by decide +kernel
theorem dX4_width_10 : decode cX4_width 10 = .ok (.isub, 1) := by decide +kernel
theorem dX4_width_11 : decode cX4_width 11 = .ok (.iconst 1, 1) := by decide +kernel
theorem dX4_width_12 : decode cX4_width 12 = .ok (.iadd, 1) := by decide +kernel
theorem dX4_width_13 : decode cX4_width 13 = .ok (.ireturn, 1) := by decide +kernel
theorem dX4_rowCount_0 : decode cX4_rowCount 0 = .ok (.aload_n 0, 1) := by decide +kernel
theorem dX4_rowCount_1 : decode cX4_rowCount 1 = .ok (.iconst 0, 1) := by decide +kernel
theorem dX4_rowCount_2 : decode cX4_rowCount 2 = .ok (.invokevirtual 29, 3) := by decide +kernel
theorem dX4_rowCount_5 : decode cX4_rowCount 5 = .ok (.aload_n 0, 1) := by decide +kernel
theorem dX4_rowCount_6 : decode cX4_rowCount 6 = .ok (.iconst 1, 1) := by decide +kernel
theorem dX4_rowCount_7 : decode cX4_rowCount 7 = .ok (.invokevirtual 29, 3) := by decide +kernel
theorem dX4_rowCount_10 : decode cX4_rowCount 10 = .ok (.imul, 1) := by decide +kernel
theorem dX4_rowCount_11 : decode cX4_rowCount 11 = .ok (.aload_n 0, 1) := by decide +kernel
theorem dX4_rowCount_12 : decode cX4_rowCount 12 = .ok (.iconst 2, 1) := by decide +kernel
theorem dX4_rowCount_13 : decode cX4_rowCount 13 = .ok (.invokevirtual 29, 3) := by decide +kernel
theorem dX4_rowCount_16 : decode cX4_rowCount 16 = .ok (.imul, 1) := by decide +kernel
theorem dX4_rowCount_17 : decode cX4_rowCount 17 = .ok (.ireturn, 1) := by decide +kernel
theorem dX4_valueAt_0 : decode cX4_valueAt 0 = .ok (.iconst 1, 1) := by decide +kernel
theorem dX4_valueAt_1 : decode cX4_valueAt 1 = .ok (.istore_n 3, 1) := by decide +kernel
theorem dX4_valueAt_2 : decode cX4_valueAt 2 = .ok (.iload_n 2, 1) := by decide +kernel
theorem dX4_valueAt_3 : decode cX4_valueAt 3 = .ok (.iconst 1, 1) := by decide +kernel
theorem dX4_valueAt_4 : decode cX4_valueAt 4 = .ok (.iadd, 1) := by decide +kernel
theorem dX4_valueAt_5 : decode cX4_valueAt 5 = .ok (.istore 4, 2) := by decide +kernel
theorem dX4_valueAt_7 : decode cX4_valueAt 7 = .ok (.iload 4, 2) := by decide +kernel
theorem dX4_valueAt_9 : decode cX4_valueAt 9 = .ok (.iconst 3, 1) := by decide +kernel
theorem dX4_valueAt_10 : decode cX4_valueAt 10 = .ok (.if_icmp .ge 18, 3) := by decide +kernel
theorem dX4_valueAt_13 : decode cX4_valueAt 13 = .ok (.iload_n 3, 1) := by decide +kernel
theorem dX4_valueAt_14 : decode cX4_valueAt 14 = .ok (.aload_n 0, 1) := by decide +kernel
theorem dX4_valueAt_15 : decode cX4_valueAt 15 = .ok (.iload 4, 2) := by decide +kernel
theorem dX4_valueAt_17 : decode cX4_valueAt 17 = .ok (.invokevirtual 29, 3) := by decide +kernel
theorem dX4_valueAt_20 : decode cX4_valueAt 20 = .ok (.imul, 1) := by decide +kernel
theorem dX4_valueAt_21 : decode cX4_valueAt 21 = .ok (.istore_n 3, 1) := by decide +kernel
theorem dX4_valueAt_22 : decode cX4_valueAt 22 = .ok (.iinc 4 1, 3) := by decide +kernel
theorem dX4_valueAt_25 : decode cX4_valueAt 25 = .ok (.goto (-18), 3) := by decide +kernel
theorem dX4_valueAt_28 : decode cX4_valueAt 28 = .ok (.aload_n 0, 1) := by decide +kernel
theorem dX4_valueAt_29 : decode cX4_valueAt 29 = .ok (.iload_n 2, 1) := by decide +kernel
theorem dX4_valueAt_30 : decode cX4_valueAt 30 = .ok (.invokevirtual 29, 3) := by decide +kernel
theorem dX4_valueAt_33 : decode cX4_valueAt 33 = .ok (.istore 4, 2) := by decide +kernel
theorem dX4_valueAt_35 : decode cX4_valueAt 35 = .ok (.iload_n 3, 1) := by decide +kernel
theorem dX4_valueAt_36 : decode cX4_valueAt 36 = .ok (.iconst 1, 1) := by decide +kernel
theorem dX4_valueAt_37 : decode cX4_valueAt 37 = .ok (.if_icmp .lt 9, 3) := by decide +kernel
theorem dX4_valueAt_40 : decode cX4_valueAt 40 = .ok (.iload 4, 2) := by decide +kernel
theorem dX4_valueAt_42 : decode cX4_valueAt 42 = .ok (.iconst 1, 1) := by decide +kernel
theorem dX4_valueAt_43 : decode cX4_valueAt 43 = .ok (.if_icmp .ge 5, 3) := by decide +kernel
theorem dX4_valueAt_46 : decode cX4_valueAt 46 = .ok (.iconst 0, 1) := by decide +kernel
theorem dX4_valueAt_47 : decode cX4_valueAt 47 = .ok (.ireturn, 1) := by decide +kernel
theorem dX4_valueAt_48 : decode cX4_valueAt 48 = .ok (.aload_n 0, 1) := by decide +kernel
theorem dX4_valueAt_49 : decode cX4_valueAt 49 = .ok (.iload_n 2, 1) := by decide +kernel
theorem dX4_valueAt_50 : decode cX4_valueAt 50 = .ok (.invokevirtual 26, 3) := by decide +kernel
theorem dX4_valueAt_53 : decode cX4_valueAt 53 = .ok (.iload_n 1, 1) := by decide +kernel
theorem dX4_valueAt_54 : decode cX4_valueAt 54 = .ok (.iload_n 3, 1) := by decide +kernel
theorem dX4_valueAt_55 : decode cX4_valueAt 55 = .ok (.idiv, 1) := by decide +kernel
theorem dX4_valueAt_56 : decode cX4_valueAt 56 = .ok (.iload 4, 2) := by decide +kernel
theorem dX4_valueAt_58 : decode cX4_valueAt 58 = .ok (.irem, 1) := by decide +kernel
theorem dX4_valueAt_59 : decode cX4_valueAt 59 = .ok (.iadd, 1) := by decide +kernel
theorem dX4_valueAt_60 : decode cX4_valueAt 60 = .ok (.ireturn, 1) := by decide +kernel
theorem dX5_init_0 : decode cX5_init 0 = .ok (.aload_n 0, 1) := by decide +kernel
theorem dX5_init_1 : decode cX5_init 1 = .ok (.invokespecial 3, 3) := by decide +kernel
theorem dX5_init_4 : decode cX5_init 4 = .ok (.aload_n 0, 1) := by decide +kernel
theorem dX5_init_5 : decode cX5_init 5 = .ok (.new 9, 3) := by decide +kernel
theorem dX5_init_8 : decode cX5_init 8 = .ok (.dup, 1) := by decide +kernel
theorem dX5_init_9 : decode cX5_init 9 = .ok (.invokespecial 11, 3) := by decide +kernel
theorem dX5_init_12 : decode cX5_init 12 = .ok (.putfield 12, 3) := by decide +kernel
theorem dX5_init_15 : decode cX5_init 15 = .ok (.return_, 1) := by decide +kernel
theorem dX5_clear_0 : decode cX5_clear 0 = .ok (.aload_n 0, 1) := by decide +kernel
theorem dX5_clear_1 : decode cX5_clear 1 = .ok (.getfield 12, 3) := by decide +kernel
theorem dX5_clear_4 : decode cX5_clear 4 = .ok (.invokevirtual 18, 3) := by decide +kernel
theorem dX5_clear_7 : decode cX5_clear 7 = .ok (.aload_n 0, 1) := by decide +kernel
theorem dX5_clear_8 : decode cX5_clear 8 = .ok (.bipush 14, 2) := by decide +kernel
theorem dX5_clear_10 : decode cX5_clear 10 = .ok (.putfield 21, 3) := by decide +kernel
theorem dX5_clear_13 : decode cX5_clear 13 = .ok (.aload_n 0, 1) := by decide +kernel
theorem dX5_clear_14 : decode cX5_clear 14 = .ok (.lconst 0, 1) := by decide +kernel
theorem dX5_clear_15 : decode cX5_clear 15 = .ok (.putfield 25, 3) := by decide +kernel
theorem dX5_clear_18 : decode cX5_clear 18 = .ok (.aload_n 0, 1) := by decide +kernel
theorem dX5_clear_19 : decode cX5_clear 19 = .ok (.iconst 0, 1) := by decide +kernel
theorem dX5_clear_20 : decode cX5_clear 20 = .ok (.putfield 29, 3) := by decide +kernel
theorem dX5_clear_23 : decode cX5_clear 23 = .ok (.return_, 1) := by decide +kernel
theorem dX5_admits_0 : decode cX5_admits 0 = .ok (.aload_n 0, 1) := by decide +kernel
theorem dX5_admits_1 : decode cX5_admits 1 = .ok (.getfield 21, 3) := by decide +kernel
theorem dX5_admits_4 : decode cX5_admits 4 = .ok (.bipush 15, 2) := by decide +kernel
theorem dX5_admits_6 : decode cX5_admits 6 = .ok (.if_icmp .ne 5, 3) := by decide +kernel
theorem dX5_admits_9 : decode cX5_admits 9 = .ok (.iload_n 1, 1) := by decide +kernel
theorem dX5_admits_10 : decode cX5_admits 10 = .ok (.ireturn, 1) := by decide +kernel
theorem dX5_admits_11 : decode cX5_admits 11 = .ok (.iload_n 1, 1) := by decide +kernel
theorem dX5_admits_12 : decode cX5_admits 12 = .ok (.ifCond .ne 31, 3) := by decide +kernel
theorem dX5_admits_15 : decode cX5_admits 15 = .ok (.aload_n 0, 1) := by decide +kernel
theorem dX5_admits_16 : decode cX5_admits 16 = .ok (.getfield 21, 3) := by decide +kernel
theorem dX5_admits_19 : decode cX5_admits 19 = .ok (.bipush 14, 2) := by decide +kernel
theorem dX5_admits_21 : decode cX5_admits 21 = .ok (.if_icmp .eq 18, 3) := by decide +kernel
theorem dX5_admits_24 : decode cX5_admits 24 = .ok (.aload_n 0, 1) := by decide +kernel
theorem dX5_admits_25 : decode cX5_admits 25 = .ok (.getfield 21, 3) := by decide +kernel
theorem dX5_admits_28 : decode cX5_admits 28 = .ok (.lload_n 2, 1) := by decide +kernel
theorem dX5_admits_29 : decode cX5_admits 29 = .ok (.aload_n 0, 1) := by decide +kernel
theorem dX5_admits_30 : decode cX5_admits 30 = .ok (.getfield 25, 3) := by decide +kernel
theorem dX5_admits_33 : decode cX5_admits 33 = .ok (.invokestatic 33, 3) := by decide +kernel
theorem dX5_admits_36 : decode cX5_admits 36 = .ok (.ifCond .eq 7, 3) := by decide +kernel
theorem dX5_admits_39 : decode cX5_admits 39 = .ok (.iconst 1, 1) := by decide +kernel
theorem dX5_admits_40 : decode cX5_admits 40 = .ok (.goto 4, 3) := by decide +kernel
theorem dX5_admits_43 : decode cX5_admits 43 = .ok (.iconst 0, 1) := by decide +kernel
theorem dX5_admits_44 : decode cX5_admits 44 = .ok (.ireturn, 1) := by decide +kernel
theorem dX6_init_0 : decode cX6_init 0 = .ok (.aload_n 0, 1) := by decide +kernel
theorem dX6_init_1 : decode cX6_init 1 = .ok (.invokespecial 3, 3) := by decide +kernel
theorem dX6_init_4 : decode cX6_init 4 = .ok (.aload_n 0, 1) := by decide +kernel
theorem dX6_init_5 : decode cX6_init 5 = .ok (.aload_n 1, 1) := by decide +kernel
theorem dX6_init_6 : decode cX6_init 6 = .ok (.putfield 9, 3) := by decide +kernel
theorem dX6_init_9 : decode cX6_init 9 = .ok (.aload_n 0, 1) := by decide +kernel
theorem dX6_init_10 : decode cX6_init 10 = .ok (.aload_n 2, 1) := by decide +kernel
theorem dX6_init_11 : decode cX6_init 11 = .ok (.putfield 15, 3) := by decide +kernel
theorem dX6_init_14 : decode cX6_init 14 = .ok (.return_, 1) := by decide +kernel
theorem dX6_forget_0 : decode cX6_forget 0 = .ok (.aload_n 0, 1) := by decide +kernel
theorem dX6_forget_1 : decode cX6_forget 1 = .ok (.iconst 0, 1) := by decide +kernel
theorem dX6_forget_2 : decode cX6_forget 2 = .ok (.putfield 19, 3) := by decide +kernel
theorem dX6_forget_5 : decode cX6_forget 5 = .ok (.return_, 1) := by decide +kernel
theorem dX6_refresh_0 : decode cX6_refresh 0 = .ok (.aload_n 0, 1) := by decide +kernel
theorem dX6_refresh_1 : decode cX6_refresh 1 = .ok (.getfield 19, 3) := by decide +kernel
theorem dX6_refresh_4 : decode cX6_refresh 4 = .ok (.ifCond .eq 4, 3) := by decide +kernel
theorem dX6_refresh_7 : decode cX6_refresh 7 = .ok (.return_, 1) := by decide +kernel
theorem dX6_refresh_8 : decode cX6_refresh 8 = .ok (.aload_n 0, 1) := by decide +kernel
theorem dX6_refresh_9 : decode cX6_refresh 9 = .ok (.iconst 1, 1) := by decide +kernel
theorem dX6_refresh_10 : decode cX6_refresh 10 = .ok (.putfield 19, 3) := by decide +kernel
theorem dX6_refresh_13 : decode cX6_refresh 13 = .ok (.aload_n 0, 1) := by decide +kernel
theorem dX6_refresh_14 : decode cX6_refresh 14 = .ok (.getfield 15, 3) := by decide +kernel
theorem dX6_refresh_17 : decode cX6_refresh 17 = .ok (.invokevirtual 23, 3) := by decide +kernel
theorem dX6_refresh_20 : decode cX6_refresh 20 = .ok (.iconst 0, 1) := by decide +kernel
theorem dX6_refresh_21 : decode cX6_refresh 21 = .ok (.istore_n 1, 1) := by decide +kernel
theorem dX6_refresh_22 : decode cX6_refresh 22 = .ok (.iload_n 1, 1) := by decide +kernel
theorem dX6_refresh_23 : decode cX6_refresh 23 = .ok (.aload_n 0, 1) := by decide +kernel
theorem dX6_refresh_24 : decode cX6_refresh 24 = .ok (.getfield 9, 3) := by decide +kernel
theorem dX6_refresh_27 : decode cX6_refresh 27 = .ok (.getfield 28, 3) := by decide +kernel
theorem dX6_refresh_30 : decode cX6_refresh 30 = .ok (.if_icmp .ge 21, 3) := by decide +kernel
theorem dX6_refresh_33 : decode cX6_refresh 33 = .ok (.aload_n 0, 1) := by decide +kernel
theorem dX6_refresh_34 : decode cX6_refresh 34 = .ok (.aload_n 0, 1) := by decide +kernel
theorem dX6_refresh_35 : decode cX6_refresh 35 = .ok (.getfield 9, 3) := by decide +kernel
theorem dX6_refresh_38 : decode cX6_refresh 38 = .ok (.iload_n 1, 1) := by decide +kernel
theorem dX6_refresh_39 : decode cX6_refresh 39 = .ok (.invokevirtual 34, 3) := by decide +kernel
theorem dX6_refresh_42 : decode cX6_refresh 42 = .ok (.invokevirtual 38, 3) := by decide +kernel
theorem dX6_refresh_45 : decode cX6_refresh 45 = .ok (.iinc 1 1, 3) := by decide +kernel
theorem dX6_refresh_48 : decode cX6_refresh 48 = .ok (.goto (-26), 3) := by decide +kernel
theorem dX6_refresh_51 : decode cX6_refresh 51 = .ok (.aload_n 0, 1) := by decide +kernel
theorem dX6_refresh_52 : decode cX6_refresh 52 = .ok (.getfield 15, 3) := by decide +kernel
theorem dX6_refresh_55 : decode cX6_refresh 55 = .ok (.invokevirtual 42, 3) := by decide +kernel
theorem dX6_refresh_58 : decode cX6_refresh 58 = .ok (.return_, 1) := by decide +kernel
theorem dX6_runTable_0 : decode cX6_runTable 0 = .ok (.iconst 0, 1) := by decide +kernel
theorem dX6_runTable_1 : decode cX6_runTable 1 = .ok (.istore_n 2, 1) := by decide +kernel
theorem dX6_runTable_2 : decode cX6_runTable 2 = .ok (.iconst 0, 1) := by decide +kernel
theorem dX6_runTable_3 : decode cX6_runTable 3 = .ok (.istore_n 3, 1) := by decide +kernel
theorem dX6_runTable_4 : decode cX6_runTable 4 = .ok (.iload_n 3, 1) := by decide +kernel
theorem dX6_runTable_5 : decode cX6_runTable 5 = .ok (.aload_n 1, 1) := by decide +kernel
theorem dX6_runTable_6 : decode cX6_runTable 6 = .ok (.getfield 45, 3) := by decide +kernel
theorem dX6_runTable_9 : decode cX6_runTable 9 = .ok (.if_icmp .ge 68, 3) := by decide +kernel
theorem dX6_runTable_12 : decode cX6_runTable 12 = .ok (.aload_n 1, 1) := by decide +kernel
theorem dX6_runTable_13 : decode cX6_runTable 13 = .ok (.iload_n 3, 1) := by decide +kernel
theorem dX6_runTable_14 : decode cX6_runTable 14 = .ok (.invokevirtual 50, 3) := by decide +kernel
theorem dX6_runTable_17 : decode cX6_runTable 17 = .ok (.astore 4, 2) := by decide +kernel
theorem dX6_runTable_19 : decode cX6_runTable 19 = .ok (.aload 4, 2) := by decide +kernel
theorem dX6_runTable_21 : decode cX6_runTable 21 = .ok (.getfield 54, 3) := by decide +kernel
theorem dX6_runTable_24 : decode cX6_runTable 24 = .ok (.invokevirtual 60, 3) := by decide +kernel
theorem dX6_runTable_27 : decode cX6_runTable 27 = .ok (.istore 5, 2) := by decide +kernel
theorem dX6_runTable_29 : decode cX6_runTable 29 = .ok (.iconst 0, 1) := by decide +kernel
theorem dX6_runTable_30 : decode cX6_runTable 30 = .ok (.istore 6, 2) := by decide +kernel
theorem dX6_runTable_32 : decode cX6_runTable 32 = .ok (.iload 6, 2) := by decide +kernel
theorem dX6_runTable_34 : decode cX6_runTable 34 = .ok (.iload 5, 2) := by decide +kernel
theorem dX6_runTable_36 : decode cX6_runTable 36 = .ok (.if_icmp .ge 30, 3) := by decide +kernel
theorem dX6_runTable_39 : decode cX6_runTable 39 = .ok (.aload_n 1, 1) := by decide +kernel
theorem dX6_runTable_40 : decode cX6_runTable 40 = .ok (.iload_n 2, 1) := by decide +kernel
theorem dX6_runTable_41 : decode cX6_runTable 41 = .ok (.iload 6, 2) := by decide +kernel
theorem dX6_runTable_43 : decode cX6_runTable 43 = .ok (.iadd, 1) := by decide +kernel
theorem dX6_runTable_44 : decode cX6_runTable 44 = .ok (.aload_n 0, 1) := by decide +kernel
theorem dX6_runTable_45 : decode cX6_runTable 45 = .ok (.aload_n 1, 1) := by decide +kernel
theorem dX6_runTable_46 : decode cX6_runTable 46 = .ok (.getfield 65, 3) := by decide +kernel
theorem dX6_runTable_49 : decode cX6_runTable 49 = .ok (.aload 4, 2) := by decide +kernel
theorem dX6_runTable_51 : decode cX6_runTable 51 = .ok (.iload 6, 2) := by decide +kernel
theorem dX6_runTable_53 : decode cX6_runTable 53 = .ok (.iconst (-1), 1) := by decide +kernel
theorem dX6_runTable_54 : decode cX6_runTable 54 = .ok (.invokevirtual 68, 3) := by decide +kernel
theorem dX6_runTable_57 : decode cX6_runTable 57 = .ok (.invokevirtual 72, 3) := by decide +kernel
theorem dX6_runTable_60 : decode cX6_runTable 60 = .ok (.iinc 6 1, 3) := by decide +kernel
theorem dX6_runTable_63 : decode cX6_runTable 63 = .ok (.goto (-31), 3) := by decide +kernel
theorem dX6_runTable_66 : decode cX6_runTable 66 = .ok (.iload_n 2, 1) := by decide +kernel
theorem dX6_runTable_67 : decode cX6_runTable 67 = .ok (.iload 5, 2) := by decide +kernel
theorem dX6_runTable_69 : decode cX6_runTable 69 = .ok (.iadd, 1) := by decide +kernel
theorem dX6_runTable_70 : decode cX6_runTable 70 = .ok (.istore_n 2, 1) := by decide +kernel
theorem dX6_runTable_71 : decode cX6_runTable 71 = .ok (.iinc 3 1, 3) := by decide +kernel
theorem dX6_runTable_74 : decode cX6_runTable 74 = .ok (.goto (-70), 3) := by decide +kernel
theorem dX6_runTable_77 : decode cX6_runTable 77 = .ok (.return_, 1) := by decide +kernel
theorem dX6_isHolding_0 : decode cX6_isHolding 0 = .ok (.aload_n 2, 1) := by decide +kernel
theorem dX6_isHolding_1 : decode cX6_isHolding 1 = .ok (.getfield 54, 3) := by decide +kernel
theorem dX6_isHolding_4 : decode cX6_isHolding 4 = .ok (.astore 5, 2) := by decide +kernel
theorem dX6_isHolding_6 : decode cX6_isHolding 6 = .ok (.aload_n 0, 1) := by decide +kernel
theorem dX6_isHolding_7 : decode cX6_isHolding 7 = .ok (.getfield 15, 3) := by decide +kernel
theorem dX6_isHolding_10 : decode cX6_isHolding 10 = .ok (.iload_n 1, 1) := by decide +kernel
theorem dX6_isHolding_11 : decode cX6_isHolding 11 = .ok (.iload 4, 2) := by decide +kernel
theorem dX6_isHolding_13 : decode cX6_isHolding 13 = .ok (.aload 5, 2) := by decide +kernel
theorem dX6_isHolding_15 : decode cX6_isHolding 15 = .ok (.iload_n 3, 1) := by decide +kernel
theorem dX6_isHolding_16 : decode cX6_isHolding 16 = .ok (.iconst 0, 1) := by decide +kernel
theorem dX6_isHolding_17 : decode cX6_isHolding 17 = .ok (.invokevirtual 76, 3) := by decide +kernel
theorem dX6_isHolding_20 : decode cX6_isHolding 20 = .ok (.i2l, 1) := by decide +kernel
theorem dX6_isHolding_21 : decode cX6_isHolding 21 = .ok (.aload 5, 2) := by decide +kernel
theorem dX6_isHolding_23 : decode cX6_isHolding 23 = .ok (.iload_n 3, 1) := by decide +kernel
theorem dX6_isHolding_24 : decode cX6_isHolding 24 = .ok (.iconst 1, 1) := by decide +kernel
theorem dX6_isHolding_25 : decode cX6_isHolding 25 = .ok (.invokevirtual 76, 3) := by decide +kernel
theorem dX6_isHolding_28 : decode cX6_isHolding 28 = .ok (.i2l, 1) := by decide +kernel
theorem dX6_isHolding_29 : decode cX6_isHolding 29 = .ok (.aload 5, 2) := by decide +kernel
theorem dX6_isHolding_31 : decode cX6_isHolding 31 = .ok (.iload_n 3, 1) := by decide +kernel
theorem dX6_isHolding_32 : decode cX6_isHolding 32 = .ok (.iconst 2, 1) := by decide +kernel
theorem dX6_isHolding_33 : decode cX6_isHolding 33 = .ok (.invokevirtual 76, 3) := by decide +kernel
theorem dX6_isHolding_36 : decode cX6_isHolding 36 = .ok (.i2l, 1) := by decide +kernel
theorem dX6_isHolding_37 : decode cX6_isHolding 37 = .ok (.invokevirtual 80, 3) := by decide +kernel
theorem dX6_isHolding_40 : decode cX6_isHolding 40 = .ok (.lstore 6, 2) := by decide +kernel
theorem dX6_isHolding_42 : decode cX6_isHolding 42 = .ok (.aload_n 2, 1) := by decide +kernel
theorem dX6_isHolding_43 : decode cX6_isHolding 43 = .ok (.aload_n 0, 1) := by decide +kernel
theorem dX6_isHolding_44 : decode cX6_isHolding 44 = .ok (.getfield 15, 3) := by decide +kernel
theorem dX6_isHolding_47 : decode cX6_isHolding 47 = .ok (.invokevirtual 84, 3) := by decide +kernel
theorem dX6_isHolding_50 : decode cX6_isHolding 50 = .ok (.lload 6, 2) := by decide +kernel
theorem dX6_isHolding_52 : decode cX6_isHolding 52 = .ok (.invokevirtual 88, 3) := by decide +kernel
theorem dX6_isHolding_55 : decode cX6_isHolding 55 = .ok (.ireturn, 1) := by decide +kernel
theorem dX6_changesFound_0 : decode cX6_changesFound 0 = .ok (.lconst 0, 1) := by decide +kernel
theorem dX6_changesFound_1 : decode cX6_changesFound 1 = .ok (.lstore_n 3, 1) := by decide +kernel
theorem dX6_changesFound_2 : decode cX6_changesFound 2 = .ok (.iconst 0, 1) := by decide +kernel
theorem dX6_changesFound_3 : decode cX6_changesFound 3 = .ok (.istore 5, 2) := by decide +kernel
theorem dX6_changesFound_5 : decode cX6_changesFound 5 = .ok (.iload 5, 2) := by decide +kernel
theorem dX6_changesFound_7 : decode cX6_changesFound 7 = .ok (.aload_n 1, 1) := by decide +kernel
theorem dX6_changesFound_8 : decode cX6_changesFound 8 = .ok (.getfield 45, 3) := by decide +kernel
theorem dX6_changesFound_11 : decode cX6_changesFound 11 = .ok (.if_icmp .ge 41, 3) := by decide +kernel
theorem dX6_changesFound_14 : decode cX6_changesFound 14 = .ok (.aload_n 1, 1) := by decide +kernel
theorem dX6_changesFound_15 : decode cX6_changesFound 15 = .ok (.iload 5, 2) := by decide +kernel
theorem dX6_changesFound_17 : decode cX6_changesFound 17 = .ok (.invokevirtual 50, 3) := by decide +kernel
theorem dX6_changesFound_20 : decode cX6_changesFound 20 = .ok (.astore 6, 2) := by decide +kernel
theorem dX6_changesFound_22 : decode cX6_changesFound 22 = .ok (.aload 6, 2) := by decide +kernel
theorem dX6_changesFound_24 : decode cX6_changesFound 24 = .ok (.aload_n 2, 1) := by decide +kernel
theorem dX6_changesFound_25 : decode cX6_changesFound 25 = .ok (.if_acmp .eq 21, 3) := by decide +kernel
theorem dX6_changesFound_28 : decode cX6_changesFound 28 = .ok (.aload_n 0, 1) := by decide +kernel
theorem dX6_changesFound_29 : decode cX6_changesFound 29 = .ok (.aload_n 1, 1) := by decide +kernel
theorem dX6_changesFound_30 : decode cX6_changesFound 30 = .ok (.getfield 65, 3) := by decide +kernel
theorem dX6_changesFound_33 : decode cX6_changesFound 33 = .ok (.aload 6, 2) := by decide +kernel
theorem dX6_changesFound_35 : decode cX6_changesFound 35 = .ok (.invokevirtual 92, 3) := by decide +kernel
theorem dX6_changesFound_38 : decode cX6_changesFound 38 = .ok (.lload_n 3, 1) := by decide +kernel
theorem dX6_changesFound_39 : decode cX6_changesFound 39 = .ok (.aload 6, 2) := by decide +kernel
theorem dX6_changesFound_41 : decode cX6_changesFound 41 = .ok (.getfield 96, 3) := by decide +kernel
theorem dX6_changesFound_44 : decode cX6_changesFound 44 = .ok (.lor, 1) := by decide +kernel
theorem dX6_changesFound_45 : decode cX6_changesFound 45 = .ok (.lstore_n 3, 1) := by decide +kernel
theorem dX6_changesFound_46 : decode cX6_changesFound 46 = .ok (.iinc 5 1, 3) := by decide +kernel
theorem dX6_changesFound_49 : decode cX6_changesFound 49 = .ok (.goto (-44), 3) := by decide +kernel
theorem dX6_changesFound_52 : decode cX6_changesFound 52 = .ok (.lload_n 3, 1) := by decide +kernel
theorem dX6_changesFound_53 : decode cX6_changesFound 53 = .ok (.lreturn, 1) := by decide +kernel
theorem dX6_search_0 : decode cX6_search 0 = .ok (.aload_n 2, 1) := by decide +kernel
theorem dX6_search_1 : decode cX6_search 1 = .ok (.getfield 100, 3) := by decide +kernel
theorem dX6_search_4 : decode cX6_search 4 = .ok (.ifCond .eq 4, 3) := by decide +kernel
theorem dX6_search_7 : decode cX6_search 7 = .ok (.return_, 1) := by decide +kernel
theorem dX6_search_8 : decode cX6_search 8 = .ok (.aload_n 2, 1) := by decide +kernel
theorem dX6_search_9 : decode cX6_search 9 = .ok (.iconst 1, 1) := by decide +kernel
theorem dX6_search_10 : decode cX6_search 10 = .ok (.putfield 100, 3) := by decide +kernel
theorem dX6_search_13 : decode cX6_search 13 = .ok (.aload_n 2, 1) := by decide +kernel
theorem dX6_search_14 : decode cX6_search 14 = .ok (.lconst 0, 1) := by decide +kernel
theorem dX6_search_15 : decode cX6_search 15 = .ok (.putfield 96, 3) := by decide +kernel
theorem dX6_search_18 : decode cX6_search 18 = .ok (.aload_n 2, 1) := by decide +kernel
theorem dX6_search_19 : decode cX6_search 19 = .ok (.getfield 54, 3) := by decide +kernel
theorem dX6_search_22 : decode cX6_search 22 = .ok (.invokevirtual 60, 3) := by decide +kernel
theorem dX6_search_25 : decode cX6_search 25 = .ok (.istore_n 3, 1) := by decide +kernel
theorem dX6_search_26 : decode cX6_search 26 = .ok (.aload_n 0, 1) := by decide +kernel
theorem dX6_search_27 : decode cX6_search 27 = .ok (.getfield 9, 3) := by decide +kernel
theorem dX6_search_30 : decode cX6_search 30 = .ok (.iload_n 1, 1) := by decide +kernel
theorem dX6_search_31 : decode cX6_search 31 = .ok (.invokevirtual 103, 3) := by decide +kernel
theorem dX6_search_34 : decode cX6_search 34 = .ok (.getfield 107, 3) := by decide +kernel
theorem dX6_search_37 : decode cX6_search 37 = .ok (.istore 4, 2) := by decide +kernel
theorem dX6_search_39 : decode cX6_search 39 = .ok (.iconst 0, 1) := by decide +kernel
theorem dX6_search_40 : decode cX6_search 40 = .ok (.istore 5, 2) := by decide +kernel
theorem dX6_search_42 : decode cX6_search 42 = .ok (.iload 5, 2) := by decide +kernel
theorem dX6_search_44 : decode cX6_search 44 = .ok (.iload_n 3, 1) := by decide +kernel
theorem dX6_search_45 : decode cX6_search 45 = .ok (.if_icmp .ge 93, 3) := by decide +kernel
theorem dX6_search_48 : decode cX6_search 48 = .ok (.aload_n 0, 1) := by decide +kernel
theorem dX6_search_49 : decode cX6_search 49 = .ok (.iload_n 1, 1) := by decide +kernel
theorem dX6_search_50 : decode cX6_search 50 = .ok (.aload_n 2, 1) := by decide +kernel
theorem dX6_search_51 : decode cX6_search 51 = .ok (.iload 5, 2) := by decide +kernel
theorem dX6_search_53 : decode cX6_search 53 = .ok (.iconst (-1), 1) := by decide +kernel
theorem dX6_search_54 : decode cX6_search 54 = .ok (.invokevirtual 68, 3) := by decide +kernel
theorem dX6_search_57 : decode cX6_search 57 = .ok (.istore 6, 2) := by decide +kernel
theorem dX6_search_59 : decode cX6_search 59 = .ok (.iconst 0, 1) := by decide +kernel
theorem dX6_search_60 : decode cX6_search 60 = .ok (.istore 7, 2) := by decide +kernel
theorem dX6_search_62 : decode cX6_search 62 = .ok (.iload 7, 2) := by decide +kernel
theorem dX6_search_64 : decode cX6_search 64 = .ok (.iload 4, 2) := by decide +kernel
theorem dX6_search_66 : decode cX6_search 66 = .ok (.if_icmp .ge 66, 3) := by decide +kernel
theorem dX6_search_69 : decode cX6_search 69 = .ok (.iload 6, 2) := by decide +kernel
theorem dX6_search_71 : decode cX6_search 71 = .ok (.ifCond .eq 61, 3) := by decide +kernel
theorem dX6_search_74 : decode cX6_search 74 = .ok (.aload_n 2, 1) := by decide +kernel
theorem dX6_search_75 : decode cX6_search 75 = .ok (.getfield 96, 3) := by decide +kernel
theorem dX6_search_78 : decode cX6_search 78 = .ok (.iload 7, 2) := by decide +kernel
theorem dX6_search_80 : decode cX6_search 80 = .ok (.lshr, 1) := by decide +kernel
theorem dX6_search_81 : decode cX6_search 81 = .ok (.lconst 1, 1) := by decide +kernel
theorem dX6_search_82 : decode cX6_search 82 = .ok (.land, 1) := by decide +kernel
theorem dX6_search_83 : decode cX6_search 83 = .ok (.lconst 0, 1) := by decide +kernel
theorem dX6_search_84 : decode cX6_search 84 = .ok (.lcmp, 1) := by decide +kernel
theorem dX6_search_85 : decode cX6_search 85 = .ok (.ifCond .eq 7, 3) := by decide +kernel
theorem dX6_search_88 : decode cX6_search 88 = .ok (.iconst 1, 1) := by decide +kernel
theorem dX6_search_89 : decode cX6_search 89 = .ok (.goto 4, 3) := by decide +kernel
theorem dX6_search_92 : decode cX6_search 92 = .ok (.iconst 0, 1) := by decide +kernel
theorem dX6_search_93 : decode cX6_search 93 = .ok (.istore 8, 2) := by decide +kernel
theorem dX6_search_95 : decode cX6_search 95 = .ok (.iload 8, 2) := by decide +kernel
theorem dX6_search_97 : decode cX6_search 97 = .ok (.ifCond .ne 29, 3) := by decide +kernel
theorem dX6_search_100 : decode cX6_search 100 = .ok (.aload_n 0, 1) := by decide +kernel
theorem dX6_search_101 : decode cX6_search 101 = .ok (.iload_n 1, 1) := by decide +kernel
theorem dX6_search_102 : decode cX6_search 102 = .ok (.aload_n 2, 1) := by decide +kernel
theorem dX6_search_103 : decode cX6_search 103 = .ok (.iload 5, 2) := by decide +kernel
theorem dX6_search_105 : decode cX6_search 105 = .ok (.iload 7, 2) := by decide +kernel
theorem dX6_search_107 : decode cX6_search 107 = .ok (.invokevirtual 68, 3) := by decide +kernel
theorem dX6_search_110 : decode cX6_search 110 = .ok (.ifCond .ne 16, 3) := by decide +kernel
theorem dX6_search_113 : decode cX6_search 113 = .ok (.aload_n 2, 1) := by decide +kernel
theorem dX6_search_114 : decode cX6_search 114 = .ok (.dup, 1) := by decide +kernel
theorem dX6_search_115 : decode cX6_search 115 = .ok (.getfield 96, 3) := by decide +kernel
theorem dX6_search_118 : decode cX6_search 118 = .ok (.lconst 1, 1) := by decide +kernel
theorem dX6_search_119 : decode cX6_search 119 = .ok (.iload 7, 2) := by decide +kernel
theorem dX6_search_121 : decode cX6_search 121 = .ok (.lshl, 1) := by decide +kernel
theorem dX6_search_122 : decode cX6_search 122 = .ok (.lor, 1) := by decide +kernel
theorem dX6_search_123 : decode cX6_search 123 = .ok (.putfield 96, 3) := by decide +kernel
theorem dX6_search_126 : decode cX6_search 126 = .ok (.iinc 7 1, 3) := by decide +kernel
theorem dX6_search_129 : decode cX6_search 129 = .ok (.goto (-67), 3) := by decide +kernel
theorem dX6_search_132 : decode cX6_search 132 = .ok (.iinc 5 1, 3) := by decide +kernel
theorem dX6_search_135 : decode cX6_search 135 = .ok (.goto (-93), 3) := by decide +kernel
theorem dX6_search_138 : decode cX6_search 138 = .ok (.return_, 1) := by decide +kernel
theorem dX7_init_0 : decode cX7_init 0 = .ok (.aload_n 0, 1) := by decide +kernel
theorem dX7_init_1 : decode cX7_init 1 = .ok (.invokespecial 3, 3) := by decide +kernel
theorem dX7_init_4 : decode cX7_init 4 = .ok (.aload_n 0, 1) := by decide +kernel
theorem dX7_init_5 : decode cX7_init 5 = .ok (.bipush 12, 2) := by decide +kernel
theorem dX7_init_7 : decode cX7_init 7 = .ok (.anewarray 9, 3) := by decide +kernel
theorem dX7_init_10 : decode cX7_init 10 = .ok (.putfield 11, 3) := by decide +kernel
theorem dX7_init_13 : decode cX7_init 13 = .ok (.aload_n 0, 1) := by decide +kernel
theorem dX7_init_14 : decode cX7_init 14 = .ok (.new 9, 3) := by decide +kernel
theorem dX7_init_17 : decode cX7_init 17 = .ok (.dup, 1) := by decide +kernel
theorem dX7_init_18 : decode cX7_init 18 = .ok (.invokespecial 17, 3) := by decide +kernel
theorem dX7_init_21 : decode cX7_init 21 = .ok (.putfield 18, 3) := by decide +kernel
theorem dX7_init_24 : decode cX7_init 24 = .ok (.aload_n 0, 1) := by decide +kernel
theorem dX7_init_25 : decode cX7_init 25 = .ok (.bipush 100, 2) := by decide +kernel
theorem dX7_init_27 : decode cX7_init 27 = .ok (.newarray .boolean, 2) := by decide +kernel
theorem dX7_init_29 : decode cX7_init 29 = .ok (.putfield 22, 3) := by decide +kernel
theorem dX7_init_32 : decode cX7_init 32 = .ok (.return_, 1) := by decide +kernel
theorem dX7_clear_0 : decode cX7_clear 0 = .ok (.aload_n 0, 1) := by decide +kernel
theorem dX7_clear_1 : decode cX7_clear 1 = .ok (.lconst 0, 1) := by decide +kernel
theorem dX7_clear_2 : decode cX7_clear 2 = .ok (.putfield 26, 3) := by decide +kernel
theorem dX7_clear_5 : decode cX7_clear 5 = .ok (.aload_n 0, 1) := by decide +kernel
theorem dX7_clear_6 : decode cX7_clear 6 = .ok (.iconst 0, 1) := by decide +kernel
theorem dX7_clear_7 : decode cX7_clear 7 = .ok (.putfield 30, 3) := by decide +kernel
theorem dX7_clear_10 : decode cX7_clear 10 = .ok (.aload_n 0, 1) := by decide +kernel
theorem dX7_clear_11 : decode cX7_clear 11 = .ok (.iconst 0, 1) := by decide +kernel
theorem dX7_clear_12 : decode cX7_clear 12 = .ok (.putfield 34, 3) := by decide +kernel
theorem dX7_clear_15 : decode cX7_clear 15 = .ok (.aload_n 0, 1) := by decide +kernel
theorem dX7_clear_16 : decode cX7_clear 16 = .ok (.iconst 0, 1) := by decide +kernel
theorem dX7_clear_17 : decode cX7_clear 17 = .ok (.putfield 37, 3) := by decide +kernel
theorem dX7_clear_20 : decode cX7_clear 20 = .ok (.return_, 1) := by decide +kernel
theorem dX7_rowAt_0 : decode cX7_rowAt 0 = .ok (.iload_n 1, 1) := by decide +kernel
theorem dX7_rowAt_1 : decode cX7_rowAt 1 = .ok (.ifCond .lt 21, 3) := by decide +kernel
theorem dX7_rowAt_4 : decode cX7_rowAt 4 = .ok (.iload_n 1, 1) := by decide +kernel
theorem dX7_rowAt_5 : decode cX7_rowAt 5 = .ok (.aload_n 0, 1) := by decide +kernel
theorem dX7_rowAt_6 : decode cX7_rowAt 6 = .ok (.getfield 11, 3) := by decide +kernel
theorem dX7_rowAt_9 : decode cX7_rowAt 9 = .ok (.arraylength, 1) := by decide +kernel
theorem dX7_rowAt_10 : decode cX7_rowAt 10 = .ok (.if_icmp .ge 12, 3) := by decide +kernel
theorem dX7_rowAt_13 : decode cX7_rowAt 13 = .ok (.aload_n 0, 1) := by decide +kernel
theorem dX7_rowAt_14 : decode cX7_rowAt 14 = .ok (.getfield 11, 3) := by decide +kernel
theorem dX7_rowAt_17 : decode cX7_rowAt 17 = .ok (.iload_n 1, 1) := by decide +kernel
theorem dX7_rowAt_18 : decode cX7_rowAt 18 = .ok (.aaload, 1) := by decide +kernel
theorem dX7_rowAt_19 : decode cX7_rowAt 19 = .ok (.goto 4, 3) := by decide +kernel
theorem dX7_rowAt_22 : decode cX7_rowAt 22 = .ok (.aconst_null, 1) := by decide +kernel
theorem dX7_rowAt_23 : decode cX7_rowAt 23 = .ok (.astore_n 2, 1) := by decide +kernel
theorem dX7_rowAt_24 : decode cX7_rowAt 24 = .ok (.aload_n 2, 1) := by decide +kernel
theorem dX7_rowAt_25 : decode cX7_rowAt 25 = .ok (.ifnonnull 10, 3) := by decide +kernel
theorem dX7_rowAt_28 : decode cX7_rowAt 28 = .ok (.aload_n 0, 1) := by decide +kernel
theorem dX7_rowAt_29 : decode cX7_rowAt 29 = .ok (.getfield 18, 3) := by decide +kernel
theorem dX7_rowAt_32 : decode cX7_rowAt 32 = .ok (.goto 4, 3) := by decide +kernel
theorem dX7_rowAt_35 : decode cX7_rowAt 35 = .ok (.aload_n 2, 1) := by decide +kernel
theorem dX7_rowAt_36 : decode cX7_rowAt 36 = .ok (.areturn, 1) := by decide +kernel
theorem dX7_nextRow_0 : decode cX7_nextRow 0 = .ok (.aload_n 0, 1) := by decide +kernel
theorem dX7_nextRow_1 : decode cX7_nextRow 1 = .ok (.getfield 34, 3) := by decide +kernel
theorem dX7_nextRow_4 : decode cX7_nextRow 4 = .ok (.ifCond .lt 43, 3) := by decide +kernel
theorem dX7_nextRow_7 : decode cX7_nextRow 7 = .ok (.aload_n 0, 1) := by decide +kernel
theorem dX7_nextRow_8 : decode cX7_nextRow 8 = .ok (.getfield 34, 3) := by decide +kernel
theorem dX7_nextRow_11 : decode cX7_nextRow 11 = .ok (.aload_n 0, 1) := by decide +kernel
theorem dX7_nextRow_12 : decode cX7_nextRow 12 = .ok (.getfield 11, 3) := by decide +kernel
theorem dX7_nextRow_15 : decode cX7_nextRow 15 = .ok (.arraylength, 1) := by decide +kernel
theorem dX7_nextRow_16 : decode cX7_nextRow 16 = .ok (.if_icmp .ge 31, 3) := by decide +kernel
theorem dX7_nextRow_19 : decode cX7_nextRow 19 = .ok (.aload_n 0, 1) := by decide +kernel
theorem dX7_nextRow_20 : decode cX7_nextRow 20 = .ok (.getfield 11, 3) := by decide +kernel
theorem dX7_nextRow_23 : decode cX7_nextRow 23 = .ok (.aload_n 0, 1) := by decide +kernel
theorem dX7_nextRow_24 : decode cX7_nextRow 24 = .ok (.getfield 34, 3) := by decide +kernel
theorem dX7_nextRow_27 : decode cX7_nextRow 27 = .ok (.aaload, 1) := by decide +kernel
theorem dX7_nextRow_28 : decode cX7_nextRow 28 = .ok (.ifnonnull 19, 3) := by decide +kernel
theorem dX7_nextRow_31 : decode cX7_nextRow 31 = .ok (.aload_n 0, 1) := by decide +kernel
theorem dX7_nextRow_32 : decode cX7_nextRow 32 = .ok (.getfield 11, 3) := by decide +kernel
theorem dX7_nextRow_35 : decode cX7_nextRow 35 = .ok (.aload_n 0, 1) := by decide +kernel
theorem dX7_nextRow_36 : decode cX7_nextRow 36 = .ok (.getfield 34, 3) := by decide +kernel
theorem dX7_nextRow_39 : decode cX7_nextRow 39 = .ok (.new 9, 3) := by decide +kernel
theorem dX7_nextRow_42 : decode cX7_nextRow 42 = .ok (.dup, 1) := by decide +kernel
theorem dX7_nextRow_43 : decode cX7_nextRow 43 = .ok (.invokespecial 17, 3) := by decide +kernel
theorem dX7_nextRow_46 : decode cX7_nextRow 46 = .ok (.aastore, 1) := by decide +kernel
theorem dX7_nextRow_47 : decode cX7_nextRow 47 = .ok (.aload_n 0, 1) := by decide +kernel
theorem dX7_nextRow_48 : decode cX7_nextRow 48 = .ok (.aload_n 0, 1) := by decide +kernel
theorem dX7_nextRow_49 : decode cX7_nextRow 49 = .ok (.getfield 34, 3) := by decide +kernel
theorem dX7_nextRow_52 : decode cX7_nextRow 52 = .ok (.invokevirtual 40, 3) := by decide +kernel
theorem dX7_nextRow_55 : decode cX7_nextRow 55 = .ok (.astore_n 1, 1) := by decide +kernel
theorem dX7_nextRow_56 : decode cX7_nextRow 56 = .ok (.aload_n 1, 1) := by decide +kernel
theorem dX7_nextRow_57 : decode cX7_nextRow 57 = .ok (.invokevirtual 44, 3) := by decide +kernel
theorem dX7_nextRow_60 : decode cX7_nextRow 60 = .ok (.aload_n 1, 1) := by decide +kernel
theorem dX7_nextRow_61 : decode cX7_nextRow 61 = .ok (.areturn, 1) := by decide +kernel
theorem dX7_keepRow_0 : decode cX7_keepRow 0 = .ok (.aload_n 0, 1) := by decide +kernel
theorem dX7_keepRow_1 : decode cX7_keepRow 1 = .ok (.dup, 1) := by decide +kernel
theorem dX7_keepRow_2 : decode cX7_keepRow 2 = .ok (.getfield 37, 3) := by decide +kernel
theorem dX7_keepRow_5 : decode cX7_keepRow 5 = .ok (.aload_n 0, 1) := by decide +kernel
theorem dX7_keepRow_6 : decode cX7_keepRow 6 = .ok (.aload_n 0, 1) := by decide +kernel
theorem dX7_keepRow_7 : decode cX7_keepRow 7 = .ok (.getfield 34, 3) := by decide +kernel
theorem dX7_keepRow_10 : decode cX7_keepRow 10 = .ok (.invokevirtual 40, 3) := by decide +kernel
theorem dX7_keepRow_13 : decode cX7_keepRow 13 = .ok (.getfield 47, 3) := by decide +kernel
theorem dX7_keepRow_16 : decode cX7_keepRow 16 = .ok (.invokevirtual 51, 3) := by decide +kernel
theorem dX7_keepRow_19 : decode cX7_keepRow 19 = .ok (.iadd, 1) := by decide +kernel
theorem dX7_keepRow_20 : decode cX7_keepRow 20 = .ok (.putfield 37, 3) := by decide +kernel
theorem dX7_keepRow_23 : decode cX7_keepRow 23 = .ok (.aload_n 0, 1) := by decide +kernel
theorem dX7_keepRow_24 : decode cX7_keepRow 24 = .ok (.getfield 34, 3) := by decide +kernel
theorem dX7_keepRow_27 : decode cX7_keepRow 27 = .ok (.bipush 12, 2) := by decide +kernel
theorem dX7_keepRow_29 : decode cX7_keepRow 29 = .ok (.if_icmp .ge 13, 3) := by decide +kernel
theorem dX7_keepRow_32 : decode cX7_keepRow 32 = .ok (.aload_n 0, 1) := by decide +kernel
theorem dX7_keepRow_33 : decode cX7_keepRow 33 = .ok (.dup, 1) := by decide +kernel
theorem dX7_keepRow_34 : decode cX7_keepRow 34 = .ok (.getfield 34, 3) := by decide +kernel
theorem dX7_keepRow_37 : decode cX7_keepRow 37 = .ok (.iconst 1, 1) := by decide +kernel
theorem dX7_keepRow_38 : decode cX7_keepRow 38 = .ok (.iadd, 1) := by decide +kernel
theorem dX7_keepRow_39 : decode cX7_keepRow 39 = .ok (.putfield 34, 3) := by decide +kernel
theorem dX7_keepRow_42 : decode cX7_keepRow 42 = .ok (.return_, 1) := by decide +kernel
theorem dX7_drop_0 : decode cX7_drop 0 = .ok (.aload_n 0, 1) := by decide +kernel
theorem dX7_drop_1 : decode cX7_drop 1 = .ok (.iload_n 1, 1) := by decide +kernel
theorem dX7_drop_2 : decode cX7_drop 2 = .ok (.invokevirtual 40, 3) := by decide +kernel
theorem dX7_drop_5 : decode cX7_drop 5 = .ok (.astore_n 2, 1) := by decide +kernel
theorem dX7_drop_6 : decode cX7_drop 6 = .ok (.aload_n 0, 1) := by decide +kernel
theorem dX7_drop_7 : decode cX7_drop 7 = .ok (.dup, 1) := by decide +kernel
theorem dX7_drop_8 : decode cX7_drop 8 = .ok (.getfield 37, 3) := by decide +kernel
theorem dX7_drop_11 : decode cX7_drop 11 = .ok (.aload_n 2, 1) := by decide +kernel
theorem dX7_drop_12 : decode cX7_drop 12 = .ok (.getfield 47, 3) := by decide +kernel
theorem dX7_drop_15 : decode cX7_drop 15 = .ok (.invokevirtual 51, 3) := by decide +kernel
theorem dX7_drop_18 : decode cX7_drop 18 = .ok (.isub, 1) := by decide +kernel
theorem dX7_drop_19 : decode cX7_drop 19 = .ok (.putfield 37, 3) := by decide +kernel
theorem dX7_drop_22 : decode cX7_drop 22 = .ok (.aload_n 0, 1) := by decide +kernel
theorem dX7_drop_23 : decode cX7_drop 23 = .ok (.dup, 1) := by decide +kernel
theorem dX7_drop_24 : decode cX7_drop 24 = .ok (.getfield 34, 3) := by decide +kernel
theorem dX7_drop_27 : decode cX7_drop 27 = .ok (.iconst 1, 1) := by decide +kernel
theorem dX7_drop_28 : decode cX7_drop 28 = .ok (.isub, 1) := by decide +kernel
theorem dX7_drop_29 : decode cX7_drop 29 = .ok (.putfield 34, 3) := by decide +kernel
theorem dX7_drop_32 : decode cX7_drop 32 = .ok (.iload_n 1, 1) := by decide +kernel
theorem dX7_drop_33 : decode cX7_drop 33 = .ok (.istore_n 3, 1) := by decide +kernel
theorem dX7_drop_34 : decode cX7_drop 34 = .ok (.iload_n 3, 1) := by decide +kernel
theorem dX7_drop_35 : decode cX7_drop 35 = .ok (.ifCond .lt 39, 3) := by decide +kernel
theorem dX7_drop_38 : decode cX7_drop 38 = .ok (.iload_n 3, 1) := by decide +kernel
theorem dX7_drop_39 : decode cX7_drop 39 = .ok (.aload_n 0, 1) := by decide +kernel
theorem dX7_drop_40 : decode cX7_drop 40 = .ok (.getfield 34, 3) := by decide +kernel
theorem dX7_drop_43 : decode cX7_drop 43 = .ok (.if_icmp .ge 31, 3) := by decide +kernel
theorem dX7_drop_46 : decode cX7_drop 46 = .ok (.iload_n 3, 1) := by decide +kernel
theorem dX7_drop_47 : decode cX7_drop 47 = .ok (.aload_n 0, 1) := by decide +kernel
theorem dX7_drop_48 : decode cX7_drop 48 = .ok (.getfield 11, 3) := by decide +kernel
theorem dX7_drop_51 : decode cX7_drop 51 = .ok (.arraylength, 1) := by decide +kernel
theorem dX7_drop_52 : decode cX7_drop 52 = .ok (.if_icmp .ge 22, 3) := by decide +kernel
theorem dX7_drop_55 : decode cX7_drop 55 = .ok (.aload_n 0, 1) := by decide +kernel
theorem dX7_drop_56 : decode cX7_drop 56 = .ok (.getfield 11, 3) := by decide +kernel
theorem dX7_drop_59 : decode cX7_drop 59 = .ok (.iload_n 3, 1) := by decide +kernel
theorem dX7_drop_60 : decode cX7_drop 60 = .ok (.aload_n 0, 1) := by decide +kernel
theorem dX7_drop_61 : decode cX7_drop 61 = .ok (.iload_n 3, 1) := by decide +kernel
theorem dX7_drop_62 : decode cX7_drop 62 = .ok (.iconst 1, 1) := by decide +kernel
theorem dX7_drop_63 : decode cX7_drop 63 = .ok (.iadd, 1) := by decide +kernel
