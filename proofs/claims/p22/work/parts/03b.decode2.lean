/-! decode rows (the kit printed them) -/
theorem dX7_drop_64 : decode cX7_drop 64 = .ok (.invokevirtual 40, 3) := by decide +kernel
theorem dX7_drop_67 : decode cX7_drop 67 = .ok (.aastore, 1) := by decide +kernel
theorem dX7_drop_68 : decode cX7_drop 68 = .ok (.iinc 3 1, 3) := by decide +kernel
theorem dX7_drop_71 : decode cX7_drop 71 = .ok (.goto (-37), 3) := by decide +kernel
theorem dX7_drop_74 : decode cX7_drop 74 = .ok (.aload_n 0, 1) := by decide +kernel
theorem dX7_drop_75 : decode cX7_drop 75 = .ok (.getfield 34, 3) := by decide +kernel
theorem dX7_drop_78 : decode cX7_drop 78 = .ok (.ifCond .lt 25, 3) := by decide +kernel
theorem dX7_drop_81 : decode cX7_drop 81 = .ok (.aload_n 0, 1) := by decide +kernel
theorem dX7_drop_82 : decode cX7_drop 82 = .ok (.getfield 34, 3) := by decide +kernel
theorem dX7_drop_85 : decode cX7_drop 85 = .ok (.aload_n 0, 1) := by decide +kernel
theorem dX7_drop_86 : decode cX7_drop 86 = .ok (.getfield 11, 3) := by decide +kernel
theorem dX7_drop_89 : decode cX7_drop 89 = .ok (.arraylength, 1) := by decide +kernel
theorem dX7_drop_90 : decode cX7_drop 90 = .ok (.if_icmp .ge 13, 3) := by decide +kernel
theorem dX7_drop_93 : decode cX7_drop 93 = .ok (.aload_n 0, 1) := by decide +kernel
theorem dX7_drop_94 : decode cX7_drop 94 = .ok (.getfield 11, 3) := by decide +kernel
theorem dX7_drop_97 : decode cX7_drop 97 = .ok (.aload_n 0, 1) := by decide +kernel
theorem dX7_drop_98 : decode cX7_drop 98 = .ok (.getfield 34, 3) := by decide +kernel
theorem dX7_drop_101 : decode cX7_drop 101 = .ok (.aload_n 2, 1) := by decide +kernel
theorem dX7_drop_102 : decode cX7_drop 102 = .ok (.aastore, 1) := by decide +kernel
theorem dX7_drop_103 : decode cX7_drop 103 = .ok (.return_, 1) := by decide +kernel
theorem dX7_valueAt_0 : decode cX7_valueAt 0 = .ok (.iload_n 1, 1) := by decide +kernel
theorem dX7_valueAt_1 : decode cX7_valueAt 1 = .ok (.istore_n 3, 1) := by decide +kernel
theorem dX7_valueAt_2 : decode cX7_valueAt 2 = .ok (.iconst 0, 1) := by decide +kernel
theorem dX7_valueAt_3 : decode cX7_valueAt 3 = .ok (.istore 4, 2) := by decide +kernel
theorem dX7_valueAt_5 : decode cX7_valueAt 5 = .ok (.iload 4, 2) := by decide +kernel
theorem dX7_valueAt_7 : decode cX7_valueAt 7 = .ok (.aload_n 0, 1) := by decide +kernel
theorem dX7_valueAt_8 : decode cX7_valueAt 8 = .ok (.getfield 34, 3) := by decide +kernel
theorem dX7_valueAt_11 : decode cX7_valueAt 11 = .ok (.if_icmp .ge 45, 3) := by decide +kernel
theorem dX7_valueAt_14 : decode cX7_valueAt 14 = .ok (.aload_n 0, 1) := by decide +kernel
theorem dX7_valueAt_15 : decode cX7_valueAt 15 = .ok (.iload 4, 2) := by decide +kernel
theorem dX7_valueAt_17 : decode cX7_valueAt 17 = .ok (.invokevirtual 40, 3) := by decide +kernel
theorem dX7_valueAt_20 : decode cX7_valueAt 20 = .ok (.getfield 47, 3) := by decide +kernel
theorem dX7_valueAt_23 : decode cX7_valueAt 23 = .ok (.astore 5, 2) := by decide +kernel
theorem dX7_valueAt_25 : decode cX7_valueAt 25 = .ok (.iload_n 3, 1) := by decide +kernel
theorem dX7_valueAt_26 : decode cX7_valueAt 26 = .ok (.aload 5, 2) := by decide +kernel
theorem dX7_valueAt_28 : decode cX7_valueAt 28 = .ok (.invokevirtual 51, 3) := by decide +kernel
theorem dX7_valueAt_31 : decode cX7_valueAt 31 = .ok (.if_icmp .ge 11, 3) := by decide +kernel
theorem dX7_valueAt_34 : decode cX7_valueAt 34 = .ok (.aload 5, 2) := by decide +kernel
theorem dX7_valueAt_36 : decode cX7_valueAt 36 = .ok (.iload_n 3, 1) := by decide +kernel
theorem dX7_valueAt_37 : decode cX7_valueAt 37 = .ok (.iload_n 2, 1) := by decide +kernel
theorem dX7_valueAt_38 : decode cX7_valueAt 38 = .ok (.invokevirtual 56, 3) := by decide +kernel
theorem dX7_valueAt_41 : decode cX7_valueAt 41 = .ok (.ireturn, 1) := by decide +kernel
theorem dX7_valueAt_42 : decode cX7_valueAt 42 = .ok (.iload_n 3, 1) := by decide +kernel
theorem dX7_valueAt_43 : decode cX7_valueAt 43 = .ok (.aload 5, 2) := by decide +kernel
theorem dX7_valueAt_45 : decode cX7_valueAt 45 = .ok (.invokevirtual 51, 3) := by decide +kernel
theorem dX7_valueAt_48 : decode cX7_valueAt 48 = .ok (.isub, 1) := by decide +kernel
theorem dX7_valueAt_49 : decode cX7_valueAt 49 = .ok (.istore_n 3, 1) := by decide +kernel
theorem dX7_valueAt_50 : decode cX7_valueAt 50 = .ok (.iinc 4 1, 3) := by decide +kernel
theorem dX7_valueAt_53 : decode cX7_valueAt 53 = .ok (.goto (-48), 3) := by decide +kernel
theorem dX7_valueAt_56 : decode cX7_valueAt 56 = .ok (.iconst 0, 1) := by decide +kernel
theorem dX7_valueAt_57 : decode cX7_valueAt 57 = .ok (.ireturn, 1) := by decide +kernel
theorem dX7_note_0 : decode cX7_note 0 = .ok (.iload_n 1, 1) := by decide +kernel
theorem dX7_note_1 : decode cX7_note 1 = .ok (.ifCond .lt 19, 3) := by decide +kernel
theorem dX7_note_4 : decode cX7_note 4 = .ok (.iload_n 1, 1) := by decide +kernel
theorem dX7_note_5 : decode cX7_note 5 = .ok (.aload_n 0, 1) := by decide +kernel
theorem dX7_note_6 : decode cX7_note 6 = .ok (.getfield 22, 3) := by decide +kernel
theorem dX7_note_9 : decode cX7_note 9 = .ok (.arraylength, 1) := by decide +kernel
theorem dX7_note_10 : decode cX7_note 10 = .ok (.if_icmp .ge 10, 3) := by decide +kernel
theorem dX7_note_13 : decode cX7_note 13 = .ok (.aload_n 0, 1) := by decide +kernel
theorem dX7_note_14 : decode cX7_note 14 = .ok (.getfield 22, 3) := by decide +kernel
theorem dX7_note_17 : decode cX7_note 17 = .ok (.iload_n 1, 1) := by decide +kernel
theorem dX7_note_18 : decode cX7_note 18 = .ok (.iload_n 2, 1) := by decide +kernel
theorem dX7_note_19 : decode cX7_note 19 = .ok (.bastore, 1) := by decide +kernel
theorem dX7_note_20 : decode cX7_note 20 = .ok (.return_, 1) := by decide +kernel
theorem dX7_isHolding_0 : decode cX7_isHolding 0 = .ok (.iload_n 1, 1) := by decide +kernel
theorem dX7_isHolding_1 : decode cX7_isHolding 1 = .ok (.ifCond .lt 25, 3) := by decide +kernel
theorem dX7_isHolding_4 : decode cX7_isHolding 4 = .ok (.iload_n 1, 1) := by decide +kernel
theorem dX7_isHolding_5 : decode cX7_isHolding 5 = .ok (.aload_n 0, 1) := by decide +kernel
theorem dX7_isHolding_6 : decode cX7_isHolding 6 = .ok (.getfield 22, 3) := by decide +kernel
theorem dX7_isHolding_9 : decode cX7_isHolding 9 = .ok (.arraylength, 1) := by decide +kernel
theorem dX7_isHolding_10 : decode cX7_isHolding 10 = .ok (.if_icmp .ge 16, 3) := by decide +kernel
theorem dX7_isHolding_13 : decode cX7_isHolding 13 = .ok (.aload_n 0, 1) := by decide +kernel
theorem dX7_isHolding_14 : decode cX7_isHolding 14 = .ok (.getfield 22, 3) := by decide +kernel
theorem dX7_isHolding_17 : decode cX7_isHolding 17 = .ok (.iload_n 1, 1) := by decide +kernel
theorem dX7_isHolding_18 : decode cX7_isHolding 18 = .ok (.baload, 1) := by decide +kernel
theorem dX7_isHolding_19 : decode cX7_isHolding 19 = .ok (.ifCond .eq 7, 3) := by decide +kernel
theorem dX7_isHolding_22 : decode cX7_isHolding 22 = .ok (.iconst 1, 1) := by decide +kernel
theorem dX7_isHolding_23 : decode cX7_isHolding 23 = .ok (.goto 4, 3) := by decide +kernel
theorem dX7_isHolding_26 : decode cX7_isHolding 26 = .ok (.iconst 0, 1) := by decide +kernel
theorem dX7_isHolding_27 : decode cX7_isHolding 27 = .ok (.ireturn, 1) := by decide +kernel
theorem dX7_tell_0 : decode cX7_tell 0 = .ok (.iload_n 1, 1) := by decide +kernel
theorem dX7_tell_1 : decode cX7_tell 1 = .ok (.tableswitch 51 0 3 #[31, 36, 41, 46], 31) := by decide +kernel
theorem dX7_tell_32 : decode cX7_tell 32 = .ok (.aload_n 0, 1) := by decide +kernel
theorem dX7_tell_33 : decode cX7_tell 33 = .ok (.getfield 30, 3) := by decide +kernel
theorem dX7_tell_36 : decode cX7_tell 36 = .ok (.ireturn, 1) := by decide +kernel
theorem dX7_tell_37 : decode cX7_tell 37 = .ok (.aload_n 0, 1) := by decide +kernel
theorem dX7_tell_38 : decode cX7_tell 38 = .ok (.getfield 34, 3) := by decide +kernel
theorem dX7_tell_41 : decode cX7_tell 41 = .ok (.ireturn, 1) := by decide +kernel
theorem dX7_tell_42 : decode cX7_tell 42 = .ok (.aload_n 0, 1) := by decide +kernel
theorem dX7_tell_43 : decode cX7_tell 43 = .ok (.getfield 37, 3) := by decide +kernel
theorem dX7_tell_46 : decode cX7_tell 46 = .ok (.ireturn, 1) := by decide +kernel
theorem dX7_tell_47 : decode cX7_tell 47 = .ok (.aload_n 0, 1) := by decide +kernel
theorem dX7_tell_48 : decode cX7_tell 48 = .ok (.invokevirtual 60, 3) := by decide +kernel
theorem dX7_tell_51 : decode cX7_tell 51 = .ok (.ireturn, 1) := by decide +kernel
theorem dX7_tell_52 : decode cX7_tell 52 = .ok (.aload_n 0, 1) := by decide +kernel
theorem dX7_tell_53 : decode cX7_tell 53 = .ok (.invokevirtual 63, 3) := by decide +kernel
theorem dX7_tell_56 : decode cX7_tell 56 = .ok (.ireturn, 1) := by decide +kernel
theorem dX7_holdingCount_0 : decode cX7_holdingCount 0 = .ok (.iconst 0, 1) := by decide +kernel
theorem dX7_holdingCount_1 : decode cX7_holdingCount 1 = .ok (.istore_n 1, 1) := by decide +kernel
theorem dX7_holdingCount_2 : decode cX7_holdingCount 2 = .ok (.iconst 0, 1) := by decide +kernel
theorem dX7_holdingCount_3 : decode cX7_holdingCount 3 = .ok (.istore_n 2, 1) := by decide +kernel
theorem dX7_holdingCount_4 : decode cX7_holdingCount 4 = .ok (.iload_n 2, 1) := by decide +kernel
theorem dX7_holdingCount_5 : decode cX7_holdingCount 5 = .ok (.aload_n 0, 1) := by decide +kernel
theorem dX7_holdingCount_6 : decode cX7_holdingCount 6 = .ok (.getfield 37, 3) := by decide +kernel
theorem dX7_holdingCount_9 : decode cX7_holdingCount 9 = .ok (.if_icmp .ge 20, 3) := by decide +kernel
theorem dX7_holdingCount_12 : decode cX7_holdingCount 12 = .ok (.aload_n 0, 1) := by decide +kernel
theorem dX7_holdingCount_13 : decode cX7_holdingCount 13 = .ok (.iload_n 2, 1) := by decide +kernel
theorem dX7_holdingCount_14 : decode cX7_holdingCount 14 = .ok (.invokevirtual 66, 3) := by decide +kernel
theorem dX7_holdingCount_17 : decode cX7_holdingCount 17 = .ok (.ifCond .eq 6, 3) := by decide +kernel
theorem dX7_holdingCount_20 : decode cX7_holdingCount 20 = .ok (.iinc 1 1, 3) := by decide +kernel
theorem dX7_holdingCount_23 : decode cX7_holdingCount 23 = .ok (.iinc 2 1, 3) := by decide +kernel
theorem dX7_holdingCount_26 : decode cX7_holdingCount 26 = .ok (.goto (-22), 3) := by decide +kernel
theorem dX7_holdingCount_29 : decode cX7_holdingCount 29 = .ok (.iload_n 1, 1) := by decide +kernel
theorem dX7_holdingCount_30 : decode cX7_holdingCount 30 = .ok (.ireturn, 1) := by decide +kernel
theorem dX7_firstNotHolding_0 : decode cX7_firstNotHolding 0 = .ok (.iconst 0, 1) := by decide +kernel
theorem dX7_firstNotHolding_1 : decode cX7_firstNotHolding 1 = .ok (.istore_n 1, 1) := by decide +kernel
theorem dX7_firstNotHolding_2 : decode cX7_firstNotHolding 2 = .ok (.iload_n 1, 1) := by decide +kernel
theorem dX7_firstNotHolding_3 : decode cX7_firstNotHolding 3 = .ok (.aload_n 0, 1) := by decide +kernel
theorem dX7_firstNotHolding_4 : decode cX7_firstNotHolding 4 = .ok (.getfield 37, 3) := by decide +kernel
theorem dX7_firstNotHolding_7 : decode cX7_firstNotHolding 7 = .ok (.if_icmp .ge 19, 3) := by decide +kernel
theorem dX7_firstNotHolding_10 : decode cX7_firstNotHolding 10 = .ok (.aload_n 0, 1) := by decide +kernel
theorem dX7_firstNotHolding_11 : decode cX7_firstNotHolding 11 = .ok (.iload_n 1, 1) := by decide +kernel
theorem dX7_firstNotHolding_12 : decode cX7_firstNotHolding 12 = .ok (.invokevirtual 66, 3) := by decide +kernel
theorem dX7_firstNotHolding_15 : decode cX7_firstNotHolding 15 = .ok (.ifCond .ne 5, 3) := by decide +kernel
theorem dX7_firstNotHolding_18 : decode cX7_firstNotHolding 18 = .ok (.iload_n 1, 1) := by decide +kernel
theorem dX7_firstNotHolding_19 : decode cX7_firstNotHolding 19 = .ok (.ireturn, 1) := by decide +kernel
theorem dX7_firstNotHolding_20 : decode cX7_firstNotHolding 20 = .ok (.iinc 1 1, 3) := by decide +kernel
theorem dX7_firstNotHolding_23 : decode cX7_firstNotHolding 23 = .ok (.goto (-21), 3) := by decide +kernel
theorem dX7_firstNotHolding_26 : decode cX7_firstNotHolding 26 = .ok (.iconst (-1), 1) := by decide +kernel
theorem dX7_firstNotHolding_27 : decode cX7_firstNotHolding 27 = .ok (.ireturn, 1) := by decide +kernel
theorem dX8_init_0 : decode cX8_init 0 = .ok (.aload_n 0, 1) := by decide +kernel
theorem dX8_init_1 : decode cX8_init 1 = .ok (.invokespecial 3, 3) := by decide +kernel
theorem dX8_init_4 : decode cX8_init 4 = .ok (.aload_n 0, 1) := by decide +kernel
theorem dX8_init_5 : decode cX8_init 5 = .ok (.sipush 1500, 3) := by decide +kernel
theorem dX8_init_8 : decode cX8_init 8 = .ok (.newarray .byte, 2) := by decide +kernel
theorem dX8_init_10 : decode cX8_init 10 = .ok (.putfield 9, 3) := by decide +kernel
theorem dX8_init_13 : decode cX8_init 13 = .ok (.return_, 1) := by decide +kernel
theorem dX8_length_0 : decode cX8_length 0 = .ok (.aload_n 0, 1) := by decide +kernel
theorem dX8_length_1 : decode cX8_length 1 = .ok (.getfield 15, 3) := by decide +kernel
theorem dX8_length_4 : decode cX8_length 4 = .ok (.ireturn, 1) := by decide +kernel
theorem dX8_room_0 : decode cX8_room 0 = .ok (.sipush 1500, 3) := by decide +kernel
theorem dX8_room_3 : decode cX8_room 3 = .ok (.aload_n 0, 1) := by decide +kernel
theorem dX8_room_4 : decode cX8_room 4 = .ok (.getfield 15, 3) := by decide +kernel
theorem dX8_room_7 : decode cX8_room 7 = .ok (.isub, 1) := by decide +kernel
theorem dX8_room_8 : decode cX8_room 8 = .ok (.ireturn, 1) := by decide +kernel
theorem dX8_cutTo_0 : decode cX8_cutTo 0 = .ok (.aload_n 0, 1) := by decide +kernel
theorem dX8_cutTo_1 : decode cX8_cutTo 1 = .ok (.iload_n 1, 1) := by decide +kernel
theorem dX8_cutTo_2 : decode cX8_cutTo 2 = .ok (.putfield 15, 3) := by decide +kernel
theorem dX8_cutTo_5 : decode cX8_cutTo 5 = .ok (.return_, 1) := by decide +kernel
theorem dX8_append_0 : decode cX8_append 0 = .ok (.bipush 24, 2) := by decide +kernel
theorem dX8_append_2 : decode cX8_append 2 = .ok (.istore_n 2, 1) := by decide +kernel
theorem dX8_append_3 : decode cX8_append 3 = .ok (.iload_n 2, 1) := by decide +kernel
theorem dX8_append_4 : decode cX8_append 4 = .ok (.ifCond .lt 51, 3) := by decide +kernel
theorem dX8_append_7 : decode cX8_append 7 = .ok (.aload_n 0, 1) := by decide +kernel
theorem dX8_append_8 : decode cX8_append 8 = .ok (.getfield 15, 3) := by decide +kernel
theorem dX8_append_11 : decode cX8_append 11 = .ok (.ifCond .lt 38, 3) := by decide +kernel
theorem dX8_append_14 : decode cX8_append 14 = .ok (.aload_n 0, 1) := by decide +kernel
theorem dX8_append_15 : decode cX8_append 15 = .ok (.getfield 15, 3) := by decide +kernel
theorem dX8_append_18 : decode cX8_append 18 = .ok (.aload_n 0, 1) := by decide +kernel
theorem dX8_append_19 : decode cX8_append 19 = .ok (.getfield 9, 3) := by decide +kernel
theorem dX8_append_22 : decode cX8_append 22 = .ok (.arraylength, 1) := by decide +kernel
theorem dX8_append_23 : decode cX8_append 23 = .ok (.if_icmp .ge 26, 3) := by decide +kernel
theorem dX8_append_26 : decode cX8_append 26 = .ok (.aload_n 0, 1) := by decide +kernel
theorem dX8_append_27 : decode cX8_append 27 = .ok (.getfield 9, 3) := by decide +kernel
theorem dX8_append_30 : decode cX8_append 30 = .ok (.aload_n 0, 1) := by decide +kernel
theorem dX8_append_31 : decode cX8_append 31 = .ok (.getfield 15, 3) := by decide +kernel
theorem dX8_append_34 : decode cX8_append 34 = .ok (.iload_n 1, 1) := by decide +kernel
theorem dX8_append_35 : decode cX8_append 35 = .ok (.iload_n 2, 1) := by decide +kernel
theorem dX8_append_36 : decode cX8_append 36 = .ok (.ishr, 1) := by decide +kernel
theorem dX8_append_37 : decode cX8_append 37 = .ok (.i2b, 1) := by decide +kernel
theorem dX8_append_38 : decode cX8_append 38 = .ok (.bastore, 1) := by decide +kernel
theorem dX8_append_39 : decode cX8_append 39 = .ok (.aload_n 0, 1) := by decide +kernel
theorem dX8_append_40 : decode cX8_append 40 = .ok (.dup, 1) := by decide +kernel
theorem dX8_append_41 : decode cX8_append 41 = .ok (.getfield 15, 3) := by decide +kernel
theorem dX8_append_44 : decode cX8_append 44 = .ok (.iconst 1, 1) := by decide +kernel
theorem dX8_append_45 : decode cX8_append 45 = .ok (.iadd, 1) := by decide +kernel
theorem dX8_append_46 : decode cX8_append 46 = .ok (.putfield 15, 3) := by decide +kernel
theorem dX8_append_49 : decode cX8_append 49 = .ok (.iinc 2 (-8), 3) := by decide +kernel
theorem dX8_append_52 : decode cX8_append 52 = .ok (.goto (-49), 3) := by decide +kernel
theorem dX8_append_55 : decode cX8_append 55 = .ok (.return_, 1) := by decide +kernel
theorem dX8_byteAt_0 : decode cX8_byteAt 0 = .ok (.iload_n 1, 1) := by decide +kernel
theorem dX8_byteAt_1 : decode cX8_byteAt 1 = .ok (.ifCond .lt 20, 3) := by decide +kernel
theorem dX8_byteAt_4 : decode cX8_byteAt 4 = .ok (.iload_n 1, 1) := by decide +kernel
theorem dX8_byteAt_5 : decode cX8_byteAt 5 = .ok (.aload_n 0, 1) := by decide +kernel
theorem dX8_byteAt_6 : decode cX8_byteAt 6 = .ok (.getfield 15, 3) := by decide +kernel
theorem dX8_byteAt_9 : decode cX8_byteAt 9 = .ok (.if_icmp .ge 12, 3) := by decide +kernel
theorem dX8_byteAt_12 : decode cX8_byteAt 12 = .ok (.iload_n 1, 1) := by decide +kernel
theorem dX8_byteAt_13 : decode cX8_byteAt 13 = .ok (.aload_n 0, 1) := by decide +kernel
theorem dX8_byteAt_14 : decode cX8_byteAt 14 = .ok (.getfield 9, 3) := by decide +kernel
theorem dX8_byteAt_17 : decode cX8_byteAt 17 = .ok (.arraylength, 1) := by decide +kernel
theorem dX8_byteAt_18 : decode cX8_byteAt 18 = .ok (.if_icmp .lt 5, 3) := by decide +kernel
theorem dX8_byteAt_21 : decode cX8_byteAt 21 = .ok (.iconst (-1), 1) := by decide +kernel
theorem dX8_byteAt_22 : decode cX8_byteAt 22 = .ok (.ireturn, 1) := by decide +kernel
theorem dX8_byteAt_23 : decode cX8_byteAt 23 = .ok (.aload_n 0, 1) := by decide +kernel
theorem dX8_byteAt_24 : decode cX8_byteAt 24 = .ok (.getfield 9, 3) := by decide +kernel
theorem dX8_byteAt_27 : decode cX8_byteAt 27 = .ok (.iload_n 1, 1) := by decide +kernel
theorem dX8_byteAt_28 : decode cX8_byteAt 28 = .ok (.baload, 1) := by decide +kernel
theorem dX8_byteAt_29 : decode cX8_byteAt 29 = .ok (.sipush 255, 3) := by decide +kernel
theorem dX8_byteAt_32 : decode cX8_byteAt 32 = .ok (.iand, 1) := by decide +kernel
theorem dX8_byteAt_33 : decode cX8_byteAt 33 = .ok (.ireturn, 1) := by decide +kernel
theorem dX9_init_0 : decode cX9_init 0 = .ok (.aload_n 0, 1) := by decide +kernel
theorem dX9_init_1 : decode cX9_init 1 = .ok (.invokespecial 3, 3) := by decide +kernel
theorem dX9_init_4 : decode cX9_init 4 = .ok (.aload_n 0, 1) := by decide +kernel
theorem dX9_init_5 : decode cX9_init 5 = .ok (.sipush 1501, 3) := by decide +kernel
theorem dX9_init_8 : decode cX9_init 8 = .ok (.newarray .int, 2) := by decide +kernel
theorem dX9_init_10 : decode cX9_init 10 = .ok (.putfield 9, 3) := by decide +kernel
theorem dX9_init_13 : decode cX9_init 13 = .ok (.aload_n 0, 1) := by decide +kernel
theorem dX9_init_14 : decode cX9_init 14 = .ok (.sipush 1501, 3) := by decide +kernel
theorem dX9_init_17 : decode cX9_init 17 = .ok (.newarray .int, 2) := by decide +kernel
theorem dX9_init_19 : decode cX9_init 19 = .ok (.putfield 15, 3) := by decide +kernel
theorem dX9_init_22 : decode cX9_init 22 = .ok (.aload_n 0, 1) := by decide +kernel
theorem dX9_init_23 : decode cX9_init 23 = .ok (.sipush 1501, 3) := by decide +kernel
theorem dX9_init_26 : decode cX9_init 26 = .ok (.newarray .long, 2) := by decide +kernel
theorem dX9_init_28 : decode cX9_init 28 = .ok (.putfield 18, 3) := by decide +kernel
theorem dX9_init_31 : decode cX9_init 31 = .ok (.aload_n 0, 1) := by decide +kernel
theorem dX9_init_32 : decode cX9_init 32 = .ok (.aload_n 1, 1) := by decide +kernel
theorem dX9_init_33 : decode cX9_init 33 = .ok (.putfield 22, 3) := by decide +kernel
theorem dX9_init_36 : decode cX9_init 36 = .ok (.return_, 1) := by decide +kernel
theorem dX9_scan_0 : decode cX9_scan 0 = .ok (.aload_n 0, 1) := by decide +kernel
theorem dX9_scan_1 : decode cX9_scan 1 = .ok (.iconst 0, 1) := by decide +kernel
theorem dX9_scan_2 : decode cX9_scan 2 = .ok (.putfield 26, 3) := by decide +kernel
theorem dX9_scan_5 : decode cX9_scan 5 = .ok (.aload_n 0, 1) := by decide +kernel
theorem dX9_scan_6 : decode cX9_scan 6 = .ok (.iconst 0, 1) := by decide +kernel
theorem dX9_scan_7 : decode cX9_scan 7 = .ok (.putfield 30, 3) := by decide +kernel
theorem dX9_scan_10 : decode cX9_scan 10 = .ok (.aload_n 0, 1) := by decide +kernel
theorem dX9_scan_11 : decode cX9_scan 11 = .ok (.aload_n 0, 1) := by decide +kernel
theorem dX9_scan_12 : decode cX9_scan 12 = .ok (.getfield 9, 3) := by decide +kernel
theorem dX9_scan_15 : decode cX9_scan 15 = .ok (.arraylength, 1) := by decide +kernel
theorem dX9_scan_16 : decode cX9_scan 16 = .ok (.putfield 33, 3) := by decide +kernel
theorem dX9_scan_19 : decode cX9_scan 19 = .ok (.aload_n 0, 1) := by decide +kernel
theorem dX9_scan_20 : decode cX9_scan 20 = .ok (.iconst 0, 1) := by decide +kernel
theorem dX9_scan_21 : decode cX9_scan 21 = .ok (.putfield 36, 3) := by decide +kernel
theorem dX9_scan_24 : decode cX9_scan 24 = .ok (.aload_n 0, 1) := by decide +kernel
theorem dX9_scan_25 : decode cX9_scan 25 = .ok (.iconst 1, 1) := by decide +kernel
theorem dX9_scan_26 : decode cX9_scan 26 = .ok (.putfield 40, 3) := by decide +kernel
theorem dX9_scan_29 : decode cX9_scan 29 = .ok (.iconst 0, 1) := by decide +kernel
theorem dX9_scan_30 : decode cX9_scan 30 = .ok (.istore_n 1, 1) := by decide +kernel
theorem dX9_scan_31 : decode cX9_scan 31 = .ok (.iload_n 1, 1) := by decide +kernel
theorem dX9_scan_32 : decode cX9_scan 32 = .ok (.aload_n 0, 1) := by decide +kernel
theorem dX9_scan_33 : decode cX9_scan 33 = .ok (.getfield 9, 3) := by decide +kernel
theorem dX9_scan_36 : decode cX9_scan 36 = .ok (.arraylength, 1) := by decide +kernel
theorem dX9_scan_37 : decode cX9_scan 37 = .ok (.if_icmp .ge 68, 3) := by decide +kernel
theorem dX9_scan_40 : decode cX9_scan 40 = .ok (.iload_n 1, 1) := by decide +kernel
theorem dX9_scan_41 : decode cX9_scan 41 = .ok (.aload_n 0, 1) := by decide +kernel
theorem dX9_scan_42 : decode cX9_scan 42 = .ok (.getfield 15, 3) := by decide +kernel
theorem dX9_scan_45 : decode cX9_scan 45 = .ok (.arraylength, 1) := by decide +kernel
theorem dX9_scan_46 : decode cX9_scan 46 = .ok (.if_icmp .ge 59, 3) := by decide +kernel
theorem dX9_scan_49 : decode cX9_scan 49 = .ok (.iload_n 1, 1) := by decide +kernel
theorem dX9_scan_50 : decode cX9_scan 50 = .ok (.aload_n 0, 1) := by decide +kernel
theorem dX9_scan_51 : decode cX9_scan 51 = .ok (.getfield 18, 3) := by decide +kernel
theorem dX9_scan_54 : decode cX9_scan 54 = .ok (.arraylength, 1) := by decide +kernel
theorem dX9_scan_55 : decode cX9_scan 55 = .ok (.if_icmp .ge 50, 3) := by decide +kernel
theorem dX9_scan_58 : decode cX9_scan 58 = .ok (.aload_n 0, 1) := by decide +kernel
theorem dX9_scan_59 : decode cX9_scan 59 = .ok (.getfield 40, 3) := by decide +kernel
theorem dX9_scan_62 : decode cX9_scan 62 = .ok (.ifCond .eq 43, 3) := by decide +kernel
theorem dX9_scan_65 : decode cX9_scan 65 = .ok (.aload_n 0, 1) := by decide +kernel
theorem dX9_scan_66 : decode cX9_scan 66 = .ok (.invokevirtual 43, 3) := by decide +kernel
theorem dX9_scan_69 : decode cX9_scan 69 = .ok (.aload_n 0, 1) := by decide +kernel
theorem dX9_scan_70 : decode cX9_scan 70 = .ok (.getfield 9, 3) := by decide +kernel
theorem dX9_scan_73 : decode cX9_scan 73 = .ok (.iload_n 1, 1) := by decide +kernel
theorem dX9_scan_74 : decode cX9_scan 74 = .ok (.aload_n 0, 1) := by decide +kernel
theorem dX9_scan_75 : decode cX9_scan 75 = .ok (.getfield 40, 3) := by decide +kernel
theorem dX9_scan_78 : decode cX9_scan 78 = .ok (.iastore, 1) := by decide +kernel
theorem dX9_scan_79 : decode cX9_scan 79 = .ok (.aload_n 0, 1) := by decide +kernel
theorem dX9_scan_80 : decode cX9_scan 80 = .ok (.getfield 15, 3) := by decide +kernel
theorem dX9_scan_83 : decode cX9_scan 83 = .ok (.iload_n 1, 1) := by decide +kernel
theorem dX9_scan_84 : decode cX9_scan 84 = .ok (.aload_n 0, 1) := by decide +kernel
theorem dX9_scan_85 : decode cX9_scan 85 = .ok (.getfield 46, 3) := by decide +kernel
theorem dX9_scan_88 : decode cX9_scan 88 = .ok (.iastore, 1) := by decide +kernel
theorem dX9_scan_89 : decode cX9_scan 89 = .ok (.aload_n 0, 1) := by decide +kernel
theorem dX9_scan_90 : decode cX9_scan 90 = .ok (.getfield 18, 3) := by decide +kernel
theorem dX9_scan_93 : decode cX9_scan 93 = .ok (.iload_n 1, 1) := by decide +kernel
theorem dX9_scan_94 : decode cX9_scan 94 = .ok (.aload_n 0, 1) := by decide +kernel
theorem dX9_scan_95 : decode cX9_scan 95 = .ok (.getfield 49, 3) := by decide +kernel
theorem dX9_scan_98 : decode cX9_scan 98 = .ok (.lastore, 1) := by decide +kernel
theorem dX9_scan_99 : decode cX9_scan 99 = .ok (.iinc 1 1, 3) := by decide +kernel
theorem dX9_scan_102 : decode cX9_scan 102 = .ok (.goto (-71), 3) := by decide +kernel
theorem dX9_scan_105 : decode cX9_scan 105 = .ok (.return_, 1) := by decide +kernel
theorem dX9_sees_0 : decode cX9_sees 0 = .ok (.aload_n 0, 1) := by decide +kernel
theorem dX9_sees_1 : decode cX9_sees 1 = .ok (.getfield 36, 3) := by decide +kernel
theorem dX9_sees_4 : decode cX9_sees 4 = .ok (.ifCond .ne 50, 3) := by decide +kernel
theorem dX9_sees_7 : decode cX9_sees 7 = .ok (.aload_n 0, 1) := by decide +kernel
theorem dX9_sees_8 : decode cX9_sees 8 = .ok (.getfield 30, 3) := by decide +kernel
theorem dX9_sees_11 : decode cX9_sees 11 = .ok (.ifCond .lt 43, 3) := by decide +kernel
theorem dX9_sees_14 : decode cX9_sees 14 = .ok (.aload_n 0, 1) := by decide +kernel
theorem dX9_sees_15 : decode cX9_sees 15 = .ok (.getfield 30, 3) := by decide +kernel
theorem dX9_sees_18 : decode cX9_sees 18 = .ok (.aload_n 0, 1) := by decide +kernel
theorem dX9_sees_19 : decode cX9_sees 19 = .ok (.getfield 33, 3) := by decide +kernel
theorem dX9_sees_22 : decode cX9_sees 22 = .ok (.if_icmp .ge 32, 3) := by decide +kernel
theorem dX9_sees_25 : decode cX9_sees 25 = .ok (.aload_n 0, 1) := by decide +kernel
theorem dX9_sees_26 : decode cX9_sees 26 = .ok (.getfield 30, 3) := by decide +kernel
theorem dX9_sees_29 : decode cX9_sees 29 = .ok (.aload_n 0, 1) := by decide +kernel
theorem dX9_sees_30 : decode cX9_sees 30 = .ok (.getfield 9, 3) := by decide +kernel
theorem dX9_sees_33 : decode cX9_sees 33 = .ok (.arraylength, 1) := by decide +kernel
theorem dX9_sees_34 : decode cX9_sees 34 = .ok (.if_icmp .ge 20, 3) := by decide +kernel
theorem dX9_sees_37 : decode cX9_sees 37 = .ok (.aload_n 0, 1) := by decide +kernel
theorem dX9_sees_38 : decode cX9_sees 38 = .ok (.getfield 9, 3) := by decide +kernel
theorem dX9_sees_41 : decode cX9_sees 41 = .ok (.aload_n 0, 1) := by decide +kernel
theorem dX9_sees_42 : decode cX9_sees 42 = .ok (.getfield 30, 3) := by decide +kernel
theorem dX9_sees_45 : decode cX9_sees 45 = .ok (.iaload, 1) := by decide +kernel
theorem dX9_sees_46 : decode cX9_sees 46 = .ok (.iload_n 1, 1) := by decide +kernel
theorem dX9_sees_47 : decode cX9_sees 47 = .ok (.if_icmp .ne 7, 3) := by decide +kernel
theorem dX9_sees_50 : decode cX9_sees 50 = .ok (.iconst 1, 1) := by decide +kernel
theorem dX9_sees_51 : decode cX9_sees 51 = .ok (.goto 4, 3) := by decide +kernel
theorem dX9_sees_54 : decode cX9_sees 54 = .ok (.iconst 0, 1) := by decide +kernel
theorem dX9_sees_55 : decode cX9_sees 55 = .ok (.ireturn, 1) := by decide +kernel
theorem dX9_passes_0 : decode cX9_passes 0 = .ok (.aload_n 0, 1) := by decide +kernel
theorem dX9_passes_1 : decode cX9_passes 1 = .ok (.iload_n 1, 1) := by decide +kernel
theorem dX9_passes_2 : decode cX9_passes 2 = .ok (.invokevirtual 53, 3) := by decide +kernel
theorem dX9_passes_5 : decode cX9_passes 5 = .ok (.ifCond .ne 5, 3) := by decide +kernel
theorem dX9_passes_8 : decode cX9_passes 8 = .ok (.iconst 0, 1) := by decide +kernel
theorem dX9_passes_9 : decode cX9_passes 9 = .ok (.ireturn, 1) := by decide +kernel
theorem dX9_passes_10 : decode cX9_passes 10 = .ok (.aload_n 0, 1) := by decide +kernel
theorem dX9_passes_11 : decode cX9_passes 11 = .ok (.dup, 1) := by decide +kernel
theorem dX9_passes_12 : decode cX9_passes 12 = .ok (.getfield 30, 3) := by decide +kernel
theorem dX9_passes_15 : decode cX9_passes 15 = .ok (.iconst 1, 1) := by decide +kernel
theorem dX9_passes_16 : decode cX9_passes 16 = .ok (.iadd, 1) := by decide +kernel
theorem dX9_passes_17 : decode cX9_passes 17 = .ok (.putfield 30, 3) := by decide +kernel
theorem dX9_passes_20 : decode cX9_passes 20 = .ok (.iconst 1, 1) := by decide +kernel
theorem dX9_passes_21 : decode cX9_passes 21 = .ok (.ireturn, 1) := by decide +kernel
theorem dX9_expect_0 : decode cX9_expect 0 = .ok (.aload_n 0, 1) := by decide +kernel
theorem dX9_expect_1 : decode cX9_expect 1 = .ok (.iload_n 1, 1) := by decide +kernel
theorem dX9_expect_2 : decode cX9_expect 2 = .ok (.invokevirtual 53, 3) := by decide +kernel
theorem dX9_expect_5 : decode cX9_expect 5 = .ok (.ifCond .ne 9, 3) := by decide +kernel
theorem dX9_expect_8 : decode cX9_expect 8 = .ok (.aload_n 0, 1) := by decide +kernel
theorem dX9_expect_9 : decode cX9_expect 9 = .ok (.invokevirtual 57, 3) := by decide +kernel
theorem dX9_expect_12 : decode cX9_expect 12 = .ok (.iconst 0, 1) := by decide +kernel
theorem dX9_expect_13 : decode cX9_expect 13 = .ok (.ireturn, 1) := by decide +kernel
theorem dX9_expect_14 : decode cX9_expect 14 = .ok (.aload_n 0, 1) := by decide +kernel
theorem dX9_expect_15 : decode cX9_expect 15 = .ok (.dup, 1) := by decide +kernel
theorem dX9_expect_16 : decode cX9_expect 16 = .ok (.getfield 30, 3) := by decide +kernel
theorem dX9_expect_19 : decode cX9_expect 19 = .ok (.iconst 1, 1) := by decide +kernel
theorem dX9_expect_20 : decode cX9_expect 20 = .ok (.iadd, 1) := by decide +kernel
theorem dX9_expect_21 : decode cX9_expect 21 = .ok (.putfield 30, 3) := by decide +kernel
theorem dX9_expect_24 : decode cX9_expect 24 = .ok (.iconst 1, 1) := by decide +kernel
theorem dX9_expect_25 : decode cX9_expect 25 = .ok (.ireturn, 1) := by decide +kernel
theorem dX9_oneOf_0 : decode cX9_oneOf 0 = .ok (.aload_n 0, 1) := by decide +kernel
theorem dX9_oneOf_1 : decode cX9_oneOf 1 = .ok (.getfield 36, 3) := by decide +kernel
theorem dX9_oneOf_4 : decode cX9_oneOf 4 = .ok (.ifCond .ne 33, 3) := by decide +kernel
theorem dX9_oneOf_7 : decode cX9_oneOf 7 = .ok (.aload_n 0, 1) := by decide +kernel
theorem dX9_oneOf_8 : decode cX9_oneOf 8 = .ok (.getfield 30, 3) := by decide +kernel
theorem dX9_oneOf_11 : decode cX9_oneOf 11 = .ok (.ifCond .lt 26, 3) := by decide +kernel
theorem dX9_oneOf_14 : decode cX9_oneOf 14 = .ok (.aload_n 0, 1) := by decide +kernel
theorem dX9_oneOf_15 : decode cX9_oneOf 15 = .ok (.getfield 30, 3) := by decide +kernel
theorem dX9_oneOf_18 : decode cX9_oneOf 18 = .ok (.aload_n 0, 1) := by decide +kernel
theorem dX9_oneOf_19 : decode cX9_oneOf 19 = .ok (.getfield 33, 3) := by decide +kernel
theorem dX9_oneOf_22 : decode cX9_oneOf 22 = .ok (.if_icmp .ge 15, 3) := by decide +kernel
theorem dX9_oneOf_25 : decode cX9_oneOf 25 = .ok (.aload_n 0, 1) := by decide +kernel
theorem dX9_oneOf_26 : decode cX9_oneOf 26 = .ok (.getfield 30, 3) := by decide +kernel
theorem dX9_oneOf_29 : decode cX9_oneOf 29 = .ok (.aload_n 0, 1) := by decide +kernel
theorem dX9_oneOf_30 : decode cX9_oneOf 30 = .ok (.getfield 9, 3) := by decide +kernel
theorem dX9_oneOf_33 : decode cX9_oneOf 33 = .ok (.arraylength, 1) := by decide +kernel
theorem dX9_oneOf_34 : decode cX9_oneOf 34 = .ok (.if_icmp .lt 5, 3) := by decide +kernel
theorem dX9_oneOf_37 : decode cX9_oneOf 37 = .ok (.iconst (-1), 1) := by decide +kernel
theorem dX9_oneOf_38 : decode cX9_oneOf 38 = .ok (.ireturn, 1) := by decide +kernel
theorem dX9_oneOf_39 : decode cX9_oneOf 39 = .ok (.aload_n 0, 1) := by decide +kernel
theorem dX9_oneOf_40 : decode cX9_oneOf 40 = .ok (.getfield 9, 3) := by decide +kernel
theorem dX9_oneOf_43 : decode cX9_oneOf 43 = .ok (.aload_n 0, 1) := by decide +kernel
theorem dX9_oneOf_44 : decode cX9_oneOf 44 = .ok (.getfield 30, 3) := by decide +kernel
theorem dX9_oneOf_47 : decode cX9_oneOf 47 = .ok (.iaload, 1) := by decide +kernel
theorem dX9_oneOf_48 : decode cX9_oneOf 48 = .ok (.iload_n 1, 1) := by decide +kernel
theorem dX9_oneOf_49 : decode cX9_oneOf 49 = .ok (.if_icmp .lt 28, 3) := by decide +kernel
theorem dX9_oneOf_52 : decode cX9_oneOf 52 = .ok (.aload_n 0, 1) := by decide +kernel
theorem dX9_oneOf_53 : decode cX9_oneOf 53 = .ok (.getfield 9, 3) := by decide +kernel
theorem dX9_oneOf_56 : decode cX9_oneOf 56 = .ok (.aload_n 0, 1) := by decide +kernel
theorem dX9_oneOf_57 : decode cX9_oneOf 57 = .ok (.getfield 30, 3) := by decide +kernel
theorem dX9_oneOf_60 : decode cX9_oneOf 60 = .ok (.iaload, 1) := by decide +kernel
theorem dX9_oneOf_61 : decode cX9_oneOf 61 = .ok (.iload_n 2, 1) := by decide +kernel
theorem dX9_oneOf_62 : decode cX9_oneOf 62 = .ok (.if_icmp .gt 15, 3) := by decide +kernel
theorem dX9_oneOf_65 : decode cX9_oneOf 65 = .ok (.aload_n 0, 1) := by decide +kernel
theorem dX9_oneOf_66 : decode cX9_oneOf 66 = .ok (.getfield 9, 3) := by decide +kernel
theorem dX9_oneOf_69 : decode cX9_oneOf 69 = .ok (.aload_n 0, 1) := by decide +kernel
theorem dX9_oneOf_70 : decode cX9_oneOf 70 = .ok (.getfield 30, 3) := by decide +kernel
theorem dX9_oneOf_73 : decode cX9_oneOf 73 = .ok (.iaload, 1) := by decide +kernel
theorem dX9_oneOf_74 : decode cX9_oneOf 74 = .ok (.goto 4, 3) := by decide +kernel
theorem dX9_oneOf_77 : decode cX9_oneOf 77 = .ok (.iconst (-1), 1) := by decide +kernel
theorem dX9_oneOf_78 : decode cX9_oneOf 78 = .ok (.ireturn, 1) := by decide +kernel
theorem dX9_fail_0 : decode cX9_fail 0 = .ok (.aload_n 0, 1) := by decide +kernel
theorem dX9_fail_1 : decode cX9_fail 1 = .ok (.iconst 1, 1) := by decide +kernel
theorem dX9_fail_2 : decode cX9_fail 2 = .ok (.putfield 36, 3) := by decide +kernel
theorem dX9_fail_5 : decode cX9_fail 5 = .ok (.return_, 1) := by decide +kernel
theorem dX9_startHere_0 : decode cX9_startHere 0 = .ok (.aload_n 0, 1) := by decide +kernel
theorem dX9_startHere_1 : decode cX9_startHere 1 = .ok (.getfield 30, 3) := by decide +kernel
theorem dX9_startHere_4 : decode cX9_startHere 4 = .ok (.ifCond .lt 27, 3) := by decide +kernel
theorem dX9_startHere_7 : decode cX9_startHere 7 = .ok (.aload_n 0, 1) := by decide +kernel
theorem dX9_startHere_8 : decode cX9_startHere 8 = .ok (.getfield 30, 3) := by decide +kernel
theorem dX9_startHere_11 : decode cX9_startHere 11 = .ok (.aload_n 0, 1) := by decide +kernel
theorem dX9_startHere_12 : decode cX9_startHere 12 = .ok (.getfield 15, 3) := by decide +kernel
theorem dX9_startHere_15 : decode cX9_startHere 15 = .ok (.arraylength, 1) := by decide +kernel
theorem dX9_startHere_16 : decode cX9_startHere 16 = .ok (.if_icmp .ge 15, 3) := by decide +kernel
theorem dX9_startHere_19 : decode cX9_startHere 19 = .ok (.aload_n 0, 1) := by decide +kernel
theorem dX9_startHere_20 : decode cX9_startHere 20 = .ok (.getfield 15, 3) := by decide +kernel
theorem dX9_startHere_23 : decode cX9_startHere 23 = .ok (.aload_n 0, 1) := by decide +kernel
theorem dX9_startHere_24 : decode cX9_startHere 24 = .ok (.getfield 30, 3) := by decide +kernel
theorem dX9_startHere_27 : decode cX9_startHere 27 = .ok (.iaload, 1) := by decide +kernel
theorem dX9_startHere_28 : decode cX9_startHere 28 = .ok (.goto 4, 3) := by decide +kernel
theorem dX9_startHere_31 : decode cX9_startHere 31 = .ok (.iconst 0, 1) := by decide +kernel
theorem dX9_startHere_32 : decode cX9_startHere 32 = .ok (.ireturn, 1) := by decide +kernel
theorem dX9_valueHere_0 : decode cX9_valueHere 0 = .ok (.aload_n 0, 1) := by decide +kernel
theorem dX9_valueHere_1 : decode cX9_valueHere 1 = .ok (.getfield 30, 3) := by decide +kernel
theorem dX9_valueHere_4 : decode cX9_valueHere 4 = .ok (.ifCond .lt 27, 3) := by decide +kernel
theorem dX9_valueHere_7 : decode cX9_valueHere 7 = .ok (.aload_n 0, 1) := by decide +kernel
theorem dX9_valueHere_8 : decode cX9_valueHere 8 = .ok (.getfield 30, 3) := by decide +kernel
theorem dX9_valueHere_11 : decode cX9_valueHere 11 = .ok (.aload_n 0, 1) := by decide +kernel
theorem dX9_valueHere_12 : decode cX9_valueHere 12 = .ok (.getfield 18, 3) := by decide +kernel
theorem dX9_valueHere_15 : decode cX9_valueHere 15 = .ok (.arraylength, 1) := by decide +kernel
theorem dX9_valueHere_16 : decode cX9_valueHere 16 = .ok (.if_icmp .ge 15, 3) := by decide +kernel
theorem dX9_valueHere_19 : decode cX9_valueHere 19 = .ok (.aload_n 0, 1) := by decide +kernel
theorem dX9_valueHere_20 : decode cX9_valueHere 20 = .ok (.getfield 18, 3) := by decide +kernel
theorem dX9_valueHere_23 : decode cX9_valueHere 23 = .ok (.aload_n 0, 1) := by decide +kernel
theorem dX9_valueHere_24 : decode cX9_valueHere 24 = .ok (.getfield 30, 3) := by decide +kernel
theorem dX9_valueHere_27 : decode cX9_valueHere 27 = .ok (.laload, 1) := by decide +kernel
theorem dX9_valueHere_28 : decode cX9_valueHere 28 = .ok (.goto 4, 3) := by decide +kernel
theorem dX9_valueHere_31 : decode cX9_valueHere 31 = .ok (.lconst 0, 1) := by decide +kernel
theorem dX9_valueHere_32 : decode cX9_valueHere 32 = .ok (.lreturn, 1) := by decide +kernel
theorem dX9_allow_0 : decode cX9_allow 0 = .ok (.aload_n 0, 1) := by decide +kernel
theorem dX9_allow_1 : decode cX9_allow 1 = .ok (.aload_n 0, 1) := by decide +kernel
theorem dX9_allow_2 : decode cX9_allow 2 = .ok (.getfield 30, 3) := by decide +kernel
theorem dX9_allow_5 : decode cX9_allow 5 = .ok (.iload_n 1, 1) := by decide +kernel
theorem dX9_allow_6 : decode cX9_allow 6 = .ok (.iadd, 1) := by decide +kernel
theorem dX9_allow_7 : decode cX9_allow 7 = .ok (.putfield 33, 3) := by decide +kernel
theorem dX9_allow_10 : decode cX9_allow 10 = .ok (.return_, 1) := by decide +kernel
theorem dX9_allowAll_0 : decode cX9_allowAll 0 = .ok (.aload_n 0, 1) := by decide +kernel
theorem dX9_allowAll_1 : decode cX9_allowAll 1 = .ok (.aload_n 0, 1) := by decide +kernel
theorem dX9_allowAll_2 : decode cX9_allowAll 2 = .ok (.getfield 9, 3) := by decide +kernel
theorem dX9_allowAll_5 : decode cX9_allowAll 5 = .ok (.arraylength, 1) := by decide +kernel
theorem dX9_allowAll_6 : decode cX9_allowAll 6 = .ok (.putfield 33, 3) := by decide +kernel
theorem dX9_allowAll_9 : decode cX9_allowAll 9 = .ok (.return_, 1) := by decide +kernel
theorem dX9_scanOne_0 : decode cX9_scanOne 0 = .ok (.aload_n 0, 1) := by decide +kernel
theorem dX9_scanOne_1 : decode cX9_scanOne 1 = .ok (.invokevirtual 60, 3) := by decide +kernel
theorem dX9_scanOne_4 : decode cX9_scanOne 4 = .ok (.aload_n 0, 1) := by decide +kernel
theorem dX9_scanOne_5 : decode cX9_scanOne 5 = .ok (.aload_n 0, 1) := by decide +kernel
theorem dX9_scanOne_6 : decode cX9_scanOne 6 = .ok (.getfield 26, 3) := by decide +kernel
theorem dX9_scanOne_9 : decode cX9_scanOne 9 = .ok (.putfield 46, 3) := by decide +kernel
theorem dX9_scanOne_12 : decode cX9_scanOne 12 = .ok (.aload_n 0, 1) := by decide +kernel
theorem dX9_scanOne_13 : decode cX9_scanOne 13 = .ok (.lconst 0, 1) := by decide +kernel
theorem dX9_scanOne_14 : decode cX9_scanOne 14 = .ok (.putfield 49, 3) := by decide +kernel
theorem dX9_scanOne_17 : decode cX9_scanOne 17 = .ok (.aload_n 0, 1) := by decide +kernel
theorem dX9_scanOne_18 : decode cX9_scanOne 18 = .ok (.getfield 22, 3) := by decide +kernel
theorem dX9_scanOne_21 : decode cX9_scanOne 21 = .ok (.aload_n 0, 1) := by decide +kernel
theorem dX9_scanOne_22 : decode cX9_scanOne 22 = .ok (.getfield 26, 3) := by decide +kernel
theorem dX9_scanOne_25 : decode cX9_scanOne 25 = .ok (.invokevirtual 63, 3) := by decide +kernel
theorem dX9_scanOne_28 : decode cX9_scanOne 28 = .ok (.istore_n 1, 1) := by decide +kernel
theorem dX9_scanOne_29 : decode cX9_scanOne 29 = .ok (.iload_n 1, 1) := by decide +kernel
theorem dX9_scanOne_30 : decode cX9_scanOne 30 = .ok (.ifCond .ge 11, 3) := by decide +kernel
theorem dX9_scanOne_33 : decode cX9_scanOne 33 = .ok (.aload_n 0, 1) := by decide +kernel
theorem dX9_scanOne_34 : decode cX9_scanOne 34 = .ok (.iconst 0, 1) := by decide +kernel
theorem dX9_scanOne_35 : decode cX9_scanOne 35 = .ok (.putfield 40, 3) := by decide +kernel
theorem dX9_scanOne_38 : decode cX9_scanOne 38 = .ok (.goto 50, 3) := by decide +kernel
theorem dX9_scanOne_41 : decode cX9_scanOne 41 = .ok (.iload_n 1, 1) := by decide +kernel
theorem dX9_scanOne_42 : decode cX9_scanOne 42 = .ok (.invokestatic 69, 3) := by decide +kernel
theorem dX9_scanOne_45 : decode cX9_scanOne 45 = .ok (.ifCond .eq 10, 3) := by decide +kernel
theorem dX9_scanOne_48 : decode cX9_scanOne 48 = .ok (.aload_n 0, 1) := by decide +kernel
theorem dX9_scanOne_49 : decode cX9_scanOne 49 = .ok (.invokevirtual 72, 3) := by decide +kernel
theorem dX9_scanOne_52 : decode cX9_scanOne 52 = .ok (.goto 36, 3) := by decide +kernel
theorem dX9_scanOne_55 : decode cX9_scanOne 55 = .ok (.iload_n 1, 1) := by decide +kernel
theorem dX9_scanOne_56 : decode cX9_scanOne 56 = .ok (.invokestatic 75, 3) := by decide +kernel
theorem dX9_scanOne_59 : decode cX9_scanOne 59 = .ok (.ifCond .eq 10, 3) := by decide +kernel
theorem dX9_scanOne_62 : decode cX9_scanOne 62 = .ok (.aload_n 0, 1) := by decide +kernel
theorem dX9_scanOne_63 : decode cX9_scanOne 63 = .ok (.invokevirtual 78, 3) := by decide +kernel
theorem dX9_scanOne_66 : decode cX9_scanOne 66 = .ok (.goto 22, 3) := by decide +kernel
theorem dX9_scanOne_69 : decode cX9_scanOne 69 = .ok (.aload_n 0, 1) := by decide +kernel
theorem dX9_scanOne_70 : decode cX9_scanOne 70 = .ok (.dup, 1) := by decide +kernel
theorem dX9_scanOne_71 : decode cX9_scanOne 71 = .ok (.getfield 26, 3) := by decide +kernel
theorem dX9_scanOne_74 : decode cX9_scanOne 74 = .ok (.iconst 1, 1) := by decide +kernel
theorem dX9_scanOne_75 : decode cX9_scanOne 75 = .ok (.iadd, 1) := by decide +kernel
theorem dX9_scanOne_76 : decode cX9_scanOne 76 = .ok (.putfield 26, 3) := by decide +kernel
theorem dX9_scanOne_79 : decode cX9_scanOne 79 = .ok (.aload_n 0, 1) := by decide +kernel
theorem dX9_scanOne_80 : decode cX9_scanOne 80 = .ok (.aload_n 0, 1) := by decide +kernel
theorem dX9_scanOne_81 : decode cX9_scanOne 81 = .ok (.iload_n 1, 1) := by decide +kernel
theorem dX9_scanOne_82 : decode cX9_scanOne 82 = .ok (.invokevirtual 81, 3) := by decide +kernel
theorem dX9_scanOne_85 : decode cX9_scanOne 85 = .ok (.putfield 40, 3) := by decide +kernel
theorem dX9_scanOne_88 : decode cX9_scanOne 88 = .ok (.return_, 1) := by decide +kernel
theorem dX9_skipBlanks_0 : decode cX9_skipBlanks 0 = .ok (.aload_n 0, 1) := by decide +kernel
theorem dX9_skipBlanks_1 : decode cX9_skipBlanks 1 = .ok (.getfield 26, 3) := by decide +kernel
theorem dX9_skipBlanks_4 : decode cX9_skipBlanks 4 = .ok (.aload_n 0, 1) := by decide +kernel
theorem dX9_skipBlanks_5 : decode cX9_skipBlanks 5 = .ok (.getfield 22, 3) := by decide +kernel
theorem dX9_skipBlanks_8 : decode cX9_skipBlanks 8 = .ok (.invokevirtual 84, 3) := by decide +kernel
theorem dX9_skipBlanks_11 : decode cX9_skipBlanks 11 = .ok (.if_icmp .ge 33, 3) := by decide +kernel
theorem dX9_skipBlanks_14 : decode cX9_skipBlanks 14 = .ok (.aload_n 0, 1) := by decide +kernel
theorem dX9_skipBlanks_15 : decode cX9_skipBlanks 15 = .ok (.getfield 22, 3) := by decide +kernel
theorem dX9_skipBlanks_18 : decode cX9_skipBlanks 18 = .ok (.aload_n 0, 1) := by decide +kernel
theorem dX9_skipBlanks_19 : decode cX9_skipBlanks 19 = .ok (.getfield 26, 3) := by decide +kernel
theorem dX9_skipBlanks_22 : decode cX9_skipBlanks 22 = .ok (.invokevirtual 63, 3) := by decide +kernel
theorem dX9_skipBlanks_25 : decode cX9_skipBlanks 25 = .ok (.invokestatic 88, 3) := by decide +kernel
theorem dX9_skipBlanks_28 : decode cX9_skipBlanks 28 = .ok (.ifCond .eq 16, 3) := by decide +kernel
theorem dX9_skipBlanks_31 : decode cX9_skipBlanks 31 = .ok (.aload_n 0, 1) := by decide +kernel
theorem dX9_skipBlanks_32 : decode cX9_skipBlanks 32 = .ok (.dup, 1) := by decide +kernel
theorem dX9_skipBlanks_33 : decode cX9_skipBlanks 33 = .ok (.getfield 26, 3) := by decide +kernel
theorem dX9_skipBlanks_36 : decode cX9_skipBlanks 36 = .ok (.iconst 1, 1) := by decide +kernel
theorem dX9_skipBlanks_37 : decode cX9_skipBlanks 37 = .ok (.iadd, 1) := by decide +kernel
theorem dX9_skipBlanks_38 : decode cX9_skipBlanks 38 = .ok (.putfield 26, 3) := by decide +kernel
theorem dX9_skipBlanks_41 : decode cX9_skipBlanks 41 = .ok (.goto (-41), 3) := by decide +kernel
theorem dX9_skipBlanks_44 : decode cX9_skipBlanks 44 = .ok (.return_, 1) := by decide +kernel
theorem dX9_scanWord_0 : decode cX9_scanWord 0 = .ok (.aload_n 0, 1) := by decide +kernel
theorem dX9_scanWord_1 : decode cX9_scanWord 1 = .ok (.getfield 26, 3) := by decide +kernel
theorem dX9_scanWord_4 : decode cX9_scanWord 4 = .ok (.aload_n 0, 1) := by decide +kernel
theorem dX9_scanWord_5 : decode cX9_scanWord 5 = .ok (.getfield 22, 3) := by decide +kernel
theorem dX9_scanWord_8 : decode cX9_scanWord 8 = .ok (.invokevirtual 84, 3) := by decide +kernel
theorem dX9_scanWord_11 : decode cX9_scanWord 11 = .ok (.if_icmp .ge 57, 3) := by decide +kernel
theorem dX9_scanWord_14 : decode cX9_scanWord 14 = .ok (.aload_n 0, 1) := by decide +kernel
theorem dX9_scanWord_15 : decode cX9_scanWord 15 = .ok (.getfield 22, 3) := by decide +kernel
theorem dX9_scanWord_18 : decode cX9_scanWord 18 = .ok (.aload_n 0, 1) := by decide +kernel
theorem dX9_scanWord_19 : decode cX9_scanWord 19 = .ok (.getfield 26, 3) := by decide +kernel
theorem dX9_scanWord_22 : decode cX9_scanWord 22 = .ok (.invokevirtual 63, 3) := by decide +kernel
theorem dX9_scanWord_25 : decode cX9_scanWord 25 = .ok (.invokestatic 91, 3) := by decide +kernel
theorem dX9_scanWord_28 : decode cX9_scanWord 28 = .ok (.ifCond .eq 40, 3) := by decide +kernel
theorem dX9_scanWord_31 : decode cX9_scanWord 31 = .ok (.aload_n 0, 1) := by decide +kernel
theorem dX9_scanWord_32 : decode cX9_scanWord 32 = .ok (.aload_n 0, 1) := by decide +kernel
theorem dX9_scanWord_33 : decode cX9_scanWord 33 = .ok (.getfield 49, 3) := by decide +kernel
theorem dX9_scanWord_36 : decode cX9_scanWord 36 = .ok (.bipush 8, 2) := by decide +kernel
theorem dX9_scanWord_38 : decode cX9_scanWord 38 = .ok (.lshl, 1) := by decide +kernel
theorem dX9_scanWord_39 : decode cX9_scanWord 39 = .ok (.aload_n 0, 1) := by decide +kernel
theorem dX9_scanWord_40 : decode cX9_scanWord 40 = .ok (.getfield 22, 3) := by decide +kernel
theorem dX9_scanWord_43 : decode cX9_scanWord 43 = .ok (.aload_n 0, 1) := by decide +kernel
theorem dX9_scanWord_44 : decode cX9_scanWord 44 = .ok (.getfield 26, 3) := by decide +kernel
theorem dX9_scanWord_47 : decode cX9_scanWord 47 = .ok (.invokevirtual 63, 3) := by decide +kernel
theorem dX9_scanWord_50 : decode cX9_scanWord 50 = .ok (.i2l, 1) := by decide +kernel
theorem dX9_scanWord_51 : decode cX9_scanWord 51 = .ok (.lor, 1) := by decide +kernel
theorem dX9_scanWord_52 : decode cX9_scanWord 52 = .ok (.putfield 49, 3) := by decide +kernel
theorem dX9_scanWord_55 : decode cX9_scanWord 55 = .ok (.aload_n 0, 1) := by decide +kernel
theorem dX9_scanWord_56 : decode cX9_scanWord 56 = .ok (.dup, 1) := by decide +kernel
theorem dX9_scanWord_57 : decode cX9_scanWord 57 = .ok (.getfield 26, 3) := by decide +kernel
theorem dX9_scanWord_60 : decode cX9_scanWord 60 = .ok (.iconst 1, 1) := by decide +kernel
theorem dX9_scanWord_61 : decode cX9_scanWord 61 = .ok (.iadd, 1) := by decide +kernel
theorem dX9_scanWord_62 : decode cX9_scanWord 62 = .ok (.putfield 26, 3) := by decide +kernel
theorem dX9_scanWord_65 : decode cX9_scanWord 65 = .ok (.goto (-65), 3) := by decide +kernel
theorem dX9_scanWord_68 : decode cX9_scanWord 68 = .ok (.aload_n 0, 1) := by decide +kernel
theorem dX9_scanWord_69 : decode cX9_scanWord 69 = .ok (.aload_n 0, 1) := by decide +kernel
theorem dX9_scanWord_70 : decode cX9_scanWord 70 = .ok (.getfield 26, 3) := by decide +kernel
theorem dX9_scanWord_73 : decode cX9_scanWord 73 = .ok (.aload_n 0, 1) := by decide +kernel
theorem dX9_scanWord_74 : decode cX9_scanWord 74 = .ok (.getfield 46, 3) := by decide +kernel
theorem dX9_scanWord_77 : decode cX9_scanWord 77 = .ok (.isub, 1) := by decide +kernel
theorem dX9_scanWord_78 : decode cX9_scanWord 78 = .ok (.bipush 8, 2) := by decide +kernel
theorem dX9_scanWord_80 : decode cX9_scanWord 80 = .ok (.if_icmp .le 7, 3) := by decide +kernel
theorem dX9_scanWord_83 : decode cX9_scanWord 83 = .ok (.iconst 1, 1) := by decide +kernel
theorem dX9_scanWord_84 : decode cX9_scanWord 84 = .ok (.goto 7, 3) := by decide +kernel
theorem dX9_scanWord_87 : decode cX9_scanWord 87 = .ok (.aload_n 0, 1) := by decide +kernel
theorem dX9_scanWord_88 : decode cX9_scanWord 88 = .ok (.invokevirtual 94, 3) := by decide +kernel
theorem dX9_scanWord_91 : decode cX9_scanWord 91 = .ok (.putfield 40, 3) := by decide +kernel
theorem dX9_scanWord_94 : decode cX9_scanWord 94 = .ok (.return_, 1) := by decide +kernel
theorem dX9_wordKind_0 : decode cX9_wordKind 0 = .ok (.iconst 0, 1) := by decide +kernel
theorem dX9_wordKind_1 : decode cX9_wordKind 1 = .ok (.istore_n 1, 1) := by decide +kernel
theorem dX9_wordKind_2 : decode cX9_wordKind 2 = .ok (.iload_n 1, 1) := by decide +kernel
theorem dX9_wordKind_3 : decode cX9_wordKind 3 = .ok (.getstatic 97, 3) := by decide +kernel
theorem dX9_wordKind_6 : decode cX9_wordKind 6 = .ok (.arraylength, 1) := by decide +kernel
theorem dX9_wordKind_7 : decode cX9_wordKind 7 = .ok (.if_icmp .ge 26, 3) := by decide +kernel
theorem dX9_wordKind_10 : decode cX9_wordKind 10 = .ok (.getstatic 97, 3) := by decide +kernel
theorem dX9_wordKind_13 : decode cX9_wordKind 13 = .ok (.iload_n 1, 1) := by decide +kernel
theorem dX9_wordKind_14 : decode cX9_wordKind 14 = .ok (.laload, 1) := by decide +kernel
theorem dX9_wordKind_15 : decode cX9_wordKind 15 = .ok (.aload_n 0, 1) := by decide +kernel
theorem dX9_wordKind_16 : decode cX9_wordKind 16 = .ok (.getfield 49, 3) := by decide +kernel
theorem dX9_wordKind_19 : decode cX9_wordKind 19 = .ok (.lcmp, 1) := by decide +kernel
theorem dX9_wordKind_20 : decode cX9_wordKind 20 = .ok (.ifCond .ne 7, 3) := by decide +kernel
theorem dX9_wordKind_23 : decode cX9_wordKind 23 = .ok (.iconst 4, 1) := by decide +kernel
theorem dX9_wordKind_24 : decode cX9_wordKind 24 = .ok (.iload_n 1, 1) := by decide +kernel
theorem dX9_wordKind_25 : decode cX9_wordKind 25 = .ok (.iadd, 1) := by decide +kernel
theorem dX9_wordKind_26 : decode cX9_wordKind 26 = .ok (.ireturn, 1) := by decide +kernel
theorem dX9_wordKind_27 : decode cX9_wordKind 27 = .ok (.iinc 1 1, 3) := by decide +kernel
theorem dX9_wordKind_30 : decode cX9_wordKind 30 = .ok (.goto (-28), 3) := by decide +kernel
theorem dX9_wordKind_33 : decode cX9_wordKind 33 = .ok (.iconst 3, 1) := by decide +kernel
theorem dX9_wordKind_34 : decode cX9_wordKind 34 = .ok (.ireturn, 1) := by decide +kernel
theorem dX9_scanNumber_0 : decode cX9_scanNumber 0 = .ok (.aload_n 0, 1) := by decide +kernel
theorem dX9_scanNumber_1 : decode cX9_scanNumber 1 = .ok (.getfield 26, 3) := by decide +kernel
theorem dX9_scanNumber_4 : decode cX9_scanNumber 4 = .ok (.aload_n 0, 1) := by decide +kernel
theorem dX9_scanNumber_5 : decode cX9_scanNumber 5 = .ok (.getfield 22, 3) := by decide +kernel
theorem dX9_scanNumber_8 : decode cX9_scanNumber 8 = .ok (.invokevirtual 84, 3) := by decide +kernel
theorem dX9_scanNumber_11 : decode cX9_scanNumber 11 = .ok (.if_icmp .ge 62, 3) := by decide +kernel
theorem dX9_scanNumber_14 : decode cX9_scanNumber 14 = .ok (.aload_n 0, 1) := by decide +kernel
theorem dX9_scanNumber_15 : decode cX9_scanNumber 15 = .ok (.getfield 22, 3) := by decide +kernel
theorem dX9_scanNumber_18 : decode cX9_scanNumber 18 = .ok (.aload_n 0, 1) := by decide +kernel
theorem dX9_scanNumber_19 : decode cX9_scanNumber 19 = .ok (.getfield 26, 3) := by decide +kernel
theorem dX9_scanNumber_22 : decode cX9_scanNumber 22 = .ok (.invokevirtual 63, 3) := by decide +kernel
theorem dX9_scanNumber_25 : decode cX9_scanNumber 25 = .ok (.invokestatic 75, 3) := by decide +kernel
theorem dX9_scanNumber_28 : decode cX9_scanNumber 28 = .ok (.ifCond .eq 45, 3) := by decide +kernel
theorem dX9_scanNumber_31 : decode cX9_scanNumber 31 = .ok (.aload_n 0, 1) := by decide +kernel
theorem dX9_scanNumber_32 : decode cX9_scanNumber 32 = .ok (.aload_n 0, 1) := by decide +kernel
theorem dX9_scanNumber_33 : decode cX9_scanNumber 33 = .ok (.getfield 49, 3) := by decide +kernel
theorem dX9_scanNumber_36 : decode cX9_scanNumber 36 = .ok (.ldc2_w 100, 3) := by decide +kernel
theorem dX9_scanNumber_39 : decode cX9_scanNumber 39 = .ok (.lmul, 1) := by decide +kernel
theorem dX9_scanNumber_40 : decode cX9_scanNumber 40 = .ok (.aload_n 0, 1) := by decide +kernel
theorem dX9_scanNumber_41 : decode cX9_scanNumber 41 = .ok (.getfield 22, 3) := by decide +kernel
theorem dX9_scanNumber_44 : decode cX9_scanNumber 44 = .ok (.aload_n 0, 1) := by decide +kernel
theorem dX9_scanNumber_45 : decode cX9_scanNumber 45 = .ok (.getfield 26, 3) := by decide +kernel
theorem dX9_scanNumber_48 : decode cX9_scanNumber 48 = .ok (.invokevirtual 63, 3) := by decide +kernel
theorem dX9_scanNumber_51 : decode cX9_scanNumber 51 = .ok (.i2l, 1) := by decide +kernel
theorem dX9_scanNumber_52 : decode cX9_scanNumber 52 = .ok (.ladd, 1) := by decide +kernel
theorem dX9_scanNumber_53 : decode cX9_scanNumber 53 = .ok (.ldc2_w 102, 3) := by decide +kernel
theorem dX9_scanNumber_56 : decode cX9_scanNumber 56 = .ok (.lsub, 1) := by decide +kernel
theorem dX9_scanNumber_57 : decode cX9_scanNumber 57 = .ok (.putfield 49, 3) := by decide +kernel
theorem dX9_scanNumber_60 : decode cX9_scanNumber 60 = .ok (.aload_n 0, 1) := by decide +kernel
theorem dX9_scanNumber_61 : decode cX9_scanNumber 61 = .ok (.dup, 1) := by decide +kernel
theorem dX9_scanNumber_62 : decode cX9_scanNumber 62 = .ok (.getfield 26, 3) := by decide +kernel
theorem dX9_scanNumber_65 : decode cX9_scanNumber 65 = .ok (.iconst 1, 1) := by decide +kernel
theorem dX9_scanNumber_66 : decode cX9_scanNumber 66 = .ok (.iadd, 1) := by decide +kernel
theorem dX9_scanNumber_67 : decode cX9_scanNumber 67 = .ok (.putfield 26, 3) := by decide +kernel
theorem dX9_scanNumber_70 : decode cX9_scanNumber 70 = .ok (.goto (-70), 3) := by decide +kernel
theorem dX9_scanNumber_73 : decode cX9_scanNumber 73 = .ok (.aload_n 0, 1) := by decide +kernel
theorem dX9_scanNumber_74 : decode cX9_scanNumber 74 = .ok (.aload_n 0, 1) := by decide +kernel
theorem dX9_scanNumber_75 : decode cX9_scanNumber 75 = .ok (.getfield 26, 3) := by decide +kernel
theorem dX9_scanNumber_78 : decode cX9_scanNumber 78 = .ok (.aload_n 0, 1) := by decide +kernel
theorem dX9_scanNumber_79 : decode cX9_scanNumber 79 = .ok (.getfield 46, 3) := by decide +kernel
theorem dX9_scanNumber_82 : decode cX9_scanNumber 82 = .ok (.isub, 1) := by decide +kernel
theorem dX9_scanNumber_83 : decode cX9_scanNumber 83 = .ok (.iconst 4, 1) := by decide +kernel
theorem dX9_scanNumber_84 : decode cX9_scanNumber 84 = .ok (.if_icmp .le 7, 3) := by decide +kernel
theorem dX9_scanNumber_87 : decode cX9_scanNumber 87 = .ok (.iconst 1, 1) := by decide +kernel
theorem dX9_scanNumber_88 : decode cX9_scanNumber 88 = .ok (.goto 4, 3) := by decide +kernel
theorem dX9_scanNumber_91 : decode cX9_scanNumber 91 = .ok (.iconst 2, 1) := by decide +kernel
theorem dX9_scanNumber_92 : decode cX9_scanNumber 92 = .ok (.putfield 40, 3) := by decide +kernel
theorem dX9_scanNumber_95 : decode cX9_scanNumber 95 = .ok (.return_, 1) := by decide +kernel
theorem dX9_symbolKind_0 : decode cX9_symbolKind 0 = .ok (.iload_n 1, 1) := by decide +kernel
theorem dX9_symbolKind_1 : decode cX9_symbolKind 1 = .ok (.lookupswitch 231 #[(37, 164), (40, 131), (41, 134), (42, 158), (43, 152), (44, 137), (45, 155), (46, 215), (47, 161), (58, 143), (59, 140), (60, 167), (61, 149), (62, 198), (124, 146)], 131) := by decide +kernel
theorem dX9_symbolKind_132 : decode cX9_symbolKind 132 = .ok (.bipush 16, 2) := by decide +kernel
theorem dX9_symbolKind_134 : decode cX9_symbolKind 134 = .ok (.ireturn, 1) := by decide +kernel
theorem dX9_symbolKind_135 : decode cX9_symbolKind 135 = .ok (.bipush 17, 2) := by decide +kernel
theorem dX9_symbolKind_137 : decode cX9_symbolKind 137 = .ok (.ireturn, 1) := by decide +kernel
theorem dX9_symbolKind_138 : decode cX9_symbolKind 138 = .ok (.bipush 18, 2) := by decide +kernel
theorem dX9_symbolKind_140 : decode cX9_symbolKind 140 = .ok (.ireturn, 1) := by decide +kernel
theorem dX9_symbolKind_141 : decode cX9_symbolKind 141 = .ok (.bipush 19, 2) := by decide +kernel
theorem dX9_symbolKind_143 : decode cX9_symbolKind 143 = .ok (.ireturn, 1) := by decide +kernel
theorem dX9_symbolKind_144 : decode cX9_symbolKind 144 = .ok (.bipush 20, 2) := by decide +kernel
theorem dX9_symbolKind_146 : decode cX9_symbolKind 146 = .ok (.ireturn, 1) := by decide +kernel
theorem dX9_symbolKind_147 : decode cX9_symbolKind 147 = .ok (.bipush 21, 2) := by decide +kernel
theorem dX9_symbolKind_149 : decode cX9_symbolKind 149 = .ok (.ireturn, 1) := by decide +kernel
theorem dX9_symbolKind_150 : decode cX9_symbolKind 150 = .ok (.bipush 22, 2) := by decide +kernel
theorem dX9_symbolKind_152 : decode cX9_symbolKind 152 = .ok (.ireturn, 1) := by decide +kernel
theorem dX9_symbolKind_153 : decode cX9_symbolKind 153 = .ok (.bipush 28, 2) := by decide +kernel
theorem dX9_symbolKind_155 : decode cX9_symbolKind 155 = .ok (.ireturn, 1) := by decide +kernel
theorem dX9_symbolKind_156 : decode cX9_symbolKind 156 = .ok (.bipush 29, 2) := by decide +kernel
theorem dX9_symbolKind_158 : decode cX9_symbolKind 158 = .ok (.ireturn, 1) := by decide +kernel
theorem dX9_symbolKind_159 : decode cX9_symbolKind 159 = .ok (.bipush 30, 2) := by decide +kernel
theorem dX9_symbolKind_161 : decode cX9_symbolKind 161 = .ok (.ireturn, 1) := by decide +kernel
theorem dX9_symbolKind_162 : decode cX9_symbolKind 162 = .ok (.bipush 31, 2) := by decide +kernel
theorem dX9_symbolKind_164 : decode cX9_symbolKind 164 = .ok (.ireturn, 1) := by decide +kernel
theorem dX9_symbolKind_165 : decode cX9_symbolKind 165 = .ok (.bipush 32, 2) := by decide +kernel
theorem dX9_symbolKind_167 : decode cX9_symbolKind 167 = .ok (.ireturn, 1) := by decide +kernel
theorem dX9_symbolKind_168 : decode cX9_symbolKind 168 = .ok (.aload_n 0, 1) := by decide +kernel
theorem dX9_symbolKind_169 : decode cX9_symbolKind 169 = .ok (.bipush 61, 2) := by decide +kernel
theorem dX9_symbolKind_171 : decode cX9_symbolKind 171 = .ok (.invokevirtual 104, 3) := by decide +kernel
theorem dX9_symbolKind_174 : decode cX9_symbolKind 174 = .ok (.ifCond .eq 8, 3) := by decide +kernel
theorem dX9_symbolKind_177 : decode cX9_symbolKind 177 = .ok (.bipush 25, 2) := by decide +kernel
theorem dX9_symbolKind_179 : decode cX9_symbolKind 179 = .ok (.goto 19, 3) := by decide +kernel
theorem dX9_symbolKind_182 : decode cX9_symbolKind 182 = .ok (.aload_n 0, 1) := by decide +kernel
theorem dX9_symbolKind_183 : decode cX9_symbolKind 183 = .ok (.bipush 62, 2) := by decide +kernel
theorem dX9_symbolKind_185 : decode cX9_symbolKind 185 = .ok (.invokevirtual 104, 3) := by decide +kernel
theorem dX9_symbolKind_188 : decode cX9_symbolKind 188 = .ok (.ifCond .eq 8, 3) := by decide +kernel
theorem dX9_symbolKind_191 : decode cX9_symbolKind 191 = .ok (.bipush 23, 2) := by decide +kernel
theorem dX9_symbolKind_193 : decode cX9_symbolKind 193 = .ok (.goto 5, 3) := by decide +kernel
theorem dX9_symbolKind_196 : decode cX9_symbolKind 196 = .ok (.bipush 24, 2) := by decide +kernel
theorem dX9_symbolKind_198 : decode cX9_symbolKind 198 = .ok (.ireturn, 1) := by decide +kernel
theorem dX9_symbolKind_199 : decode cX9_symbolKind 199 = .ok (.aload_n 0, 1) := by decide +kernel
theorem dX9_symbolKind_200 : decode cX9_symbolKind 200 = .ok (.bipush 61, 2) := by decide +kernel
theorem dX9_symbolKind_202 : decode cX9_symbolKind 202 = .ok (.invokevirtual 104, 3) := by decide +kernel
theorem dX9_symbolKind_205 : decode cX9_symbolKind 205 = .ok (.ifCond .eq 8, 3) := by decide +kernel
theorem dX9_symbolKind_208 : decode cX9_symbolKind 208 = .ok (.bipush 27, 2) := by decide +kernel
theorem dX9_symbolKind_210 : decode cX9_symbolKind 210 = .ok (.goto 5, 3) := by decide +kernel
theorem dX9_symbolKind_213 : decode cX9_symbolKind 213 = .ok (.bipush 26, 2) := by decide +kernel
theorem dX9_symbolKind_215 : decode cX9_symbolKind 215 = .ok (.ireturn, 1) := by decide +kernel
theorem dX9_symbolKind_216 : decode cX9_symbolKind 216 = .ok (.aload_n 0, 1) := by decide +kernel
theorem dX9_symbolKind_217 : decode cX9_symbolKind 217 = .ok (.bipush 46, 2) := by decide +kernel
theorem dX9_symbolKind_219 : decode cX9_symbolKind 219 = .ok (.invokevirtual 104, 3) := by decide +kernel
theorem dX9_symbolKind_222 : decode cX9_symbolKind 222 = .ok (.ifCond .eq 8, 3) := by decide +kernel
theorem dX9_symbolKind_225 : decode cX9_symbolKind 225 = .ok (.bipush 33, 2) := by decide +kernel
theorem dX9_symbolKind_227 : decode cX9_symbolKind 227 = .ok (.goto 4, 3) := by decide +kernel
theorem dX9_symbolKind_230 : decode cX9_symbolKind 230 = .ok (.iconst 1, 1) := by decide +kernel
theorem dX9_symbolKind_231 : decode cX9_symbolKind 231 = .ok (.ireturn, 1) := by decide +kernel
theorem dX9_symbolKind_232 : decode cX9_symbolKind 232 = .ok (.iconst 1, 1) := by decide +kernel
theorem dX9_symbolKind_233 : decode cX9_symbolKind 233 = .ok (.ireturn, 1) := by decide +kernel
theorem dX9_follows_0 : decode cX9_follows 0 = .ok (.aload_n 0, 1) := by decide +kernel
theorem dX9_follows_1 : decode cX9_follows 1 = .ok (.getfield 22, 3) := by decide +kernel
theorem dX9_follows_4 : decode cX9_follows 4 = .ok (.aload_n 0, 1) := by decide +kernel
theorem dX9_follows_5 : decode cX9_follows 5 = .ok (.getfield 26, 3) := by decide +kernel
theorem dX9_follows_8 : decode cX9_follows 8 = .ok (.invokevirtual 63, 3) := by decide +kernel
theorem dX9_follows_11 : decode cX9_follows 11 = .ok (.iload_n 1, 1) := by decide +kernel
theorem dX9_follows_12 : decode cX9_follows 12 = .ok (.if_icmp .eq 5, 3) := by decide +kernel
theorem dX9_follows_15 : decode cX9_follows 15 = .ok (.iconst 0, 1) := by decide +kernel
theorem dX9_follows_16 : decode cX9_follows 16 = .ok (.ireturn, 1) := by decide +kernel
theorem dX9_follows_17 : decode cX9_follows 17 = .ok (.aload_n 0, 1) := by decide +kernel
theorem dX9_follows_18 : decode cX9_follows 18 = .ok (.dup, 1) := by decide +kernel
theorem dX9_follows_19 : decode cX9_follows 19 = .ok (.getfield 26, 3) := by decide +kernel
theorem dX9_follows_22 : decode cX9_follows 22 = .ok (.iconst 1, 1) := by decide +kernel
theorem dX9_follows_23 : decode cX9_follows 23 = .ok (.iadd, 1) := by decide +kernel
theorem dX9_follows_24 : decode cX9_follows 24 = .ok (.putfield 26, 3) := by decide +kernel
theorem dX9_follows_27 : decode cX9_follows 27 = .ok (.iconst 1, 1) := by decide +kernel
theorem dX9_follows_28 : decode cX9_follows 28 = .ok (.ireturn, 1) := by decide +kernel
theorem dX9_isBlank_0 : decode cX9_isBlank 0 = .ok (.iload_n 0, 1) := by decide +kernel
theorem dX9_isBlank_1 : decode cX9_isBlank 1 = .ok (.bipush 32, 2) := by decide +kernel
theorem dX9_isBlank_3 : decode cX9_isBlank 3 = .ok (.if_icmp .eq 9, 3) := by decide +kernel
theorem dX9_isBlank_6 : decode cX9_isBlank 6 = .ok (.iload_n 0, 1) := by decide +kernel
theorem dX9_isBlank_7 : decode cX9_isBlank 7 = .ok (.bipush 10, 2) := by decide +kernel
theorem dX9_isBlank_9 : decode cX9_isBlank 9 = .ok (.if_icmp .ne 7, 3) := by decide +kernel
theorem dX9_isBlank_12 : decode cX9_isBlank 12 = .ok (.iconst 1, 1) := by decide +kernel
theorem dX9_isBlank_13 : decode cX9_isBlank 13 = .ok (.goto 4, 3) := by decide +kernel
theorem dX9_isBlank_16 : decode cX9_isBlank 16 = .ok (.iconst 0, 1) := by decide +kernel
theorem dX9_isBlank_17 : decode cX9_isBlank 17 = .ok (.ireturn, 1) := by decide +kernel
theorem dX9_isLetter_0 : decode cX9_isLetter 0 = .ok (.iload_n 0, 1) := by decide +kernel
theorem dX9_isLetter_1 : decode cX9_isLetter 1 = .ok (.bipush 97, 2) := by decide +kernel
theorem dX9_isLetter_3 : decode cX9_isLetter 3 = .ok (.if_icmp .lt 13, 3) := by decide +kernel
theorem dX9_isLetter_6 : decode cX9_isLetter 6 = .ok (.iload_n 0, 1) := by decide +kernel
theorem dX9_isLetter_7 : decode cX9_isLetter 7 = .ok (.bipush 122, 2) := by decide +kernel
theorem dX9_isLetter_9 : decode cX9_isLetter 9 = .ok (.if_icmp .gt 7, 3) := by decide +kernel
theorem dX9_isLetter_12 : decode cX9_isLetter 12 = .ok (.iconst 1, 1) := by decide +kernel
theorem dX9_isLetter_13 : decode cX9_isLetter 13 = .ok (.goto 4, 3) := by decide +kernel
theorem dX9_isLetter_16 : decode cX9_isLetter 16 = .ok (.iconst 0, 1) := by decide +kernel
theorem dX9_isLetter_17 : decode cX9_isLetter 17 = .ok (.ireturn, 1) := by decide +kernel
theorem dX9_isDigit_0 : decode cX9_isDigit 0 = .ok (.iload_n 0, 1) := by decide +kernel
theorem dX9_isDigit_1 : decode cX9_isDigit 1 = .ok (.bipush 48, 2) := by decide +kernel
theorem dX9_isDigit_3 : decode cX9_isDigit 3 = .ok (.if_icmp .lt 13, 3) := by decide +kernel
theorem dX9_isDigit_6 : decode cX9_isDigit 6 = .ok (.iload_n 0, 1) := by decide +kernel
theorem dX9_isDigit_7 : decode cX9_isDigit 7 = .ok (.bipush 57, 2) := by decide +kernel
theorem dX9_isDigit_9 : decode cX9_isDigit 9 = .ok (.if_icmp .gt 7, 3) := by decide +kernel
theorem dX9_isDigit_12 : decode cX9_isDigit 12 = .ok (.iconst 1, 1) := by decide +kernel
theorem dX9_isDigit_13 : decode cX9_isDigit 13 = .ok (.goto 4, 3) := by decide +kernel
theorem dX9_isDigit_16 : decode cX9_isDigit 16 = .ok (.iconst 0, 1) := by decide +kernel
theorem dX9_isDigit_17 : decode cX9_isDigit 17 = .ok (.ireturn, 1) := by decide +kernel
theorem dX9_isWordSign_0 : decode cX9_isWordSign 0 = .ok (.iload_n 0, 1) := by decide +kernel
theorem dX9_isWordSign_1 : decode cX9_isWordSign 1 = .ok (.invokestatic 69, 3) := by decide +kernel
theorem dX9_isWordSign_4 : decode cX9_isWordSign 4 = .ok (.ifCond .ne 10, 3) := by decide +kernel
theorem dX9_isWordSign_7 : decode cX9_isWordSign 7 = .ok (.iload_n 0, 1) := by decide +kernel
theorem dX9_isWordSign_8 : decode cX9_isWordSign 8 = .ok (.invokestatic 75, 3) := by decide +kernel
theorem dX9_isWordSign_11 : decode cX9_isWordSign 11 = .ok (.ifCond .eq 7, 3) := by decide +kernel
theorem dX9_isWordSign_14 : decode cX9_isWordSign 14 = .ok (.iconst 1, 1) := by decide +kernel
theorem dX9_isWordSign_15 : decode cX9_isWordSign 15 = .ok (.goto 4, 3) := by decide +kernel
theorem dX9_isWordSign_18 : decode cX9_isWordSign 18 = .ok (.iconst 0, 1) := by decide +kernel
theorem dX9_isWordSign_19 : decode cX9_isWordSign 19 = .ok (.ireturn, 1) := by decide +kernel
theorem dX10_init_0 : decode cX10_init 0 = .ok (.aload_n 0, 1) := by decide +kernel
theorem dX10_init_1 : decode cX10_init 1 = .ok (.invokespecial 3, 3) := by decide +kernel
theorem dX10_init_4 : decode cX10_init 4 = .ok (.aload_n 0, 1) := by decide +kernel
theorem dX10_init_5 : decode cX10_init 5 = .ok (.bipush 41, 2) := by decide +kernel
theorem dX10_init_7 : decode cX10_init 7 = .ok (.newarray .long, 2) := by decide +kernel
theorem dX10_init_9 : decode cX10_init 9 = .ok (.putfield 9, 3) := by decide +kernel
theorem dX10_init_12 : decode cX10_init 12 = .ok (.aload_n 0, 1) := by decide +kernel
theorem dX10_init_13 : decode cX10_init 13 = .ok (.bipush 41, 2) := by decide +kernel
theorem dX10_init_15 : decode cX10_init 15 = .ok (.newarray .long, 2) := by decide +kernel
theorem dX10_init_17 : decode cX10_init 17 = .ok (.putfield 15, 3) := by decide +kernel
theorem dX10_init_20 : decode cX10_init 20 = .ok (.aload_n 0, 1) := by decide +kernel
theorem dX10_init_21 : decode cX10_init 21 = .ok (.bipush 41, 2) := by decide +kernel
theorem dX10_init_23 : decode cX10_init 23 = .ok (.newarray .long, 2) := by decide +kernel
theorem dX10_init_25 : decode cX10_init 25 = .ok (.putfield 18, 3) := by decide +kernel
theorem dX10_init_28 : decode cX10_init 28 = .ok (.return_, 1) := by decide +kernel
theorem dX10_begin_0 : decode cX10_begin 0 = .ok (.aload_n 0, 1) := by decide +kernel
theorem dX10_begin_1 : decode cX10_begin 1 = .ok (.aload_n 1, 1) := by decide +kernel
theorem dX10_begin_2 : decode cX10_begin 2 = .ok (.getfield 21, 3) := by decide +kernel
theorem dX10_begin_5 : decode cX10_begin 5 = .ok (.iconst 0, 1) := by decide +kernel
theorem dX10_begin_6 : decode cX10_begin 6 = .ok (.invokevirtual 27, 3) := by decide +kernel
theorem dX10_begin_9 : decode cX10_begin 9 = .ok (.putfield 33, 3) := by decide +kernel
theorem dX10_begin_12 : decode cX10_begin 12 = .ok (.aload_n 0, 1) := by decide +kernel
theorem dX10_begin_13 : decode cX10_begin 13 = .ok (.aload_n 1, 1) := by decide +kernel
theorem dX10_begin_14 : decode cX10_begin 14 = .ok (.getfield 21, 3) := by decide +kernel
theorem dX10_begin_17 : decode cX10_begin 17 = .ok (.iconst 1, 1) := by decide +kernel
theorem dX10_begin_18 : decode cX10_begin 18 = .ok (.invokevirtual 27, 3) := by decide +kernel
theorem dX10_begin_21 : decode cX10_begin 21 = .ok (.putfield 37, 3) := by decide +kernel
theorem dX10_begin_24 : decode cX10_begin 24 = .ok (.aload_n 0, 1) := by decide +kernel
theorem dX10_begin_25 : decode cX10_begin 25 = .ok (.aload_n 1, 1) := by decide +kernel
theorem dX10_begin_26 : decode cX10_begin 26 = .ok (.getfield 21, 3) := by decide +kernel
theorem dX10_begin_29 : decode cX10_begin 29 = .ok (.iconst 2, 1) := by decide +kernel
theorem dX10_begin_30 : decode cX10_begin 30 = .ok (.invokevirtual 27, 3) := by decide +kernel
theorem dX10_begin_33 : decode cX10_begin 33 = .ok (.putfield 40, 3) := by decide +kernel
theorem dX10_begin_36 : decode cX10_begin 36 = .ok (.aload_n 1, 1) := by decide +kernel
theorem dX10_begin_37 : decode cX10_begin 37 = .ok (.getfield 43, 3) := by decide +kernel
theorem dX10_begin_40 : decode cX10_begin 40 = .ok (.iconst 3, 1) := by decide +kernel
theorem dX10_begin_41 : decode cX10_begin 41 = .ok (.if_icmp .ne 7, 3) := by decide +kernel
theorem dX10_begin_44 : decode cX10_begin 44 = .ok (.iconst 1, 1) := by decide +kernel
theorem dX10_begin_45 : decode cX10_begin 45 = .ok (.goto 4, 3) := by decide +kernel
theorem dX10_begin_48 : decode cX10_begin 48 = .ok (.iconst 0, 1) := by decide +kernel
theorem dX10_begin_49 : decode cX10_begin 49 = .ok (.istore_n 2, 1) := by decide +kernel
theorem dX10_begin_50 : decode cX10_begin 50 = .ok (.aload_n 0, 1) := by decide +kernel
theorem dX10_begin_51 : decode cX10_begin 51 = .ok (.getfield 9, 3) := by decide +kernel
theorem dX10_begin_54 : decode cX10_begin 54 = .ok (.aload_n 0, 1) := by decide +kernel
theorem dX10_begin_55 : decode cX10_begin 55 = .ok (.getfield 33, 3) := by decide +kernel
theorem dX10_begin_58 : decode cX10_begin 58 = .ok (.aload_n 0, 1) := by decide +kernel
theorem dX10_begin_59 : decode cX10_begin 59 = .ok (.getfield 37, 3) := by decide +kernel
theorem dX10_begin_62 : decode cX10_begin 62 = .ok (.invokestatic 46, 3) := by decide +kernel
theorem dX10_begin_65 : decode cX10_begin 65 = .ok (.aload_n 0, 1) := by decide +kernel
theorem dX10_begin_66 : decode cX10_begin 66 = .ok (.getfield 15, 3) := by decide +kernel
theorem dX10_begin_69 : decode cX10_begin 69 = .ok (.iload_n 2, 1) := by decide +kernel
theorem dX10_begin_70 : decode cX10_begin 70 = .ok (.ifCond .eq 10, 3) := by decide +kernel
theorem dX10_begin_73 : decode cX10_begin 73 = .ok (.aload_n 0, 1) := by decide +kernel
theorem dX10_begin_74 : decode cX10_begin 74 = .ok (.getfield 33, 3) := by decide +kernel
theorem dX10_begin_77 : decode cX10_begin 77 = .ok (.goto 4, 3) := by decide +kernel
theorem dX10_begin_80 : decode cX10_begin 80 = .ok (.iconst 0, 1) := by decide +kernel
theorem dX10_begin_81 : decode cX10_begin 81 = .ok (.aload_n 0, 1) := by decide +kernel
theorem dX10_begin_82 : decode cX10_begin 82 = .ok (.getfield 40, 3) := by decide +kernel
theorem dX10_begin_85 : decode cX10_begin 85 = .ok (.invokestatic 46, 3) := by decide +kernel
theorem dX10_begin_88 : decode cX10_begin 88 = .ok (.aload_n 0, 1) := by decide +kernel
theorem dX10_begin_89 : decode cX10_begin 89 = .ok (.getfield 18, 3) := by decide +kernel
theorem dX10_begin_92 : decode cX10_begin 92 = .ok (.iload_n 2, 1) := by decide +kernel
theorem dX10_begin_93 : decode cX10_begin 93 = .ok (.ifCond .eq 10, 3) := by decide +kernel
theorem dX10_begin_96 : decode cX10_begin 96 = .ok (.aload_n 0, 1) := by decide +kernel
theorem dX10_begin_97 : decode cX10_begin 97 = .ok (.getfield 37, 3) := by decide +kernel
theorem dX10_begin_100 : decode cX10_begin 100 = .ok (.goto 4, 3) := by decide +kernel
theorem dX10_begin_103 : decode cX10_begin 103 = .ok (.iconst 0, 1) := by decide +kernel
theorem dX10_begin_104 : decode cX10_begin 104 = .ok (.aload_n 0, 1) := by decide +kernel
theorem dX10_begin_105 : decode cX10_begin 105 = .ok (.getfield 40, 3) := by decide +kernel
theorem dX10_begin_108 : decode cX10_begin 108 = .ok (.invokestatic 46, 3) := by decide +kernel
theorem dX10_begin_111 : decode cX10_begin 111 = .ok (.return_, 1) := by decide +kernel
theorem dX10_strikeTable_0 : decode cX10_strikeTable 0 = .ok (.iconst 0, 1) := by decide +kernel
theorem dX10_strikeTable_1 : decode cX10_strikeTable 1 = .ok (.istore_n 3, 1) := by decide +kernel
theorem dX10_strikeTable_2 : decode cX10_strikeTable 2 = .ok (.iload_n 3, 1) := by decide +kernel
theorem dX10_strikeTable_3 : decode cX10_strikeTable 3 = .ok (.aload_n 2, 1) := by decide +kernel
theorem dX10_strikeTable_4 : decode cX10_strikeTable 4 = .ok (.getfield 50, 3) := by decide +kernel
theorem dX10_strikeTable_7 : decode cX10_strikeTable 7 = .ok (.if_icmp .ge 55, 3) := by decide +kernel
theorem dX10_strikeTable_10 : decode cX10_strikeTable 10 = .ok (.aload_n 2, 1) := by decide +kernel
theorem dX10_strikeTable_11 : decode cX10_strikeTable 11 = .ok (.iload_n 3, 1) := by decide +kernel
theorem dX10_strikeTable_12 : decode cX10_strikeTable 12 = .ok (.invokevirtual 55, 3) := by decide +kernel
theorem dX10_strikeTable_15 : decode cX10_strikeTable 15 = .ok (.getfield 59, 3) := by decide +kernel
theorem dX10_strikeTable_18 : decode cX10_strikeTable 18 = .ok (.astore 4, 2) := by decide +kernel
theorem dX10_strikeTable_20 : decode cX10_strikeTable 20 = .ok (.aload_n 0, 1) := by decide +kernel
theorem dX10_strikeTable_21 : decode cX10_strikeTable 21 = .ok (.getfield 9, 3) := by decide +kernel
theorem dX10_strikeTable_24 : decode cX10_strikeTable 24 = .ok (.aload_n 1, 1) := by decide +kernel
theorem dX10_strikeTable_25 : decode cX10_strikeTable 25 = .ok (.aload 4, 2) := by decide +kernel
theorem dX10_strikeTable_27 : decode cX10_strikeTable 27 = .ok (.iconst 0, 1) := by decide +kernel
theorem dX10_strikeTable_28 : decode cX10_strikeTable 28 = .ok (.iconst 1, 1) := by decide +kernel
theorem dX10_strikeTable_29 : decode cX10_strikeTable 29 = .ok (.invokestatic 62, 3) := by decide +kernel
theorem dX10_strikeTable_32 : decode cX10_strikeTable 32 = .ok (.aload_n 0, 1) := by decide +kernel
theorem dX10_strikeTable_33 : decode cX10_strikeTable 33 = .ok (.getfield 15, 3) := by decide +kernel
theorem dX10_strikeTable_36 : decode cX10_strikeTable 36 = .ok (.aload_n 1, 1) := by decide +kernel
theorem dX10_strikeTable_37 : decode cX10_strikeTable 37 = .ok (.aload 4, 2) := by decide +kernel
theorem dX10_strikeTable_39 : decode cX10_strikeTable 39 = .ok (.iconst 0, 1) := by decide +kernel
theorem dX10_strikeTable_40 : decode cX10_strikeTable 40 = .ok (.iconst 2, 1) := by decide +kernel
theorem dX10_strikeTable_41 : decode cX10_strikeTable 41 = .ok (.invokestatic 62, 3) := by decide +kernel
theorem dX10_strikeTable_44 : decode cX10_strikeTable 44 = .ok (.aload_n 0, 1) := by decide +kernel
theorem dX10_strikeTable_45 : decode cX10_strikeTable 45 = .ok (.getfield 18, 3) := by decide +kernel
theorem dX10_strikeTable_48 : decode cX10_strikeTable 48 = .ok (.aload_n 1, 1) := by decide +kernel
theorem dX10_strikeTable_49 : decode cX10_strikeTable 49 = .ok (.aload 4, 2) := by decide +kernel
theorem dX10_strikeTable_51 : decode cX10_strikeTable 51 = .ok (.iconst 1, 1) := by decide +kernel
theorem dX10_strikeTable_52 : decode cX10_strikeTable 52 = .ok (.iconst 2, 1) := by decide +kernel
theorem dX10_strikeTable_53 : decode cX10_strikeTable 53 = .ok (.invokestatic 62, 3) := by decide +kernel
theorem dX10_strikeTable_56 : decode cX10_strikeTable 56 = .ok (.iinc 3 1, 3) := by decide +kernel
theorem dX10_strikeTable_59 : decode cX10_strikeTable 59 = .ok (.goto (-57), 3) := by decide +kernel
theorem dX10_strikeTable_62 : decode cX10_strikeTable 62 = .ok (.return_, 1) := by decide +kernel
theorem dX10_pairCount_0 : decode cX10_pairCount 0 = .ok (.aload_n 0, 1) := by decide +kernel
theorem dX10_pairCount_1 : decode cX10_pairCount 1 = .ok (.getfield 9, 3) := by decide +kernel
theorem dX10_pairCount_4 : decode cX10_pairCount 4 = .ok (.invokestatic 66, 3) := by decide +kernel
theorem dX10_pairCount_7 : decode cX10_pairCount 7 = .ok (.aload_n 0, 1) := by decide +kernel
theorem dX10_pairCount_8 : decode cX10_pairCount 8 = .ok (.getfield 15, 3) := by decide +kernel
theorem dX10_pairCount_11 : decode cX10_pairCount 11 = .ok (.invokestatic 66, 3) := by decide +kernel
theorem dX10_pairCount_14 : decode cX10_pairCount 14 = .ok (.iadd, 1) := by decide +kernel
theorem dX10_pairCount_15 : decode cX10_pairCount 15 = .ok (.aload_n 0, 1) := by decide +kernel
theorem dX10_pairCount_16 : decode cX10_pairCount 16 = .ok (.getfield 18, 3) := by decide +kernel
theorem dX10_pairCount_19 : decode cX10_pairCount 19 = .ok (.invokestatic 66, 3) := by decide +kernel
theorem dX10_pairCount_22 : decode cX10_pairCount 22 = .ok (.iadd, 1) := by decide +kernel
theorem dX10_pairCount_23 : decode cX10_pairCount 23 = .ok (.ireturn, 1) := by decide +kernel
theorem dX10_bestRow_0 : decode cX10_bestRow 0 = .ok (.iconst (-1), 1) := by decide +kernel
theorem dX10_bestRow_1 : decode cX10_bestRow 1 = .ok (.istore_n 1, 1) := by decide +kernel
theorem dX10_bestRow_2 : decode cX10_bestRow 2 = .ok (.iconst 0, 1) := by decide +kernel
theorem dX10_bestRow_3 : decode cX10_bestRow 3 = .ok (.istore_n 2, 1) := by decide +kernel
theorem dX10_bestRow_4 : decode cX10_bestRow 4 = .ok (.iconst 0, 1) := by decide +kernel
theorem dX10_bestRow_5 : decode cX10_bestRow 5 = .ok (.istore_n 3, 1) := by decide +kernel
theorem dX10_bestRow_6 : decode cX10_bestRow 6 = .ok (.iload_n 3, 1) := by decide +kernel
theorem dX10_bestRow_7 : decode cX10_bestRow 7 = .ok (.aload_n 0, 1) := by decide +kernel
theorem dX10_bestRow_8 : decode cX10_bestRow 8 = .ok (.getfield 33, 3) := by decide +kernel
theorem dX10_bestRow_11 : decode cX10_bestRow 11 = .ok (.if_icmp .ge 74, 3) := by decide +kernel
theorem dX10_bestRow_14 : decode cX10_bestRow 14 = .ok (.iconst 0, 1) := by decide +kernel
theorem dX10_bestRow_15 : decode cX10_bestRow 15 = .ok (.istore 4, 2) := by decide +kernel
theorem dX10_bestRow_17 : decode cX10_bestRow 17 = .ok (.iload 4, 2) := by decide +kernel
theorem dX10_bestRow_19 : decode cX10_bestRow 19 = .ok (.aload_n 0, 1) := by decide +kernel
theorem dX10_bestRow_20 : decode cX10_bestRow 20 = .ok (.getfield 37, 3) := by decide +kernel
theorem dX10_bestRow_23 : decode cX10_bestRow 23 = .ok (.if_icmp .ge 56, 3) := by decide +kernel
theorem dX10_bestRow_26 : decode cX10_bestRow 26 = .ok (.aload_n 0, 1) := by decide +kernel
theorem dX10_bestRow_27 : decode cX10_bestRow 27 = .ok (.iload_n 3, 1) := by decide +kernel
theorem dX10_bestRow_28 : decode cX10_bestRow 28 = .ok (.iload 4, 2) := by decide +kernel
theorem dX10_bestRow_30 : decode cX10_bestRow 30 = .ok (.invokevirtual 70, 3) := by decide +kernel
theorem dX10_bestRow_33 : decode cX10_bestRow 33 = .ok (.istore 5, 2) := by decide +kernel
theorem dX10_bestRow_35 : decode cX10_bestRow 35 = .ok (.aload_n 0, 1) := by decide +kernel
theorem dX10_bestRow_36 : decode cX10_bestRow 36 = .ok (.iload_n 3, 1) := by decide +kernel
theorem dX10_bestRow_37 : decode cX10_bestRow 37 = .ok (.iload 4, 2) := by decide +kernel
theorem dX10_bestRow_39 : decode cX10_bestRow 39 = .ok (.iload 5, 2) := by decide +kernel
theorem dX10_bestRow_41 : decode cX10_bestRow 41 = .ok (.invokevirtual 74, 3) := by decide +kernel
theorem dX10_bestRow_44 : decode cX10_bestRow 44 = .ok (.istore 6, 2) := by decide +kernel
theorem dX10_bestRow_46 : decode cX10_bestRow 46 = .ok (.iload 6, 2) := by decide +kernel
theorem dX10_bestRow_48 : decode cX10_bestRow 48 = .ok (.iload_n 2, 1) := by decide +kernel
theorem dX10_bestRow_49 : decode cX10_bestRow 49 = .ok (.if_icmp .le 24, 3) := by decide +kernel
theorem dX10_bestRow_52 : decode cX10_bestRow 52 = .ok (.iload 6, 2) := by decide +kernel
theorem dX10_bestRow_54 : decode cX10_bestRow 54 = .ok (.istore_n 2, 1) := by decide +kernel
theorem dX10_bestRow_55 : decode cX10_bestRow 55 = .ok (.iload_n 3, 1) := by decide +kernel
theorem dX10_bestRow_56 : decode cX10_bestRow 56 = .ok (.aload_n 0, 1) := by decide +kernel
theorem dX10_bestRow_57 : decode cX10_bestRow 57 = .ok (.getfield 37, 3) := by decide +kernel
theorem dX10_bestRow_60 : decode cX10_bestRow 60 = .ok (.imul, 1) := by decide +kernel
theorem dX10_bestRow_61 : decode cX10_bestRow 61 = .ok (.iload 4, 2) := by decide +kernel
theorem dX10_bestRow_63 : decode cX10_bestRow 63 = .ok (.iadd, 1) := by decide +kernel
theorem dX10_bestRow_64 : decode cX10_bestRow 64 = .ok (.aload_n 0, 1) := by decide +kernel
theorem dX10_bestRow_65 : decode cX10_bestRow 65 = .ok (.getfield 40, 3) := by decide +kernel
theorem dX10_bestRow_68 : decode cX10_bestRow 68 = .ok (.imul, 1) := by decide +kernel
theorem dX10_bestRow_69 : decode cX10_bestRow 69 = .ok (.iload 5, 2) := by decide +kernel
theorem dX10_bestRow_71 : decode cX10_bestRow 71 = .ok (.iadd, 1) := by decide +kernel
theorem dX10_bestRow_72 : decode cX10_bestRow 72 = .ok (.istore_n 1, 1) := by decide +kernel
theorem dX10_bestRow_73 : decode cX10_bestRow 73 = .ok (.iinc 4 1, 3) := by decide +kernel
theorem dX10_bestRow_76 : decode cX10_bestRow 76 = .ok (.goto (-59), 3) := by decide +kernel
theorem dX10_bestRow_79 : decode cX10_bestRow 79 = .ok (.iinc 3 1, 3) := by decide +kernel
theorem dX10_bestRow_82 : decode cX10_bestRow 82 = .ok (.goto (-76), 3) := by decide +kernel
theorem dX10_bestRow_85 : decode cX10_bestRow 85 = .ok (.iload_n 1, 1) := by decide +kernel
theorem dX10_bestRow_86 : decode cX10_bestRow 86 = .ok (.ireturn, 1) := by decide +kernel
theorem dX10_bestThird_0 : decode cX10_bestThird 0 = .ok (.aload_n 0, 1) := by decide +kernel
theorem dX10_bestThird_1 : decode cX10_bestThird 1 = .ok (.getfield 15, 3) := by decide +kernel
theorem dX10_bestThird_4 : decode cX10_bestThird 4 = .ok (.iload_n 1, 1) := by decide +kernel
theorem dX10_bestThird_5 : decode cX10_bestThird 5 = .ok (.invokestatic 78, 3) := by decide +kernel
theorem dX10_bestThird_8 : decode cX10_bestThird 8 = .ok (.lstore_n 3, 1) := by decide +kernel
theorem dX10_bestThird_9 : decode cX10_bestThird 9 = .ok (.aload_n 0, 1) := by decide +kernel
theorem dX10_bestThird_10 : decode cX10_bestThird 10 = .ok (.getfield 18, 3) := by decide +kernel
theorem dX10_bestThird_13 : decode cX10_bestThird 13 = .ok (.iload_n 2, 1) := by decide +kernel
theorem dX10_bestThird_14 : decode cX10_bestThird 14 = .ok (.invokestatic 78, 3) := by decide +kernel
theorem dX10_bestThird_17 : decode cX10_bestThird 17 = .ok (.lstore 5, 2) := by decide +kernel
theorem dX10_bestThird_19 : decode cX10_bestThird 19 = .ok (.lload_n 3, 1) := by decide +kernel
theorem dX10_bestThird_20 : decode cX10_bestThird 20 = .ok (.lload 5, 2) := by decide +kernel
theorem dX10_bestThird_22 : decode cX10_bestThird 22 = .ok (.land, 1) := by decide +kernel
theorem dX10_bestThird_23 : decode cX10_bestThird 23 = .ok (.lstore 7, 2) := by decide +kernel
theorem dX10_bestThird_25 : decode cX10_bestThird 25 = .ok (.lload 7, 2) := by decide +kernel
theorem dX10_bestThird_27 : decode cX10_bestThird 27 = .ok (.lconst 0, 1) := by decide +kernel
theorem dX10_bestThird_28 : decode cX10_bestThird 28 = .ok (.lcmp, 1) := by decide +kernel
theorem dX10_bestThird_29 : decode cX10_bestThird 29 = .ok (.ifCond .ne 10, 3) := by decide +kernel
theorem dX10_bestThird_32 : decode cX10_bestThird 32 = .ok (.lload_n 3, 1) := by decide +kernel
theorem dX10_bestThird_33 : decode cX10_bestThird 33 = .ok (.lload 5, 2) := by decide +kernel
theorem dX10_bestThird_35 : decode cX10_bestThird 35 = .ok (.lor, 1) := by decide +kernel
theorem dX10_bestThird_36 : decode cX10_bestThird 36 = .ok (.goto 5, 3) := by decide +kernel
theorem dX10_bestThird_39 : decode cX10_bestThird 39 = .ok (.lload 7, 2) := by decide +kernel
theorem dX10_bestThird_41 : decode cX10_bestThird 41 = .ok (.invokestatic 82, 3) := by decide +kernel
theorem dX10_bestThird_44 : decode cX10_bestThird 44 = .ok (.ireturn, 1) := by decide +kernel
theorem dX10_pairsIn_0 : decode cX10_pairsIn 0 = .ok (.aload_n 0, 1) := by decide +kernel
theorem dX10_pairsIn_1 : decode cX10_pairsIn 1 = .ok (.getfield 9, 3) := by decide +kernel
theorem dX10_pairsIn_4 : decode cX10_pairsIn 4 = .ok (.iload_n 1, 1) := by decide +kernel
theorem dX10_pairsIn_5 : decode cX10_pairsIn 5 = .ok (.iload_n 2, 1) := by decide +kernel
theorem dX10_pairsIn_6 : decode cX10_pairsIn 6 = .ok (.invokestatic 86, 3) := by decide +kernel
theorem dX10_pairsIn_9 : decode cX10_pairsIn 9 = .ok (.aload_n 0, 1) := by decide +kernel
theorem dX10_pairsIn_10 : decode cX10_pairsIn 10 = .ok (.getfield 15, 3) := by decide +kernel
theorem dX10_pairsIn_13 : decode cX10_pairsIn 13 = .ok (.iload_n 1, 1) := by decide +kernel
theorem dX10_pairsIn_14 : decode cX10_pairsIn 14 = .ok (.iload_n 3, 1) := by decide +kernel
theorem dX10_pairsIn_15 : decode cX10_pairsIn 15 = .ok (.invokestatic 86, 3) := by decide +kernel
theorem dX10_pairsIn_18 : decode cX10_pairsIn 18 = .ok (.iadd, 1) := by decide +kernel
theorem dX10_pairsIn_19 : decode cX10_pairsIn 19 = .ok (.aload_n 0, 1) := by decide +kernel
theorem dX10_pairsIn_20 : decode cX10_pairsIn 20 = .ok (.getfield 18, 3) := by decide +kernel
theorem dX10_pairsIn_23 : decode cX10_pairsIn 23 = .ok (.iload_n 2, 1) := by decide +kernel
theorem dX10_pairsIn_24 : decode cX10_pairsIn 24 = .ok (.iload_n 3, 1) := by decide +kernel
theorem dX10_pairsIn_25 : decode cX10_pairsIn 25 = .ok (.invokestatic 86, 3) := by decide +kernel
theorem dX10_pairsIn_28 : decode cX10_pairsIn 28 = .ok (.iadd, 1) := by decide +kernel
theorem dX10_pairsIn_29 : decode cX10_pairsIn 29 = .ok (.ireturn, 1) := by decide +kernel
theorem dX10_fill_0 : decode cX10_fill 0 = .ok (.iconst 0, 1) := by decide +kernel
theorem dX10_fill_1 : decode cX10_fill 1 = .ok (.istore_n 3, 1) := by decide +kernel
theorem dX10_fill_2 : decode cX10_fill 2 = .ok (.iload_n 3, 1) := by decide +kernel
theorem dX10_fill_3 : decode cX10_fill 3 = .ok (.aload_n 0, 1) := by decide +kernel
theorem dX10_fill_4 : decode cX10_fill 4 = .ok (.arraylength, 1) := by decide +kernel
theorem dX10_fill_5 : decode cX10_fill 5 = .ok (.if_icmp .ge 25, 3) := by decide +kernel
theorem dX10_fill_8 : decode cX10_fill 8 = .ok (.aload_n 0, 1) := by decide +kernel
theorem dX10_fill_9 : decode cX10_fill 9 = .ok (.iload_n 3, 1) := by decide +kernel
theorem dX10_fill_10 : decode cX10_fill 10 = .ok (.iload_n 3, 1) := by decide +kernel
theorem dX10_fill_11 : decode cX10_fill 11 = .ok (.iload_n 1, 1) := by decide +kernel
theorem dX10_fill_12 : decode cX10_fill 12 = .ok (.if_icmp .ge 10, 3) := by decide +kernel
theorem dX10_fill_15 : decode cX10_fill 15 = .ok (.iload_n 2, 1) := by decide +kernel
theorem dX10_fill_16 : decode cX10_fill 16 = .ok (.invokestatic 90, 3) := by decide +kernel
theorem dX10_fill_19 : decode cX10_fill 19 = .ok (.goto 4, 3) := by decide +kernel
theorem dX10_fill_22 : decode cX10_fill 22 = .ok (.lconst 0, 1) := by decide +kernel
theorem dX10_fill_23 : decode cX10_fill 23 = .ok (.lastore, 1) := by decide +kernel
theorem dX10_fill_24 : decode cX10_fill 24 = .ok (.iinc 3 1, 3) := by decide +kernel
theorem dX10_fill_27 : decode cX10_fill 27 = .ok (.goto (-25), 3) := by decide +kernel
theorem dX10_fill_30 : decode cX10_fill 30 = .ok (.return_, 1) := by decide +kernel
theorem dX10_strike_0 : decode cX10_strike 0 = .ok (.aload_n 2, 1) := by decide +kernel
theorem dX10_strike_1 : decode cX10_strike 1 = .ok (.iload 4, 2) := by decide +kernel
theorem dX10_strike_3 : decode cX10_strike 3 = .ok (.invokevirtual 94, 3) := by decide +kernel
theorem dX10_strike_6 : decode cX10_strike 6 = .ok (.aload_n 1, 1) := by decide +kernel
theorem dX10_strike_7 : decode cX10_strike 7 = .ok (.iload 4, 2) := by decide +kernel
theorem dX10_strike_9 : decode cX10_strike 9 = .ok (.invokevirtual 97, 3) := by decide +kernel
theorem dX10_strike_12 : decode cX10_strike 12 = .ok (.isub, 1) := by decide +kernel
theorem dX10_strike_13 : decode cX10_strike 13 = .ok (.iconst 1, 1) := by decide +kernel
theorem dX10_strike_14 : decode cX10_strike 14 = .ok (.iadd, 1) := by decide +kernel
theorem dX10_strike_15 : decode cX10_strike 15 = .ok (.invokestatic 90, 3) := by decide +kernel
theorem dX10_strike_18 : decode cX10_strike 18 = .ok (.aload_n 2, 1) := by decide +kernel
theorem dX10_strike_19 : decode cX10_strike 19 = .ok (.iload 4, 2) := by decide +kernel
theorem dX10_strike_21 : decode cX10_strike 21 = .ok (.invokevirtual 97, 3) := by decide +kernel
theorem dX10_strike_24 : decode cX10_strike 24 = .ok (.aload_n 1, 1) := by decide +kernel
theorem dX10_strike_25 : decode cX10_strike 25 = .ok (.iload 4, 2) := by decide +kernel
theorem dX10_strike_27 : decode cX10_strike 27 = .ok (.invokevirtual 97, 3) := by decide +kernel
theorem dX10_strike_30 : decode cX10_strike 30 = .ok (.isub, 1) := by decide +kernel
theorem dX10_strike_31 : decode cX10_strike 31 = .ok (.invokestatic 90, 3) := by decide +kernel
theorem dX10_strike_34 : decode cX10_strike 34 = .ok (.ldc2_w 100, 3) := by decide +kernel
theorem dX10_strike_37 : decode cX10_strike 37 = .ok (.lxor, 1) := by decide +kernel
theorem dX10_strike_38 : decode cX10_strike 38 = .ok (.land, 1) := by decide +kernel
theorem dX10_strike_39 : decode cX10_strike 39 = .ok (.lstore 5, 2) := by decide +kernel
theorem dX10_strike_41 : decode cX10_strike 41 = .ok (.aload_n 2, 1) := by decide +kernel
theorem dX10_strike_42 : decode cX10_strike 42 = .ok (.iload_n 3, 1) := by decide +kernel
theorem dX10_strike_43 : decode cX10_strike 43 = .ok (.invokevirtual 94, 3) := by decide +kernel
theorem dX10_strike_46 : decode cX10_strike 46 = .ok (.aload_n 1, 1) := by decide +kernel
theorem dX10_strike_47 : decode cX10_strike 47 = .ok (.iload_n 3, 1) := by decide +kernel
theorem dX10_strike_48 : decode cX10_strike 48 = .ok (.invokevirtual 97, 3) := by decide +kernel
theorem dX10_strike_51 : decode cX10_strike 51 = .ok (.isub, 1) := by decide +kernel
theorem dX10_strike_52 : decode cX10_strike 52 = .ok (.istore 7, 2) := by decide +kernel
theorem dX10_strike_54 : decode cX10_strike 54 = .ok (.aload_n 2, 1) := by decide +kernel
theorem dX10_strike_55 : decode cX10_strike 55 = .ok (.iload_n 3, 1) := by decide +kernel
theorem dX10_strike_56 : decode cX10_strike 56 = .ok (.invokevirtual 97, 3) := by decide +kernel
theorem dX10_strike_59 : decode cX10_strike 59 = .ok (.aload_n 1, 1) := by decide +kernel
theorem dX10_strike_60 : decode cX10_strike 60 = .ok (.iload_n 3, 1) := by decide +kernel
theorem dX10_strike_61 : decode cX10_strike 61 = .ok (.invokevirtual 97, 3) := by decide +kernel
theorem dX10_strike_64 : decode cX10_strike 64 = .ok (.isub, 1) := by decide +kernel
theorem dX10_strike_65 : decode cX10_strike 65 = .ok (.istore 8, 2) := by decide +kernel
theorem dX10_strike_67 : decode cX10_strike 67 = .ok (.iload 8, 2) := by decide +kernel
theorem dX10_strike_69 : decode cX10_strike 69 = .ok (.iload 7, 2) := by decide +kernel
theorem dX10_strike_71 : decode cX10_strike 71 = .ok (.if_icmp .gt 34, 3) := by decide +kernel
theorem dX10_strike_74 : decode cX10_strike 74 = .ok (.iload 8, 2) := by decide +kernel
theorem dX10_strike_76 : decode cX10_strike 76 = .ok (.ifCond .lt 23, 3) := by decide +kernel
theorem dX10_strike_79 : decode cX10_strike 79 = .ok (.iload 8, 2) := by decide +kernel
theorem dX10_strike_81 : decode cX10_strike 81 = .ok (.aload_n 0, 1) := by decide +kernel
theorem dX10_strike_82 : decode cX10_strike 82 = .ok (.arraylength, 1) := by decide +kernel
theorem dX10_strike_83 : decode cX10_strike 83 = .ok (.if_icmp .ge 16, 3) := by decide +kernel
theorem dX10_strike_86 : decode cX10_strike 86 = .ok (.aload_n 0, 1) := by decide +kernel
theorem dX10_strike_87 : decode cX10_strike 87 = .ok (.iload 8, 2) := by decide +kernel
theorem dX10_strike_89 : decode cX10_strike 89 = .ok (.dup2, 1) := by decide +kernel
theorem dX10_strike_90 : decode cX10_strike 90 = .ok (.laload, 1) := by decide +kernel
theorem dX10_strike_91 : decode cX10_strike 91 = .ok (.lload 5, 2) := by decide +kernel
theorem dX10_strike_93 : decode cX10_strike 93 = .ok (.ldc2_w 100, 3) := by decide +kernel
theorem dX10_strike_96 : decode cX10_strike 96 = .ok (.lxor, 1) := by decide +kernel
theorem dX10_strike_97 : decode cX10_strike 97 = .ok (.land, 1) := by decide +kernel
theorem dX10_strike_98 : decode cX10_strike 98 = .ok (.lastore, 1) := by decide +kernel
theorem dX10_strike_99 : decode cX10_strike 99 = .ok (.iinc 8 1, 3) := by decide +kernel
theorem dX10_strike_102 : decode cX10_strike 102 = .ok (.goto (-35), 3) := by decide +kernel
theorem dX10_strike_105 : decode cX10_strike 105 = .ok (.return_, 1) := by decide +kernel
theorem dX10_lowestBit_0 : decode cX10_lowestBit 0 = .ok (.lload_n 0, 1) := by decide +kernel
theorem dX10_lowestBit_1 : decode cX10_lowestBit 1 = .ok (.lconst 0, 1) := by decide +kernel
theorem dX10_lowestBit_2 : decode cX10_lowestBit 2 = .ok (.lcmp, 1) := by decide +kernel
theorem dX10_lowestBit_3 : decode cX10_lowestBit 3 = .ok (.ifCond .ne 7, 3) := by decide +kernel
theorem dX10_lowestBit_6 : decode cX10_lowestBit 6 = .ok (.iconst 0, 1) := by decide +kernel
theorem dX10_lowestBit_7 : decode cX10_lowestBit 7 = .ok (.goto 12, 3) := by decide +kernel
theorem dX10_lowestBit_10 : decode cX10_lowestBit 10 = .ok (.lload_n 0, 1) := by decide +kernel
theorem dX10_lowestBit_11 : decode cX10_lowestBit 11 = .ok (.lload_n 0, 1) := by decide +kernel
theorem dX10_lowestBit_12 : decode cX10_lowestBit 12 = .ok (.lneg, 1) := by decide +kernel
theorem dX10_lowestBit_13 : decode cX10_lowestBit 13 = .ok (.land, 1) := by decide +kernel
theorem dX10_lowestBit_14 : decode cX10_lowestBit 14 = .ok (.lconst 1, 1) := by decide +kernel
theorem dX10_lowestBit_15 : decode cX10_lowestBit 15 = .ok (.lsub, 1) := by decide +kernel
theorem dX10_lowestBit_16 : decode cX10_lowestBit 16 = .ok (.invokestatic 102, 3) := by decide +kernel
theorem dX10_lowestBit_19 : decode cX10_lowestBit 19 = .ok (.ireturn, 1) := by decide +kernel
theorem dX10_upTo_0 : decode cX10_upTo 0 = .ok (.lconst 1, 1) := by decide +kernel
theorem dX10_upTo_1 : decode cX10_upTo 1 = .ok (.iload_n 0, 1) := by decide +kernel
theorem dX10_upTo_2 : decode cX10_upTo 2 = .ok (.lshl, 1) := by decide +kernel
theorem dX10_upTo_3 : decode cX10_upTo 3 = .ok (.lconst 1, 1) := by decide +kernel
theorem dX10_upTo_4 : decode cX10_upTo 4 = .ok (.lsub, 1) := by decide +kernel
theorem dX10_upTo_5 : decode cX10_upTo 5 = .ok (.lreturn, 1) := by decide +kernel
theorem dX10_bits_0 : decode cX10_bits 0 = .ok (.iconst 0, 1) := by decide +kernel
theorem dX10_bits_1 : decode cX10_bits 1 = .ok (.istore_n 1, 1) := by decide +kernel
theorem dX10_bits_2 : decode cX10_bits 2 = .ok (.iconst 0, 1) := by decide +kernel
theorem dX10_bits_3 : decode cX10_bits 3 = .ok (.istore_n 2, 1) := by decide +kernel
theorem dX10_bits_4 : decode cX10_bits 4 = .ok (.iload_n 2, 1) := by decide +kernel
theorem dX10_bits_5 : decode cX10_bits 5 = .ok (.aload_n 0, 1) := by decide +kernel
theorem dX10_bits_6 : decode cX10_bits 6 = .ok (.arraylength, 1) := by decide +kernel
theorem dX10_bits_7 : decode cX10_bits 7 = .ok (.if_icmp .ge 18, 3) := by decide +kernel
theorem dX10_bits_10 : decode cX10_bits 10 = .ok (.iload_n 1, 1) := by decide +kernel
theorem dX10_bits_11 : decode cX10_bits 11 = .ok (.aload_n 0, 1) := by decide +kernel
theorem dX10_bits_12 : decode cX10_bits 12 = .ok (.iload_n 2, 1) := by decide +kernel
theorem dX10_bits_13 : decode cX10_bits 13 = .ok (.laload, 1) := by decide +kernel
theorem dX10_bits_14 : decode cX10_bits 14 = .ok (.invokestatic 102, 3) := by decide +kernel
theorem dX10_bits_17 : decode cX10_bits 17 = .ok (.iadd, 1) := by decide +kernel
theorem dX10_bits_18 : decode cX10_bits 18 = .ok (.istore_n 1, 1) := by decide +kernel
theorem dX10_bits_19 : decode cX10_bits 19 = .ok (.iinc 2 1, 3) := by decide +kernel
theorem dX10_bits_22 : decode cX10_bits 22 = .ok (.goto (-18), 3) := by decide +kernel
theorem dX10_bits_25 : decode cX10_bits 25 = .ok (.iload_n 1, 1) := by decide +kernel
theorem dX10_bits_26 : decode cX10_bits 26 = .ok (.ireturn, 1) := by decide +kernel
theorem dX10_maskAt_0 : decode cX10_maskAt 0 = .ok (.iload_n 1, 1) := by decide +kernel
theorem dX10_maskAt_1 : decode cX10_maskAt 1 = .ok (.ifCond .lt 15, 3) := by decide +kernel
theorem dX10_maskAt_4 : decode cX10_maskAt 4 = .ok (.iload_n 1, 1) := by decide +kernel
theorem dX10_maskAt_5 : decode cX10_maskAt 5 = .ok (.aload_n 0, 1) := by decide +kernel
theorem dX10_maskAt_6 : decode cX10_maskAt 6 = .ok (.arraylength, 1) := by decide +kernel
theorem dX10_maskAt_7 : decode cX10_maskAt 7 = .ok (.if_icmp .ge 9, 3) := by decide +kernel
theorem dX10_maskAt_10 : decode cX10_maskAt 10 = .ok (.aload_n 0, 1) := by decide +kernel
theorem dX10_maskAt_11 : decode cX10_maskAt 11 = .ok (.iload_n 1, 1) := by decide +kernel
theorem dX10_maskAt_12 : decode cX10_maskAt 12 = .ok (.laload, 1) := by decide +kernel
theorem dX10_maskAt_13 : decode cX10_maskAt 13 = .ok (.goto 4, 3) := by decide +kernel
theorem dX10_maskAt_16 : decode cX10_maskAt 16 = .ok (.lconst 0, 1) := by decide +kernel
theorem dX10_maskAt_17 : decode cX10_maskAt 17 = .ok (.lreturn, 1) := by decide +kernel
theorem dX10_bitAt_0 : decode cX10_bitAt 0 = .ok (.aload_n 0, 1) := by decide +kernel
theorem dX10_bitAt_1 : decode cX10_bitAt 1 = .ok (.iload_n 1, 1) := by decide +kernel
theorem dX10_bitAt_2 : decode cX10_bitAt 2 = .ok (.invokestatic 78, 3) := by decide +kernel
theorem dX10_bitAt_5 : decode cX10_bitAt 5 = .ok (.iload_n 2, 1) := by decide +kernel
theorem dX10_bitAt_6 : decode cX10_bitAt 6 = .ok (.lshr, 1) := by decide +kernel
theorem dX10_bitAt_7 : decode cX10_bitAt 7 = .ok (.lconst 1, 1) := by decide +kernel
theorem dX10_bitAt_8 : decode cX10_bitAt 8 = .ok (.land, 1) := by decide +kernel
theorem dX10_bitAt_9 : decode cX10_bitAt 9 = .ok (.l2i, 1) := by decide +kernel
theorem dX10_bitAt_10 : decode cX10_bitAt 10 = .ok (.ireturn, 1) := by decide +kernel
theorem dX11_init_0 : decode cX11_init 0 = .ok (.aload_n 0, 1) := by decide +kernel
theorem dX11_init_1 : decode cX11_init 1 = .ok (.invokespecial 3, 3) := by decide +kernel
theorem dX11_init_4 : decode cX11_init 4 = .ok (.aload_n 0, 1) := by decide +kernel
theorem dX11_init_5 : decode cX11_init 5 = .ok (.new 9, 3) := by decide +kernel
theorem dX11_init_8 : decode cX11_init 8 = .ok (.dup, 1) := by decide +kernel
theorem dX11_init_9 : decode cX11_init 9 = .ok (.invokespecial 11, 3) := by decide +kernel
theorem dX11_init_12 : decode cX11_init 12 = .ok (.putfield 12, 3) := by decide +kernel
theorem dX11_init_15 : decode cX11_init 15 = .ok (.aload_n 0, 1) := by decide +kernel
theorem dX11_init_16 : decode cX11_init 16 = .ok (.new 16, 3) := by decide +kernel
theorem dX11_init_19 : decode cX11_init 19 = .ok (.dup, 1) := by decide +kernel
theorem dX11_init_20 : decode cX11_init 20 = .ok (.aload_n 0, 1) := by decide +kernel
theorem dX11_init_21 : decode cX11_init 21 = .ok (.getfield 12, 3) := by decide +kernel
theorem dX11_init_24 : decode cX11_init 24 = .ok (.invokespecial 18, 3) := by decide +kernel
theorem dX11_init_27 : decode cX11_init 27 = .ok (.putfield 21, 3) := by decide +kernel
theorem dX11_init_30 : decode cX11_init 30 = .ok (.aload_n 0, 1) := by decide +kernel
theorem dX11_init_31 : decode cX11_init 31 = .ok (.new 25, 3) := by decide +kernel
theorem dX11_init_34 : decode cX11_init 34 = .ok (.dup, 1) := by decide +kernel
theorem dX11_init_35 : decode cX11_init 35 = .ok (.invokespecial 27, 3) := by decide +kernel
theorem dX11_init_38 : decode cX11_init 38 = .ok (.putfield 28, 3) := by decide +kernel
theorem dX11_init_41 : decode cX11_init 41 = .ok (.aload_n 0, 1) := by decide +kernel
theorem dX11_init_42 : decode cX11_init 42 = .ok (.new 32, 3) := by decide +kernel
theorem dX11_init_45 : decode cX11_init 45 = .ok (.dup, 1) := by decide +kernel
theorem dX11_init_46 : decode cX11_init 46 = .ok (.aload_n 0, 1) := by decide +kernel
theorem dX11_init_47 : decode cX11_init 47 = .ok (.getfield 21, 3) := by decide +kernel
theorem dX11_init_50 : decode cX11_init 50 = .ok (.aload_n 0, 1) := by decide +kernel
theorem dX11_init_51 : decode cX11_init 51 = .ok (.getfield 28, 3) := by decide +kernel
theorem dX11_init_54 : decode cX11_init 54 = .ok (.invokespecial 34, 3) := by decide +kernel
theorem dX11_init_57 : decode cX11_init 57 = .ok (.putfield 37, 3) := by decide +kernel
theorem dX11_init_60 : decode cX11_init 60 = .ok (.aload_n 0, 1) := by decide +kernel
theorem dX11_init_61 : decode cX11_init 61 = .ok (.new 41, 3) := by decide +kernel
theorem dX11_init_64 : decode cX11_init 64 = .ok (.dup, 1) := by decide +kernel
theorem dX11_init_65 : decode cX11_init 65 = .ok (.aload_n 0, 1) := by decide +kernel
theorem dX11_init_66 : decode cX11_init 66 = .ok (.getfield 28, 3) := by decide +kernel
theorem dX11_init_69 : decode cX11_init 69 = .ok (.invokespecial 43, 3) := by decide +kernel
theorem dX11_init_72 : decode cX11_init 72 = .ok (.putfield 46, 3) := by decide +kernel
theorem dX11_init_75 : decode cX11_init 75 = .ok (.aload_n 0, 1) := by decide +kernel
theorem dX11_init_76 : decode cX11_init 76 = .ok (.new 50, 3) := by decide +kernel
theorem dX11_init_79 : decode cX11_init 79 = .ok (.dup, 1) := by decide +kernel
theorem dX11_init_80 : decode cX11_init 80 = .ok (.aload_n 0, 1) := by decide +kernel
theorem dX11_init_81 : decode cX11_init 81 = .ok (.getfield 28, 3) := by decide +kernel
theorem dX11_init_84 : decode cX11_init 84 = .ok (.aload_n 0, 1) := by decide +kernel
theorem dX11_init_85 : decode cX11_init 85 = .ok (.getfield 46, 3) := by decide +kernel
theorem dX11_init_88 : decode cX11_init 88 = .ok (.invokespecial 52, 3) := by decide +kernel
theorem dX11_init_91 : decode cX11_init 91 = .ok (.putfield 55, 3) := by decide +kernel
theorem dX11_init_94 : decode cX11_init 94 = .ok (.aload_n 0, 1) := by decide +kernel
theorem dX11_init_95 : decode cX11_init 95 = .ok (.new 59, 3) := by decide +kernel
theorem dX11_init_98 : decode cX11_init 98 = .ok (.dup, 1) := by decide +kernel
theorem dX11_init_99 : decode cX11_init 99 = .ok (.invokespecial 61, 3) := by decide +kernel
theorem dX11_init_102 : decode cX11_init 102 = .ok (.putfield 62, 3) := by decide +kernel
theorem dX11_init_105 : decode cX11_init 105 = .ok (.aload_n 0, 1) := by decide +kernel
theorem dX11_init_106 : decode cX11_init 106 = .ok (.iconst (-1), 1) := by decide +kernel
theorem dX11_init_107 : decode cX11_init 107 = .ok (.putfield 66, 3) := by decide +kernel
theorem dX11_init_110 : decode cX11_init 110 = .ok (.return_, 1) := by decide +kernel
theorem dX11_feed_0 : decode cX11_feed 0 = .ok (.aload_n 0, 1) := by decide +kernel
theorem dX11_feed_1 : decode cX11_feed 1 = .ok (.getfield 12, 3) := by decide +kernel
theorem dX11_feed_4 : decode cX11_feed 4 = .ok (.invokevirtual 70, 3) := by decide +kernel
theorem dX11_feed_7 : decode cX11_feed 7 = .ok (.bipush 20, 2) := by decide +kernel
theorem dX11_feed_9 : decode cX11_feed 9 = .ok (.if_icmp .ge 11, 3) := by decide +kernel
theorem dX11_feed_12 : decode cX11_feed 12 = .ok (.new 74, 3) := by decide +kernel
theorem dX11_feed_15 : decode cX11_feed 15 = .ok (.dup, 1) := by decide +kernel
theorem dX11_feed_16 : decode cX11_feed 16 = .ok (.invokespecial 76, 3) := by decide +kernel
theorem dX11_feed_19 : decode cX11_feed 19 = .ok (.athrow, 1) := by decide +kernel
theorem dX11_feed_20 : decode cX11_feed 20 = .ok (.aload_n 0, 1) := by decide +kernel
theorem dX11_feed_21 : decode cX11_feed 21 = .ok (.getfield 12, 3) := by decide +kernel
theorem dX11_feed_24 : decode cX11_feed 24 = .ok (.iload_n 1, 1) := by decide +kernel
theorem dX11_feed_25 : decode cX11_feed 25 = .ok (.invokevirtual 77, 3) := by decide +kernel
theorem dX11_feed_28 : decode cX11_feed 28 = .ok (.aload_n 0, 1) := by decide +kernel
theorem dX11_feed_29 : decode cX11_feed 29 = .ok (.getfield 12, 3) := by decide +kernel
theorem dX11_feed_32 : decode cX11_feed 32 = .ok (.iload_n 2, 1) := by decide +kernel
theorem dX11_feed_33 : decode cX11_feed 33 = .ok (.invokevirtual 77, 3) := by decide +kernel
theorem dX11_feed_36 : decode cX11_feed 36 = .ok (.aload_n 0, 1) := by decide +kernel
theorem dX11_feed_37 : decode cX11_feed 37 = .ok (.getfield 12, 3) := by decide +kernel
theorem dX11_feed_40 : decode cX11_feed 40 = .ok (.iload_n 3, 1) := by decide +kernel
theorem dX11_feed_41 : decode cX11_feed 41 = .ok (.invokevirtual 77, 3) := by decide +kernel
theorem dX11_feed_44 : decode cX11_feed 44 = .ok (.aload_n 0, 1) := by decide +kernel
theorem dX11_feed_45 : decode cX11_feed 45 = .ok (.getfield 12, 3) := by decide +kernel
theorem dX11_feed_48 : decode cX11_feed 48 = .ok (.iload 4, 2) := by decide +kernel
theorem dX11_feed_50 : decode cX11_feed 50 = .ok (.invokevirtual 77, 3) := by decide +kernel
theorem dX11_feed_53 : decode cX11_feed 53 = .ok (.aload_n 0, 1) := by decide +kernel
theorem dX11_feed_54 : decode cX11_feed 54 = .ok (.getfield 12, 3) := by decide +kernel
theorem dX11_feed_57 : decode cX11_feed 57 = .ok (.iload 5, 2) := by decide +kernel
theorem dX11_feed_59 : decode cX11_feed 59 = .ok (.invokevirtual 77, 3) := by decide +kernel
theorem dX11_feed_62 : decode cX11_feed 62 = .ok (.aload_n 0, 1) := by decide +kernel
theorem dX11_feed_63 : decode cX11_feed 63 = .ok (.getfield 12, 3) := by decide +kernel
theorem dX11_feed_66 : decode cX11_feed 66 = .ok (.invokevirtual 81, 3) := by decide +kernel
theorem dX11_feed_69 : decode cX11_feed 69 = .ok (.ireturn, 1) := by decide +kernel
theorem dX11_trim_0 : decode cX11_trim 0 = .ok (.iload_n 1, 1) := by decide +kernel
theorem dX11_trim_1 : decode cX11_trim 1 = .ok (.ifCond .lt 14, 3) := by decide +kernel
theorem dX11_trim_4 : decode cX11_trim 4 = .ok (.iload_n 1, 1) := by decide +kernel
theorem dX11_trim_5 : decode cX11_trim 5 = .ok (.aload_n 0, 1) := by decide +kernel
theorem dX11_trim_6 : decode cX11_trim 6 = .ok (.getfield 12, 3) := by decide +kernel
theorem dX11_trim_9 : decode cX11_trim 9 = .ok (.invokevirtual 81, 3) := by decide +kernel
theorem dX11_trim_12 : decode cX11_trim 12 = .ok (.if_icmp .le 11, 3) := by decide +kernel
theorem dX11_trim_15 : decode cX11_trim 15 = .ok (.new 84, 3) := by decide +kernel
theorem dX11_trim_18 : decode cX11_trim 18 = .ok (.dup, 1) := by decide +kernel
theorem dX11_trim_19 : decode cX11_trim 19 = .ok (.invokespecial 86, 3) := by decide +kernel
theorem dX11_trim_22 : decode cX11_trim 22 = .ok (.athrow, 1) := by decide +kernel
theorem dX11_trim_23 : decode cX11_trim 23 = .ok (.aload_n 0, 1) := by decide +kernel
theorem dX11_trim_24 : decode cX11_trim 24 = .ok (.getfield 12, 3) := by decide +kernel
theorem dX11_trim_27 : decode cX11_trim 27 = .ok (.iload_n 1, 1) := by decide +kernel
theorem dX11_trim_28 : decode cX11_trim 28 = .ok (.invokevirtual 87, 3) := by decide +kernel
theorem dX11_trim_31 : decode cX11_trim 31 = .ok (.iload_n 1, 1) := by decide +kernel
theorem dX11_trim_32 : decode cX11_trim 32 = .ok (.ireturn, 1) := by decide +kernel
theorem dX11_compile_0 : decode cX11_compile 0 = .ok (.aload_n 0, 1) := by decide +kernel
theorem dX11_compile_1 : decode cX11_compile 1 = .ok (.getfield 21, 3) := by decide +kernel
theorem dX11_compile_4 : decode cX11_compile 4 = .ok (.invokevirtual 90, 3) := by decide +kernel
theorem dX11_compile_7 : decode cX11_compile 7 = .ok (.aload_n 0, 1) := by decide +kernel
theorem dX11_compile_8 : decode cX11_compile 8 = .ok (.getfield 37, 3) := by decide +kernel
theorem dX11_compile_11 : decode cX11_compile 11 = .ok (.invokevirtual 93, 3) := by decide +kernel
theorem dX11_compile_14 : decode cX11_compile 14 = .ok (.istore_n 1, 1) := by decide +kernel
theorem dX11_compile_15 : decode cX11_compile 15 = .ok (.aload_n 0, 1) := by decide +kernel
theorem dX11_compile_16 : decode cX11_compile 16 = .ok (.aload_n 0, 1) := by decide +kernel
theorem dX11_compile_17 : decode cX11_compile 17 = .ok (.getfield 37, 3) := by decide +kernel
theorem dX11_compile_20 : decode cX11_compile 20 = .ok (.invokevirtual 96, 3) := by decide +kernel
theorem dX11_compile_23 : decode cX11_compile 23 = .ok (.putfield 66, 3) := by decide +kernel
theorem dX11_compile_26 : decode cX11_compile 26 = .ok (.aload_n 0, 1) := by decide +kernel
theorem dX11_compile_27 : decode cX11_compile 27 = .ok (.getfield 55, 3) := by decide +kernel
theorem dX11_compile_30 : decode cX11_compile 30 = .ok (.invokevirtual 99, 3) := by decide +kernel
theorem dX11_compile_33 : decode cX11_compile 33 = .ok (.aload_n 0, 1) := by decide +kernel
theorem dX11_compile_34 : decode cX11_compile 34 = .ok (.getfield 12, 3) := by decide +kernel
theorem dX11_compile_37 : decode cX11_compile 37 = .ok (.iconst 0, 1) := by decide +kernel
theorem dX11_compile_38 : decode cX11_compile 38 = .ok (.invokevirtual 87, 3) := by decide +kernel
theorem dX11_compile_41 : decode cX11_compile 41 = .ok (.iload_n 1, 1) := by decide +kernel
theorem dX11_compile_42 : decode cX11_compile 42 = .ok (.ireturn, 1) := by decide +kernel
theorem dX11_count_0 : decode cX11_count 0 = .ok (.iload_n 1, 1) := by decide +kernel
theorem dX11_count_1 : decode cX11_count 1 = .ok (.tableswitch 75 0 4 #[35, 43, 51, 59, 67], 35) := by decide +kernel
theorem dX11_count_36 : decode cX11_count 36 = .ok (.aload_n 0, 1) := by decide +kernel
theorem dX11_count_37 : decode cX11_count 37 = .ok (.getfield 28, 3) := by decide +kernel
theorem dX11_count_40 : decode cX11_count 40 = .ok (.getfield 102, 3) := by decide +kernel
theorem dX11_count_43 : decode cX11_count 43 = .ok (.ireturn, 1) := by decide +kernel
theorem dX11_count_44 : decode cX11_count 44 = .ok (.aload_n 0, 1) := by decide +kernel
theorem dX11_count_45 : decode cX11_count 45 = .ok (.getfield 28, 3) := by decide +kernel
theorem dX11_count_48 : decode cX11_count 48 = .ok (.getfield 105, 3) := by decide +kernel
theorem dX11_count_51 : decode cX11_count 51 = .ok (.ireturn, 1) := by decide +kernel
theorem dX11_count_52 : decode cX11_count 52 = .ok (.aload_n 0, 1) := by decide +kernel
theorem dX11_count_53 : decode cX11_count 53 = .ok (.getfield 28, 3) := by decide +kernel
theorem dX11_count_56 : decode cX11_count 56 = .ok (.getfield 108, 3) := by decide +kernel
theorem dX11_count_59 : decode cX11_count 59 = .ok (.ireturn, 1) := by decide +kernel
theorem dX11_count_60 : decode cX11_count 60 = .ok (.aload_n 0, 1) := by decide +kernel
theorem dX11_count_61 : decode cX11_count 61 = .ok (.getfield 28, 3) := by decide +kernel
theorem dX11_count_64 : decode cX11_count 64 = .ok (.invokevirtual 111, 3) := by decide +kernel
theorem dX11_count_67 : decode cX11_count 67 = .ok (.ireturn, 1) := by decide +kernel
theorem dX11_count_68 : decode cX11_count 68 = .ok (.aload_n 0, 1) := by decide +kernel
theorem dX11_count_69 : decode cX11_count 69 = .ok (.getfield 12, 3) := by decide +kernel
theorem dX11_count_72 : decode cX11_count 72 = .ok (.invokevirtual 81, 3) := by decide +kernel
theorem dX11_count_75 : decode cX11_count 75 = .ok (.ireturn, 1) := by decide +kernel
theorem dX11_count_76 : decode cX11_count 76 = .ok (.new 114, 3) := by decide +kernel
theorem dX11_count_79 : decode cX11_count 79 = .ok (.dup, 1) := by decide +kernel
theorem dX11_count_80 : decode cX11_count 80 = .ok (.invokespecial 116, 3) := by decide +kernel
theorem dX11_count_83 : decode cX11_count 83 = .ok (.athrow, 1) := by decide +kernel
theorem dX11_fun_0 : decode cX11_fun 0 = .ok (.aload_n 0, 1) := by decide +kernel
theorem dX11_fun_1 : decode cX11_fun 1 = .ok (.iload_n 1, 1) := by decide +kernel
theorem dX11_fun_2 : decode cX11_fun 2 = .ok (.invokevirtual 117, 3) := by decide +kernel
theorem dX11_fun_5 : decode cX11_fun 5 = .ok (.astore_n 3, 1) := by decide +kernel
theorem dX11_fun_6 : decode cX11_fun 6 = .ok (.iload_n 2, 1) := by decide +kernel
theorem dX11_fun_7 : decode cX11_fun 7 = .ok (.tableswitch 82 0 5 #[37, 42, 47, 56, 64, 69], 37) := by decide +kernel
theorem dX11_fun_44 : decode cX11_fun 44 = .ok (.aload_n 3, 1) := by decide +kernel
theorem dX11_fun_45 : decode cX11_fun 45 = .ok (.getfield 121, 3) := by decide +kernel
theorem dX11_fun_48 : decode cX11_fun 48 = .ok (.ireturn, 1) := by decide +kernel
theorem dX11_fun_49 : decode cX11_fun 49 = .ok (.aload_n 3, 1) := by decide +kernel
theorem dX11_fun_50 : decode cX11_fun 50 = .ok (.getfield 126, 3) := by decide +kernel
theorem dX11_fun_53 : decode cX11_fun 53 = .ok (.ireturn, 1) := by decide +kernel
theorem dX11_fun_54 : decode cX11_fun 54 = .ok (.aload_n 0, 1) := by decide +kernel
theorem dX11_fun_55 : decode cX11_fun 55 = .ok (.getfield 28, 3) := by decide +kernel
theorem dX11_fun_58 : decode cX11_fun 58 = .ok (.iload_n 1, 1) := by decide +kernel
theorem dX11_fun_59 : decode cX11_fun 59 = .ok (.invokevirtual 129, 3) := by decide +kernel
theorem dX11_fun_62 : decode cX11_fun 62 = .ok (.ireturn, 1) := by decide +kernel
theorem dX11_fun_63 : decode cX11_fun 63 = .ok (.aload_n 3, 1) := by decide +kernel
theorem dX11_fun_64 : decode cX11_fun 64 = .ok (.getfield 133, 3) := by decide +kernel
theorem dX11_fun_67 : decode cX11_fun 67 = .ok (.invokevirtual 137, 3) := by decide +kernel
theorem dX11_fun_70 : decode cX11_fun 70 = .ok (.ireturn, 1) := by decide +kernel
theorem dX11_fun_71 : decode cX11_fun 71 = .ok (.aload_n 3, 1) := by decide +kernel
theorem dX11_fun_72 : decode cX11_fun 72 = .ok (.invokevirtual 142, 3) := by decide +kernel
theorem dX11_fun_75 : decode cX11_fun 75 = .ok (.ireturn, 1) := by decide +kernel
theorem dX11_fun_76 : decode cX11_fun 76 = .ok (.aload_n 0, 1) := by decide +kernel
theorem dX11_fun_77 : decode cX11_fun 77 = .ok (.iload_n 1, 1) := by decide +kernel
theorem dX11_fun_78 : decode cX11_fun 78 = .ok (.invokevirtual 145, 3) := by decide +kernel
theorem dX11_fun_81 : decode cX11_fun 81 = .ok (.aload_n 0, 1) := by decide +kernel
theorem dX11_fun_82 : decode cX11_fun 82 = .ok (.getfield 62, 3) := by decide +kernel
theorem dX11_fun_85 : decode cX11_fun 85 = .ok (.invokevirtual 148, 3) := by decide +kernel
theorem dX11_fun_88 : decode cX11_fun 88 = .ok (.ireturn, 1) := by decide +kernel
theorem dX11_fun_89 : decode cX11_fun 89 = .ok (.new 114, 3) := by decide +kernel
theorem dX11_fun_92 : decode cX11_fun 92 = .ok (.dup, 1) := by decide +kernel
theorem dX11_fun_93 : decode cX11_fun 93 = .ok (.invokespecial 116, 3) := by decide +kernel
theorem dX11_fun_96 : decode cX11_fun 96 = .ok (.athrow, 1) := by decide +kernel
theorem dX11_propose_0 : decode cX11_propose 0 = .ok (.aload_n 0, 1) := by decide +kernel
theorem dX11_propose_1 : decode cX11_propose 1 = .ok (.iload_n 1, 1) := by decide +kernel
theorem dX11_propose_2 : decode cX11_propose 2 = .ok (.invokevirtual 117, 3) := by decide +kernel
theorem dX11_propose_5 : decode cX11_propose 5 = .ok (.pop, 1) := by decide +kernel
theorem dX11_propose_6 : decode cX11_propose 6 = .ok (.aload_n 0, 1) := by decide +kernel
theorem dX11_propose_7 : decode cX11_propose 7 = .ok (.iload_n 1, 1) := by decide +kernel
theorem dX11_propose_8 : decode cX11_propose 8 = .ok (.invokevirtual 145, 3) := by decide +kernel
theorem dX11_propose_11 : decode cX11_propose 11 = .ok (.aload_n 0, 1) := by decide +kernel
theorem dX11_propose_12 : decode cX11_propose 12 = .ok (.getfield 62, 3) := by decide +kernel
theorem dX11_propose_15 : decode cX11_propose 15 = .ok (.invokevirtual 161, 3) := by decide +kernel
theorem dX11_propose_18 : decode cX11_propose 18 = .ok (.ireturn, 1) := by decide +kernel
theorem dX11_table_0 : decode cX11_table 0 = .ok (.aload_n 0, 1) := by decide +kernel
theorem dX11_table_1 : decode cX11_table 1 = .ok (.iload_n 1, 1) := by decide +kernel
theorem dX11_table_2 : decode cX11_table 2 = .ok (.invokevirtual 164, 3) := by decide +kernel
theorem dX11_table_5 : decode cX11_table 5 = .ok (.astore_n 3, 1) := by decide +kernel
theorem dX11_table_6 : decode cX11_table 6 = .ok (.iload_n 2, 1) := by decide +kernel
theorem dX11_table_7 : decode cX11_table 7 = .ok (.iconst 5, 1) := by decide +kernel
theorem dX11_table_8 : decode cX11_table 8 = .ok (.invokestatic 153, 3) := by decide +kernel
theorem dX11_table_11 : decode cX11_table 11 = .ok (.iload_n 2, 1) := by decide +kernel
theorem dX11_table_12 : decode cX11_table 12 = .ok (.iconst 3, 1) := by decide +kernel
theorem dX11_table_13 : decode cX11_table 13 = .ok (.if_icmp .lt 10, 3) := by decide +kernel
theorem dX11_table_16 : decode cX11_table 16 = .ok (.aload_n 0, 1) := by decide +kernel
theorem dX11_table_17 : decode cX11_table 17 = .ok (.getfield 55, 3) := by decide +kernel
theorem dX11_table_20 : decode cX11_table 20 = .ok (.invokevirtual 168, 3) := by decide +kernel
theorem dX11_table_23 : decode cX11_table 23 = .ok (.aload_n 3, 1) := by decide +kernel
theorem dX11_table_24 : decode cX11_table 24 = .ok (.iload_n 2, 1) := by decide +kernel
theorem dX11_table_25 : decode cX11_table 25 = .ok (.invokevirtual 171, 3) := by decide +kernel
theorem dX11_table_28 : decode cX11_table 28 = .ok (.ireturn, 1) := by decide +kernel
theorem dX11_holds_0 : decode cX11_holds 0 = .ok (.aload_n 0, 1) := by decide +kernel
theorem dX11_holds_1 : decode cX11_holds 1 = .ok (.iload_n 1, 1) := by decide +kernel
theorem dX11_holds_2 : decode cX11_holds 2 = .ok (.invokevirtual 164, 3) := by decide +kernel
theorem dX11_holds_5 : decode cX11_holds 5 = .ok (.astore_n 3, 1) := by decide +kernel
theorem dX11_holds_6 : decode cX11_holds 6 = .ok (.iload_n 2, 1) := by decide +kernel
theorem dX11_holds_7 : decode cX11_holds 7 = .ok (.aload_n 3, 1) := by decide +kernel
theorem dX11_holds_8 : decode cX11_holds 8 = .ok (.getfield 176, 3) := by decide +kernel
theorem dX11_holds_11 : decode cX11_holds 11 = .ok (.invokestatic 153, 3) := by decide +kernel
theorem dX11_holds_14 : decode cX11_holds 14 = .ok (.aload_n 0, 1) := by decide +kernel
theorem dX11_holds_15 : decode cX11_holds 15 = .ok (.getfield 55, 3) := by decide +kernel
theorem dX11_holds_18 : decode cX11_holds 18 = .ok (.invokevirtual 168, 3) := by decide +kernel
theorem dX11_holds_21 : decode cX11_holds 21 = .ok (.aload_n 3, 1) := by decide +kernel
theorem dX11_holds_22 : decode cX11_holds 22 = .ok (.iload_n 2, 1) := by decide +kernel
theorem dX11_holds_23 : decode cX11_holds 23 = .ok (.invokevirtual 185, 3) := by decide +kernel
theorem dX11_holds_26 : decode cX11_holds 26 = .ok (.ireturn, 1) := by decide +kernel
theorem dX11_taken_0 : decode cX11_taken 0 = .ok (.iload_n 1, 1) := by decide +kernel
theorem dX11_taken_1 : decode cX11_taken 1 = .ok (.aload_n 0, 1) := by decide +kernel
theorem dX11_taken_2 : decode cX11_taken 2 = .ok (.getfield 28, 3) := by decide +kernel
theorem dX11_taken_5 : decode cX11_taken 5 = .ok (.getfield 108, 3) := by decide +kernel
theorem dX11_taken_8 : decode cX11_taken 8 = .ok (.invokestatic 153, 3) := by decide +kernel
theorem dX11_taken_11 : decode cX11_taken 11 = .ok (.aload_n 0, 1) := by decide +kernel
theorem dX11_taken_12 : decode cX11_taken 12 = .ok (.getfield 55, 3) := by decide +kernel
theorem dX11_taken_15 : decode cX11_taken 15 = .ok (.invokevirtual 168, 3) := by decide +kernel
theorem dX11_taken_18 : decode cX11_taken 18 = .ok (.aload_n 0, 1) := by decide +kernel
theorem dX11_taken_19 : decode cX11_taken 19 = .ok (.getfield 46, 3) := by decide +kernel
theorem dX11_taken_22 : decode cX11_taken 22 = .ok (.iload_n 1, 1) := by decide +kernel
theorem dX11_taken_23 : decode cX11_taken 23 = .ok (.iload_n 2, 1) := by decide +kernel
theorem dX11_taken_24 : decode cX11_taken 24 = .ok (.invokevirtual 189, 3) := by decide +kernel
theorem dX11_taken_27 : decode cX11_taken 27 = .ok (.ireturn, 1) := by decide +kernel
theorem dX11_finds_0 : decode cX11_finds 0 = .ok (.aload_n 0, 1) := by decide +kernel
theorem dX11_finds_1 : decode cX11_finds 1 = .ok (.iload_n 1, 1) := by decide +kernel
theorem dX11_finds_2 : decode cX11_finds 2 = .ok (.invokevirtual 164, 3) := by decide +kernel
theorem dX11_finds_5 : decode cX11_finds 5 = .ok (.astore_n 3, 1) := by decide +kernel
theorem dX11_finds_6 : decode cX11_finds 6 = .ok (.iload_n 2, 1) := by decide +kernel
theorem dX11_finds_7 : decode cX11_finds 7 = .ok (.aload_n 0, 1) := by decide +kernel
theorem dX11_finds_8 : decode cX11_finds 8 = .ok (.getfield 28, 3) := by decide +kernel
theorem dX11_finds_11 : decode cX11_finds 11 = .ok (.aload_n 3, 1) := by decide +kernel
theorem dX11_finds_12 : decode cX11_finds 12 = .ok (.getfield 178, 3) := by decide +kernel
theorem dX11_finds_15 : decode cX11_finds 15 = .ok (.invokevirtual 181, 3) := by decide +kernel
theorem dX11_finds_18 : decode cX11_finds 18 = .ok (.getfield 126, 3) := by decide +kernel
theorem dX11_finds_21 : decode cX11_finds 21 = .ok (.invokestatic 153, 3) := by decide +kernel
theorem dX11_finds_24 : decode cX11_finds 24 = .ok (.aload_n 0, 1) := by decide +kernel
theorem dX11_finds_25 : decode cX11_finds 25 = .ok (.getfield 55, 3) := by decide +kernel
theorem dX11_finds_28 : decode cX11_finds 28 = .ok (.aload_n 3, 1) := by decide +kernel
theorem dX11_finds_29 : decode cX11_finds 29 = .ok (.aconst_null, 1) := by decide +kernel
theorem dX11_finds_30 : decode cX11_finds 30 = .ok (.invokevirtual 193, 3) := by decide +kernel
theorem dX11_finds_33 : decode cX11_finds 33 = .ok (.iload_n 2, 1) := by decide +kernel
theorem dX11_finds_34 : decode cX11_finds 34 = .ok (.lshr, 1) := by decide +kernel
theorem dX11_finds_35 : decode cX11_finds 35 = .ok (.lconst 1, 1) := by decide +kernel
theorem dX11_finds_36 : decode cX11_finds 36 = .ok (.land, 1) := by decide +kernel
theorem dX11_finds_37 : decode cX11_finds 37 = .ok (.lconst 0, 1) := by decide +kernel
theorem dX11_finds_38 : decode cX11_finds 38 = .ok (.lcmp, 1) := by decide +kernel
theorem dX11_finds_39 : decode cX11_finds 39 = .ok (.ifCond .eq 7, 3) := by decide +kernel
theorem dX11_finds_42 : decode cX11_finds 42 = .ok (.iconst 1, 1) := by decide +kernel
theorem dX11_finds_43 : decode cX11_finds 43 = .ok (.goto 4, 3) := by decide +kernel
theorem dX11_finds_46 : decode cX11_finds 46 = .ok (.iconst 0, 1) := by decide +kernel
theorem dX11_finds_47 : decode cX11_finds 47 = .ok (.ireturn, 1) := by decide +kernel
theorem dX11_score_0 : decode cX11_score 0 = .ok (.aload_n 0, 1) := by decide +kernel
theorem dX11_score_1 : decode cX11_score 1 = .ok (.iload_n 1, 1) := by decide +kernel
theorem dX11_score_2 : decode cX11_score 2 = .ok (.invokevirtual 164, 3) := by decide +kernel
theorem dX11_score_5 : decode cX11_score 5 = .ok (.astore_n 2, 1) := by decide +kernel
theorem dX11_score_6 : decode cX11_score 6 = .ok (.aload_n 0, 1) := by decide +kernel
theorem dX11_score_7 : decode cX11_score 7 = .ok (.getfield 28, 3) := by decide +kernel
theorem dX11_score_10 : decode cX11_score 10 = .ok (.aload_n 2, 1) := by decide +kernel
theorem dX11_score_11 : decode cX11_score 11 = .ok (.getfield 178, 3) := by decide +kernel
theorem dX11_score_14 : decode cX11_score 14 = .ok (.invokevirtual 181, 3) := by decide +kernel
theorem dX11_score_17 : decode cX11_score 17 = .ok (.getfield 126, 3) := by decide +kernel
theorem dX11_score_20 : decode cX11_score 20 = .ok (.istore_n 3, 1) := by decide +kernel
theorem dX11_score_21 : decode cX11_score 21 = .ok (.iload_n 3, 1) := by decide +kernel
theorem dX11_score_22 : decode cX11_score 22 = .ok (.ifCond .ne 5, 3) := by decide +kernel
theorem dX11_score_25 : decode cX11_score 25 = .ok (.dconst 1, 1) := by decide +kernel
theorem dX11_score_26 : decode cX11_score 26 = .ok (.dreturn, 1) := by decide +kernel
theorem dX11_score_27 : decode cX11_score 27 = .ok (.aload_n 0, 1) := by decide +kernel
theorem dX11_score_28 : decode cX11_score 28 = .ok (.getfield 55, 3) := by decide +kernel
theorem dX11_score_31 : decode cX11_score 31 = .ok (.aload_n 2, 1) := by decide +kernel
theorem dX11_score_32 : decode cX11_score 32 = .ok (.aconst_null, 1) := by decide +kernel
theorem dX11_score_33 : decode cX11_score 33 = .ok (.invokevirtual 193, 3) := by decide +kernel
theorem dX11_score_36 : decode cX11_score 36 = .ok (.invokestatic 197, 3) := by decide +kernel
theorem dX11_score_39 : decode cX11_score 39 = .ok (.i2d, 1) := by decide +kernel
theorem dX11_score_40 : decode cX11_score 40 = .ok (.iload_n 3, 1) := by decide +kernel
theorem dX11_score_41 : decode cX11_score 41 = .ok (.i2d, 1) := by decide +kernel
theorem dX11_score_42 : decode cX11_score 42 = .ok (.ddiv, 1) := by decide +kernel
theorem dX11_score_43 : decode cX11_score 43 = .ok (.dreturn, 1) := by decide +kernel
theorem dX11_grow_0 : decode cX11_grow 0 = .ok (.aload_n 0, 1) := by decide +kernel
theorem dX11_grow_1 : decode cX11_grow 1 = .ok (.iload_n 1, 1) := by decide +kernel
theorem dX11_grow_2 : decode cX11_grow 2 = .ok (.invokevirtual 164, 3) := by decide +kernel
theorem dX11_grow_5 : decode cX11_grow 5 = .ok (.astore_n 2, 1) := by decide +kernel
theorem dX11_grow_6 : decode cX11_grow 6 = .ok (.aload_n 0, 1) := by decide +kernel
theorem dX11_grow_7 : decode cX11_grow 7 = .ok (.aload_n 2, 1) := by decide +kernel
theorem dX11_grow_8 : decode cX11_grow 8 = .ok (.getfield 178, 3) := by decide +kernel
theorem dX11_grow_11 : decode cX11_grow 11 = .ok (.invokevirtual 145, 3) := by decide +kernel
theorem dX11_grow_14 : decode cX11_grow 14 = .ok (.aload_n 0, 1) := by decide +kernel
theorem dX11_grow_15 : decode cX11_grow 15 = .ok (.getfield 62, 3) := by decide +kernel
theorem dX11_grow_18 : decode cX11_grow 18 = .ok (.invokevirtual 161, 3) := by decide +kernel
theorem dX11_grow_21 : decode cX11_grow 21 = .ok (.istore_n 3, 1) := by decide +kernel
theorem dX11_grow_22 : decode cX11_grow 22 = .ok (.iload_n 3, 1) := by decide +kernel
theorem dX11_grow_23 : decode cX11_grow 23 = .ok (.ifCond .lt 21, 3) := by decide +kernel
theorem dX11_grow_26 : decode cX11_grow 26 = .ok (.aload_n 2, 1) := by decide +kernel
theorem dX11_grow_27 : decode cX11_grow 27 = .ok (.getfield 203, 3) := by decide +kernel
theorem dX11_grow_30 : decode cX11_grow 30 = .ok (.bipush 12, 2) := by decide +kernel
theorem dX11_grow_32 : decode cX11_grow 32 = .ok (.if_icmp .ge 12, 3) := by decide +kernel
theorem dX11_grow_35 : decode cX11_grow 35 = .ok (.aload_n 2, 1) := by decide +kernel
theorem dX11_grow_36 : decode cX11_grow 36 = .ok (.getfield 176, 3) := by decide +kernel
theorem dX11_grow_39 : decode cX11_grow 39 = .ok (.bipush 100, 2) := by decide +kernel
theorem dX11_grow_41 : decode cX11_grow 41 = .ok (.if_icmp .lt 11, 3) := by decide +kernel
theorem dX11_grow_44 : decode cX11_grow 44 = .ok (.new 74, 3) := by decide +kernel
theorem dX11_grow_47 : decode cX11_grow 47 = .ok (.dup, 1) := by decide +kernel
theorem dX11_grow_48 : decode cX11_grow 48 = .ok (.invokespecial 76, 3) := by decide +kernel
theorem dX11_grow_51 : decode cX11_grow 51 = .ok (.athrow, 1) := by decide +kernel
theorem dX11_grow_52 : decode cX11_grow 52 = .ok (.aload_n 0, 1) := by decide +kernel
theorem dX11_grow_53 : decode cX11_grow 53 = .ok (.aload_n 2, 1) := by decide +kernel
theorem dX11_grow_54 : decode cX11_grow 54 = .ok (.iload_n 3, 1) := by decide +kernel
theorem dX11_grow_55 : decode cX11_grow 55 = .ok (.invokevirtual 205, 3) := by decide +kernel
theorem dX11_grow_58 : decode cX11_grow 58 = .ok (.aload_n 0, 1) := by decide +kernel
theorem dX11_grow_59 : decode cX11_grow 59 = .ok (.getfield 55, 3) := by decide +kernel
theorem dX11_grow_62 : decode cX11_grow 62 = .ok (.invokevirtual 99, 3) := by decide +kernel
theorem dX11_grow_65 : decode cX11_grow 65 = .ok (.aload_n 2, 1) := by decide +kernel
theorem dX11_grow_66 : decode cX11_grow 66 = .ok (.getfield 176, 3) := by decide +kernel
theorem dX11_grow_69 : decode cX11_grow 69 = .ok (.ireturn, 1) := by decide +kernel
theorem dX11_shorten_0 : decode cX11_shorten 0 = .ok (.aload_n 0, 1) := by decide +kernel
theorem dX11_shorten_1 : decode cX11_shorten 1 = .ok (.iload_n 1, 1) := by decide +kernel
theorem dX11_shorten_2 : decode cX11_shorten 2 = .ok (.invokevirtual 164, 3) := by decide +kernel
theorem dX11_shorten_5 : decode cX11_shorten 5 = .ok (.astore_n 2, 1) := by decide +kernel
theorem dX11_shorten_6 : decode cX11_shorten 6 = .ok (.aload_n 2, 1) := by decide +kernel
theorem dX11_shorten_7 : decode cX11_shorten 7 = .ok (.getfield 203, 3) := by decide +kernel
theorem dX11_shorten_10 : decode cX11_shorten 10 = .ok (.iconst 1, 1) := by decide +kernel
theorem dX11_shorten_11 : decode cX11_shorten 11 = .ok (.isub, 1) := by decide +kernel
theorem dX11_shorten_12 : decode cX11_shorten 12 = .ok (.istore_n 3, 1) := by decide +kernel
theorem dX11_shorten_13 : decode cX11_shorten 13 = .ok (.iload_n 3, 1) := by decide +kernel
theorem dX11_shorten_14 : decode cX11_shorten 14 = .ok (.ifCond .lt 57, 3) := by decide +kernel
theorem dX11_shorten_17 : decode cX11_shorten 17 = .ok (.aload_n 2, 1) := by decide +kernel
theorem dX11_shorten_18 : decode cX11_shorten 18 = .ok (.getfield 203, 3) := by decide +kernel
theorem dX11_shorten_21 : decode cX11_shorten 21 = .ok (.iconst 1, 1) := by decide +kernel
theorem dX11_shorten_22 : decode cX11_shorten 22 = .ok (.if_icmp .le 49, 3) := by decide +kernel
theorem dX11_shorten_25 : decode cX11_shorten 25 = .ok (.aload_n 0, 1) := by decide +kernel
theorem dX11_shorten_26 : decode cX11_shorten 26 = .ok (.getfield 55, 3) := by decide +kernel
theorem dX11_shorten_29 : decode cX11_shorten 29 = .ok (.aload_n 2, 1) := by decide +kernel
theorem dX11_shorten_30 : decode cX11_shorten 30 = .ok (.aload_n 2, 1) := by decide +kernel
theorem dX11_shorten_31 : decode cX11_shorten 31 = .ok (.iload_n 3, 1) := by decide +kernel
theorem dX11_shorten_32 : decode cX11_shorten 32 = .ok (.invokevirtual 209, 3) := by decide +kernel
theorem dX11_shorten_35 : decode cX11_shorten 35 = .ok (.invokevirtual 193, 3) := by decide +kernel
theorem dX11_shorten_38 : decode cX11_shorten 38 = .ok (.lstore 4, 2) := by decide +kernel
theorem dX11_shorten_40 : decode cX11_shorten 40 = .ok (.lload 4, 2) := by decide +kernel
theorem dX11_shorten_42 : decode cX11_shorten 42 = .ok (.invokestatic 197, 3) := by decide +kernel
theorem dX11_shorten_45 : decode cX11_shorten 45 = .ok (.aload_n 0, 1) := by decide +kernel
theorem dX11_shorten_46 : decode cX11_shorten 46 = .ok (.getfield 55, 3) := by decide +kernel
theorem dX11_shorten_49 : decode cX11_shorten 49 = .ok (.aload_n 2, 1) := by decide +kernel
theorem dX11_shorten_50 : decode cX11_shorten 50 = .ok (.aconst_null, 1) := by decide +kernel
theorem dX11_shorten_51 : decode cX11_shorten 51 = .ok (.invokevirtual 193, 3) := by decide +kernel
theorem dX11_shorten_54 : decode cX11_shorten 54 = .ok (.invokestatic 197, 3) := by decide +kernel
theorem dX11_shorten_57 : decode cX11_shorten 57 = .ok (.if_icmp .ne 8, 3) := by decide +kernel
theorem dX11_shorten_60 : decode cX11_shorten 60 = .ok (.aload_n 2, 1) := by decide +kernel
theorem dX11_shorten_61 : decode cX11_shorten 61 = .ok (.iload_n 3, 1) := by decide +kernel
theorem dX11_shorten_62 : decode cX11_shorten 62 = .ok (.invokevirtual 213, 3) := by decide +kernel
theorem dX11_shorten_65 : decode cX11_shorten 65 = .ok (.iinc 3 (-1), 3) := by decide +kernel
theorem dX11_shorten_68 : decode cX11_shorten 68 = .ok (.goto (-55), 3) := by decide +kernel
theorem dX11_shorten_71 : decode cX11_shorten 71 = .ok (.aload_n 0, 1) := by decide +kernel
theorem dX11_shorten_72 : decode cX11_shorten 72 = .ok (.getfield 55, 3) := by decide +kernel
theorem dX11_shorten_75 : decode cX11_shorten 75 = .ok (.invokevirtual 99, 3) := by decide +kernel
theorem dX11_shorten_78 : decode cX11_shorten 78 = .ok (.aload_n 2, 1) := by decide +kernel
theorem dX11_shorten_79 : decode cX11_shorten 79 = .ok (.getfield 203, 3) := by decide +kernel
theorem dX11_shorten_82 : decode cX11_shorten 82 = .ok (.ireturn, 1) := by decide +kernel
theorem dX11_digest_0 : decode cX11_digest 0 = .ok (.aload_n 0, 1) := by decide +kernel
theorem dX11_digest_1 : decode cX11_digest 1 = .ok (.getfield 55, 3) := by decide +kernel
theorem dX11_digest_4 : decode cX11_digest 4 = .ok (.invokevirtual 168, 3) := by decide +kernel
theorem dX11_digest_7 : decode cX11_digest 7 = .ok (.ldc2_w 216, 3) := by decide +kernel
theorem dX11_digest_10 : decode cX11_digest 10 = .ok (.lstore_n 1, 1) := by decide +kernel
theorem dX11_digest_11 : decode cX11_digest 11 = .ok (.iconst 0, 1) := by decide +kernel
theorem dX11_digest_12 : decode cX11_digest 12 = .ok (.istore_n 3, 1) := by decide +kernel
theorem dX11_digest_13 : decode cX11_digest 13 = .ok (.iload_n 3, 1) := by decide +kernel
theorem dX11_digest_14 : decode cX11_digest 14 = .ok (.iconst 4, 1) := by decide +kernel
theorem dX11_digest_15 : decode cX11_digest 15 = .ok (.if_icmp .gt 22, 3) := by decide +kernel
theorem dX11_digest_18 : decode cX11_digest 18 = .ok (.lload_n 1, 1) := by decide +kernel
theorem dX11_digest_19 : decode cX11_digest 19 = .ok (.ldc2_w 218, 3) := by decide +kernel
theorem dX11_digest_22 : decode cX11_digest 22 = .ok (.lmul, 1) := by decide +kernel
theorem dX11_digest_23 : decode cX11_digest 23 = .ok (.aload_n 0, 1) := by decide +kernel
theorem dX11_digest_24 : decode cX11_digest 24 = .ok (.iload_n 3, 1) := by decide +kernel
theorem dX11_digest_25 : decode cX11_digest 25 = .ok (.invokevirtual 220, 3) := by decide +kernel
theorem dX11_digest_28 : decode cX11_digest 28 = .ok (.i2l, 1) := by decide +kernel
theorem dX11_digest_29 : decode cX11_digest 29 = .ok (.ladd, 1) := by decide +kernel
theorem dX11_digest_30 : decode cX11_digest 30 = .ok (.lstore_n 1, 1) := by decide +kernel
theorem dX11_digest_31 : decode cX11_digest 31 = .ok (.iinc 3 1, 3) := by decide +kernel
theorem dX11_digest_34 : decode cX11_digest 34 = .ok (.goto (-21), 3) := by decide +kernel
theorem dX11_digest_37 : decode cX11_digest 37 = .ok (.iconst 0, 1) := by decide +kernel
theorem dX11_digest_38 : decode cX11_digest 38 = .ok (.istore_n 3, 1) := by decide +kernel
theorem dX11_digest_39 : decode cX11_digest 39 = .ok (.iload_n 3, 1) := by decide +kernel
theorem dX11_digest_40 : decode cX11_digest 40 = .ok (.aload_n 0, 1) := by decide +kernel
theorem dX11_digest_41 : decode cX11_digest 41 = .ok (.getfield 28, 3) := by decide +kernel
theorem dX11_digest_44 : decode cX11_digest 44 = .ok (.getfield 102, 3) := by decide +kernel
theorem dX11_digest_47 : decode cX11_digest 47 = .ok (.if_icmp .ge 39, 3) := by decide +kernel
theorem dX11_digest_50 : decode cX11_digest 50 = .ok (.iconst 0, 1) := by decide +kernel
theorem dX11_digest_51 : decode cX11_digest 51 = .ok (.istore 4, 2) := by decide +kernel
theorem dX11_digest_53 : decode cX11_digest 53 = .ok (.iload 4, 2) := by decide +kernel
theorem dX11_digest_55 : decode cX11_digest 55 = .ok (.iconst 5, 1) := by decide +kernel
theorem dX11_digest_56 : decode cX11_digest 56 = .ok (.if_icmp .gt 24, 3) := by decide +kernel
theorem dX11_digest_59 : decode cX11_digest 59 = .ok (.lload_n 1, 1) := by decide +kernel
theorem dX11_digest_60 : decode cX11_digest 60 = .ok (.ldc2_w 218, 3) := by decide +kernel
theorem dX11_digest_63 : decode cX11_digest 63 = .ok (.lmul, 1) := by decide +kernel
theorem dX11_digest_64 : decode cX11_digest 64 = .ok (.aload_n 0, 1) := by decide +kernel
theorem dX11_digest_65 : decode cX11_digest 65 = .ok (.iload_n 3, 1) := by decide +kernel
theorem dX11_digest_66 : decode cX11_digest 66 = .ok (.iload 4, 2) := by decide +kernel
theorem dX11_digest_68 : decode cX11_digest 68 = .ok (.invokevirtual 223, 3) := by decide +kernel
theorem dX11_digest_71 : decode cX11_digest 71 = .ok (.i2l, 1) := by decide +kernel
theorem dX11_digest_72 : decode cX11_digest 72 = .ok (.ladd, 1) := by decide +kernel
theorem dX11_digest_73 : decode cX11_digest 73 = .ok (.lstore_n 1, 1) := by decide +kernel
theorem dX11_digest_74 : decode cX11_digest 74 = .ok (.iinc 4 1, 3) := by decide +kernel
theorem dX11_digest_77 : decode cX11_digest 77 = .ok (.goto (-24), 3) := by decide +kernel
theorem dX11_digest_80 : decode cX11_digest 80 = .ok (.iinc 3 1, 3) := by decide +kernel
theorem dX11_digest_83 : decode cX11_digest 83 = .ok (.goto (-44), 3) := by decide +kernel
theorem dX11_digest_86 : decode cX11_digest 86 = .ok (.iconst 0, 1) := by decide +kernel
theorem dX11_digest_87 : decode cX11_digest 87 = .ok (.istore_n 3, 1) := by decide +kernel
theorem dX11_digest_88 : decode cX11_digest 88 = .ok (.iload_n 3, 1) := by decide +kernel
theorem dX11_digest_89 : decode cX11_digest 89 = .ok (.aload_n 0, 1) := by decide +kernel
theorem dX11_digest_90 : decode cX11_digest 90 = .ok (.getfield 28, 3) := by decide +kernel
theorem dX11_digest_93 : decode cX11_digest 93 = .ok (.getfield 105, 3) := by decide +kernel
theorem dX11_digest_96 : decode cX11_digest 96 = .ok (.if_icmp .ge 23, 3) := by decide +kernel
theorem dX11_digest_99 : decode cX11_digest 99 = .ok (.aload_n 0, 1) := by decide +kernel
theorem dX11_digest_100 : decode cX11_digest 100 = .ok (.lload_n 1, 1) := by decide +kernel
theorem dX11_digest_101 : decode cX11_digest 101 = .ok (.aload_n 0, 1) := by decide +kernel
theorem dX11_digest_102 : decode cX11_digest 102 = .ok (.getfield 28, 3) := by decide +kernel
theorem dX11_digest_105 : decode cX11_digest 105 = .ok (.iload_n 3, 1) := by decide +kernel
theorem dX11_digest_106 : decode cX11_digest 106 = .ok (.invokevirtual 225, 3) := by decide +kernel
theorem dX11_digest_109 : decode cX11_digest 109 = .ok (.invokevirtual 228, 3) := by decide +kernel
theorem dX11_digest_112 : decode cX11_digest 112 = .ok (.lstore_n 1, 1) := by decide +kernel
theorem dX11_digest_113 : decode cX11_digest 113 = .ok (.iinc 3 1, 3) := by decide +kernel
theorem dX11_digest_116 : decode cX11_digest 116 = .ok (.goto (-28), 3) := by decide +kernel
theorem dX11_digest_119 : decode cX11_digest 119 = .ok (.iconst 0, 1) := by decide +kernel
theorem dX11_digest_120 : decode cX11_digest 120 = .ok (.istore_n 3, 1) := by decide +kernel
theorem dX11_digest_121 : decode cX11_digest 121 = .ok (.iload_n 3, 1) := by decide +kernel
theorem dX11_digest_122 : decode cX11_digest 122 = .ok (.aload_n 0, 1) := by decide +kernel
theorem dX11_digest_123 : decode cX11_digest 123 = .ok (.getfield 28, 3) := by decide +kernel
theorem dX11_digest_126 : decode cX11_digest 126 = .ok (.getfield 108, 3) := by decide +kernel
theorem dX11_digest_129 : decode cX11_digest 129 = .ok (.if_icmp .ge 43, 3) := by decide +kernel
theorem dX11_digest_132 : decode cX11_digest 132 = .ok (.lload_n 1, 1) := by decide +kernel
theorem dX11_digest_133 : decode cX11_digest 133 = .ok (.ldc2_w 218, 3) := by decide +kernel
theorem dX11_digest_136 : decode cX11_digest 136 = .ok (.lmul, 1) := by decide +kernel
theorem dX11_digest_137 : decode cX11_digest 137 = .ok (.aload_n 0, 1) := by decide +kernel
theorem dX11_digest_138 : decode cX11_digest 138 = .ok (.getfield 46, 3) := by decide +kernel
theorem dX11_digest_141 : decode cX11_digest 141 = .ok (.iload_n 3, 1) := by decide +kernel
theorem dX11_digest_142 : decode cX11_digest 142 = .ok (.iconst 1, 1) := by decide +kernel
theorem dX11_digest_143 : decode cX11_digest 143 = .ok (.invokevirtual 189, 3) := by decide +kernel
theorem dX11_digest_146 : decode cX11_digest 146 = .ok (.i2l, 1) := by decide +kernel
theorem dX11_digest_147 : decode cX11_digest 147 = .ok (.ladd, 1) := by decide +kernel
theorem dX11_digest_148 : decode cX11_digest 148 = .ok (.lstore_n 1, 1) := by decide +kernel
theorem dX11_digest_149 : decode cX11_digest 149 = .ok (.lload_n 1, 1) := by decide +kernel
theorem dX11_digest_150 : decode cX11_digest 150 = .ok (.ldc2_w 218, 3) := by decide +kernel
theorem dX11_digest_153 : decode cX11_digest 153 = .ok (.lmul, 1) := by decide +kernel
theorem dX11_digest_154 : decode cX11_digest 154 = .ok (.aload_n 0, 1) := by decide +kernel
theorem dX11_digest_155 : decode cX11_digest 155 = .ok (.getfield 46, 3) := by decide +kernel
theorem dX11_digest_158 : decode cX11_digest 158 = .ok (.iload_n 3, 1) := by decide +kernel
theorem dX11_digest_159 : decode cX11_digest 159 = .ok (.iconst 0, 1) := by decide +kernel
theorem dX11_digest_160 : decode cX11_digest 160 = .ok (.invokevirtual 189, 3) := by decide +kernel
theorem dX11_digest_163 : decode cX11_digest 163 = .ok (.i2l, 1) := by decide +kernel
theorem dX11_digest_164 : decode cX11_digest 164 = .ok (.ladd, 1) := by decide +kernel
theorem dX11_digest_165 : decode cX11_digest 165 = .ok (.lstore_n 1, 1) := by decide +kernel
theorem dX11_digest_166 : decode cX11_digest 166 = .ok (.iinc 3 1, 3) := by decide +kernel
theorem dX11_digest_169 : decode cX11_digest 169 = .ok (.goto (-48), 3) := by decide +kernel
theorem dX11_digest_172 : decode cX11_digest 172 = .ok (.lload_n 1, 1) := by decide +kernel
theorem dX11_digest_173 : decode cX11_digest 173 = .ok (.lreturn, 1) := by decide +kernel
theorem dX11_addTable_0 : decode cX11_addTable 0 = .ok (.lload_n 1, 1) := by decide +kernel
theorem dX11_addTable_1 : decode cX11_addTable 1 = .ok (.lstore 4, 2) := by decide +kernel
theorem dX11_addTable_3 : decode cX11_addTable 3 = .ok (.iconst 0, 1) := by decide +kernel
theorem dX11_addTable_4 : decode cX11_addTable 4 = .ok (.istore 6, 2) := by decide +kernel
theorem dX11_addTable_6 : decode cX11_addTable 6 = .ok (.iload 6, 2) := by decide +kernel
theorem dX11_addTable_8 : decode cX11_addTable 8 = .ok (.iconst 4, 1) := by decide +kernel
theorem dX11_addTable_9 : decode cX11_addTable 9 = .ok (.if_icmp .gt 25, 3) := by decide +kernel
theorem dX11_addTable_12 : decode cX11_addTable 12 = .ok (.lload 4, 2) := by decide +kernel
theorem dX11_addTable_14 : decode cX11_addTable 14 = .ok (.ldc2_w 218, 3) := by decide +kernel
theorem dX11_addTable_17 : decode cX11_addTable 17 = .ok (.lmul, 1) := by decide +kernel
theorem dX11_addTable_18 : decode cX11_addTable 18 = .ok (.aload_n 3, 1) := by decide +kernel
theorem dX11_addTable_19 : decode cX11_addTable 19 = .ok (.iload 6, 2) := by decide +kernel
theorem dX11_addTable_21 : decode cX11_addTable 21 = .ok (.invokevirtual 171, 3) := by decide +kernel
theorem dX11_addTable_24 : decode cX11_addTable 24 = .ok (.i2l, 1) := by decide +kernel
theorem dX11_addTable_25 : decode cX11_addTable 25 = .ok (.ladd, 1) := by decide +kernel
theorem dX11_addTable_26 : decode cX11_addTable 26 = .ok (.lstore 4, 2) := by decide +kernel
theorem dX11_addTable_28 : decode cX11_addTable 28 = .ok (.iinc 6 1, 3) := by decide +kernel
theorem dX11_addTable_31 : decode cX11_addTable 31 = .ok (.goto (-25), 3) := by decide +kernel
theorem dX11_addTable_34 : decode cX11_addTable 34 = .ok (.aload_n 0, 1) := by decide +kernel
theorem dX11_addTable_35 : decode cX11_addTable 35 = .ok (.getfield 28, 3) := by decide +kernel
theorem dX11_addTable_38 : decode cX11_addTable 38 = .ok (.aload_n 3, 1) := by decide +kernel
theorem dX11_addTable_39 : decode cX11_addTable 39 = .ok (.getfield 178, 3) := by decide +kernel
theorem dX11_addTable_42 : decode cX11_addTable 42 = .ok (.invokevirtual 181, 3) := by decide +kernel
theorem dX11_addTable_45 : decode cX11_addTable 45 = .ok (.getfield 121, 3) := by decide +kernel
theorem dX11_addTable_48 : decode cX11_addTable 48 = .ok (.istore 6, 2) := by decide +kernel
theorem dX11_addTable_50 : decode cX11_addTable 50 = .ok (.iconst 0, 1) := by decide +kernel
theorem dX11_addTable_51 : decode cX11_addTable 51 = .ok (.istore 7, 2) := by decide +kernel
theorem dX11_addTable_53 : decode cX11_addTable 53 = .ok (.iload 7, 2) := by decide +kernel
theorem dX11_addTable_55 : decode cX11_addTable 55 = .ok (.aload_n 3, 1) := by decide +kernel
theorem dX11_addTable_56 : decode cX11_addTable 56 = .ok (.getfield 176, 3) := by decide +kernel
theorem dX11_addTable_59 : decode cX11_addTable 59 = .ok (.if_icmp .ge 43, 3) := by decide +kernel
theorem dX11_addTable_62 : decode cX11_addTable 62 = .ok (.iconst 0, 1) := by decide +kernel
theorem dX11_addTable_63 : decode cX11_addTable 63 = .ok (.istore 8, 2) := by decide +kernel
theorem dX11_addTable_65 : decode cX11_addTable 65 = .ok (.iload 8, 2) := by decide +kernel
theorem dX11_addTable_67 : decode cX11_addTable 67 = .ok (.iload 6, 2) := by decide +kernel
theorem dX11_addTable_69 : decode cX11_addTable 69 = .ok (.if_icmp .ge 27, 3) := by decide +kernel
theorem dX11_addTable_72 : decode cX11_addTable 72 = .ok (.lload 4, 2) := by decide +kernel
theorem dX11_addTable_74 : decode cX11_addTable 74 = .ok (.ldc2_w 218, 3) := by decide +kernel
theorem dX11_addTable_77 : decode cX11_addTable 77 = .ok (.lmul, 1) := by decide +kernel
theorem dX11_addTable_78 : decode cX11_addTable 78 = .ok (.aload_n 3, 1) := by decide +kernel
theorem dX11_addTable_79 : decode cX11_addTable 79 = .ok (.iload 7, 2) := by decide +kernel
theorem dX11_addTable_81 : decode cX11_addTable 81 = .ok (.iload 8, 2) := by decide +kernel
theorem dX11_addTable_83 : decode cX11_addTable 83 = .ok (.invokevirtual 184, 3) := by decide +kernel
theorem dX11_addTable_86 : decode cX11_addTable 86 = .ok (.i2l, 1) := by decide +kernel
theorem dX11_addTable_87 : decode cX11_addTable 87 = .ok (.ladd, 1) := by decide +kernel
theorem dX11_addTable_88 : decode cX11_addTable 88 = .ok (.lstore 4, 2) := by decide +kernel
theorem dX11_addTable_90 : decode cX11_addTable 90 = .ok (.iinc 8 1, 3) := by decide +kernel
theorem dX11_addTable_93 : decode cX11_addTable 93 = .ok (.goto (-28), 3) := by decide +kernel
theorem dX11_addTable_96 : decode cX11_addTable 96 = .ok (.iinc 7 1, 3) := by decide +kernel
theorem dX11_addTable_99 : decode cX11_addTable 99 = .ok (.goto (-46), 3) := by decide +kernel
theorem dX11_addTable_102 : decode cX11_addTable 102 = .ok (.lload 4, 2) := by decide +kernel
theorem dX11_addTable_104 : decode cX11_addTable 104 = .ok (.lreturn, 1) := by decide +kernel
theorem dX11_requireBelow_0 : decode cX11_requireBelow 0 = .ok (.iload_n 0, 1) := by decide +kernel
theorem dX11_requireBelow_1 : decode cX11_requireBelow 1 = .ok (.ifCond .lt 8, 3) := by decide +kernel
theorem dX11_requireBelow_4 : decode cX11_requireBelow 4 = .ok (.iload_n 0, 1) := by decide +kernel
theorem dX11_requireBelow_5 : decode cX11_requireBelow 5 = .ok (.iload_n 1, 1) := by decide +kernel
theorem dX11_requireBelow_6 : decode cX11_requireBelow 6 = .ok (.if_icmp .lt 11, 3) := by decide +kernel
theorem dX11_requireBelow_9 : decode cX11_requireBelow 9 = .ok (.new 114, 3) := by decide +kernel
theorem dX11_requireBelow_12 : decode cX11_requireBelow 12 = .ok (.dup, 1) := by decide +kernel
theorem dX11_requireBelow_13 : decode cX11_requireBelow 13 = .ok (.invokespecial 116, 3) := by decide +kernel
theorem dX11_requireBelow_16 : decode cX11_requireBelow 16 = .ok (.athrow, 1) := by decide +kernel
theorem dX11_requireBelow_17 : decode cX11_requireBelow 17 = .ok (.return_, 1) := by decide +kernel
theorem dX11_existingFun_0 : decode cX11_existingFun 0 = .ok (.iload_n 1, 1) := by decide +kernel
theorem dX11_existingFun_1 : decode cX11_existingFun 1 = .ok (.aload_n 0, 1) := by decide +kernel
theorem dX11_existingFun_2 : decode cX11_existingFun 2 = .ok (.getfield 28, 3) := by decide +kernel
theorem dX11_existingFun_5 : decode cX11_existingFun 5 = .ok (.getfield 102, 3) := by decide +kernel
theorem dX11_existingFun_8 : decode cX11_existingFun 8 = .ok (.invokestatic 153, 3) := by decide +kernel
theorem dX11_existingFun_11 : decode cX11_existingFun 11 = .ok (.aload_n 0, 1) := by decide +kernel
theorem dX11_existingFun_12 : decode cX11_existingFun 12 = .ok (.getfield 28, 3) := by decide +kernel
theorem dX11_existingFun_15 : decode cX11_existingFun 15 = .ok (.iload_n 1, 1) := by decide +kernel
theorem dX11_existingFun_16 : decode cX11_existingFun 16 = .ok (.invokevirtual 181, 3) := by decide +kernel
theorem dX11_existingFun_19 : decode cX11_existingFun 19 = .ok (.areturn, 1) := by decide +kernel
theorem dX11_existingTable_0 : decode cX11_existingTable 0 = .ok (.iload_n 1, 1) := by decide +kernel
theorem dX11_existingTable_1 : decode cX11_existingTable 1 = .ok (.aload_n 0, 1) := by decide +kernel
theorem dX11_existingTable_2 : decode cX11_existingTable 2 = .ok (.getfield 28, 3) := by decide +kernel
theorem dX11_existingTable_5 : decode cX11_existingTable 5 = .ok (.getfield 105, 3) := by decide +kernel
theorem dX11_existingTable_8 : decode cX11_existingTable 8 = .ok (.invokestatic 153, 3) := by decide +kernel
theorem dX11_existingTable_11 : decode cX11_existingTable 11 = .ok (.aload_n 0, 1) := by decide +kernel
theorem dX11_existingTable_12 : decode cX11_existingTable 12 = .ok (.getfield 28, 3) := by decide +kernel
theorem dX11_existingTable_15 : decode cX11_existingTable 15 = .ok (.iload_n 1, 1) := by decide +kernel
theorem dX11_existingTable_16 : decode cX11_existingTable 16 = .ok (.invokevirtual 225, 3) := by decide +kernel
theorem dX11_existingTable_19 : decode cX11_existingTable 19 = .ok (.areturn, 1) := by decide +kernel
theorem dX11_findUntried_0 : decode cX11_findUntried 0 = .ok (.aload_n 0, 1) := by decide +kernel
theorem dX11_findUntried_1 : decode cX11_findUntried 1 = .ok (.getfield 28, 3) := by decide +kernel
theorem dX11_findUntried_4 : decode cX11_findUntried 4 = .ok (.iload_n 1, 1) := by decide +kernel
theorem dX11_findUntried_5 : decode cX11_findUntried 5 = .ok (.invokevirtual 181, 3) := by decide +kernel
theorem dX11_findUntried_8 : decode cX11_findUntried 8 = .ok (.astore_n 2, 1) := by decide +kernel
theorem dX11_findUntried_9 : decode cX11_findUntried 9 = .ok (.aload_n 0, 1) := by decide +kernel
theorem dX11_findUntried_10 : decode cX11_findUntried 10 = .ok (.getfield 62, 3) := by decide +kernel
theorem dX11_findUntried_13 : decode cX11_findUntried 13 = .ok (.aload_n 2, 1) := by decide +kernel
theorem dX11_findUntried_14 : decode cX11_findUntried 14 = .ok (.invokevirtual 240, 3) := by decide +kernel
theorem dX11_findUntried_17 : decode cX11_findUntried 17 = .ok (.iconst 0, 1) := by decide +kernel
theorem dX11_findUntried_18 : decode cX11_findUntried 18 = .ok (.istore_n 3, 1) := by decide +kernel
theorem dX11_findUntried_19 : decode cX11_findUntried 19 = .ok (.iload_n 3, 1) := by decide +kernel
theorem dX11_findUntried_20 : decode cX11_findUntried 20 = .ok (.aload_n 0, 1) := by decide +kernel
theorem dX11_findUntried_21 : decode cX11_findUntried 21 = .ok (.getfield 28, 3) := by decide +kernel
theorem dX11_findUntried_24 : decode cX11_findUntried 24 = .ok (.getfield 105, 3) := by decide +kernel
theorem dX11_findUntried_27 : decode cX11_findUntried 27 = .ok (.if_icmp .ge 41, 3) := by decide +kernel
theorem dX11_findUntried_30 : decode cX11_findUntried 30 = .ok (.aload_n 0, 1) := by decide +kernel
theorem dX11_findUntried_31 : decode cX11_findUntried 31 = .ok (.getfield 28, 3) := by decide +kernel
theorem dX11_findUntried_34 : decode cX11_findUntried 34 = .ok (.iload_n 3, 1) := by decide +kernel
theorem dX11_findUntried_35 : decode cX11_findUntried 35 = .ok (.invokevirtual 225, 3) := by decide +kernel
theorem dX11_findUntried_38 : decode cX11_findUntried 38 = .ok (.astore 4, 2) := by decide +kernel
theorem dX11_findUntried_40 : decode cX11_findUntried 40 = .ok (.aload 4, 2) := by decide +kernel
theorem dX11_findUntried_42 : decode cX11_findUntried 42 = .ok (.getfield 178, 3) := by decide +kernel
theorem dX11_findUntried_45 : decode cX11_findUntried 45 = .ok (.iload_n 1, 1) := by decide +kernel
theorem dX11_findUntried_46 : decode cX11_findUntried 46 = .ok (.if_icmp .ne 16, 3) := by decide +kernel
theorem dX11_findUntried_49 : decode cX11_findUntried 49 = .ok (.aload_n 0, 1) := by decide +kernel
theorem dX11_findUntried_50 : decode cX11_findUntried 50 = .ok (.getfield 62, 3) := by decide +kernel
theorem dX11_findUntried_53 : decode cX11_findUntried 53 = .ok (.aload_n 2, 1) := by decide +kernel
theorem dX11_findUntried_54 : decode cX11_findUntried 54 = .ok (.getfield 133, 3) := by decide +kernel
theorem dX11_findUntried_57 : decode cX11_findUntried 57 = .ok (.aload 4, 2) := by decide +kernel
theorem dX11_findUntried_59 : decode cX11_findUntried 59 = .ok (.invokevirtual 244, 3) := by decide +kernel
theorem dX11_findUntried_62 : decode cX11_findUntried 62 = .ok (.iinc 3 1, 3) := by decide +kernel
theorem dX11_findUntried_65 : decode cX11_findUntried 65 = .ok (.goto (-46), 3) := by decide +kernel
theorem dX11_findUntried_68 : decode cX11_findUntried 68 = .ok (.return_, 1) := by decide +kernel
theorem dX11_addCase_0 : decode cX11_addCase 0 = .ok (.aload_n 0, 1) := by decide +kernel
theorem dX11_addCase_1 : decode cX11_addCase 1 = .ok (.getfield 28, 3) := by decide +kernel
theorem dX11_addCase_4 : decode cX11_addCase 4 = .ok (.aload_n 1, 1) := by decide +kernel
theorem dX11_addCase_5 : decode cX11_addCase 5 = .ok (.getfield 178, 3) := by decide +kernel
theorem dX11_addCase_8 : decode cX11_addCase 8 = .ok (.invokevirtual 181, 3) := by decide +kernel
theorem dX11_addCase_11 : decode cX11_addCase 11 = .ok (.getfield 133, 3) := by decide +kernel
theorem dX11_addCase_14 : decode cX11_addCase 14 = .ok (.astore_n 3, 1) := by decide +kernel
theorem dX11_addCase_15 : decode cX11_addCase 15 = .ok (.aload_n 1, 1) := by decide +kernel
theorem dX11_addCase_16 : decode cX11_addCase 16 = .ok (.invokevirtual 248, 3) := by decide +kernel
theorem dX11_addCase_19 : decode cX11_addCase 19 = .ok (.astore 4, 2) := by decide +kernel
theorem dX11_addCase_21 : decode cX11_addCase 21 = .ok (.iconst 0, 1) := by decide +kernel
theorem dX11_addCase_22 : decode cX11_addCase 22 = .ok (.istore 5, 2) := by decide +kernel
theorem dX11_addCase_24 : decode cX11_addCase 24 = .ok (.iload 5, 2) := by decide +kernel
theorem dX11_addCase_26 : decode cX11_addCase 26 = .ok (.iconst 3, 1) := by decide +kernel
theorem dX11_addCase_27 : decode cX11_addCase 27 = .ok (.if_icmp .ge 32, 3) := by decide +kernel
theorem dX11_addCase_30 : decode cX11_addCase 30 = .ok (.aload_n 3, 1) := by decide +kernel
theorem dX11_addCase_31 : decode cX11_addCase 31 = .ok (.iload_n 2, 1) := by decide +kernel
theorem dX11_addCase_32 : decode cX11_addCase 32 = .ok (.iload 5, 2) := by decide +kernel
theorem dX11_addCase_34 : decode cX11_addCase 34 = .ok (.invokevirtual 157, 3) := by decide +kernel
theorem dX11_addCase_37 : decode cX11_addCase 37 = .ok (.istore 6, 2) := by decide +kernel
theorem dX11_addCase_39 : decode cX11_addCase 39 = .ok (.aload 4, 2) := by decide +kernel
theorem dX11_addCase_41 : decode cX11_addCase 41 = .ok (.getfield 252, 3) := by decide +kernel
theorem dX11_addCase_44 : decode cX11_addCase 44 = .ok (.iload 5, 2) := by decide +kernel
theorem dX11_addCase_46 : decode cX11_addCase 46 = .ok (.iload 6, 2) := by decide +kernel
theorem dX11_addCase_48 : decode cX11_addCase 48 = .ok (.iload 6, 2) := by decide +kernel
theorem dX11_addCase_50 : decode cX11_addCase 50 = .ok (.invokevirtual 255, 3) := by decide +kernel
theorem dX11_addCase_53 : decode cX11_addCase 53 = .ok (.iinc 5 1, 3) := by decide +kernel
theorem dX11_addCase_56 : decode cX11_addCase 56 = .ok (.goto (-32), 3) := by decide +kernel
theorem dX11_addCase_59 : decode cX11_addCase 59 = .ok (.aload 4, 2) := by decide +kernel
theorem dX11_addCase_61 : decode cX11_addCase 61 = .ok (.getfield 252, 3) := by decide +kernel
theorem dX11_addCase_64 : decode cX11_addCase 64 = .ok (.astore 5, 2) := by decide +kernel
theorem dX11_addCase_66 : decode cX11_addCase 66 = .ok (.aload 4, 2) := by decide +kernel
theorem dX11_addCase_68 : decode cX11_addCase 68 = .ok (.aload_n 0, 1) := by decide +kernel
theorem dX11_addCase_69 : decode cX11_addCase 69 = .ok (.getfield 46, 3) := by decide +kernel
theorem dX11_addCase_72 : decode cX11_addCase 72 = .ok (.aload_n 1, 1) := by decide +kernel
theorem dX11_addCase_73 : decode cX11_addCase 73 = .ok (.getfield 178, 3) := by decide +kernel
theorem dX11_addCase_76 : decode cX11_addCase 76 = .ok (.iconst (-1), 1) := by decide +kernel
theorem dX11_addCase_77 : decode cX11_addCase 77 = .ok (.aload 5, 2) := by decide +kernel
theorem dX11_addCase_79 : decode cX11_addCase 79 = .ok (.iconst 0, 1) := by decide +kernel
theorem dX11_addCase_80 : decode cX11_addCase 80 = .ok (.invokevirtual 259, 3) := by decide +kernel
theorem dX11_addCase_83 : decode cX11_addCase 83 = .ok (.i2l, 1) := by decide +kernel
theorem dX11_addCase_84 : decode cX11_addCase 84 = .ok (.aload 5, 2) := by decide +kernel
theorem dX11_addCase_86 : decode cX11_addCase 86 = .ok (.iconst 1, 1) := by decide +kernel
theorem dX11_addCase_87 : decode cX11_addCase 87 = .ok (.invokevirtual 259, 3) := by decide +kernel
theorem dX11_addCase_90 : decode cX11_addCase 90 = .ok (.i2l, 1) := by decide +kernel
theorem dX11_addCase_91 : decode cX11_addCase 91 = .ok (.aload 5, 2) := by decide +kernel
theorem dX11_addCase_93 : decode cX11_addCase 93 = .ok (.iconst 2, 1) := by decide +kernel
theorem dX11_addCase_94 : decode cX11_addCase 94 = .ok (.invokevirtual 259, 3) := by decide +kernel
theorem dX11_addCase_97 : decode cX11_addCase 97 = .ok (.i2l, 1) := by decide +kernel
theorem dX11_addCase_98 : decode cX11_addCase 98 = .ok (.invokevirtual 232, 3) := by decide +kernel
theorem dX11_addCase_101 : decode cX11_addCase 101 = .ok (.putfield 262, 3) := by decide +kernel
theorem dX11_addCase_104 : decode cX11_addCase 104 = .ok (.aload 4, 2) := by decide +kernel
theorem dX11_addCase_106 : decode cX11_addCase 106 = .ok (.aload_n 0, 1) := by decide +kernel
theorem dX11_addCase_107 : decode cX11_addCase 107 = .ok (.getfield 46, 3) := by decide +kernel
theorem dX11_addCase_110 : decode cX11_addCase 110 = .ok (.invokevirtual 236, 3) := by decide +kernel
theorem dX11_addCase_113 : decode cX11_addCase 113 = .ok (.ifCond .eq 8, 3) := by decide +kernel
theorem dX11_addCase_116 : decode cX11_addCase 116 = .ok (.bipush 15, 2) := by decide +kernel
theorem dX11_addCase_118 : decode cX11_addCase 118 = .ok (.goto 5, 3) := by decide +kernel
theorem dX11_addCase_121 : decode cX11_addCase 121 = .ok (.bipush 22, 2) := by decide +kernel
theorem dX11_addCase_123 : decode cX11_addCase 123 = .ok (.putfield 266, 3) := by decide +kernel
theorem dX11_addCase_126 : decode cX11_addCase 126 = .ok (.aload_n 1, 1) := by decide +kernel
theorem dX11_addCase_127 : decode cX11_addCase 127 = .ok (.invokevirtual 269, 3) := by decide +kernel
theorem dX11_addCase_130 : decode cX11_addCase 130 = .ok (.return_, 1) := by decide +kernel
theorem dX11_isRelated_0 : decode cX11_isRelated 0 = .ok (.iload_n 0, 1) := by decide +kernel
theorem dX11_isRelated_1 : decode cX11_isRelated 1 = .ok (.tableswitch 95 22 26 #[35, 47, 59, 71, 83], 35) := by decide +kernel
theorem dX11_isRelated_36 : decode cX11_isRelated 36 = .ok (.lload_n 1, 1) := by decide +kernel
theorem dX11_isRelated_37 : decode cX11_isRelated 37 = .ok (.lload_n 3, 1) := by decide +kernel
theorem dX11_isRelated_38 : decode cX11_isRelated 38 = .ok (.lcmp, 1) := by decide +kernel
theorem dX11_isRelated_39 : decode cX11_isRelated 39 = .ok (.ifCond .ne 7, 3) := by decide +kernel
theorem dX11_isRelated_42 : decode cX11_isRelated 42 = .ok (.iconst 1, 1) := by decide +kernel
theorem dX11_isRelated_43 : decode cX11_isRelated 43 = .ok (.goto 4, 3) := by decide +kernel
theorem dX11_isRelated_46 : decode cX11_isRelated 46 = .ok (.iconst 0, 1) := by decide +kernel
theorem dX11_isRelated_47 : decode cX11_isRelated 47 = .ok (.ireturn, 1) := by decide +kernel
theorem dX11_isRelated_48 : decode cX11_isRelated 48 = .ok (.lload_n 1, 1) := by decide +kernel
theorem dX11_isRelated_49 : decode cX11_isRelated 49 = .ok (.lload_n 3, 1) := by decide +kernel
theorem dX11_isRelated_50 : decode cX11_isRelated 50 = .ok (.lcmp, 1) := by decide +kernel
theorem dX11_isRelated_51 : decode cX11_isRelated 51 = .ok (.ifCond .eq 7, 3) := by decide +kernel
theorem dX11_isRelated_54 : decode cX11_isRelated 54 = .ok (.iconst 1, 1) := by decide +kernel
theorem dX11_isRelated_55 : decode cX11_isRelated 55 = .ok (.goto 4, 3) := by decide +kernel
theorem dX11_isRelated_58 : decode cX11_isRelated 58 = .ok (.iconst 0, 1) := by decide +kernel
theorem dX11_isRelated_59 : decode cX11_isRelated 59 = .ok (.ireturn, 1) := by decide +kernel
theorem dX11_isRelated_60 : decode cX11_isRelated 60 = .ok (.lload_n 1, 1) := by decide +kernel
theorem dX11_isRelated_61 : decode cX11_isRelated 61 = .ok (.lload_n 3, 1) := by decide +kernel
theorem dX11_isRelated_62 : decode cX11_isRelated 62 = .ok (.lcmp, 1) := by decide +kernel
theorem dX11_isRelated_63 : decode cX11_isRelated 63 = .ok (.ifCond .ge 7, 3) := by decide +kernel
theorem dX11_isRelated_66 : decode cX11_isRelated 66 = .ok (.iconst 1, 1) := by decide +kernel
theorem dX11_isRelated_67 : decode cX11_isRelated 67 = .ok (.goto 4, 3) := by decide +kernel
theorem dX11_isRelated_70 : decode cX11_isRelated 70 = .ok (.iconst 0, 1) := by decide +kernel
theorem dX11_isRelated_71 : decode cX11_isRelated 71 = .ok (.ireturn, 1) := by decide +kernel
theorem dX11_isRelated_72 : decode cX11_isRelated 72 = .ok (.lload_n 1, 1) := by decide +kernel
theorem dX11_isRelated_73 : decode cX11_isRelated 73 = .ok (.lload_n 3, 1) := by decide +kernel
theorem dX11_isRelated_74 : decode cX11_isRelated 74 = .ok (.lcmp, 1) := by decide +kernel
theorem dX11_isRelated_75 : decode cX11_isRelated 75 = .ok (.ifCond .gt 7, 3) := by decide +kernel
theorem dX11_isRelated_78 : decode cX11_isRelated 78 = .ok (.iconst 1, 1) := by decide +kernel
theorem dX11_isRelated_79 : decode cX11_isRelated 79 = .ok (.goto 4, 3) := by decide +kernel
theorem dX11_isRelated_82 : decode cX11_isRelated 82 = .ok (.iconst 0, 1) := by decide +kernel
theorem dX11_isRelated_83 : decode cX11_isRelated 83 = .ok (.ireturn, 1) := by decide +kernel
theorem dX11_isRelated_84 : decode cX11_isRelated 84 = .ok (.lload_n 1, 1) := by decide +kernel
theorem dX11_isRelated_85 : decode cX11_isRelated 85 = .ok (.lload_n 3, 1) := by decide +kernel
theorem dX11_isRelated_86 : decode cX11_isRelated 86 = .ok (.lcmp, 1) := by decide +kernel
theorem dX11_isRelated_87 : decode cX11_isRelated 87 = .ok (.ifCond .le 7, 3) := by decide +kernel
theorem dX11_isRelated_90 : decode cX11_isRelated 90 = .ok (.iconst 1, 1) := by decide +kernel
theorem dX11_isRelated_91 : decode cX11_isRelated 91 = .ok (.goto 4, 3) := by decide +kernel
theorem dX11_isRelated_94 : decode cX11_isRelated 94 = .ok (.iconst 0, 1) := by decide +kernel
theorem dX11_isRelated_95 : decode cX11_isRelated 95 = .ok (.ireturn, 1) := by decide +kernel
theorem dX11_isRelated_96 : decode cX11_isRelated 96 = .ok (.lload_n 1, 1) := by decide +kernel
theorem dX11_isRelated_97 : decode cX11_isRelated 97 = .ok (.lload_n 3, 1) := by decide +kernel
theorem dX11_isRelated_98 : decode cX11_isRelated 98 = .ok (.lcmp, 1) := by decide +kernel
theorem dX11_isRelated_99 : decode cX11_isRelated 99 = .ok (.ifCond .lt 7, 3) := by decide +kernel
theorem dX11_isRelated_102 : decode cX11_isRelated 102 = .ok (.iconst 1, 1) := by decide +kernel
theorem dX11_isRelated_103 : decode cX11_isRelated 103 = .ok (.goto 4, 3) := by decide +kernel
theorem dX11_isRelated_106 : decode cX11_isRelated 106 = .ok (.iconst 0, 1) := by decide +kernel
theorem dX11_isRelated_107 : decode cX11_isRelated 107 = .ok (.ireturn, 1) := by decide +kernel
theorem dJ13_bitCount_95d88_0 : decode cJ13_bitCount_95d88 0 = .ok (.lload_n 0, 1) := by decide +kernel
theorem dJ13_bitCount_95d88_1 : decode cJ13_bitCount_95d88 1 = .ok (.lload_n 0, 1) := by decide +kernel
theorem dJ13_bitCount_95d88_2 : decode cJ13_bitCount_95d88 2 = .ok (.iconst 1, 1) := by decide +kernel
theorem dJ13_bitCount_95d88_3 : decode cJ13_bitCount_95d88 3 = .ok (.lushr, 1) := by decide +kernel
theorem dJ13_bitCount_95d88_4 : decode cJ13_bitCount_95d88 4 = .ok (.ldc2_w 314, 3) := by decide +kernel
theorem dJ13_bitCount_95d88_7 : decode cJ13_bitCount_95d88 7 = .ok (.land, 1) := by decide +kernel
theorem dJ13_bitCount_95d88_8 : decode cJ13_bitCount_95d88 8 = .ok (.lsub, 1) := by decide +kernel
theorem dJ13_bitCount_95d88_9 : decode cJ13_bitCount_95d88 9 = .ok (.lstore_n 0, 1) := by decide +kernel
theorem dJ13_bitCount_95d88_10 : decode cJ13_bitCount_95d88 10 = .ok (.lload_n 0, 1) := by decide +kernel
theorem dJ13_bitCount_95d88_11 : decode cJ13_bitCount_95d88 11 = .ok (.ldc2_w 316, 3) := by decide +kernel
theorem dJ13_bitCount_95d88_14 : decode cJ13_bitCount_95d88 14 = .ok (.land, 1) := by decide +kernel
theorem dJ13_bitCount_95d88_15 : decode cJ13_bitCount_95d88 15 = .ok (.lload_n 0, 1) := by decide +kernel
theorem dJ13_bitCount_95d88_16 : decode cJ13_bitCount_95d88 16 = .ok (.iconst 2, 1) := by decide +kernel
theorem dJ13_bitCount_95d88_17 : decode cJ13_bitCount_95d88 17 = .ok (.lushr, 1) := by decide +kernel
theorem dJ13_bitCount_95d88_18 : decode cJ13_bitCount_95d88 18 = .ok (.ldc2_w 316, 3) := by decide +kernel
theorem dJ13_bitCount_95d88_21 : decode cJ13_bitCount_95d88 21 = .ok (.land, 1) := by decide +kernel
theorem dJ13_bitCount_95d88_22 : decode cJ13_bitCount_95d88 22 = .ok (.ladd, 1) := by decide +kernel
theorem dJ13_bitCount_95d88_23 : decode cJ13_bitCount_95d88 23 = .ok (.lstore_n 0, 1) := by decide +kernel
theorem dJ13_bitCount_95d88_24 : decode cJ13_bitCount_95d88 24 = .ok (.lload_n 0, 1) := by decide +kernel
theorem dJ13_bitCount_95d88_25 : decode cJ13_bitCount_95d88 25 = .ok (.lload_n 0, 1) := by decide +kernel
theorem dJ13_bitCount_95d88_26 : decode cJ13_bitCount_95d88 26 = .ok (.iconst 4, 1) := by decide +kernel
theorem dJ13_bitCount_95d88_27 : decode cJ13_bitCount_95d88 27 = .ok (.lushr, 1) := by decide +kernel
theorem dJ13_bitCount_95d88_28 : decode cJ13_bitCount_95d88 28 = .ok (.ladd, 1) := by decide +kernel
theorem dJ13_bitCount_95d88_29 : decode cJ13_bitCount_95d88 29 = .ok (.ldc2_w 318, 3) := by decide +kernel
theorem dJ13_bitCount_95d88_32 : decode cJ13_bitCount_95d88 32 = .ok (.land, 1) := by decide +kernel
theorem dJ13_bitCount_95d88_33 : decode cJ13_bitCount_95d88 33 = .ok (.lstore_n 0, 1) := by decide +kernel
theorem dJ13_bitCount_95d88_34 : decode cJ13_bitCount_95d88 34 = .ok (.lload_n 0, 1) := by decide +kernel
theorem dJ13_bitCount_95d88_35 : decode cJ13_bitCount_95d88 35 = .ok (.lload_n 0, 1) := by decide +kernel
theorem dJ13_bitCount_95d88_36 : decode cJ13_bitCount_95d88 36 = .ok (.bipush 8, 2) := by decide +kernel
theorem dJ13_bitCount_95d88_38 : decode cJ13_bitCount_95d88 38 = .ok (.lushr, 1) := by decide +kernel
theorem dJ13_bitCount_95d88_39 : decode cJ13_bitCount_95d88 39 = .ok (.ladd, 1) := by decide +kernel
theorem dJ13_bitCount_95d88_40 : decode cJ13_bitCount_95d88 40 = .ok (.lstore_n 0, 1) := by decide +kernel
theorem dJ13_bitCount_95d88_41 : decode cJ13_bitCount_95d88 41 = .ok (.lload_n 0, 1) := by decide +kernel
theorem dJ13_bitCount_95d88_42 : decode cJ13_bitCount_95d88 42 = .ok (.lload_n 0, 1) := by decide +kernel
theorem dJ13_bitCount_95d88_43 : decode cJ13_bitCount_95d88 43 = .ok (.bipush 16, 2) := by decide +kernel
theorem dJ13_bitCount_95d88_45 : decode cJ13_bitCount_95d88 45 = .ok (.lushr, 1) := by decide +kernel
theorem dJ13_bitCount_95d88_46 : decode cJ13_bitCount_95d88 46 = .ok (.ladd, 1) := by decide +kernel
theorem dJ13_bitCount_95d88_47 : decode cJ13_bitCount_95d88 47 = .ok (.lstore_n 0, 1) := by decide +kernel
theorem dJ13_bitCount_95d88_48 : decode cJ13_bitCount_95d88 48 = .ok (.lload_n 0, 1) := by decide +kernel
theorem dJ13_bitCount_95d88_49 : decode cJ13_bitCount_95d88 49 = .ok (.lload_n 0, 1) := by decide +kernel
theorem dJ13_bitCount_95d88_50 : decode cJ13_bitCount_95d88 50 = .ok (.bipush 32, 2) := by decide +kernel
theorem dJ13_bitCount_95d88_52 : decode cJ13_bitCount_95d88 52 = .ok (.lushr, 1) := by decide +kernel
theorem dJ13_bitCount_95d88_53 : decode cJ13_bitCount_95d88 53 = .ok (.ladd, 1) := by decide +kernel
theorem dJ13_bitCount_95d88_54 : decode cJ13_bitCount_95d88 54 = .ok (.lstore_n 0, 1) := by decide +kernel
theorem dJ13_bitCount_95d88_55 : decode cJ13_bitCount_95d88 55 = .ok (.lload_n 0, 1) := by decide +kernel
theorem dJ13_bitCount_95d88_56 : decode cJ13_bitCount_95d88 56 = .ok (.l2i, 1) := by decide +kernel
theorem dJ13_bitCount_95d88_57 : decode cJ13_bitCount_95d88 57 = .ok (.bipush 127, 2) := by decide +kernel
theorem dJ13_bitCount_95d88_59 : decode cJ13_bitCount_95d88 59 = .ok (.iand, 1) := by decide +kernel
theorem dJ13_bitCount_95d88_60 : decode cJ13_bitCount_95d88 60 = .ok (.ireturn, 1) := by decide +kernel
theorem dJ0_length_8abf5_0 : decode cJ0_length_8abf5 0 = .ok (.aload_n 0, 1) := by decide +kernel
theorem dJ0_length_8abf5_1 : decode cJ0_length_8abf5 1 = .ok (.getfield 9, 3) := by decide +kernel
theorem dJ0_length_8abf5_4 : decode cJ0_length_8abf5 4 = .ok (.arraylength, 1) := by decide +kernel
theorem dJ0_length_8abf5_5 : decode cJ0_length_8abf5 5 = .ok (.aload_n 0, 1) := by decide +kernel
theorem dJ0_length_8abf5_6 : decode cJ0_length_8abf5 6 = .ok (.invokevirtual 335, 3) := by decide +kernel
theorem dJ0_length_8abf5_9 : decode cJ0_length_8abf5 9 = .ok (.ishr, 1) := by decide +kernel
theorem dJ0_length_8abf5_10 : decode cJ0_length_8abf5 10 = .ok (.ireturn, 1) := by decide +kernel
theorem dJ0_charAt_5068e_0 : decode cJ0_charAt_5068e 0 = .ok (.aload_n 0, 1) := by decide +kernel
theorem dJ0_charAt_5068e_1 : decode cJ0_charAt_5068e 1 = .ok (.invokevirtual 492, 3) := by decide +kernel
theorem dJ0_charAt_5068e_4 : decode cJ0_charAt_5068e 4 = .ok (.ifCond .eq 12, 3) := by decide +kernel
theorem dJ0_charAt_5068e_7 : decode cJ0_charAt_5068e 7 = .ok (.aload_n 0, 1) := by decide +kernel
theorem dJ0_charAt_5068e_8 : decode cJ0_charAt_5068e 8 = .ok (.getfield 9, 3) := by decide +kernel
theorem dJ0_charAt_5068e_11 : decode cJ0_charAt_5068e 11 = .ok (.iload_n 1, 1) := by decide +kernel
theorem dJ0_charAt_5068e_12 : decode cJ0_charAt_5068e 12 = .ok (.invokestatic 495, 3) := by decide +kernel
theorem dJ0_charAt_5068e_15 : decode cJ0_charAt_5068e 15 = .ok (.ireturn, 1) := by decide +kernel
theorem dJ0_charAt_5068e_16 : decode cJ0_charAt_5068e 16 = .ok (.aload_n 0, 1) := by decide +kernel
theorem dJ0_charAt_5068e_17 : decode cJ0_charAt_5068e 17 = .ok (.getfield 9, 3) := by decide +kernel
theorem dJ0_charAt_5068e_20 : decode cJ0_charAt_5068e 20 = .ok (.iload_n 1, 1) := by decide +kernel
theorem dJ0_charAt_5068e_24 : decode cJ0_charAt_5068e 24 = .ok (.ireturn, 1) := by decide +kernel
theorem dJ0_coder_7d493_0 : decode cJ0_coder_7d493 0 = .ok (.getstatic 38, 3) := by decide +kernel
theorem dJ0_coder_7d493_3 : decode cJ0_coder_7d493 3 = .ok (.ifCond .eq 10, 3) := by decide +kernel
theorem dJ0_coder_7d493_6 : decode cJ0_coder_7d493 6 = .ok (.aload_n 0, 1) := by decide +kernel
theorem dJ0_coder_7d493_7 : decode cJ0_coder_7d493 7 = .ok (.getfield 15, 3) := by decide +kernel
theorem dJ0_coder_7d493_10 : decode cJ0_coder_7d493 10 = .ok (.goto 4, 3) := by decide +kernel
theorem dJ0_coder_7d493_13 : decode cJ0_coder_7d493 13 = .ok (.iconst 1, 1) := by decide +kernel
theorem dJ0_coder_7d493_14 : decode cJ0_coder_7d493 14 = .ok (.ireturn, 1) := by decide +kernel
theorem dJ0_isLatin1_aae02_0 : decode cJ0_isLatin1_aae02 0 = .ok (.getstatic 38, 3) := by decide +kernel
theorem dJ0_isLatin1_aae02_3 : decode cJ0_isLatin1_aae02 3 = .ok (.ifCond .eq 14, 3) := by decide +kernel
theorem dJ0_isLatin1_aae02_6 : decode cJ0_isLatin1_aae02 6 = .ok (.aload_n 0, 1) := by decide +kernel
theorem dJ0_isLatin1_aae02_7 : decode cJ0_isLatin1_aae02 7 = .ok (.getfield 15, 3) := by decide +kernel
theorem dJ0_isLatin1_aae02_10 : decode cJ0_isLatin1_aae02 10 = .ok (.ifCond .ne 7, 3) := by decide +kernel
theorem dJ0_isLatin1_aae02_13 : decode cJ0_isLatin1_aae02 13 = .ok (.iconst 1, 1) := by decide +kernel
theorem dJ0_isLatin1_aae02_14 : decode cJ0_isLatin1_aae02 14 = .ok (.goto 4, 3) := by decide +kernel
theorem dJ0_isLatin1_aae02_17 : decode cJ0_isLatin1_aae02 17 = .ok (.iconst 0, 1) := by decide +kernel
theorem dJ0_isLatin1_aae02_18 : decode cJ0_isLatin1_aae02 18 = .ok (.ireturn, 1) := by decide +kernel
theorem dJ0_checkIndex_df160_0 : decode cJ0_checkIndex_df160 0 = .ok (.iload_n 0, 1) := by decide +kernel
theorem dJ0_checkIndex_df160_1 : decode cJ0_checkIndex_df160 1 = .ok (.iload_n 1, 1) := by decide +kernel
theorem dJ0_checkIndex_df160_2 : decode cJ0_checkIndex_df160 2 = .ok (.getstatic 1053, 3) := by decide +kernel
theorem dJ0_checkIndex_df160_5 : decode cJ0_checkIndex_df160 5 = .ok (.invokestatic 1059, 3) := by decide +kernel
theorem dJ0_checkIndex_df160_8 : decode cJ0_checkIndex_df160 8 = .ok (.pop, 1) := by decide +kernel
theorem dJ0_checkIndex_df160_9 : decode cJ0_checkIndex_df160 9 = .ok (.return_, 1) := by decide +kernel
theorem dJ1_charAt_3b067_0 : decode cJ1_charAt_3b067 0 = .ok (.iload_n 1, 1) := by decide +kernel
theorem dJ1_charAt_3b067_1 : decode cJ1_charAt_3b067 1 = .ok (.aload_n 0, 1) := by decide +kernel
theorem dJ1_charAt_3b067_2 : decode cJ1_charAt_3b067 2 = .ok (.arraylength, 1) := by decide +kernel
theorem dJ1_charAt_3b067_3 : decode cJ1_charAt_3b067 3 = .ok (.invokestatic 9, 3) := by decide +kernel
theorem dJ1_charAt_3b067_6 : decode cJ1_charAt_3b067 6 = .ok (.aload_n 0, 1) := by decide +kernel
theorem dJ1_charAt_3b067_7 : decode cJ1_charAt_3b067 7 = .ok (.iload_n 1, 1) := by decide +kernel
theorem dJ1_charAt_3b067_8 : decode cJ1_charAt_3b067 8 = .ok (.baload, 1) := by decide +kernel
theorem dJ1_charAt_3b067_9 : decode cJ1_charAt_3b067 9 = .ok (.sipush 255, 3) := by decide +kernel
theorem dJ1_charAt_3b067_12 : decode cJ1_charAt_3b067 12 = .ok (.iand, 1) := by decide +kernel
theorem dJ1_charAt_3b067_13 : decode cJ1_charAt_3b067 13 = .ok (.i2c, 1) := by decide +kernel
theorem dJ1_charAt_3b067_14 : decode cJ1_charAt_3b067 14 = .ok (.ireturn, 1) := by decide +kernel
theorem dJ3_checkIndex_8e157_0 : decode cJ3_checkIndex_8e157 0 = .ok (.iload_n 0, 1) := by decide +kernel
theorem dJ3_checkIndex_8e157_1 : decode cJ3_checkIndex_8e157 1 = .ok (.ifCond .lt 8, 3) := by decide +kernel
theorem dJ3_checkIndex_8e157_4 : decode cJ3_checkIndex_8e157 4 = .ok (.iload_n 0, 1) := by decide +kernel
theorem dJ3_checkIndex_8e157_5 : decode cJ3_checkIndex_8e157 5 = .ok (.iload_n 1, 1) := by decide +kernel
theorem dJ3_checkIndex_8e157_6 : decode cJ3_checkIndex_8e157 6 = .ok (.if_icmp .lt 10, 3) := by decide +kernel
theorem dJ3_checkIndex_8e157_9 : decode cJ3_checkIndex_8e157 9 = .ok (.aload_n 2, 1) := by decide +kernel
theorem dJ3_checkIndex_8e157_10 : decode cJ3_checkIndex_8e157 10 = .ok (.iload_n 0, 1) := by decide +kernel
theorem dJ3_checkIndex_8e157_11 : decode cJ3_checkIndex_8e157 11 = .ok (.iload_n 1, 1) := by decide +kernel
theorem dJ3_checkIndex_8e157_16 : decode cJ3_checkIndex_8e157 16 = .ok (.iload_n 0, 1) := by decide +kernel
theorem dJ3_checkIndex_8e157_17 : decode cJ3_checkIndex_8e157 17 = .ok (.ireturn, 1) := by decide +kernel
theorem dL_below_0 : decode cL_below 0 = .ok (.iload_n 0, 1) := by decide +kernel
theorem dL_below_1 : decode cL_below 1 = .ok (.ldc 7, 2) := by decide +kernel
theorem dL_below_3 : decode cL_below 3 = .ok (.iand, 1) := by decide +kernel
theorem dL_below_4 : decode cL_below 4 = .ok (.iload_n 1, 1) := by decide +kernel
theorem dL_below_5 : decode cL_below 5 = .ok (.irem, 1) := by decide +kernel
theorem dL_below_6 : decode cL_below 6 = .ok (.ireturn, 1) := by decide +kernel
theorem dL_cell_0 : decode cL_cell 0 = .ok (.iload_n 1, 1) := by decide +kernel
theorem dL_cell_1 : decode cL_cell 1 = .ok (.aload_n 0, 1) := by decide +kernel
theorem dL_cell_2 : decode cL_cell 2 = .ok (.arraylength, 1) := by decide +kernel
theorem dL_cell_3 : decode cL_cell 3 = .ok (.if_icmp .ge 9, 3) := by decide +kernel
theorem dL_cell_6 : decode cL_cell 6 = .ok (.aload_n 0, 1) := by decide +kernel
theorem dL_cell_7 : decode cL_cell 7 = .ok (.iload_n 1, 1) := by decide +kernel
theorem dL_cell_8 : decode cL_cell 8 = .ok (.iaload, 1) := by decide +kernel
theorem dL_cell_9 : decode cL_cell 9 = .ok (.goto 9, 3) := by decide +kernel
theorem dL_cell_12 : decode cL_cell 12 = .ok (.ldc 8, 2) := by decide +kernel
theorem dL_cell_14 : decode cL_cell 14 = .ok (.iload_n 1, 1) := by decide +kernel
theorem dL_cell_15 : decode cL_cell 15 = .ok (.iconst 3, 1) := by decide +kernel
theorem dL_cell_16 : decode cL_cell 16 = .ok (.iadd, 1) := by decide +kernel
theorem dL_cell_17 : decode cL_cell 17 = .ok (.imul, 1) := by decide +kernel
theorem dL_cell_18 : decode cL_cell 18 = .ok (.ireturn, 1) := by decide +kernel
theorem dL_put_0 : decode cL_put 0 = .ok (.iconst 0, 1) := by decide +kernel
theorem dL_put_1 : decode cL_put 1 = .ok (.istore_n 2, 1) := by decide +kernel
theorem dL_put_2 : decode cL_put 2 = .ok (.iload_n 2, 1) := by decide +kernel
theorem dL_put_3 : decode cL_put 3 = .ok (.aload_n 1, 1) := by decide +kernel
theorem dL_put_4 : decode cL_put 4 = .ok (.invokevirtual 9, 3) := by decide +kernel
theorem dL_put_7 : decode cL_put 7 = .ok (.if_icmp .ge 23, 3) := by decide +kernel
theorem dL_put_10 : decode cL_put 10 = .ok (.aload_n 0, 1) := by decide +kernel
theorem dL_put_11 : decode cL_put 11 = .ok (.iconst 1, 1) := by decide +kernel
theorem dL_put_12 : decode cL_put 12 = .ok (.aload_n 0, 1) := by decide +kernel
theorem dL_put_13 : decode cL_put 13 = .ok (.iconst 0, 1) := by decide +kernel
theorem dL_put_14 : decode cL_put 14 = .ok (.iaload, 1) := by decide +kernel
theorem dL_put_15 : decode cL_put 15 = .ok (.iadd, 1) := by decide +kernel
theorem dL_put_16 : decode cL_put 16 = .ok (.iload_n 2, 1) := by decide +kernel
theorem dL_put_17 : decode cL_put 17 = .ok (.iadd, 1) := by decide +kernel
theorem dL_put_18 : decode cL_put 18 = .ok (.aload_n 1, 1) := by decide +kernel
theorem dL_put_19 : decode cL_put 19 = .ok (.iload_n 2, 1) := by decide +kernel
theorem dL_put_20 : decode cL_put 20 = .ok (.invokevirtual 15, 3) := by decide +kernel
theorem dL_put_23 : decode cL_put 23 = .ok (.iastore, 1) := by decide +kernel
theorem dL_put_24 : decode cL_put 24 = .ok (.iinc 2 1, 3) := by decide +kernel
theorem dL_put_27 : decode cL_put 27 = .ok (.goto (-25), 3) := by decide +kernel
theorem dL_put_30 : decode cL_put 30 = .ok (.aload_n 0, 1) := by decide +kernel
theorem dL_put_31 : decode cL_put 31 = .ok (.iconst 0, 1) := by decide +kernel
theorem dL_put_32 : decode cL_put 32 = .ok (.dup2, 1) := by decide +kernel
theorem dL_put_33 : decode cL_put 33 = .ok (.iaload, 1) := by decide +kernel
theorem dL_put_34 : decode cL_put 34 = .ok (.aload_n 1, 1) := by decide +kernel
theorem dL_put_35 : decode cL_put 35 = .ok (.invokevirtual 9, 3) := by decide +kernel
theorem dL_put_38 : decode cL_put 38 = .ok (.iadd, 1) := by decide +kernel
theorem dL_put_39 : decode cL_put 39 = .ok (.iastore, 1) := by decide +kernel
theorem dL_put_40 : decode cL_put 40 = .ok (.return_, 1) := by decide +kernel
theorem dL_put__0 : decode cL_put_ 0 = .ok (.iload_n 1, 1) := by decide +kernel
theorem dL_put__1 : decode cL_put_ 1 = .ok (.ifCond .ge 16, 3) := by decide +kernel
theorem dL_put__4 : decode cL_put_ 4 = .ok (.aload_n 0, 1) := by decide +kernel
theorem dL_put__5 : decode cL_put_ 5 = .ok (.ldc 19, 2) := by decide +kernel
theorem dL_put__7 : decode cL_put_ 7 = .ok (.invokestatic 21, 3) := by decide +kernel
theorem dL_put__10 : decode cL_put_ 10 = .ok (.aload_n 0, 1) := by decide +kernel
theorem dL_put__11 : decode cL_put_ 11 = .ok (.iload_n 1, 1) := by decide +kernel
theorem dL_put__12 : decode cL_put_ 12 = .ok (.ineg, 1) := by decide +kernel
theorem dL_put__13 : decode cL_put_ 13 = .ok (.invokestatic 27, 3) := by decide +kernel
theorem dL_put__16 : decode cL_put_ 16 = .ok (.return_, 1) := by decide +kernel
theorem dL_put__17 : decode cL_put_ 17 = .ok (.iload_n 1, 1) := by decide +kernel
theorem dL_put__18 : decode cL_put_ 18 = .ok (.bipush 9, 2) := by decide +kernel
theorem dL_put__20 : decode cL_put_ 20 = .ok (.if_icmp .le 11, 3) := by decide +kernel
theorem dL_put__23 : decode cL_put_ 23 = .ok (.aload_n 0, 1) := by decide +kernel
theorem dL_put__24 : decode cL_put_ 24 = .ok (.iload_n 1, 1) := by decide +kernel
theorem dL_put__25 : decode cL_put_ 25 = .ok (.bipush 10, 2) := by decide +kernel
theorem dL_put__27 : decode cL_put_ 27 = .ok (.idiv, 1) := by decide +kernel
theorem dL_put__28 : decode cL_put_ 28 = .ok (.invokestatic 27, 3) := by decide +kernel
theorem dL_put__31 : decode cL_put_ 31 = .ok (.aload_n 0, 1) := by decide +kernel
theorem dL_put__32 : decode cL_put_ 32 = .ok (.iconst 1, 1) := by decide +kernel
theorem dL_put__33 : decode cL_put_ 33 = .ok (.aload_n 0, 1) := by decide +kernel
theorem dL_put__34 : decode cL_put_ 34 = .ok (.iconst 0, 1) := by decide +kernel
theorem dL_put__35 : decode cL_put_ 35 = .ok (.iaload, 1) := by decide +kernel
theorem dL_put__36 : decode cL_put_ 36 = .ok (.iadd, 1) := by decide +kernel
theorem dL_put__37 : decode cL_put_ 37 = .ok (.bipush 48, 2) := by decide +kernel
theorem dL_put__39 : decode cL_put_ 39 = .ok (.iload_n 1, 1) := by decide +kernel
theorem dL_put__40 : decode cL_put_ 40 = .ok (.bipush 10, 2) := by decide +kernel
theorem dL_put__42 : decode cL_put_ 42 = .ok (.irem, 1) := by decide +kernel
theorem dL_put__43 : decode cL_put_ 43 = .ok (.iadd, 1) := by decide +kernel
theorem dL_put__44 : decode cL_put_ 44 = .ok (.iastore, 1) := by decide +kernel
theorem dL_put__45 : decode cL_put_ 45 = .ok (.aload_n 0, 1) := by decide +kernel
theorem dL_put__46 : decode cL_put_ 46 = .ok (.iconst 0, 1) := by decide +kernel
theorem dL_put__47 : decode cL_put_ 47 = .ok (.dup2, 1) := by decide +kernel
theorem dL_put__48 : decode cL_put_ 48 = .ok (.iaload, 1) := by decide +kernel
theorem dL_put__49 : decode cL_put_ 49 = .ok (.iconst 1, 1) := by decide +kernel
theorem dL_put__50 : decode cL_put_ 50 = .ok (.iadd, 1) := by decide +kernel
theorem dL_put__51 : decode cL_put_ 51 = .ok (.iastore, 1) := by decide +kernel
theorem dL_put__52 : decode cL_put_ 52 = .ok (.return_, 1) := by decide +kernel
theorem dL_lay_0 : decode cL_lay 0 = .ok (.aload_n 0, 1) := by decide +kernel
theorem dL_lay_1 : decode cL_lay 1 = .ok (.iconst 4, 1) := by decide +kernel
theorem dL_lay_2 : decode cL_lay 2 = .ok (.invokevirtual 30, 3) := by decide +kernel
theorem dL_lay_5 : decode cL_lay 5 = .ok (.istore_n 2, 1) := by decide +kernel
theorem dL_lay_6 : decode cL_lay 6 = .ok (.aload_n 1, 1) := by decide +kernel
theorem dL_lay_7 : decode cL_lay 7 = .ok (.iconst 0, 1) := by decide +kernel
theorem dL_lay_8 : decode cL_lay 8 = .ok (.iaload, 1) := by decide +kernel
theorem dL_lay_9 : decode cL_lay 9 = .ok (.istore_n 3, 1) := by decide +kernel
theorem dL_lay_10 : decode cL_lay 10 = .ok (.iconst 0, 1) := by decide +kernel
theorem dL_lay_11 : decode cL_lay 11 = .ok (.istore 4, 2) := by decide +kernel
theorem dL_lay_13 : decode cL_lay 13 = .ok (.iload 4, 2) := by decide +kernel
theorem dL_lay_15 : decode cL_lay 15 = .ok (.iload_n 3, 1) := by decide +kernel
theorem dL_lay_16 : decode cL_lay 16 = .ok (.if_icmp .ge 96, 3) := by decide +kernel
theorem dL_lay_19 : decode cL_lay 19 = .ok (.iconst 5, 1) := by decide +kernel
theorem dL_lay_20 : decode cL_lay 20 = .ok (.newarray .int, 2) := by decide +kernel
theorem dL_lay_22 : decode cL_lay 22 = .ok (.astore 5, 2) := by decide +kernel
theorem dL_lay_24 : decode cL_lay 24 = .ok (.iconst 0, 1) := by decide +kernel
theorem dL_lay_25 : decode cL_lay 25 = .ok (.istore 6, 2) := by decide +kernel
theorem dL_lay_27 : decode cL_lay 27 = .ok (.iload 6, 2) := by decide +kernel
theorem dL_lay_29 : decode cL_lay 29 = .ok (.bipush 20, 2) := by decide +kernel
theorem dL_lay_31 : decode cL_lay 31 = .ok (.if_icmp .ge 50, 3) := by decide +kernel
theorem dL_lay_34 : decode cL_lay 34 = .ok (.aload 5, 2) := by decide +kernel
theorem dL_lay_36 : decode cL_lay 36 = .ok (.iload 6, 2) := by decide +kernel
theorem dL_lay_38 : decode cL_lay 38 = .ok (.iconst 4, 1) := by decide +kernel
theorem dL_lay_39 : decode cL_lay 39 = .ok (.idiv, 1) := by decide +kernel
theorem dL_lay_40 : decode cL_lay 40 = .ok (.aload 5, 2) := by decide +kernel
theorem dL_lay_42 : decode cL_lay 42 = .ok (.iload 6, 2) := by decide +kernel
theorem dL_lay_44 : decode cL_lay 44 = .ok (.iconst 4, 1) := by decide +kernel
theorem dL_lay_45 : decode cL_lay 45 = .ok (.idiv, 1) := by decide +kernel
theorem dL_lay_46 : decode cL_lay 46 = .ok (.iaload, 1) := by decide +kernel
theorem dL_lay_47 : decode cL_lay 47 = .ok (.bipush 8, 2) := by decide +kernel
theorem dL_lay_49 : decode cL_lay 49 = .ok (.ishl, 1) := by decide +kernel
theorem dL_lay_50 : decode cL_lay 50 = .ok (.iload 4, 2) := by decide +kernel
theorem dL_lay_52 : decode cL_lay 52 = .ok (.iload 6, 2) := by decide +kernel
theorem dL_lay_54 : decode cL_lay 54 = .ok (.iadd, 1) := by decide +kernel
theorem dL_lay_55 : decode cL_lay 55 = .ok (.iload_n 3, 1) := by decide +kernel
theorem dL_lay_56 : decode cL_lay 56 = .ok (.if_icmp .ge 15, 3) := by decide +kernel
theorem dL_lay_59 : decode cL_lay 59 = .ok (.aload_n 1, 1) := by decide +kernel
theorem dL_lay_60 : decode cL_lay 60 = .ok (.iconst 1, 1) := by decide +kernel
theorem dL_lay_61 : decode cL_lay 61 = .ok (.iload 4, 2) := by decide +kernel
theorem dL_lay_63 : decode cL_lay 63 = .ok (.iadd, 1) := by decide +kernel
theorem dL_lay_64 : decode cL_lay 64 = .ok (.iload 6, 2) := by decide +kernel
theorem dL_lay_66 : decode cL_lay 66 = .ok (.iadd, 1) := by decide +kernel
theorem dL_lay_67 : decode cL_lay 67 = .ok (.iaload, 1) := by decide +kernel
theorem dL_lay_68 : decode cL_lay 68 = .ok (.goto 5, 3) := by decide +kernel
theorem dL_lay_71 : decode cL_lay 71 = .ok (.bipush 32, 2) := by decide +kernel
theorem dL_lay_73 : decode cL_lay 73 = .ok (.ior, 1) := by decide +kernel
theorem dL_lay_74 : decode cL_lay 74 = .ok (.iastore, 1) := by decide +kernel
theorem dL_lay_75 : decode cL_lay 75 = .ok (.iinc 6 1, 3) := by decide +kernel
theorem dL_lay_78 : decode cL_lay 78 = .ok (.goto (-51), 3) := by decide +kernel
theorem dL_lay_81 : decode cL_lay 81 = .ok (.aload_n 0, 1) := by decide +kernel
theorem dL_lay_82 : decode cL_lay 82 = .ok (.aload 5, 2) := by decide +kernel
theorem dL_lay_84 : decode cL_lay 84 = .ok (.iconst 0, 1) := by decide +kernel
theorem dL_lay_85 : decode cL_lay 85 = .ok (.iaload, 1) := by decide +kernel
theorem dL_lay_86 : decode cL_lay 86 = .ok (.aload 5, 2) := by decide +kernel
theorem dL_lay_88 : decode cL_lay 88 = .ok (.iconst 1, 1) := by decide +kernel
theorem dL_lay_89 : decode cL_lay 89 = .ok (.iaload, 1) := by decide +kernel
theorem dL_lay_90 : decode cL_lay 90 = .ok (.aload 5, 2) := by decide +kernel
theorem dL_lay_92 : decode cL_lay 92 = .ok (.iconst 2, 1) := by decide +kernel
theorem dL_lay_93 : decode cL_lay 93 = .ok (.iaload, 1) := by decide +kernel
theorem dL_lay_94 : decode cL_lay 94 = .ok (.aload 5, 2) := by decide +kernel
theorem dL_lay_96 : decode cL_lay 96 = .ok (.iconst 3, 1) := by decide +kernel
theorem dL_lay_97 : decode cL_lay 97 = .ok (.iaload, 1) := by decide +kernel
theorem dL_lay_98 : decode cL_lay 98 = .ok (.aload 5, 2) := by decide +kernel
theorem dL_lay_100 : decode cL_lay 100 = .ok (.iconst 4, 1) := by decide +kernel
theorem dL_lay_101 : decode cL_lay 101 = .ok (.iaload, 1) := by decide +kernel
theorem dL_lay_102 : decode cL_lay 102 = .ok (.invokevirtual 36, 3) := by decide +kernel
theorem dL_lay_105 : decode cL_lay 105 = .ok (.pop, 1) := by decide +kernel
theorem dL_lay_106 : decode cL_lay 106 = .ok (.iinc 4 20, 3) := by decide +kernel
theorem dL_lay_109 : decode cL_lay 109 = .ok (.goto (-96), 3) := by decide +kernel
theorem dL_lay_112 : decode cL_lay 112 = .ok (.aload_n 0, 1) := by decide +kernel
theorem dL_lay_113 : decode cL_lay 113 = .ok (.iload_n 2, 1) := by decide +kernel
theorem dL_lay_114 : decode cL_lay 114 = .ok (.iload_n 3, 1) := by decide +kernel
theorem dL_lay_115 : decode cL_lay 115 = .ok (.iadd, 1) := by decide +kernel
theorem dL_lay_116 : decode cL_lay 116 = .ok (.invokevirtual 40, 3) := by decide +kernel
theorem dL_lay_119 : decode cL_lay 119 = .ok (.iload_n 2, 1) := by decide +kernel
theorem dL_lay_120 : decode cL_lay 120 = .ok (.iload_n 3, 1) := by decide +kernel
theorem dL_lay_121 : decode cL_lay 121 = .ok (.iadd, 1) := by decide +kernel
theorem dL_lay_122 : decode cL_lay 122 = .ok (.if_icmp .ne 7, 3) := by decide +kernel
theorem dL_lay_125 : decode cL_lay 125 = .ok (.iconst 1, 1) := by decide +kernel
theorem dL_lay_126 : decode cL_lay 126 = .ok (.goto 4, 3) := by decide +kernel
theorem dL_lay_129 : decode cL_lay 129 = .ok (.iconst 0, 1) := by decide +kernel
theorem dL_lay_130 : decode cL_lay 130 = .ok (.ireturn, 1) := by decide +kernel
theorem dL_law_0 : decode cL_law 0 = .ok (.new 31, 3) := by decide +kernel
theorem dL_law_3 : decode cL_law 3 = .ok (.dup, 1) := by decide +kernel
theorem dL_law_4 : decode cL_law 4 = .ok (.invokespecial 43, 3) := by decide +kernel
theorem dL_law_7 : decode cL_law 7 = .ok (.astore_n 1, 1) := by decide +kernel
theorem dL_law_8 : decode cL_law 8 = .ok (.sipush 600, 3) := by decide +kernel
theorem dL_law_11 : decode cL_law 11 = .ok (.newarray .int, 2) := by decide +kernel
theorem dL_law_13 : decode cL_law 13 = .ok (.astore_n 2, 1) := by decide +kernel
theorem dL_law_14 : decode cL_law 14 = .ok (.bipush 6, 2) := by decide +kernel
theorem dL_law_16 : decode cL_law 16 = .ok (.anewarray 10, 3) := by decide +kernel
theorem dL_law_19 : decode cL_law 19 = .ok (.dup, 1) := by decide +kernel
theorem dL_law_20 : decode cL_law 20 = .ok (.iconst 0, 1) := by decide +kernel
theorem dL_law_21 : decode cL_law 21 = .ok (.ldc 44, 2) := by decide +kernel
theorem dL_law_23 : decode cL_law 23 = .ok (.aastore, 1) := by decide +kernel
theorem dL_law_24 : decode cL_law 24 = .ok (.dup, 1) := by decide +kernel
theorem dL_law_25 : decode cL_law 25 = .ok (.iconst 1, 1) := by decide +kernel
theorem dL_law_26 : decode cL_law 26 = .ok (.ldc 46, 2) := by decide +kernel
theorem dL_law_28 : decode cL_law 28 = .ok (.aastore, 1) := by decide +kernel
theorem dL_law_29 : decode cL_law 29 = .ok (.dup, 1) := by decide +kernel
theorem dL_law_30 : decode cL_law 30 = .ok (.iconst 2, 1) := by decide +kernel
theorem dL_law_31 : decode cL_law 31 = .ok (.ldc 48, 2) := by decide +kernel
theorem dL_law_33 : decode cL_law 33 = .ok (.aastore, 1) := by decide +kernel
theorem dL_law_34 : decode cL_law 34 = .ok (.dup, 1) := by decide +kernel
theorem dL_law_35 : decode cL_law 35 = .ok (.iconst 3, 1) := by decide +kernel
theorem dL_law_36 : decode cL_law 36 = .ok (.ldc 50, 2) := by decide +kernel
theorem dL_law_38 : decode cL_law 38 = .ok (.aastore, 1) := by decide +kernel
theorem dL_law_39 : decode cL_law 39 = .ok (.dup, 1) := by decide +kernel
theorem dL_law_40 : decode cL_law 40 = .ok (.iconst 4, 1) := by decide +kernel
theorem dL_law_41 : decode cL_law 41 = .ok (.ldc 52, 2) := by decide +kernel
theorem dL_law_43 : decode cL_law 43 = .ok (.aastore, 1) := by decide +kernel
theorem dL_law_44 : decode cL_law 44 = .ok (.dup, 1) := by decide +kernel
theorem dL_law_45 : decode cL_law 45 = .ok (.iconst 5, 1) := by decide +kernel
theorem dL_law_46 : decode cL_law 46 = .ok (.ldc 54, 2) := by decide +kernel
theorem dL_law_48 : decode cL_law 48 = .ok (.aastore, 1) := by decide +kernel
theorem dL_law_49 : decode cL_law 49 = .ok (.astore_n 3, 1) := by decide +kernel
theorem dL_law_50 : decode cL_law 50 = .ok (.iconst 5, 1) := by decide +kernel
theorem dL_law_51 : decode cL_law 51 = .ok (.anewarray 10, 3) := by decide +kernel
theorem dL_law_54 : decode cL_law 54 = .ok (.dup, 1) := by decide +kernel
theorem dL_law_55 : decode cL_law 55 = .ok (.iconst 0, 1) := by decide +kernel
theorem dL_law_56 : decode cL_law 56 = .ok (.ldc 56, 2) := by decide +kernel
theorem dL_law_58 : decode cL_law 58 = .ok (.aastore, 1) := by decide +kernel
theorem dL_law_59 : decode cL_law 59 = .ok (.dup, 1) := by decide +kernel
theorem dL_law_60 : decode cL_law 60 = .ok (.iconst 1, 1) := by decide +kernel
theorem dL_law_61 : decode cL_law 61 = .ok (.ldc 58, 2) := by decide +kernel
theorem dL_law_63 : decode cL_law 63 = .ok (.aastore, 1) := by decide +kernel
theorem dL_law_64 : decode cL_law 64 = .ok (.dup, 1) := by decide +kernel
theorem dL_law_65 : decode cL_law 65 = .ok (.iconst 2, 1) := by decide +kernel
theorem dL_law_66 : decode cL_law 66 = .ok (.ldc 60, 2) := by decide +kernel
theorem dL_law_68 : decode cL_law 68 = .ok (.aastore, 1) := by decide +kernel
theorem dL_law_69 : decode cL_law 69 = .ok (.dup, 1) := by decide +kernel
theorem dL_law_70 : decode cL_law 70 = .ok (.iconst 3, 1) := by decide +kernel
theorem dL_law_71 : decode cL_law 71 = .ok (.ldc 62, 2) := by decide +kernel
theorem dL_law_73 : decode cL_law 73 = .ok (.aastore, 1) := by decide +kernel
theorem dL_law_74 : decode cL_law 74 = .ok (.dup, 1) := by decide +kernel
theorem dL_law_75 : decode cL_law 75 = .ok (.iconst 4, 1) := by decide +kernel
theorem dL_law_76 : decode cL_law 76 = .ok (.ldc 64, 2) := by decide +kernel
theorem dL_law_78 : decode cL_law 78 = .ok (.aastore, 1) := by decide +kernel
theorem dL_law_79 : decode cL_law 79 = .ok (.astore 4, 2) := by decide +kernel
theorem dL_law_81 : decode cL_law 81 = .ok (.aload_n 2, 1) := by decide +kernel
theorem dL_law_82 : decode cL_law 82 = .ok (.ldc 66, 2) := by decide +kernel
theorem dL_law_84 : decode cL_law 84 = .ok (.invokestatic 21, 3) := by decide +kernel
theorem dL_law_87 : decode cL_law 87 = .ok (.aload_n 2, 1) := by decide +kernel
theorem dL_law_88 : decode cL_law 88 = .ok (.iconst 1, 1) := by decide +kernel
theorem dL_law_89 : decode cL_law 89 = .ok (.aload_n 0, 1) := by decide +kernel
theorem dL_law_90 : decode cL_law 90 = .ok (.iconst 0, 1) := by decide +kernel
theorem dL_law_91 : decode cL_law 91 = .ok (.invokestatic 68, 3) := by decide +kernel
theorem dL_law_94 : decode cL_law 94 = .ok (.iconst 4, 1) := by decide +kernel
theorem dL_law_95 : decode cL_law 95 = .ok (.invokestatic 72, 3) := by decide +kernel
theorem dL_law_98 : decode cL_law 98 = .ok (.iadd, 1) := by decide +kernel
theorem dL_law_99 : decode cL_law 99 = .ok (.invokestatic 27, 3) := by decide +kernel
theorem dL_law_102 : decode cL_law 102 = .ok (.aload_n 2, 1) := by decide +kernel
theorem dL_law_103 : decode cL_law 103 = .ok (.ldc 76, 2) := by decide +kernel
theorem dL_law_105 : decode cL_law 105 = .ok (.invokestatic 21, 3) := by decide +kernel
theorem dL_law_108 : decode cL_law 108 = .ok (.aload_n 2, 1) := by decide +kernel
theorem dL_law_109 : decode cL_law 109 = .ok (.iconst 1, 1) := by decide +kernel
theorem dL_law_110 : decode cL_law 110 = .ok (.aload_n 0, 1) := by decide +kernel
theorem dL_law_111 : decode cL_law 111 = .ok (.iconst 0, 1) := by decide +kernel
theorem dL_law_112 : decode cL_law 112 = .ok (.invokestatic 68, 3) := by decide +kernel
theorem dL_law_115 : decode cL_law 115 = .ok (.iconst 4, 1) := by decide +kernel
theorem dL_law_116 : decode cL_law 116 = .ok (.ishr, 1) := by decide +kernel
theorem dL_law_117 : decode cL_law 117 = .ok (.iconst 3, 1) := by decide +kernel
theorem dL_law_118 : decode cL_law 118 = .ok (.invokestatic 72, 3) := by decide +kernel
theorem dL_law_121 : decode cL_law 121 = .ok (.iadd, 1) := by decide +kernel
theorem dL_law_122 : decode cL_law 122 = .ok (.invokestatic 27, 3) := by decide +kernel
theorem dL_law_125 : decode cL_law 125 = .ok (.aload_n 2, 1) := by decide +kernel
theorem dL_law_126 : decode cL_law 126 = .ok (.ldc 78, 2) := by decide +kernel
theorem dL_law_128 : decode cL_law 128 = .ok (.invokestatic 21, 3) := by decide +kernel
theorem dL_law_131 : decode cL_law 131 = .ok (.aload_n 2, 1) := by decide +kernel
theorem dL_law_132 : decode cL_law 132 = .ok (.aload_n 3, 1) := by decide +kernel
theorem dL_law_133 : decode cL_law 133 = .ok (.aload_n 0, 1) := by decide +kernel
theorem dL_law_134 : decode cL_law 134 = .ok (.iconst 1, 1) := by decide +kernel
theorem dL_law_135 : decode cL_law 135 = .ok (.invokestatic 68, 3) := by decide +kernel
theorem dL_law_138 : decode cL_law 138 = .ok (.bipush 6, 2) := by decide +kernel
theorem dL_law_140 : decode cL_law 140 = .ok (.invokestatic 72, 3) := by decide +kernel
theorem dL_law_143 : decode cL_law 143 = .ok (.aaload, 1) := by decide +kernel
theorem dL_law_144 : decode cL_law 144 = .ok (.invokestatic 21, 3) := by decide +kernel
theorem dL_law_147 : decode cL_law 147 = .ok (.aload_n 2, 1) := by decide +kernel
theorem dL_law_148 : decode cL_law 148 = .ok (.aload_n 0, 1) := by decide +kernel
theorem dL_law_149 : decode cL_law 149 = .ok (.iconst 1, 1) := by decide +kernel
theorem dL_law_150 : decode cL_law 150 = .ok (.invokestatic 68, 3) := by decide +kernel
theorem dL_law_153 : decode cL_law 153 = .ok (.iconst 4, 1) := by decide +kernel
theorem dL_law_154 : decode cL_law 154 = .ok (.ishr, 1) := by decide +kernel
theorem dL_law_155 : decode cL_law 155 = .ok (.iconst 4, 1) := by decide +kernel
theorem dL_law_156 : decode cL_law 156 = .ok (.invokestatic 72, 3) := by decide +kernel
theorem dL_law_159 : decode cL_law 159 = .ok (.invokestatic 27, 3) := by decide +kernel
theorem dL_law_162 : decode cL_law 162 = .ok (.aload_n 2, 1) := by decide +kernel
theorem dL_law_163 : decode cL_law 163 = .ok (.ldc 80, 2) := by decide +kernel
theorem dL_law_165 : decode cL_law 165 = .ok (.invokestatic 21, 3) := by decide +kernel
theorem dL_law_168 : decode cL_law 168 = .ok (.aload_n 2, 1) := by decide +kernel
theorem dL_law_169 : decode cL_law 169 = .ok (.aload 4, 2) := by decide +kernel
theorem dL_law_171 : decode cL_law 171 = .ok (.aload_n 0, 1) := by decide +kernel
theorem dL_law_172 : decode cL_law 172 = .ok (.iconst 2, 1) := by decide +kernel
theorem dL_law_173 : decode cL_law 173 = .ok (.invokestatic 68, 3) := by decide +kernel
theorem dL_law_176 : decode cL_law 176 = .ok (.iconst 5, 1) := by decide +kernel
theorem dL_law_177 : decode cL_law 177 = .ok (.invokestatic 72, 3) := by decide +kernel
theorem dL_law_180 : decode cL_law 180 = .ok (.aaload, 1) := by decide +kernel
theorem dL_law_181 : decode cL_law 181 = .ok (.invokestatic 21, 3) := by decide +kernel
theorem dL_law_184 : decode cL_law 184 = .ok (.aload_n 2, 1) := by decide +kernel
theorem dL_law_185 : decode cL_law 185 = .ok (.ldc 82, 2) := by decide +kernel
theorem dL_law_187 : decode cL_law 187 = .ok (.invokestatic 21, 3) := by decide +kernel
theorem dL_law_190 : decode cL_law 190 = .ok (.aload_n 2, 1) := by decide +kernel
theorem dL_law_191 : decode cL_law 191 = .ok (.aload 4, 2) := by decide +kernel
theorem dL_law_193 : decode cL_law 193 = .ok (.aload_n 0, 1) := by decide +kernel
theorem dL_law_194 : decode cL_law 194 = .ok (.iconst 2, 1) := by decide +kernel
theorem dL_law_195 : decode cL_law 195 = .ok (.invokestatic 68, 3) := by decide +kernel
theorem dL_law_198 : decode cL_law 198 = .ok (.iconst 4, 1) := by decide +kernel
theorem dL_law_199 : decode cL_law 199 = .ok (.ishr, 1) := by decide +kernel
theorem dL_law_200 : decode cL_law 200 = .ok (.iconst 5, 1) := by decide +kernel
theorem dL_law_201 : decode cL_law 201 = .ok (.invokestatic 72, 3) := by decide +kernel
theorem dL_law_204 : decode cL_law 204 = .ok (.aaload, 1) := by decide +kernel
theorem dL_law_205 : decode cL_law 205 = .ok (.invokestatic 21, 3) := by decide +kernel
theorem dL_law_208 : decode cL_law 208 = .ok (.aload_n 2, 1) := by decide +kernel
theorem dL_law_209 : decode cL_law 209 = .ok (.aload_n 0, 1) := by decide +kernel
theorem dL_law_210 : decode cL_law 210 = .ok (.iconst 3, 1) := by decide +kernel
theorem dL_law_211 : decode cL_law 211 = .ok (.invokestatic 68, 3) := by decide +kernel
theorem dL_law_214 : decode cL_law 214 = .ok (.bipush 9, 2) := by decide +kernel
theorem dL_law_216 : decode cL_law 216 = .ok (.invokestatic 72, 3) := by decide +kernel
theorem dL_law_219 : decode cL_law 219 = .ok (.invokestatic 27, 3) := by decide +kernel
theorem dL_law_222 : decode cL_law 222 = .ok (.aload_n 2, 1) := by decide +kernel
theorem dL_law_223 : decode cL_law 223 = .ok (.ldc 84, 2) := by decide +kernel
theorem dL_law_225 : decode cL_law 225 = .ok (.invokestatic 21, 3) := by decide +kernel
theorem dL_law_228 : decode cL_law 228 = .ok (.aload_n 2, 1) := by decide +kernel
theorem dL_law_229 : decode cL_law 229 = .ok (.aload_n 0, 1) := by decide +kernel
theorem dL_law_230 : decode cL_law 230 = .ok (.iconst 3, 1) := by decide +kernel
theorem dL_law_231 : decode cL_law 231 = .ok (.invokestatic 68, 3) := by decide +kernel
theorem dL_law_234 : decode cL_law 234 = .ok (.iconst 5, 1) := by decide +kernel
theorem dL_law_235 : decode cL_law 235 = .ok (.ishr, 1) := by decide +kernel
theorem dL_law_236 : decode cL_law 236 = .ok (.iconst 2, 1) := by decide +kernel
theorem dL_law_237 : decode cL_law 237 = .ok (.invokestatic 72, 3) := by decide +kernel
theorem dL_law_240 : decode cL_law 240 = .ok (.ifCond .ne 8, 3) := by decide +kernel
theorem dL_law_243 : decode cL_law 243 = .ok (.ldc 86, 2) := by decide +kernel
theorem dL_law_245 : decode cL_law 245 = .ok (.goto 5, 3) := by decide +kernel
theorem dL_law_248 : decode cL_law 248 = .ok (.ldc 88, 2) := by decide +kernel
theorem dL_law_250 : decode cL_law 250 = .ok (.invokestatic 21, 3) := by decide +kernel
theorem dL_law_253 : decode cL_law 253 = .ok (.aload_n 1, 1) := by decide +kernel
theorem dL_law_254 : decode cL_law 254 = .ok (.aload_n 2, 1) := by decide +kernel
theorem dL_law_255 : decode cL_law 255 = .ok (.invokestatic 90, 3) := by decide +kernel
theorem dL_law_258 : decode cL_law 258 = .ok (.ifCond .eq 21, 3) := by decide +kernel
theorem dL_law_261 : decode cL_law 261 = .ok (.aload_n 1, 1) := by decide +kernel
theorem dL_law_262 : decode cL_law 262 = .ok (.invokevirtual 94, 3) := by decide +kernel
theorem dL_law_265 : decode cL_law 265 = .ok (.ifCond .ne 14, 3) := by decide +kernel
theorem dL_law_268 : decode cL_law 268 = .ok (.aload_n 1, 1) := by decide +kernel
theorem dL_law_269 : decode cL_law 269 = .ok (.iconst 0, 1) := by decide +kernel
theorem dL_law_270 : decode cL_law 270 = .ok (.iconst 1, 1) := by decide +kernel
theorem dL_law_271 : decode cL_law 271 = .ok (.invokevirtual 97, 3) := by decide +kernel
theorem dL_law_274 : decode cL_law 274 = .ok (.bipush 6, 2) := by decide +kernel
theorem dL_law_276 : decode cL_law 276 = .ok (.if_icmp .eq 5, 3) := by decide +kernel
theorem dL_law_279 : decode cL_law 279 = .ok (.iconst 0, 1) := by decide +kernel
theorem dL_law_280 : decode cL_law 280 = .ok (.ireturn, 1) := by decide +kernel
theorem dL_law_281 : decode cL_law 281 = .ok (.aload_n 1, 1) := by decide +kernel
theorem dL_law_282 : decode cL_law 282 = .ok (.iconst 0, 1) := by decide +kernel
theorem dL_law_283 : decode cL_law 283 = .ok (.iconst 5, 1) := by decide +kernel
theorem dL_law_284 : decode cL_law 284 = .ok (.invokevirtual 97, 3) := by decide +kernel
theorem dL_law_287 : decode cL_law 287 = .ok (.istore 5, 2) := by decide +kernel
theorem dL_law_289 : decode cL_law 289 = .ok (.iconst 0, 1) := by decide +kernel
theorem dL_law_290 : decode cL_law 290 = .ok (.istore 6, 2) := by decide +kernel
theorem dL_law_292 : decode cL_law 292 = .ok (.iload 6, 2) := by decide +kernel
theorem dL_law_294 : decode cL_law 294 = .ok (.bipush 12, 2) := by decide +kernel
theorem dL_law_296 : decode cL_law 296 = .ok (.if_icmp .ge 79, 3) := by decide +kernel
theorem dL_law_299 : decode cL_law 299 = .ok (.aload_n 1, 1) := by decide +kernel
theorem dL_law_300 : decode cL_law 300 = .ok (.iconst 0, 1) := by decide +kernel
theorem dL_law_301 : decode cL_law 301 = .ok (.invokevirtual 100, 3) := by decide +kernel
theorem dL_law_304 : decode cL_law 304 = .ok (.ifCond .lt 71, 3) := by decide +kernel
theorem dL_law_307 : decode cL_law 307 = .ok (.aload_n 1, 1) := by decide +kernel
theorem dL_law_308 : decode cL_law 308 = .ok (.iconst 0, 1) := by decide +kernel
theorem dL_law_309 : decode cL_law 309 = .ok (.iconst 1, 1) := by decide +kernel
theorem dL_law_310 : decode cL_law 310 = .ok (.invokevirtual 103, 3) := by decide +kernel
theorem dL_law_313 : decode cL_law 313 = .ok (.bipush 12, 2) := by decide +kernel
theorem dL_law_315 : decode cL_law 315 = .ok (.if_icmp .ge 60, 3) := by decide +kernel
theorem dL_law_318 : decode cL_law 318 = .ok (.aload_n 1, 1) := by decide +kernel
theorem dL_law_319 : decode cL_law 319 = .ok (.iconst 0, 1) := by decide +kernel
theorem dL_law_320 : decode cL_law 320 = .ok (.iconst 2, 1) := by decide +kernel
theorem dL_law_321 : decode cL_law 321 = .ok (.invokevirtual 103, 3) := by decide +kernel
theorem dL_law_324 : decode cL_law 324 = .ok (.istore 7, 2) := by decide +kernel
theorem dL_law_326 : decode cL_law 326 = .ok (.aload_n 1, 1) := by decide +kernel
theorem dL_law_327 : decode cL_law 327 = .ok (.iconst 0, 1) := by decide +kernel
theorem dL_law_328 : decode cL_law 328 = .ok (.invokevirtual 106, 3) := by decide +kernel
theorem dL_law_331 : decode cL_law 331 = .ok (.iload 7, 2) := by decide +kernel
theorem dL_law_333 : decode cL_law 333 = .ok (.iconst 1, 1) := by decide +kernel
theorem dL_law_334 : decode cL_law 334 = .ok (.iadd, 1) := by decide +kernel
theorem dL_law_335 : decode cL_law 335 = .ok (.if_icmp .ne 24, 3) := by decide +kernel
theorem dL_law_338 : decode cL_law 338 = .ok (.aload_n 1, 1) := by decide +kernel
theorem dL_law_339 : decode cL_law 339 = .ok (.iconst 0, 1) := by decide +kernel
theorem dL_law_340 : decode cL_law 340 = .ok (.iload 7, 2) := by decide +kernel
theorem dL_law_342 : decode cL_law 342 = .ok (.invokevirtual 109, 3) := by decide +kernel
theorem dL_law_345 : decode cL_law 345 = .ok (.ifCond .eq 14, 3) := by decide +kernel
theorem dL_law_348 : decode cL_law 348 = .ok (.aload_n 1, 1) := by decide +kernel
theorem dL_law_349 : decode cL_law 349 = .ok (.iconst 0, 1) := by decide +kernel
theorem dL_law_350 : decode cL_law 350 = .ok (.iconst 5, 1) := by decide +kernel
theorem dL_law_351 : decode cL_law 351 = .ok (.invokevirtual 97, 3) := by decide +kernel
theorem dL_law_354 : decode cL_law 354 = .ok (.iload 5, 2) := by decide +kernel
theorem dL_law_356 : decode cL_law 356 = .ok (.if_icmp .lt 5, 3) := by decide +kernel
theorem dL_law_359 : decode cL_law 359 = .ok (.iconst 0, 1) := by decide +kernel
theorem dL_law_360 : decode cL_law 360 = .ok (.ireturn, 1) := by decide +kernel
theorem dL_law_361 : decode cL_law 361 = .ok (.aload_n 1, 1) := by decide +kernel
theorem dL_law_362 : decode cL_law 362 = .ok (.iconst 0, 1) := by decide +kernel
theorem dL_law_363 : decode cL_law 363 = .ok (.iconst 5, 1) := by decide +kernel
theorem dL_law_364 : decode cL_law 364 = .ok (.invokevirtual 97, 3) := by decide +kernel
theorem dL_law_367 : decode cL_law 367 = .ok (.istore 5, 2) := by decide +kernel
theorem dL_law_369 : decode cL_law 369 = .ok (.iinc 6 1, 3) := by decide +kernel
theorem dL_law_372 : decode cL_law 372 = .ok (.goto (-80), 3) := by decide +kernel
theorem dL_law_375 : decode cL_law 375 = .ok (.aload_n 1, 1) := by decide +kernel
theorem dL_law_376 : decode cL_law 376 = .ok (.iconst 0, 1) := by decide +kernel
theorem dL_law_377 : decode cL_law 377 = .ok (.invokevirtual 100, 3) := by decide +kernel
theorem dL_law_380 : decode cL_law 380 = .ok (.ifCond .ge 7, 3) := by decide +kernel
theorem dL_law_383 : decode cL_law 383 = .ok (.iconst 1, 1) := by decide +kernel
theorem dL_law_384 : decode cL_law 384 = .ok (.goto 4, 3) := by decide +kernel
theorem dL_law_387 : decode cL_law 387 = .ok (.iconst 0, 1) := by decide +kernel
theorem dL_law_388 : decode cL_law 388 = .ok (.aload_n 1, 1) := by decide +kernel
theorem dL_law_389 : decode cL_law 389 = .ok (.iconst 0, 1) := by decide +kernel
theorem dL_law_390 : decode cL_law 390 = .ok (.iconst 5, 1) := by decide +kernel
theorem dL_law_391 : decode cL_law 391 = .ok (.invokevirtual 97, 3) := by decide +kernel
theorem dL_law_394 : decode cL_law 394 = .ok (.ifCond .ne 7, 3) := by decide +kernel
theorem dL_law_397 : decode cL_law 397 = .ok (.iconst 1, 1) := by decide +kernel
theorem dL_law_398 : decode cL_law 398 = .ok (.goto 4, 3) := by decide +kernel
theorem dL_law_401 : decode cL_law 401 = .ok (.iconst 0, 1) := by decide +kernel
theorem dL_law_402 : decode cL_law 402 = .ok (.if_icmp .ne 22, 3) := by decide +kernel
theorem dL_law_405 : decode cL_law 405 = .ok (.aload_n 1, 1) := by decide +kernel
theorem dL_law_406 : decode cL_law 406 = .ok (.iconst 0, 1) := by decide +kernel
theorem dL_law_407 : decode cL_law 407 = .ok (.invokevirtual 100, 3) := by decide +kernel
theorem dL_law_410 : decode cL_law 410 = .ok (.ifCond .lt 16, 3) := by decide +kernel
theorem dL_law_413 : decode cL_law 413 = .ok (.aload_n 1, 1) := by decide +kernel
theorem dL_law_414 : decode cL_law 414 = .ok (.iconst 0, 1) := by decide +kernel
theorem dL_law_415 : decode cL_law 415 = .ok (.iconst 1, 1) := by decide +kernel
theorem dL_law_416 : decode cL_law 416 = .ok (.invokevirtual 103, 3) := by decide +kernel
theorem dL_law_419 : decode cL_law 419 = .ok (.bipush 12, 2) := by decide +kernel
theorem dL_law_421 : decode cL_law 421 = .ok (.if_icmp .eq 5, 3) := by decide +kernel
theorem dL_law_424 : decode cL_law 424 = .ok (.iconst 0, 1) := by decide +kernel
theorem dL_law_425 : decode cL_law 425 = .ok (.ireturn, 1) := by decide +kernel
theorem dL_law_426 : decode cL_law 426 = .ok (.aload_n 1, 1) := by decide +kernel
theorem dL_law_427 : decode cL_law 427 = .ok (.iconst 0, 1) := by decide +kernel
theorem dL_law_428 : decode cL_law 428 = .ok (.iconst 4, 1) := by decide +kernel
theorem dL_law_429 : decode cL_law 429 = .ok (.invokevirtual 103, 3) := by decide +kernel
theorem dL_law_432 : decode cL_law 432 = .ok (.ifCond .gt 20, 3) := by decide +kernel
theorem dL_law_435 : decode cL_law 435 = .ok (.aload_n 1, 1) := by decide +kernel
theorem dL_law_436 : decode cL_law 436 = .ok (.iconst 0, 1) := by decide +kernel
theorem dL_law_437 : decode cL_law 437 = .ok (.iconst 3, 1) := by decide +kernel
theorem dL_law_438 : decode cL_law 438 = .ok (.invokevirtual 103, 3) := by decide +kernel
theorem dL_law_441 : decode cL_law 441 = .ok (.aload_n 1, 1) := by decide +kernel
theorem dL_law_442 : decode cL_law 442 = .ok (.iconst 0, 1) := by decide +kernel
theorem dL_law_443 : decode cL_law 443 = .ok (.iconst 2, 1) := by decide +kernel
theorem dL_law_444 : decode cL_law 444 = .ok (.invokevirtual 103, 3) := by decide +kernel
theorem dL_law_447 : decode cL_law 447 = .ok (.iconst 1, 1) := by decide +kernel
theorem dL_law_448 : decode cL_law 448 = .ok (.isub, 1) := by decide +kernel
theorem dL_law_449 : decode cL_law 449 = .ok (.if_icmp .ge 5, 3) := by decide +kernel
theorem dL_law_452 : decode cL_law 452 = .ok (.iconst 0, 1) := by decide +kernel
theorem dL_law_453 : decode cL_law 453 = .ok (.ireturn, 1) := by decide +kernel
theorem dL_law_454 : decode cL_law 454 = .ok (.aload_n 1, 1) := by decide +kernel
theorem dL_law_455 : decode cL_law 455 = .ok (.iconst 0, 1) := by decide +kernel
theorem dL_law_456 : decode cL_law 456 = .ok (.iconst 1, 1) := by decide +kernel
theorem dL_law_457 : decode cL_law 457 = .ok (.invokevirtual 113, 3) := by decide +kernel
theorem dL_law_460 : decode cL_law 460 = .ok (.aload_n 1, 1) := by decide +kernel
theorem dL_law_461 : decode cL_law 461 = .ok (.iconst 0, 1) := by decide +kernel
theorem dL_law_462 : decode cL_law 462 = .ok (.iconst 0, 1) := by decide +kernel
theorem dL_law_463 : decode cL_law 463 = .ok (.invokevirtual 113, 3) := by decide +kernel
theorem dL_law_466 : decode cL_law 466 = .ok (.iadd, 1) := by decide +kernel
theorem dL_law_467 : decode cL_law 467 = .ok (.aload_n 1, 1) := by decide +kernel
theorem dL_law_468 : decode cL_law 468 = .ok (.iconst 0, 1) := by decide +kernel
theorem dL_law_469 : decode cL_law 469 = .ok (.iconst 2, 1) := by decide +kernel
theorem dL_law_470 : decode cL_law 470 = .ok (.invokevirtual 103, 3) := by decide +kernel
theorem dL_law_473 : decode cL_law 473 = .ok (.if_icmp .eq 5, 3) := by decide +kernel
theorem dL_law_476 : decode cL_law 476 = .ok (.iconst 0, 1) := by decide +kernel
theorem dL_law_477 : decode cL_law 477 = .ok (.ireturn, 1) := by decide +kernel
theorem dL_law_478 : decode cL_law 478 = .ok (.iconst 0, 1) := by decide +kernel
theorem dL_law_479 : decode cL_law 479 = .ok (.istore 6, 2) := by decide +kernel
theorem dL_law_481 : decode cL_law 481 = .ok (.iconst 0, 1) := by decide +kernel
theorem dL_law_482 : decode cL_law 482 = .ok (.istore 7, 2) := by decide +kernel
theorem dL_law_484 : decode cL_law 484 = .ok (.iload 7, 2) := by decide +kernel
theorem dL_law_486 : decode cL_law 486 = .ok (.bipush 6, 2) := by decide +kernel
theorem dL_law_488 : decode cL_law 488 = .ok (.if_icmp .ge 29, 3) := by decide +kernel
theorem dL_law_491 : decode cL_law 491 = .ok (.iload 6, 2) := by decide +kernel
theorem dL_law_493 : decode cL_law 493 = .ok (.aload_n 1, 1) := by decide +kernel
theorem dL_law_494 : decode cL_law 494 = .ok (.iconst 0, 1) := by decide +kernel
theorem dL_law_495 : decode cL_law 495 = .ok (.iload 7, 2) := by decide +kernel
theorem dL_law_497 : decode cL_law 497 = .ok (.invokevirtual 117, 3) := by decide +kernel
theorem dL_law_500 : decode cL_law 500 = .ok (.ifCond .eq 7, 3) := by decide +kernel
theorem dL_law_503 : decode cL_law 503 = .ok (.iconst 1, 1) := by decide +kernel
theorem dL_law_504 : decode cL_law 504 = .ok (.goto 4, 3) := by decide +kernel
theorem dL_law_507 : decode cL_law 507 = .ok (.iconst 0, 1) := by decide +kernel
theorem dL_law_508 : decode cL_law 508 = .ok (.iadd, 1) := by decide +kernel
theorem dL_law_509 : decode cL_law 509 = .ok (.istore 6, 2) := by decide +kernel
theorem dL_law_511 : decode cL_law 511 = .ok (.iinc 7 1, 3) := by decide +kernel
theorem dL_law_514 : decode cL_law 514 = .ok (.goto (-30), 3) := by decide +kernel
theorem dL_law_517 : decode cL_law 517 = .ok (.aload_n 1, 1) := by decide +kernel
theorem dL_law_518 : decode cL_law 518 = .ok (.iconst 0, 1) := by decide +kernel
theorem dL_law_519 : decode cL_law 519 = .ok (.invokevirtual 120, 3) := by decide +kernel
theorem dL_law_522 : decode cL_law 522 = .ok (.iload 6, 2) := by decide +kernel
theorem dL_law_524 : decode cL_law 524 = .ok (.i2d, 1) := by decide +kernel
theorem dL_law_525 : decode cL_law 525 = .ok (.ldc2_w 124, 3) := by decide +kernel
theorem dL_law_528 : decode cL_law 528 = .ok (.ddiv, 1) := by decide +kernel
theorem dL_law_529 : decode cL_law 529 = .ok (.dcmp .l, 1) := by decide +kernel
theorem dL_law_530 : decode cL_law 530 = .ok (.ifCond .eq 5, 3) := by decide +kernel
theorem dL_law_533 : decode cL_law 533 = .ok (.iconst 0, 1) := by decide +kernel
theorem dL_law_534 : decode cL_law 534 = .ok (.ireturn, 1) := by decide +kernel
theorem dL_law_535 : decode cL_law 535 = .ok (.aload_n 1, 1) := by decide +kernel
theorem dL_law_536 : decode cL_law 536 = .ok (.iconst 0, 1) := by decide +kernel
theorem dL_law_537 : decode cL_law 537 = .ok (.invokevirtual 126, 3) := by decide +kernel
theorem dL_law_540 : decode cL_law 540 = .ok (.istore 7, 2) := by decide +kernel
theorem dL_law_542 : decode cL_law 542 = .ok (.iconst 0, 1) := by decide +kernel
theorem dL_law_543 : decode cL_law 543 = .ok (.istore 8, 2) := by decide +kernel
theorem dL_law_545 : decode cL_law 545 = .ok (.iconst 0, 1) := by decide +kernel
theorem dL_law_546 : decode cL_law 546 = .ok (.istore 9, 2) := by decide +kernel
theorem dL_law_548 : decode cL_law 548 = .ok (.iload 9, 2) := by decide +kernel
theorem dL_law_550 : decode cL_law 550 = .ok (.bipush 6, 2) := by decide +kernel
theorem dL_law_552 : decode cL_law 552 = .ok (.if_icmp .ge 29, 3) := by decide +kernel
theorem dL_law_555 : decode cL_law 555 = .ok (.iload 8, 2) := by decide +kernel
theorem dL_law_557 : decode cL_law 557 = .ok (.aload_n 1, 1) := by decide +kernel
theorem dL_law_558 : decode cL_law 558 = .ok (.iconst 0, 1) := by decide +kernel
theorem dL_law_559 : decode cL_law 559 = .ok (.iload 9, 2) := by decide +kernel
theorem dL_law_561 : decode cL_law 561 = .ok (.invokevirtual 117, 3) := by decide +kernel
theorem dL_law_564 : decode cL_law 564 = .ok (.ifCond .eq 7, 3) := by decide +kernel
theorem dL_law_567 : decode cL_law 567 = .ok (.iconst 1, 1) := by decide +kernel
theorem dL_law_568 : decode cL_law 568 = .ok (.goto 4, 3) := by decide +kernel
theorem dL_law_571 : decode cL_law 571 = .ok (.iconst 0, 1) := by decide +kernel
theorem dL_law_572 : decode cL_law 572 = .ok (.iadd, 1) := by decide +kernel
theorem dL_law_573 : decode cL_law 573 = .ok (.istore 8, 2) := by decide +kernel
theorem dL_law_575 : decode cL_law 575 = .ok (.iinc 9 1, 3) := by decide +kernel
theorem dL_law_578 : decode cL_law 578 = .ok (.goto (-30), 3) := by decide +kernel
theorem dL_law_581 : decode cL_law 581 = .ok (.iload 8, 2) := by decide +kernel
theorem dL_law_583 : decode cL_law 583 = .ok (.iload 6, 2) := by decide +kernel
theorem dL_law_585 : decode cL_law 585 = .ok (.if_icmp .ne 42, 3) := by decide +kernel
theorem dL_law_588 : decode cL_law 588 = .ok (.iload 7, 2) := by decide +kernel
theorem dL_law_590 : decode cL_law 590 = .ok (.iconst 1, 1) := by decide +kernel
theorem dL_law_591 : decode cL_law 591 = .ok (.if_icmp .lt 36, 3) := by decide +kernel
theorem dL_law_594 : decode cL_law 594 = .ok (.iload 7, 2) := by decide +kernel
theorem dL_law_596 : decode cL_law 596 = .ok (.iconst 1, 1) := by decide +kernel
theorem dL_law_597 : decode cL_law 597 = .ok (.iload 6, 2) := by decide +kernel
theorem dL_law_599 : decode cL_law 599 = .ok (.invokestatic 129, 3) := by decide +kernel
theorem dL_law_602 : decode cL_law 602 = .ok (.if_icmp .gt 25, 3) := by decide +kernel
theorem dL_law_605 : decode cL_law 605 = .ok (.aload_n 1, 1) := by decide +kernel
theorem dL_law_606 : decode cL_law 606 = .ok (.iconst 0, 1) := by decide +kernel
theorem dL_law_607 : decode cL_law 607 = .ok (.iconst 1, 1) := by decide +kernel
theorem dL_law_608 : decode cL_law 608 = .ok (.invokevirtual 103, 3) := by decide +kernel
theorem dL_law_611 : decode cL_law 611 = .ok (.iload 7, 2) := by decide +kernel
theorem dL_law_613 : decode cL_law 613 = .ok (.if_icmp .ne 14, 3) := by decide +kernel
theorem dL_law_616 : decode cL_law 616 = .ok (.aload_n 1, 1) := by decide +kernel
theorem dL_law_617 : decode cL_law 617 = .ok (.iconst 0, 1) := by decide +kernel
theorem dL_law_618 : decode cL_law 618 = .ok (.iconst 2, 1) := by decide +kernel
theorem dL_law_619 : decode cL_law 619 = .ok (.invokevirtual 103, 3) := by decide +kernel
theorem dL_law_622 : decode cL_law 622 = .ok (.iload 7, 2) := by decide +kernel
theorem dL_law_624 : decode cL_law 624 = .ok (.if_icmp .eq 5, 3) := by decide +kernel
theorem dL_law_627 : decode cL_law 627 = .ok (.iconst 0, 1) := by decide +kernel
theorem dL_law_628 : decode cL_law 628 = .ok (.ireturn, 1) := by decide +kernel
theorem dL_law_629 : decode cL_law 629 = .ok (.aload_n 1, 1) := by decide +kernel
theorem dL_law_630 : decode cL_law 630 = .ok (.invokevirtual 134, 3) := by decide +kernel
theorem dL_law_633 : decode cL_law 633 = .ok (.lstore 9, 2) := by decide +kernel
theorem dL_law_635 : decode cL_law 635 = .ok (.aload_n 1, 1) := by decide +kernel
theorem dL_law_636 : decode cL_law 636 = .ok (.iconst 0, 1) := by decide +kernel
theorem dL_law_637 : decode cL_law 637 = .ok (.invokevirtual 126, 3) := by decide +kernel
theorem dL_law_640 : decode cL_law 640 = .ok (.iload 7, 2) := by decide +kernel
theorem dL_law_642 : decode cL_law 642 = .ok (.if_icmp .ne 17, 3) := by decide +kernel
theorem dL_law_645 : decode cL_law 645 = .ok (.aload_n 1, 1) := by decide +kernel
theorem dL_law_646 : decode cL_law 646 = .ok (.invokevirtual 134, 3) := by decide +kernel
theorem dL_law_649 : decode cL_law 649 = .ok (.lload 9, 2) := by decide +kernel
theorem dL_law_651 : decode cL_law 651 = .ok (.lcmp, 1) := by decide +kernel
theorem dL_law_652 : decode cL_law 652 = .ok (.ifCond .ne 7, 3) := by decide +kernel
theorem dL_law_655 : decode cL_law 655 = .ok (.iconst 1, 1) := by decide +kernel
theorem dL_law_656 : decode cL_law 656 = .ok (.goto 4, 3) := by decide +kernel
theorem dL_law_659 : decode cL_law 659 = .ok (.iconst 0, 1) := by decide +kernel
theorem dL_law_660 : decode cL_law 660 = .ok (.ireturn, 1) := by decide +kernel
