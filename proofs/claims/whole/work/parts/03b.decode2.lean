/-! decode rows (the kit printed them) -/
theorem dX7_drop_64 : decode cX7_drop 64 = .ok (.invokevirtual 40, 3) := by decide +kernel
theorem dX7_drop_67 : decode cX7_drop 67 = .ok (.aastore, 1) := by decide +kernel
theorem dX7_drop_68 : decode cX7_drop 68 = .ok (.iinc 3 1, 3) := by decide +kernel
theorem dX7_drop_71 : decode cX7_drop 71 = .ok (.goto (-37), 3) := by decide +kernel
theorem dX7_drop_74 : decode cX7_drop 74 = .ok (.aload_n 0, 1) := by decide +kernel
theorem dX7_drop_75 : decode cX7_drop 75 = .ok (.getfield 34, 3) := by decide +kernel
theorem dX7_drop_78 : decode cX7_drop 78 = .ok (.ifCond .lt 25, 3) := by decide +kernel
theorem dX7_drop_81 : decode cX7_drop 81 = .ok (.aload_n 0, 1) := by decide +kernel
theorem dX7_drop_82 : decode cX7_drop 82 = .ok (.getfield 34, 3) := by decide +kernel
theorem dX7_drop_85 : decode cX7_drop 85 = .ok (.aload_n 0, 1) := by decide +kernel
theorem dX7_drop_86 : decode cX7_drop 86 = .ok (.getfield 11, 3) := by decide +kernel
theorem dX7_drop_89 : decode cX7_drop 89 = .ok (.arraylength, 1) := by decide +kernel
theorem dX7_drop_90 : decode cX7_drop 90 = .ok (.if_icmp .ge 13, 3) := by decide +kernel
theorem dX7_drop_93 : decode cX7_drop 93 = .ok (.aload_n 0, 1) := by decide +kernel
theorem dX7_drop_94 : decode cX7_drop 94 = .ok (.getfield 11, 3) := by decide +kernel
theorem dX7_drop_97 : decode cX7_drop 97 = .ok (.aload_n 0, 1) := by decide +kernel
theorem dX7_drop_98 : decode cX7_drop 98 = .ok (.getfield 34, 3) := by decide +kernel
theorem dX7_drop_101 : decode cX7_drop 101 = .ok (.aload_n 2, 1) := by decide +kernel
theorem dX7_drop_102 : decode cX7_drop 102 = .ok (.aastore, 1) := by decide +kernel
theorem dX7_drop_103 : decode cX7_drop 103 = .ok (.return_, 1) := by decide +kernel
theorem dX7_valueAt_0 : decode cX7_valueAt 0 = .ok (.iload_n 1, 1) := by decide +kernel
theorem dX7_valueAt_1 : decode cX7_valueAt 1 = .ok (.istore_n 3, 1) := by decide +kernel
theorem dX7_valueAt_2 : decode cX7_valueAt 2 = .ok (.iconst 0, 1) := by decide +kernel
theorem dX7_valueAt_3 : decode cX7_valueAt 3 = .ok (.istore 4, 2) := by decide +kernel
theorem dX7_valueAt_5 : decode cX7_valueAt 5 = .ok (.iload 4, 2) := by decide +kernel
theorem dX7_valueAt_7 : decode cX7_valueAt 7 = .ok (.aload_n 0, 1) := by decide +kernel
theorem dX7_valueAt_8 : decode cX7_valueAt 8 = .ok (.getfield 34, 3) := by decide +kernel
theorem dX7_valueAt_11 : decode cX7_valueAt 11 = .ok (.if_icmp .ge 45, 3) := by decide +kernel
theorem dX7_valueAt_14 : decode cX7_valueAt 14 = .ok (.aload_n 0, 1) := by decide +kernel
theorem dX7_valueAt_15 : decode cX7_valueAt 15 = .ok (.iload 4, 2) := by decide +kernel
theorem dX7_valueAt_17 : decode cX7_valueAt 17 = .ok (.invokevirtual 40, 3) := by decide +kernel
theorem dX7_valueAt_20 : decode cX7_valueAt 20 = .ok (.getfield 47, 3) := by decide +kernel
theorem dX7_valueAt_23 : decode cX7_valueAt 23 = .ok (.astore 5, 2) := by decide +kernel
theorem dX7_valueAt_25 : decode cX7_valueAt 25 = .ok (.iload_n 3, 1) := by decide +kernel
theorem dX7_valueAt_26 : decode cX7_valueAt 26 = .ok (.aload 5, 2) := by decide +kernel
theorem dX7_valueAt_28 : decode cX7_valueAt 28 = .ok (.invokevirtual 51, 3) := by decide +kernel
theorem dX7_valueAt_31 : decode cX7_valueAt 31 = .ok (.if_icmp .ge 11, 3) := by decide +kernel
theorem dX7_valueAt_34 : decode cX7_valueAt 34 = .ok (.aload 5, 2) := by decide +kernel
theorem dX7_valueAt_36 : decode cX7_valueAt 36 = .ok (.iload_n 3, 1) := by decide +kernel
theorem dX7_valueAt_37 : decode cX7_valueAt 37 = .ok (.iload_n 2, 1) := by decide +kernel
theorem dX7_valueAt_38 : decode cX7_valueAt 38 = .ok (.invokevirtual 56, 3) := by decide +kernel
theorem dX7_valueAt_41 : decode cX7_valueAt 41 = .ok (.ireturn, 1) := by decide +kernel
theorem dX7_valueAt_42 : decode cX7_valueAt 42 = .ok (.iload_n 3, 1) := by decide +kernel
theorem dX7_valueAt_43 : decode cX7_valueAt 43 = .ok (.aload 5, 2) := by decide +kernel
theorem dX7_valueAt_45 : decode cX7_valueAt 45 = .ok (.invokevirtual 51, 3) := by decide +kernel
theorem dX7_valueAt_48 : decode cX7_valueAt 48 = .ok (.isub, 1) := by decide +kernel
theorem dX7_valueAt_49 : decode cX7_valueAt 49 = .ok (.istore_n 3, 1) := by decide +kernel
theorem dX7_valueAt_50 : decode cX7_valueAt 50 = .ok (.iinc 4 1, 3) := by decide +kernel
theorem dX7_valueAt_53 : decode cX7_valueAt 53 = .ok (.goto (-48), 3) := by decide +kernel
theorem dX7_valueAt_56 : decode cX7_valueAt 56 = .ok (.iconst 0, 1) := by decide +kernel
theorem dX7_valueAt_57 : decode cX7_valueAt 57 = .ok (.ireturn, 1) := by decide +kernel
theorem dX7_note_0 : decode cX7_note 0 = .ok (.iload_n 1, 1) := by decide +kernel
theorem dX7_note_1 : decode cX7_note 1 = .ok (.ifCond .lt 19, 3) := by decide +kernel
theorem dX7_note_4 : decode cX7_note 4 = .ok (.iload_n 1, 1) := by decide +kernel
theorem dX7_note_5 : decode cX7_note 5 = .ok (.aload_n 0, 1) := by decide +kernel
theorem dX7_note_6 : decode cX7_note 6 = .ok (.getfield 22, 3) := by decide +kernel
theorem dX7_note_9 : decode cX7_note 9 = .ok (.arraylength, 1) := by decide +kernel
theorem dX7_note_10 : decode cX7_note 10 = .ok (.if_icmp .ge 10, 3) := by decide +kernel
theorem dX7_note_13 : decode cX7_note 13 = .ok (.aload_n 0, 1) := by decide +kernel
theorem dX7_note_14 : decode cX7_note 14 = .ok (.getfield 22, 3) := by decide +kernel
theorem dX7_note_17 : decode cX7_note 17 = .ok (.iload_n 1, 1) := by decide +kernel
theorem dX7_note_18 : decode cX7_note 18 = .ok (.iload_n 2, 1) := by decide +kernel
theorem dX7_note_19 : decode cX7_note 19 = .ok (.bastore, 1) := by decide +kernel
theorem dX7_note_20 : decode cX7_note 20 = .ok (.return_, 1) := by decide +kernel
theorem dX7_isHolding_0 : decode cX7_isHolding 0 = .ok (.iload_n 1, 1) := by decide +kernel
theorem dX7_isHolding_1 : decode cX7_isHolding 1 = .ok (.ifCond .lt 25, 3) := by decide +kernel
theorem dX7_isHolding_4 : decode cX7_isHolding 4 = .ok (.iload_n 1, 1) := by decide +kernel
theorem dX7_isHolding_5 : decode cX7_isHolding 5 = .ok (.aload_n 0, 1) := by decide +kernel
theorem dX7_isHolding_6 : decode cX7_isHolding 6 = .ok (.getfield 22, 3) := by decide +kernel
theorem dX7_isHolding_9 : decode cX7_isHolding 9 = .ok (.arraylength, 1) := by decide +kernel
theorem dX7_isHolding_10 : decode cX7_isHolding 10 = .ok (.if_icmp .ge 16, 3) := by decide +kernel
theorem dX7_isHolding_13 : decode cX7_isHolding 13 = .ok (.aload_n 0, 1) := by decide +kernel
theorem dX7_isHolding_14 : decode cX7_isHolding 14 = .ok (.getfield 22, 3) := by decide +kernel
theorem dX7_isHolding_17 : decode cX7_isHolding 17 = .ok (.iload_n 1, 1) := by decide +kernel
theorem dX7_isHolding_18 : decode cX7_isHolding 18 = .ok (.baload, 1) := by decide +kernel
theorem dX7_isHolding_19 : decode cX7_isHolding 19 = .ok (.ifCond .eq 7, 3) := by decide +kernel
theorem dX7_isHolding_22 : decode cX7_isHolding 22 = .ok (.iconst 1, 1) := by decide +kernel
theorem dX7_isHolding_23 : decode cX7_isHolding 23 = .ok (.goto 4, 3) := by decide +kernel
theorem dX7_isHolding_26 : decode cX7_isHolding 26 = .ok (.iconst 0, 1) := by decide +kernel
theorem dX7_isHolding_27 : decode cX7_isHolding 27 = .ok (.ireturn, 1) := by decide +kernel
theorem dX7_tell_0 : decode cX7_tell 0 = .ok (.iload_n 1, 1) := by decide +kernel
theorem dX7_tell_1 : decode cX7_tell 1 = .ok (.tableswitch 51 0 3 #[31, 36, 41, 46], 31) := by decide +kernel
theorem dX7_tell_32 : decode cX7_tell 32 = .ok (.aload_n 0, 1) := by decide +kernel
theorem dX7_tell_33 : decode cX7_tell 33 = .ok (.getfield 30, 3) := by decide +kernel
theorem dX7_tell_36 : decode cX7_tell 36 = .ok (.ireturn, 1) := by decide +kernel
theorem dX7_tell_37 : decode cX7_tell 37 = .ok (.aload_n 0, 1) := by decide +kernel
theorem dX7_tell_38 : decode cX7_tell 38 = .ok (.getfield 34, 3) := by decide +kernel
theorem dX7_tell_41 : decode cX7_tell 41 = .ok (.ireturn, 1) := by decide +kernel
theorem dX7_tell_42 : decode cX7_tell 42 = .ok (.aload_n 0, 1) := by decide +kernel
theorem dX7_tell_43 : decode cX7_tell 43 = .ok (.getfield 37, 3) := by decide +kernel
theorem dX7_tell_46 : decode cX7_tell 46 = .ok (.ireturn, 1) := by decide +kernel
theorem dX7_tell_47 : decode cX7_tell 47 = .ok (.aload_n 0, 1) := by decide +kernel
theorem dX7_tell_48 : decode cX7_tell 48 = .ok (.invokevirtual 60, 3) := by decide +kernel
theorem dX7_tell_51 : decode cX7_tell 51 = .ok (.ireturn, 1) := by decide +kernel
theorem dX7_tell_52 : decode cX7_tell 52 = .ok (.aload_n 0, 1) := by decide +kernel
theorem dX7_tell_53 : decode cX7_tell 53 = .ok (.invokevirtual 63, 3) := by decide +kernel
theorem dX7_tell_56 : decode cX7_tell 56 = .ok (.ireturn, 1) := by decide +kernel
theorem dX7_holdingCount_0 : decode cX7_holdingCount 0 = .ok (.iconst 0, 1) := by decide +kernel
theorem dX7_holdingCount_1 : decode cX7_holdingCount 1 = .ok (.istore_n 1, 1) := by decide +kernel
theorem dX7_holdingCount_2 : decode cX7_holdingCount 2 = .ok (.iconst 0, 1) := by decide +kernel
theorem dX7_holdingCount_3 : decode cX7_holdingCount 3 = .ok (.istore_n 2, 1) := by decide +kernel
theorem dX7_holdingCount_4 : decode cX7_holdingCount 4 = .ok (.iload_n 2, 1) := by decide +kernel
theorem dX7_holdingCount_5 : decode cX7_holdingCount 5 = .ok (.aload_n 0, 1) := by decide +kernel
theorem dX7_holdingCount_6 : decode cX7_holdingCount 6 = .ok (.getfield 37, 3) := by decide +kernel
theorem dX7_holdingCount_9 : decode cX7_holdingCount 9 = .ok (.if_icmp .ge 20, 3) := by decide +kernel
theorem dX7_holdingCount_12 : decode cX7_holdingCount 12 = .ok (.aload_n 0, 1) := by decide +kernel
theorem dX7_holdingCount_13 : decode cX7_holdingCount 13 = .ok (.iload_n 2, 1) := by decide +kernel
theorem dX7_holdingCount_14 : decode cX7_holdingCount 14 = .ok (.invokevirtual 66, 3) := by decide +kernel
theorem dX7_holdingCount_17 : decode cX7_holdingCount 17 = .ok (.ifCond .eq 6, 3) := by decide +kernel
theorem dX7_holdingCount_20 : decode cX7_holdingCount 20 = .ok (.iinc 1 1, 3) := by decide +kernel
theorem dX7_holdingCount_23 : decode cX7_holdingCount 23 = .ok (.iinc 2 1, 3) := by decide +kernel
theorem dX7_holdingCount_26 : decode cX7_holdingCount 26 = .ok (.goto (-22), 3) := by decide +kernel
theorem dX7_holdingCount_29 : decode cX7_holdingCount 29 = .ok (.iload_n 1, 1) := by decide +kernel
theorem dX7_holdingCount_30 : decode cX7_holdingCount 30 = .ok (.ireturn, 1) := by decide +kernel
theorem dX7_firstNotHolding_0 : decode cX7_firstNotHolding 0 = .ok (.iconst 0, 1) := by decide +kernel
theorem dX7_firstNotHolding_1 : decode cX7_firstNotHolding 1 = .ok (.istore_n 1, 1) := by decide +kernel
theorem dX7_firstNotHolding_2 : decode cX7_firstNotHolding 2 = .ok (.iload_n 1, 1) := by decide +kernel
theorem dX7_firstNotHolding_3 : decode cX7_firstNotHolding 3 = .ok (.aload_n 0, 1) := by decide +kernel
theorem dX7_firstNotHolding_4 : decode cX7_firstNotHolding 4 = .ok (.getfield 37, 3) := by decide +kernel
theorem dX7_firstNotHolding_7 : decode cX7_firstNotHolding 7 = .ok (.if_icmp .ge 19, 3) := by decide +kernel
theorem dX7_firstNotHolding_10 : decode cX7_firstNotHolding 10 = .ok (.aload_n 0, 1) := by decide +kernel
theorem dX7_firstNotHolding_11 : decode cX7_firstNotHolding 11 = .ok (.iload_n 1, 1) := by decide +kernel
theorem dX7_firstNotHolding_12 : decode cX7_firstNotHolding 12 = .ok (.invokevirtual 66, 3) := by decide +kernel
theorem dX7_firstNotHolding_15 : decode cX7_firstNotHolding 15 = .ok (.ifCond .ne 5, 3) := by decide +kernel
theorem dX7_firstNotHolding_18 : decode cX7_firstNotHolding 18 = .ok (.iload_n 1, 1) := by decide +kernel
theorem dX7_firstNotHolding_19 : decode cX7_firstNotHolding 19 = .ok (.ireturn, 1) := by decide +kernel
theorem dX7_firstNotHolding_20 : decode cX7_firstNotHolding 20 = .ok (.iinc 1 1, 3) := by decide +kernel
theorem dX7_firstNotHolding_23 : decode cX7_firstNotHolding 23 = .ok (.goto (-21), 3) := by decide +kernel
theorem dX7_firstNotHolding_26 : decode cX7_firstNotHolding 26 = .ok (.iconst (-1), 1) := by decide +kernel
theorem dX7_firstNotHolding_27 : decode cX7_firstNotHolding 27 = .ok (.ireturn, 1) := by decide +kernel
theorem dX8_init_0 : decode cX8_init 0 = .ok (.aload_n 0, 1) := by decide +kernel
theorem dX8_init_1 : decode cX8_init 1 = .ok (.invokespecial 3, 3) := by decide +kernel
theorem dX8_init_4 : decode cX8_init 4 = .ok (.aload_n 0, 1) := by decide +kernel
theorem dX8_init_5 : decode cX8_init 5 = .ok (.sipush 1500, 3) := by decide +kernel
theorem dX8_init_8 : decode cX8_init 8 = .ok (.newarray .byte, 2) := by decide +kernel
theorem dX8_init_10 : decode cX8_init 10 = .ok (.putfield 9, 3) := by decide +kernel
theorem dX8_init_13 : decode cX8_init 13 = .ok (.return_, 1) := by decide +kernel
theorem dX8_length_0 : decode cX8_length 0 = .ok (.aload_n 0, 1) := by decide +kernel
theorem dX8_length_1 : decode cX8_length 1 = .ok (.getfield 15, 3) := by decide +kernel
theorem dX8_length_4 : decode cX8_length 4 = .ok (.ireturn, 1) := by decide +kernel
theorem dX8_room_0 : decode cX8_room 0 = .ok (.sipush 1500, 3) := by decide +kernel
theorem dX8_room_3 : decode cX8_room 3 = .ok (.aload_n 0, 1) := by decide +kernel
theorem dX8_room_4 : decode cX8_room 4 = .ok (.getfield 15, 3) := by decide +kernel
theorem dX8_room_7 : decode cX8_room 7 = .ok (.isub, 1) := by decide +kernel
theorem dX8_room_8 : decode cX8_room 8 = .ok (.ireturn, 1) := by decide +kernel
theorem dX8_cutTo_0 : decode cX8_cutTo 0 = .ok (.aload_n 0, 1) := by decide +kernel
theorem dX8_cutTo_1 : decode cX8_cutTo 1 = .ok (.iload_n 1, 1) := by decide +kernel
theorem dX8_cutTo_2 : decode cX8_cutTo 2 = .ok (.putfield 15, 3) := by decide +kernel
theorem dX8_cutTo_5 : decode cX8_cutTo 5 = .ok (.return_, 1) := by decide +kernel
theorem dX8_append_0 : decode cX8_append 0 = .ok (.bipush 24, 2) := by decide +kernel
theorem dX8_append_2 : decode cX8_append 2 = .ok (.istore_n 2, 1) := by decide +kernel
theorem dX8_append_3 : decode cX8_append 3 = .ok (.iload_n 2, 1) := by decide +kernel
theorem dX8_append_4 : decode cX8_append 4 = .ok (.ifCond .lt 51, 3) := by decide +kernel
theorem dX8_append_7 : decode cX8_append 7 = .ok (.aload_n 0, 1) := by decide +kernel
theorem dX8_append_8 : decode cX8_append 8 = .ok (.getfield 15, 3) := by decide +kernel
theorem dX8_append_11 : decode cX8_append 11 = .ok (.ifCond .lt 38, 3) := by decide +kernel
theorem dX8_append_14 : decode cX8_append 14 = .ok (.aload_n 0, 1) := by decide +kernel
theorem dX8_append_15 : decode cX8_append 15 = .ok (.getfield 15, 3) := by decide +kernel
theorem dX8_append_18 : decode cX8_append 18 = .ok (.aload_n 0, 1) := by decide +kernel
theorem dX8_append_19 : decode cX8_append 19 = .ok (.getfield 9, 3) := by decide +kernel
theorem dX8_append_22 : decode cX8_append 22 = .ok (.arraylength, 1) := by decide +kernel
theorem dX8_append_23 : decode cX8_append 23 = .ok (.if_icmp .ge 26, 3) := by decide +kernel
theorem dX8_append_26 : decode cX8_append 26 = .ok (.aload_n 0, 1) := by decide +kernel
theorem dX8_append_27 : decode cX8_append 27 = .ok (.getfield 9, 3) := by decide +kernel
theorem dX8_append_30 : decode cX8_append 30 = .ok (.aload_n 0, 1) := by decide +kernel
theorem dX8_append_31 : decode cX8_append 31 = .ok (.getfield 15, 3) := by decide +kernel
theorem dX8_append_34 : decode cX8_append 34 = .ok (.iload_n 1, 1) := by decide +kernel
theorem dX8_append_35 : decode cX8_append 35 = .ok (.iload_n 2, 1) := by decide +kernel
theorem dX8_append_36 : decode cX8_append 36 = .ok (.ishr, 1) := by decide +kernel
theorem dX8_append_37 : decode cX8_append 37 = .ok (.i2b, 1) := by decide +kernel
theorem dX8_append_38 : decode cX8_append 38 = .ok (.bastore, 1) := by decide +kernel
theorem dX8_append_39 : decode cX8_append 39 = .ok (.aload_n 0, 1) := by decide +kernel
theorem dX8_append_40 : decode cX8_append 40 = .ok (.dup, 1) := by decide +kernel
theorem dX8_append_41 : decode cX8_append 41 = .ok (.getfield 15, 3) := by decide +kernel
theorem dX8_append_44 : decode cX8_append 44 = .ok (.iconst 1, 1) := by decide +kernel
theorem dX8_append_45 : decode cX8_append 45 = .ok (.iadd, 1) := by decide +kernel
theorem dX8_append_46 : decode cX8_append 46 = .ok (.putfield 15, 3) := by decide +kernel
theorem dX8_append_49 : decode cX8_append 49 = .ok (.iinc 2 (-8), 3) := by decide +kernel
theorem dX8_append_52 : decode cX8_append 52 = .ok (.goto (-49), 3) := by decide +kernel
theorem dX8_append_55 : decode cX8_append 55 = .ok (.return_, 1) := by decide +kernel
theorem dX8_byteAt_0 : decode cX8_byteAt 0 = .ok (.iload_n 1, 1) := by decide +kernel
theorem dX8_byteAt_1 : decode cX8_byteAt 1 = .ok (.ifCond .lt 20, 3) := by decide +kernel
theorem dX8_byteAt_4 : decode cX8_byteAt 4 = .ok (.iload_n 1, 1) := by decide +kernel
theorem dX8_byteAt_5 : decode cX8_byteAt 5 = .ok (.aload_n 0, 1) := by decide +kernel
theorem dX8_byteAt_6 : decode cX8_byteAt 6 = .ok (.getfield 15, 3) := by decide +kernel
theorem dX8_byteAt_9 : decode cX8_byteAt 9 = .ok (.if_icmp .ge 12, 3) := by decide +kernel
theorem dX8_byteAt_12 : decode cX8_byteAt 12 = .ok (.iload_n 1, 1) := by decide +kernel
theorem dX8_byteAt_13 : decode cX8_byteAt 13 = .ok (.aload_n 0, 1) := by decide +kernel
theorem dX8_byteAt_14 : decode cX8_byteAt 14 = .ok (.getfield 9, 3) := by decide +kernel
theorem dX8_byteAt_17 : decode cX8_byteAt 17 = .ok (.arraylength, 1) := by decide +kernel
theorem dX8_byteAt_18 : decode cX8_byteAt 18 = .ok (.if_icmp .lt 5, 3) := by decide +kernel
theorem dX8_byteAt_21 : decode cX8_byteAt 21 = .ok (.iconst (-1), 1) := by decide +kernel
theorem dX8_byteAt_22 : decode cX8_byteAt 22 = .ok (.ireturn, 1) := by decide +kernel
theorem dX8_byteAt_23 : decode cX8_byteAt 23 = .ok (.aload_n 0, 1) := by decide +kernel
theorem dX8_byteAt_24 : decode cX8_byteAt 24 = .ok (.getfield 9, 3) := by decide +kernel
theorem dX8_byteAt_27 : decode cX8_byteAt 27 = .ok (.iload_n 1, 1) := by decide +kernel
theorem dX8_byteAt_28 : decode cX8_byteAt 28 = .ok (.baload, 1) := by decide +kernel
theorem dX8_byteAt_29 : decode cX8_byteAt 29 = .ok (.sipush 255, 3) := by decide +kernel
theorem dX8_byteAt_32 : decode cX8_byteAt 32 = .ok (.iand, 1) := by decide +kernel
theorem dX8_byteAt_33 : decode cX8_byteAt 33 = .ok (.ireturn, 1) := by decide +kernel
theorem dX9_init_0 : decode cX9_init 0 = .ok (.aload_n 0, 1) := by decide +kernel
theorem dX9_init_1 : decode cX9_init 1 = .ok (.invokespecial 3, 3) := by decide +kernel
theorem dX9_init_4 : decode cX9_init 4 = .ok (.aload_n 0, 1) := by decide +kernel
theorem dX9_init_5 : decode cX9_init 5 = .ok (.sipush 1501, 3) := by decide +kernel
theorem dX9_init_8 : decode cX9_init 8 = .ok (.newarray .int, 2) := by decide +kernel
theorem dX9_init_10 : decode cX9_init 10 = .ok (.putfield 9, 3) := by decide +kernel
theorem dX9_init_13 : decode cX9_init 13 = .ok (.aload_n 0, 1) := by decide +kernel
theorem dX9_init_14 : decode cX9_init 14 = .ok (.sipush 1501, 3) := by decide +kernel
theorem dX9_init_17 : decode cX9_init 17 = .ok (.newarray .int, 2) := by decide +kernel
theorem dX9_init_19 : decode cX9_init 19 = .ok (.putfield 15, 3) := by decide +kernel
theorem dX9_init_22 : decode cX9_init 22 = .ok (.aload_n 0, 1) := by decide +kernel
theorem dX9_init_23 : decode cX9_init 23 = .ok (.sipush 1501, 3) := by decide +kernel
theorem dX9_init_26 : decode cX9_init 26 = .ok (.newarray .long, 2) := by decide +kernel
theorem dX9_init_28 : decode cX9_init 28 = .ok (.putfield 18, 3) := by decide +kernel
theorem dX9_init_31 : decode cX9_init 31 = .ok (.aload_n 0, 1) := by decide +kernel
theorem dX9_init_32 : decode cX9_init 32 = .ok (.aload_n 1, 1) := by decide +kernel
theorem dX9_init_33 : decode cX9_init 33 = .ok (.putfield 22, 3) := by decide +kernel
theorem dX9_init_36 : decode cX9_init 36 = .ok (.return_, 1) := by decide +kernel
theorem dX9_scan_0 : decode cX9_scan 0 = .ok (.aload_n 0, 1) := by decide +kernel
theorem dX9_scan_1 : decode cX9_scan 1 = .ok (.iconst 0, 1) := by decide +kernel
theorem dX9_scan_2 : decode cX9_scan 2 = .ok (.putfield 26, 3) := by decide +kernel
theorem dX9_scan_5 : decode cX9_scan 5 = .ok (.aload_n 0, 1) := by decide +kernel
theorem dX9_scan_6 : decode cX9_scan 6 = .ok (.iconst 0, 1) := by decide +kernel
theorem dX9_scan_7 : decode cX9_scan 7 = .ok (.putfield 30, 3) := by decide +kernel
theorem dX9_scan_10 : decode cX9_scan 10 = .ok (.aload_n 0, 1) := by decide +kernel
theorem dX9_scan_11 : decode cX9_scan 11 = .ok (.aload_n 0, 1) := by decide +kernel
theorem dX9_scan_12 : decode cX9_scan 12 = .ok (.getfield 9, 3) := by decide +kernel
theorem dX9_scan_15 : decode cX9_scan 15 = .ok (.arraylength, 1) := by decide +kernel
theorem dX9_scan_16 : decode cX9_scan 16 = .ok (.putfield 33, 3) := by decide +kernel
theorem dX9_scan_19 : decode cX9_scan 19 = .ok (.aload_n 0, 1) := by decide +kernel
theorem dX9_scan_20 : decode cX9_scan 20 = .ok (.iconst 0, 1) := by decide +kernel
theorem dX9_scan_21 : decode cX9_scan 21 = .ok (.putfield 36, 3) := by decide +kernel
theorem dX9_scan_24 : decode cX9_scan 24 = .ok (.aload_n 0, 1) := by decide +kernel
theorem dX9_scan_25 : decode cX9_scan 25 = .ok (.iconst 1, 1) := by decide +kernel
theorem dX9_scan_26 : decode cX9_scan 26 = .ok (.putfield 40, 3) := by decide +kernel
theorem dX9_scan_29 : decode cX9_scan 29 = .ok (.iconst 0, 1) := by decide +kernel
theorem dX9_scan_30 : decode cX9_scan 30 = .ok (.istore_n 1, 1) := by decide +kernel
theorem dX9_scan_31 : decode cX9_scan 31 = .ok (.iload_n 1, 1) := by decide +kernel
theorem dX9_scan_32 : decode cX9_scan 32 = .ok (.aload_n 0, 1) := by decide +kernel
theorem dX9_scan_33 : decode cX9_scan 33 = .ok (.getfield 9, 3) := by decide +kernel
theorem dX9_scan_36 : decode cX9_scan 36 = .ok (.arraylength, 1) := by decide +kernel
theorem dX9_scan_37 : decode cX9_scan 37 = .ok (.if_icmp .ge 68, 3) := by decide +kernel
theorem dX9_scan_40 : decode cX9_scan 40 = .ok (.iload_n 1, 1) := by decide +kernel
theorem dX9_scan_41 : decode cX9_scan 41 = .ok (.aload_n 0, 1) := by decide +kernel
theorem dX9_scan_42 : decode cX9_scan 42 = .ok (.getfield 15, 3) := by decide +kernel
theorem dX9_scan_45 : decode cX9_scan 45 = .ok (.arraylength, 1) := by decide +kernel
theorem dX9_scan_46 : decode cX9_scan 46 = .ok (.if_icmp .ge 59, 3) := by decide +kernel
theorem dX9_scan_49 : decode cX9_scan 49 = .ok (.iload_n 1, 1) := by decide +kernel
theorem dX9_scan_50 : decode cX9_scan 50 = .ok (.aload_n 0, 1) := by decide +kernel
theorem dX9_scan_51 : decode cX9_scan 51 = .ok (.getfield 18, 3) := by decide +kernel
theorem dX9_scan_54 : decode cX9_scan 54 = .ok (.arraylength, 1) := by decide +kernel
theorem dX9_scan_55 : decode cX9_scan 55 = .ok (.if_icmp .ge 50, 3) := by decide +kernel
theorem dX9_scan_58 : decode cX9_scan 58 = .ok (.aload_n 0, 1) := by decide +kernel
theorem dX9_scan_59 : decode cX9_scan 59 = .ok (.getfield 40, 3) := by decide +kernel
theorem dX9_scan_62 : decode cX9_scan 62 = .ok (.ifCond .eq 43, 3) := by decide +kernel
theorem dX9_scan_65 : decode cX9_scan 65 = .ok (.aload_n 0, 1) := by decide +kernel
theorem dX9_scan_66 : decode cX9_scan 66 = .ok (.invokevirtual 43, 3) := by decide +kernel
theorem dX9_scan_69 : decode cX9_scan 69 = .ok (.aload_n 0, 1) := by decide +kernel
theorem dX9_scan_70 : decode cX9_scan 70 = .ok (.getfield 9, 3) := by decide +kernel
theorem dX9_scan_73 : decode cX9_scan 73 = .ok (.iload_n 1, 1) := by decide +kernel
theorem dX9_scan_74 : decode cX9_scan 74 = .ok (.aload_n 0, 1) := by decide +kernel
theorem dX9_scan_75 : decode cX9_scan 75 = .ok (.getfield 40, 3) := by decide +kernel
theorem dX9_scan_78 : decode cX9_scan 78 = .ok (.iastore, 1) := by decide +kernel
theorem dX9_scan_79 : decode cX9_scan 79 = .ok (.aload_n 0, 1) := by decide +kernel
theorem dX9_scan_80 : decode cX9_scan 80 = .ok (.getfield 15, 3) := by decide +kernel
theorem dX9_scan_83 : decode cX9_scan 83 = .ok (.iload_n 1, 1) := by decide +kernel
theorem dX9_scan_84 : decode cX9_scan 84 = .ok (.aload_n 0, 1) := by decide +kernel
theorem dX9_scan_85 : decode cX9_scan 85 = .ok (.getfield 46, 3) := by decide +kernel
theorem dX9_scan_88 : decode cX9_scan 88 = .ok (.iastore, 1) := by decide +kernel
theorem dX9_scan_89 : decode cX9_scan 89 = .ok (.aload_n 0, 1) := by decide +kernel
theorem dX9_scan_90 : decode cX9_scan 90 = .ok (.getfield 18, 3) := by decide +kernel
theorem dX9_scan_93 : decode cX9_scan 93 = .ok (.iload_n 1, 1) := by decide +kernel
theorem dX9_scan_94 : decode cX9_scan 94 = .ok (.aload_n 0, 1) := by decide +kernel
theorem dX9_scan_95 : decode cX9_scan 95 = .ok (.getfield 49, 3) := by decide +kernel
theorem dX9_scan_98 : decode cX9_scan 98 = .ok (.lastore, 1) := by decide +kernel
theorem dX9_scan_99 : decode cX9_scan 99 = .ok (.iinc 1 1, 3) := by decide +kernel
theorem dX9_scan_102 : decode cX9_scan 102 = .ok (.goto (-71), 3) := by decide +kernel
theorem dX9_scan_105 : decode cX9_scan 105 = .ok (.return_, 1) := by decide +kernel
theorem dX9_sees_0 : decode cX9_sees 0 = .ok (.aload_n 0, 1) := by decide +kernel
theorem dX9_sees_1 : decode cX9_sees 1 = .ok (.getfield 36, 3) := by decide +kernel
theorem dX9_sees_4 : decode cX9_sees 4 = .ok (.ifCond .ne 50, 3) := by decide +kernel
theorem dX9_sees_7 : decode cX9_sees 7 = .ok (.aload_n 0, 1) := by decide +kernel
theorem dX9_sees_8 : decode cX9_sees 8 = .ok (.getfield 30, 3) := by decide +kernel
theorem dX9_sees_11 : decode cX9_sees 11 = .ok (.ifCond .lt 43, 3) := by decide +kernel
theorem dX9_sees_14 : decode cX9_sees 14 = .ok (.aload_n 0, 1) := by decide +kernel
theorem dX9_sees_15 : decode cX9_sees 15 = .ok (.getfield 30, 3) := by decide +kernel
theorem dX9_sees_18 : decode cX9_sees 18 = .ok (.aload_n 0, 1) := by decide +kernel
theorem dX9_sees_19 : decode cX9_sees 19 = .ok (.getfield 33, 3) := by decide +kernel
theorem dX9_sees_22 : decode cX9_sees 22 = .ok (.if_icmp .ge 32, 3) := by decide +kernel
theorem dX9_sees_25 : decode cX9_sees 25 = .ok (.aload_n 0, 1) := by decide +kernel
theorem dX9_sees_26 : decode cX9_sees 26 = .ok (.getfield 30, 3) := by decide +kernel
theorem dX9_sees_29 : decode cX9_sees 29 = .ok (.aload_n 0, 1) := by decide +kernel
theorem dX9_sees_30 : decode cX9_sees 30 = .ok (.getfield 9, 3) := by decide +kernel
theorem dX9_sees_33 : decode cX9_sees 33 = .ok (.arraylength, 1) := by decide +kernel
theorem dX9_sees_34 : decode cX9_sees 34 = .ok (.if_icmp .ge 20, 3) := by decide +kernel
theorem dX9_sees_37 : decode cX9_sees 37 = .ok (.aload_n 0, 1) := by decide +kernel
theorem dX9_sees_38 : decode cX9_sees 38 = .ok (.getfield 9, 3) := by decide +kernel
theorem dX9_sees_41 : decode cX9_sees 41 = .ok (.aload_n 0, 1) := by decide +kernel
theorem dX9_sees_42 : decode cX9_sees 42 = .ok (.getfield 30, 3) := by decide +kernel
theorem dX9_sees_45 : decode cX9_sees 45 = .ok (.iaload, 1) := by decide +kernel
theorem dX9_sees_46 : decode cX9_sees 46 = .ok (.iload_n 1, 1) := by decide +kernel
theorem dX9_sees_47 : decode cX9_sees 47 = .ok (.if_icmp .ne 7, 3) := by decide +kernel
theorem dX9_sees_50 : decode cX9_sees 50 = .ok (.iconst 1, 1) := by decide +kernel
theorem dX9_sees_51 : decode cX9_sees 51 = .ok (.goto 4, 3) := by decide +kernel
theorem dX9_sees_54 : decode cX9_sees 54 = .ok (.iconst 0, 1) := by decide +kernel
theorem dX9_sees_55 : decode cX9_sees 55 = .ok (.ireturn, 1) := by decide +kernel
theorem dX9_passes_0 : decode cX9_passes 0 = .ok (.aload_n 0, 1) := by decide +kernel
theorem dX9_passes_1 : decode cX9_passes 1 = .ok (.iload_n 1, 1) := by decide +kernel
theorem dX9_passes_2 : decode cX9_passes 2 = .ok (.invokevirtual 53, 3) := by decide +kernel
theorem dX9_passes_5 : decode cX9_passes 5 = .ok (.ifCond .ne 5, 3) := by decide +kernel
theorem dX9_passes_8 : decode cX9_passes 8 = .ok (.iconst 0, 1) := by decide +kernel
theorem dX9_passes_9 : decode cX9_passes 9 = .ok (.ireturn, 1) := by decide +kernel
theorem dX9_passes_10 : decode cX9_passes 10 = .ok (.aload_n 0, 1) := by decide +kernel
theorem dX9_passes_11 : decode cX9_passes 11 = .ok (.dup, 1) := by decide +kernel
theorem dX9_passes_12 : decode cX9_passes 12 = .ok (.getfield 30, 3) := by decide +kernel
theorem dX9_passes_15 : decode cX9_passes 15 = .ok (.iconst 1, 1) := by decide +kernel
theorem dX9_passes_16 : decode cX9_passes 16 = .ok (.iadd, 1) := by decide +kernel
theorem dX9_passes_17 : decode cX9_passes 17 = .ok (.putfield 30, 3) := by decide +kernel
theorem dX9_passes_20 : decode cX9_passes 20 = .ok (.iconst 1, 1) := by decide +kernel
theorem dX9_passes_21 : decode cX9_passes 21 = .ok (.ireturn, 1) := by decide +kernel
theorem dX9_expect_0 : decode cX9_expect 0 = .ok (.aload_n 0, 1) := by decide +kernel
theorem dX9_expect_1 : decode cX9_expect 1 = .ok (.iload_n 1, 1) := by decide +kernel
theorem dX9_expect_2 : decode cX9_expect 2 = .ok (.invokevirtual 53, 3) := by decide +kernel
theorem dX9_expect_5 : decode cX9_expect 5 = .ok (.ifCond .ne 9, 3) := by decide +kernel
theorem dX9_expect_8 : decode cX9_expect 8 = .ok (.aload_n 0, 1) := by decide +kernel
theorem dX9_expect_9 : decode cX9_expect 9 = .ok (.invokevirtual 57, 3) := by decide +kernel
theorem dX9_expect_12 : decode cX9_expect 12 = .ok (.iconst 0, 1) := by decide +kernel
theorem dX9_expect_13 : decode cX9_expect 13 = .ok (.ireturn, 1) := by decide +kernel
theorem dX9_expect_14 : decode cX9_expect 14 = .ok (.aload_n 0, 1) := by decide +kernel
theorem dX9_expect_15 : decode cX9_expect 15 = .ok (.dup, 1) := by decide +kernel
theorem dX9_expect_16 : decode cX9_expect 16 = .ok (.getfield 30, 3) := by decide +kernel
theorem dX9_expect_19 : decode cX9_expect 19 = .ok (.iconst 1, 1) := by decide +kernel
theorem dX9_expect_20 : decode cX9_expect 20 = .ok (.iadd, 1) := by decide +kernel
theorem dX9_expect_21 : decode cX9_expect 21 = .ok (.putfield 30, 3) := by decide +kernel
theorem dX9_expect_24 : decode cX9_expect 24 = .ok (.iconst 1, 1) := by decide +kernel
theorem dX9_expect_25 : decode cX9_expect 25 = .ok (.ireturn, 1) := by decide +kernel
theorem dX9_oneOf_0 : decode cX9_oneOf 0 = .ok (.aload_n 0, 1) := by decide +kernel
theorem dX9_oneOf_1 : decode cX9_oneOf 1 = .ok (.getfield 36, 3) := by decide +kernel
theorem dX9_oneOf_4 : decode cX9_oneOf 4 = .ok (.ifCond .ne 33, 3) := by decide +kernel
theorem dX9_oneOf_7 : decode cX9_oneOf 7 = .ok (.aload_n 0, 1) := by decide +kernel
theorem dX9_oneOf_8 : decode cX9_oneOf 8 = .ok (.getfield 30, 3) := by decide +kernel
theorem dX9_oneOf_11 : decode cX9_oneOf 11 = .ok (.ifCond .lt 26, 3) := by decide +kernel
theorem dX9_oneOf_14 : decode cX9_oneOf 14 = .ok (.aload_n 0, 1) := by decide +kernel
theorem dX9_oneOf_15 : decode cX9_oneOf 15 = .ok (.getfield 30, 3) := by decide +kernel
theorem dX9_oneOf_18 : decode cX9_oneOf 18 = .ok (.aload_n 0, 1) := by decide +kernel
theorem dX9_oneOf_19 : decode cX9_oneOf 19 = .ok (.getfield 33, 3) := by decide +kernel
theorem dX9_oneOf_22 : decode cX9_oneOf 22 = .ok (.if_icmp .ge 15, 3) := by decide +kernel
theorem dX9_oneOf_25 : decode cX9_oneOf 25 = .ok (.aload_n 0, 1) := by decide +kernel
theorem dX9_oneOf_26 : decode cX9_oneOf 26 = .ok (.getfield 30, 3) := by decide +kernel
theorem dX9_oneOf_29 : decode cX9_oneOf 29 = .ok (.aload_n 0, 1) := by decide +kernel
theorem dX9_oneOf_30 : decode cX9_oneOf 30 = .ok (.getfield 9, 3) := by decide +kernel
theorem dX9_oneOf_33 : decode cX9_oneOf 33 = .ok (.arraylength, 1) := by decide +kernel
theorem dX9_oneOf_34 : decode cX9_oneOf 34 = .ok (.if_icmp .lt 5, 3) := by decide +kernel
theorem dX9_oneOf_37 : decode cX9_oneOf 37 = .ok (.iconst (-1), 1) := by decide +kernel
theorem dX9_oneOf_38 : decode cX9_oneOf 38 = .ok (.ireturn, 1) := by decide +kernel
theorem dX9_oneOf_39 : decode cX9_oneOf 39 = .ok (.aload_n 0, 1) := by decide +kernel
theorem dX9_oneOf_40 : decode cX9_oneOf 40 = .ok (.getfield 9, 3) := by decide +kernel
theorem dX9_oneOf_43 : decode cX9_oneOf 43 = .ok (.aload_n 0, 1) := by decide +kernel
theorem dX9_oneOf_44 : decode cX9_oneOf 44 = .ok (.getfield 30, 3) := by decide +kernel
theorem dX9_oneOf_47 : decode cX9_oneOf 47 = .ok (.iaload, 1) := by decide +kernel
theorem dX9_oneOf_48 : decode cX9_oneOf 48 = .ok (.iload_n 1, 1) := by decide +kernel
theorem dX9_oneOf_49 : decode cX9_oneOf 49 = .ok (.if_icmp .lt 28, 3) := by decide +kernel
theorem dX9_oneOf_52 : decode cX9_oneOf 52 = .ok (.aload_n 0, 1) := by decide +kernel
theorem dX9_oneOf_53 : decode cX9_oneOf 53 = .ok (.getfield 9, 3) := by decide +kernel
theorem dX9_oneOf_56 : decode cX9_oneOf 56 = .ok (.aload_n 0, 1) := by decide +kernel
theorem dX9_oneOf_57 : decode cX9_oneOf 57 = .ok (.getfield 30, 3) := by decide +kernel
theorem dX9_oneOf_60 : decode cX9_oneOf 60 = .ok (.iaload, 1) := by decide +kernel
theorem dX9_oneOf_61 : decode cX9_oneOf 61 = .ok (.iload_n 2, 1) := by decide +kernel
theorem dX9_oneOf_62 : decode cX9_oneOf 62 = .ok (.if_icmp .gt 15, 3) := by decide +kernel
theorem dX9_oneOf_65 : decode cX9_oneOf 65 = .ok (.aload_n 0, 1) := by decide +kernel
theorem dX9_oneOf_66 : decode cX9_oneOf 66 = .ok (.getfield 9, 3) := by decide +kernel
theorem dX9_oneOf_69 : decode cX9_oneOf 69 = .ok (.aload_n 0, 1) := by decide +kernel
theorem dX9_oneOf_70 : decode cX9_oneOf 70 = .ok (.getfield 30, 3) := by decide +kernel
theorem dX9_oneOf_73 : decode cX9_oneOf 73 = .ok (.iaload, 1) := by decide +kernel
theorem dX9_oneOf_74 : decode cX9_oneOf 74 = .ok (.goto 4, 3) := by decide +kernel
theorem dX9_oneOf_77 : decode cX9_oneOf 77 = .ok (.iconst (-1), 1) := by decide +kernel
theorem dX9_oneOf_78 : decode cX9_oneOf 78 = .ok (.ireturn, 1) := by decide +kernel
theorem dX9_fail_0 : decode cX9_fail 0 = .ok (.aload_n 0, 1) := by decide +kernel
theorem dX9_fail_1 : decode cX9_fail 1 = .ok (.iconst 1, 1) := by decide +kernel
theorem dX9_fail_2 : decode cX9_fail 2 = .ok (.putfield 36, 3) := by decide +kernel
theorem dX9_fail_5 : decode cX9_fail 5 = .ok (.return_, 1) := by decide +kernel
theorem dX9_startHere_0 : decode cX9_startHere 0 = .ok (.aload_n 0, 1) := by decide +kernel
theorem dX9_startHere_1 : decode cX9_startHere 1 = .ok (.getfield 30, 3) := by decide +kernel
theorem dX9_startHere_4 : decode cX9_startHere 4 = .ok (.ifCond .lt 27, 3) := by decide +kernel
theorem dX9_startHere_7 : decode cX9_startHere 7 = .ok (.aload_n 0, 1) := by decide +kernel
theorem dX9_startHere_8 : decode cX9_startHere 8 = .ok (.getfield 30, 3) := by decide +kernel
theorem dX9_startHere_11 : decode cX9_startHere 11 = .ok (.aload_n 0, 1) := by decide +kernel
theorem dX9_startHere_12 : decode cX9_startHere 12 = .ok (.getfield 15, 3) := by decide +kernel
theorem dX9_startHere_15 : decode cX9_startHere 15 = .ok (.arraylength, 1) := by decide +kernel
theorem dX9_startHere_16 : decode cX9_startHere 16 = .ok (.if_icmp .ge 15, 3) := by decide +kernel
theorem dX9_startHere_19 : decode cX9_startHere 19 = .ok (.aload_n 0, 1) := by decide +kernel
theorem dX9_startHere_20 : decode cX9_startHere 20 = .ok (.getfield 15, 3) := by decide +kernel
theorem dX9_startHere_23 : decode cX9_startHere 23 = .ok (.aload_n 0, 1) := by decide +kernel
theorem dX9_startHere_24 : decode cX9_startHere 24 = .ok (.getfield 30, 3) := by decide +kernel
theorem dX9_startHere_27 : decode cX9_startHere 27 = .ok (.iaload, 1) := by decide +kernel
theorem dX9_startHere_28 : decode cX9_startHere 28 = .ok (.goto 4, 3) := by decide +kernel
theorem dX9_startHere_31 : decode cX9_startHere 31 = .ok (.iconst 0, 1) := by decide +kernel
theorem dX9_startHere_32 : decode cX9_startHere 32 = .ok (.ireturn, 1) := by decide +kernel
theorem dX9_valueHere_0 : decode cX9_valueHere 0 = .ok (.aload_n 0, 1) := by decide +kernel
theorem dX9_valueHere_1 : decode cX9_valueHere 1 = .ok (.getfield 30, 3) := by decide +kernel
theorem dX9_valueHere_4 : decode cX9_valueHere 4 = .ok (.ifCond .lt 27, 3) := by decide +kernel
theorem dX9_valueHere_7 : decode cX9_valueHere 7 = .ok (.aload_n 0, 1) := by decide +kernel
theorem dX9_valueHere_8 : decode cX9_valueHere 8 = .ok (.getfield 30, 3) := by decide +kernel
theorem dX9_valueHere_11 : decode cX9_valueHere 11 = .ok (.aload_n 0, 1) := by decide +kernel
theorem dX9_valueHere_12 : decode cX9_valueHere 12 = .ok (.getfield 18, 3) := by decide +kernel
theorem dX9_valueHere_15 : decode cX9_valueHere 15 = .ok (.arraylength, 1) := by decide +kernel
theorem dX9_valueHere_16 : decode cX9_valueHere 16 = .ok (.if_icmp .ge 15, 3) := by decide +kernel
theorem dX9_valueHere_19 : decode cX9_valueHere 19 = .ok (.aload_n 0, 1) := by decide +kernel
theorem dX9_valueHere_20 : decode cX9_valueHere 20 = .ok (.getfield 18, 3) := by decide +kernel
theorem dX9_valueHere_23 : decode cX9_valueHere 23 = .ok (.aload_n 0, 1) := by decide +kernel
theorem dX9_valueHere_24 : decode cX9_valueHere 24 = .ok (.getfield 30, 3) := by decide +kernel
theorem dX9_valueHere_27 : decode cX9_valueHere 27 = .ok (.laload, 1) := by decide +kernel
theorem dX9_valueHere_28 : decode cX9_valueHere 28 = .ok (.goto 4, 3) := by decide +kernel
theorem dX9_valueHere_31 : decode cX9_valueHere 31 = .ok (.lconst 0, 1) := by decide +kernel
theorem dX9_valueHere_32 : decode cX9_valueHere 32 = .ok (.lreturn, 1) := by decide +kernel
theorem dX9_allow_0 : decode cX9_allow 0 = .ok (.aload_n 0, 1) := by decide +kernel
theorem dX9_allow_1 : decode cX9_allow 1 = .ok (.aload_n 0, 1) := by decide +kernel
theorem dX9_allow_2 : decode cX9_allow 2 = .ok (.getfield 30, 3) := by decide +kernel
theorem dX9_allow_5 : decode cX9_allow 5 = .ok (.iload_n 1, 1) := by decide +kernel
theorem dX9_allow_6 : decode cX9_allow 6 = .ok (.iadd, 1) := by decide +kernel
theorem dX9_allow_7 : decode cX9_allow 7 = .ok (.putfield 33, 3) := by decide +kernel
theorem dX9_allow_10 : decode cX9_allow 10 = .ok (.return_, 1) := by decide +kernel
theorem dX9_allowAll_0 : decode cX9_allowAll 0 = .ok (.aload_n 0, 1) := by decide +kernel
theorem dX9_allowAll_1 : decode cX9_allowAll 1 = .ok (.aload_n 0, 1) := by decide +kernel
theorem dX9_allowAll_2 : decode cX9_allowAll 2 = .ok (.getfield 9, 3) := by decide +kernel
theorem dX9_allowAll_5 : decode cX9_allowAll 5 = .ok (.arraylength, 1) := by decide +kernel
theorem dX9_allowAll_6 : decode cX9_allowAll 6 = .ok (.putfield 33, 3) := by decide +kernel
theorem dX9_allowAll_9 : decode cX9_allowAll 9 = .ok (.return_, 1) := by decide +kernel
theorem dX9_scanOne_0 : decode cX9_scanOne 0 = .ok (.aload_n 0, 1) := by decide +kernel
theorem dX9_scanOne_1 : decode cX9_scanOne 1 = .ok (.invokevirtual 60, 3) := by decide +kernel
theorem dX9_scanOne_4 : decode cX9_scanOne 4 = .ok (.aload_n 0, 1) := by decide +kernel
theorem dX9_scanOne_5 : decode cX9_scanOne 5 = .ok (.aload_n 0, 1) := by decide +kernel
theorem dX9_scanOne_6 : decode cX9_scanOne 6 = .ok (.getfield 26, 3) := by decide +kernel
theorem dX9_scanOne_9 : decode cX9_scanOne 9 = .ok (.putfield 46, 3) := by decide +kernel
theorem dX9_scanOne_12 : decode cX9_scanOne 12 = .ok (.aload_n 0, 1) := by decide +kernel
theorem dX9_scanOne_13 : decode cX9_scanOne 13 = .ok (.lconst 0, 1) := by decide +kernel
theorem dX9_scanOne_14 : decode cX9_scanOne 14 = .ok (.putfield 49, 3) := by decide +kernel
theorem dX9_scanOne_17 : decode cX9_scanOne 17 = .ok (.aload_n 0, 1) := by decide +kernel
theorem dX9_scanOne_18 : decode cX9_scanOne 18 = .ok (.getfield 22, 3) := by decide +kernel
theorem dX9_scanOne_21 : decode cX9_scanOne 21 = .ok (.aload_n 0, 1) := by decide +kernel
theorem dX9_scanOne_22 : decode cX9_scanOne 22 = .ok (.getfield 26, 3) := by decide +kernel
theorem dX9_scanOne_25 : decode cX9_scanOne 25 = .ok (.invokevirtual 63, 3) := by decide +kernel
theorem dX9_scanOne_28 : decode cX9_scanOne 28 = .ok (.istore_n 1, 1) := by decide +kernel
theorem dX9_scanOne_29 : decode cX9_scanOne 29 = .ok (.iload_n 1, 1) := by decide +kernel
theorem dX9_scanOne_30 : decode cX9_scanOne 30 = .ok (.ifCond .ge 11, 3) := by decide +kernel
theorem dX9_scanOne_33 : decode cX9_scanOne 33 = .ok (.aload_n 0, 1) := by decide +kernel
theorem dX9_scanOne_34 : decode cX9_scanOne 34 = .ok (.iconst 0, 1) := by decide +kernel
theorem dX9_scanOne_35 : decode cX9_scanOne 35 = .ok (.putfield 40, 3) := by decide +kernel
theorem dX9_scanOne_38 : decode cX9_scanOne 38 = .ok (.goto 50, 3) := by decide +kernel
theorem dX9_scanOne_41 : decode cX9_scanOne 41 = .ok (.iload_n 1, 1) := by decide +kernel
theorem dX9_scanOne_42 : decode cX9_scanOne 42 = .ok (.invokestatic 69, 3) := by decide +kernel
theorem dX9_scanOne_45 : decode cX9_scanOne 45 = .ok (.ifCond .eq 10, 3) := by decide +kernel
theorem dX9_scanOne_48 : decode cX9_scanOne 48 = .ok (.aload_n 0, 1) := by decide +kernel
theorem dX9_scanOne_49 : decode cX9_scanOne 49 = .ok (.invokevirtual 72, 3) := by decide +kernel
theorem dX9_scanOne_52 : decode cX9_scanOne 52 = .ok (.goto 36, 3) := by decide +kernel
theorem dX9_scanOne_55 : decode cX9_scanOne 55 = .ok (.iload_n 1, 1) := by decide +kernel
theorem dX9_scanOne_56 : decode cX9_scanOne 56 = .ok (.invokestatic 75, 3) := by decide +kernel
theorem dX9_scanOne_59 : decode cX9_scanOne 59 = .ok (.ifCond .eq 10, 3) := by decide +kernel
theorem dX9_scanOne_62 : decode cX9_scanOne 62 = .ok (.aload_n 0, 1) := by decide +kernel
theorem dX9_scanOne_63 : decode cX9_scanOne 63 = .ok (.invokevirtual 78, 3) := by decide +kernel
theorem dX9_scanOne_66 : decode cX9_scanOne 66 = .ok (.goto 22, 3) := by decide +kernel
theorem dX9_scanOne_69 : decode cX9_scanOne 69 = .ok (.aload_n 0, 1) := by decide +kernel
theorem dX9_scanOne_70 : decode cX9_scanOne 70 = .ok (.dup, 1) := by decide +kernel
theorem dX9_scanOne_71 : decode cX9_scanOne 71 = .ok (.getfield 26, 3) := by decide +kernel
theorem dX9_scanOne_74 : decode cX9_scanOne 74 = .ok (.iconst 1, 1) := by decide +kernel
theorem dX9_scanOne_75 : decode cX9_scanOne 75 = .ok (.iadd, 1) := by decide +kernel
theorem dX9_scanOne_76 : decode cX9_scanOne 76 = .ok (.putfield 26, 3) := by decide +kernel
theorem dX9_scanOne_79 : decode cX9_scanOne 79 = .ok (.aload_n 0, 1) := by decide +kernel
theorem dX9_scanOne_80 : decode cX9_scanOne 80 = .ok (.aload_n 0, 1) := by decide +kernel
theorem dX9_scanOne_81 : decode cX9_scanOne 81 = .ok (.iload_n 1, 1) := by decide +kernel
theorem dX9_scanOne_82 : decode cX9_scanOne 82 = .ok (.invokevirtual 81, 3) := by decide +kernel
theorem dX9_scanOne_85 : decode cX9_scanOne 85 = .ok (.putfield 40, 3) := by decide +kernel
theorem dX9_scanOne_88 : decode cX9_scanOne 88 = .ok (.return_, 1) := by decide +kernel
theorem dX9_skipBlanks_0 : decode cX9_skipBlanks 0 = .ok (.aload_n 0, 1) := by decide +kernel
theorem dX9_skipBlanks_1 : decode cX9_skipBlanks 1 = .ok (.getfield 26, 3) := by decide +kernel
theorem dX9_skipBlanks_4 : decode cX9_skipBlanks 4 = .ok (.aload_n 0, 1) := by decide +kernel
theorem dX9_skipBlanks_5 : decode cX9_skipBlanks 5 = .ok (.getfield 22, 3) := by decide +kernel
theorem dX9_skipBlanks_8 : decode cX9_skipBlanks 8 = .ok (.invokevirtual 84, 3) := by decide +kernel
theorem dX9_skipBlanks_11 : decode cX9_skipBlanks 11 = .ok (.if_icmp .ge 33, 3) := by decide +kernel
theorem dX9_skipBlanks_14 : decode cX9_skipBlanks 14 = .ok (.aload_n 0, 1) := by decide +kernel
theorem dX9_skipBlanks_15 : decode cX9_skipBlanks 15 = .ok (.getfield 22, 3) := by decide +kernel
theorem dX9_skipBlanks_18 : decode cX9_skipBlanks 18 = .ok (.aload_n 0, 1) := by decide +kernel
theorem dX9_skipBlanks_19 : decode cX9_skipBlanks 19 = .ok (.getfield 26, 3) := by decide +kernel
theorem dX9_skipBlanks_22 : decode cX9_skipBlanks 22 = .ok (.invokevirtual 63, 3) := by decide +kernel
theorem dX9_skipBlanks_25 : decode cX9_skipBlanks 25 = .ok (.invokestatic 88, 3) := by decide +kernel
theorem dX9_skipBlanks_28 : decode cX9_skipBlanks 28 = .ok (.ifCond .eq 16, 3) := by decide +kernel
theorem dX9_skipBlanks_31 : decode cX9_skipBlanks 31 = .ok (.aload_n 0, 1) := by decide +kernel
theorem dX9_skipBlanks_32 : decode cX9_skipBlanks 32 = .ok (.dup, 1) := by decide +kernel
theorem dX9_skipBlanks_33 : decode cX9_skipBlanks 33 = .ok (.getfield 26, 3) := by decide +kernel
theorem dX9_skipBlanks_36 : decode cX9_skipBlanks 36 = .ok (.iconst 1, 1) := by decide +kernel
theorem dX9_skipBlanks_37 : decode cX9_skipBlanks 37 = .ok (.iadd, 1) := by decide +kernel
theorem dX9_skipBlanks_38 : decode cX9_skipBlanks 38 = .ok (.putfield 26, 3) := by decide +kernel
theorem dX9_skipBlanks_41 : decode cX9_skipBlanks 41 = .ok (.goto (-41), 3) := by decide +kernel
theorem dX9_skipBlanks_44 : decode cX9_skipBlanks 44 = .ok (.return_, 1) := by decide +kernel
theorem dX9_scanWord_0 : decode cX9_scanWord 0 = .ok (.aload_n 0, 1) := by decide +kernel
theorem dX9_scanWord_1 : decode cX9_scanWord 1 = .ok (.getfield 26, 3) := by decide +kernel
theorem dX9_scanWord_4 : decode cX9_scanWord 4 = .ok (.aload_n 0, 1) := by decide +kernel
theorem dX9_scanWord_5 : decode cX9_scanWord 5 = .ok (.getfield 22, 3) := by decide +kernel
theorem dX9_scanWord_8 : decode cX9_scanWord 8 = .ok (.invokevirtual 84, 3) := by decide +kernel
theorem dX9_scanWord_11 : decode cX9_scanWord 11 = .ok (.if_icmp .ge 57, 3) := by decide +kernel
theorem dX9_scanWord_14 : decode cX9_scanWord 14 = .ok (.aload_n 0, 1) := by decide +kernel
theorem dX9_scanWord_15 : decode cX9_scanWord 15 = .ok (.getfield 22, 3) := by decide +kernel
theorem dX9_scanWord_18 : decode cX9_scanWord 18 = .ok (.aload_n 0, 1) := by decide +kernel
theorem dX9_scanWord_19 : decode cX9_scanWord 19 = .ok (.getfield 26, 3) := by decide +kernel
theorem dX9_scanWord_22 : decode cX9_scanWord 22 = .ok (.invokevirtual 63, 3) := by decide +kernel
theorem dX9_scanWord_25 : decode cX9_scanWord 25 = .ok (.invokestatic 91, 3) := by decide +kernel
theorem dX9_scanWord_28 : decode cX9_scanWord 28 = .ok (.ifCond .eq 40, 3) := by decide +kernel
theorem dX9_scanWord_31 : decode cX9_scanWord 31 = .ok (.aload_n 0, 1) := by decide +kernel
theorem dX9_scanWord_32 : decode cX9_scanWord 32 = .ok (.aload_n 0, 1) := by decide +kernel
theorem dX9_scanWord_33 : decode cX9_scanWord 33 = .ok (.getfield 49, 3) := by decide +kernel
theorem dX9_scanWord_36 : decode cX9_scanWord 36 = .ok (.bipush 8, 2) := by decide +kernel
theorem dX9_scanWord_38 : decode cX9_scanWord 38 = .ok (.lshl, 1) := by decide +kernel
theorem dX9_scanWord_39 : decode cX9_scanWord 39 = .ok (.aload_n 0, 1) := by decide +kernel
theorem dX9_scanWord_40 : decode cX9_scanWord 40 = .ok (.getfield 22, 3) := by decide +kernel
theorem dX9_scanWord_43 : decode cX9_scanWord 43 = .ok (.aload_n 0, 1) := by decide +kernel
theorem dX9_scanWord_44 : decode cX9_scanWord 44 = .ok (.getfield 26, 3) := by decide +kernel
theorem dX9_scanWord_47 : decode cX9_scanWord 47 = .ok (.invokevirtual 63, 3) := by decide +kernel
theorem dX9_scanWord_50 : decode cX9_scanWord 50 = .ok (.i2l, 1) := by decide +kernel
theorem dX9_scanWord_51 : decode cX9_scanWord 51 = .ok (.lor, 1) := by decide +kernel
theorem dX9_scanWord_52 : decode cX9_scanWord 52 = .ok (.putfield 49, 3) := by decide +kernel
theorem dX9_scanWord_55 : decode cX9_scanWord 55 = .ok (.aload_n 0, 1) := by decide +kernel
theorem dX9_scanWord_56 : decode cX9_scanWord 56 = .ok (.dup, 1) := by decide +kernel
theorem dX9_scanWord_57 : decode cX9_scanWord 57 = .ok (.getfield 26, 3) := by decide +kernel
theorem dX9_scanWord_60 : decode cX9_scanWord 60 = .ok (.iconst 1, 1) := by decide +kernel
theorem dX9_scanWord_61 : decode cX9_scanWord 61 = .ok (.iadd, 1) := by decide +kernel
theorem dX9_scanWord_62 : decode cX9_scanWord 62 = .ok (.putfield 26, 3) := by decide +kernel
theorem dX9_scanWord_65 : decode cX9_scanWord 65 = .ok (.goto (-65), 3) := by decide +kernel
theorem dX9_scanWord_68 : decode cX9_scanWord 68 = .ok (.aload_n 0, 1) := by decide +kernel
theorem dX9_scanWord_69 : decode cX9_scanWord 69 = .ok (.aload_n 0, 1) := by decide +kernel
theorem dX9_scanWord_70 : decode cX9_scanWord 70 = .ok (.getfield 26, 3) := by decide +kernel
theorem dX9_scanWord_73 : decode cX9_scanWord 73 = .ok (.aload_n 0, 1) := by decide +kernel
theorem dX9_scanWord_74 : decode cX9_scanWord 74 = .ok (.getfield 46, 3) := by decide +kernel
theorem dX9_scanWord_77 : decode cX9_scanWord 77 = .ok (.isub, 1) := by decide +kernel
theorem dX9_scanWord_78 : decode cX9_scanWord 78 = .ok (.bipush 8, 2) := by decide +kernel
theorem dX9_scanWord_80 : decode cX9_scanWord 80 = .ok (.if_icmp .le 7, 3) := by decide +kernel
theorem dX9_scanWord_83 : decode cX9_scanWord 83 = .ok (.iconst 1, 1) := by decide +kernel
theorem dX9_scanWord_84 : decode cX9_scanWord 84 = .ok (.goto 7, 3) := by decide +kernel
theorem dX9_scanWord_87 : decode cX9_scanWord 87 = .ok (.aload_n 0, 1) := by decide +kernel
theorem dX9_scanWord_88 : decode cX9_scanWord 88 = .ok (.invokevirtual 94, 3) := by decide +kernel
theorem dX9_scanWord_91 : decode cX9_scanWord 91 = .ok (.putfield 40, 3) := by decide +kernel
theorem dX9_scanWord_94 : decode cX9_scanWord 94 = .ok (.return_, 1) := by decide +kernel
theorem dX9_wordKind_0 : decode cX9_wordKind 0 = .ok (.iconst 0, 1) := by decide +kernel
theorem dX9_wordKind_1 : decode cX9_wordKind 1 = .ok (.istore_n 1, 1) := by decide +kernel
theorem dX9_wordKind_2 : decode cX9_wordKind 2 = .ok (.iload_n 1, 1) := by decide +kernel
theorem dX9_wordKind_3 : decode cX9_wordKind 3 = .ok (.getstatic 97, 3) := by decide +kernel
theorem dX9_wordKind_6 : decode cX9_wordKind 6 = .ok (.arraylength, 1) := by decide +kernel
theorem dX9_wordKind_7 : decode cX9_wordKind 7 = .ok (.if_icmp .ge 26, 3) := by decide +kernel
theorem dX9_wordKind_10 : decode cX9_wordKind 10 = .ok (.getstatic 97, 3) := by decide +kernel
theorem dX9_wordKind_13 : decode cX9_wordKind 13 = .ok (.iload_n 1, 1) := by decide +kernel
theorem dX9_wordKind_14 : decode cX9_wordKind 14 = .ok (.laload, 1) := by decide +kernel
theorem dX9_wordKind_15 : decode cX9_wordKind 15 = .ok (.aload_n 0, 1) := by decide +kernel
theorem dX9_wordKind_16 : decode cX9_wordKind 16 = .ok (.getfield 49, 3) := by decide +kernel
theorem dX9_wordKind_19 : decode cX9_wordKind 19 = .ok (.lcmp, 1) := by decide +kernel
theorem dX9_wordKind_20 : decode cX9_wordKind 20 = .ok (.ifCond .ne 7, 3) := by decide +kernel
theorem dX9_wordKind_23 : decode cX9_wordKind 23 = .ok (.iconst 4, 1) := by decide +kernel
theorem dX9_wordKind_24 : decode cX9_wordKind 24 = .ok (.iload_n 1, 1) := by decide +kernel
theorem dX9_wordKind_25 : decode cX9_wordKind 25 = .ok (.iadd, 1) := by decide +kernel
theorem dX9_wordKind_26 : decode cX9_wordKind 26 = .ok (.ireturn, 1) := by decide +kernel
theorem dX9_wordKind_27 : decode cX9_wordKind 27 = .ok (.iinc 1 1, 3) := by decide +kernel
theorem dX9_wordKind_30 : decode cX9_wordKind 30 = .ok (.goto (-28), 3) := by decide +kernel
theorem dX9_wordKind_33 : decode cX9_wordKind 33 = .ok (.iconst 3, 1) := by decide +kernel
theorem dX9_wordKind_34 : decode cX9_wordKind 34 = .ok (.ireturn, 1) := by decide +kernel
theorem dX9_scanNumber_0 : decode cX9_scanNumber 0 = .ok (.aload_n 0, 1) := by decide +kernel
theorem dX9_scanNumber_1 : decode cX9_scanNumber 1 = .ok (.getfield 26, 3) := by decide +kernel
theorem dX9_scanNumber_4 : decode cX9_scanNumber 4 = .ok (.aload_n 0, 1) := by decide +kernel
theorem dX9_scanNumber_5 : decode cX9_scanNumber 5 = .ok (.getfield 22, 3) := by decide +kernel
theorem dX9_scanNumber_8 : decode cX9_scanNumber 8 = .ok (.invokevirtual 84, 3) := by decide +kernel
theorem dX9_scanNumber_11 : decode cX9_scanNumber 11 = .ok (.if_icmp .ge 62, 3) := by decide +kernel
theorem dX9_scanNumber_14 : decode cX9_scanNumber 14 = .ok (.aload_n 0, 1) := by decide +kernel
theorem dX9_scanNumber_15 : decode cX9_scanNumber 15 = .ok (.getfield 22, 3) := by decide +kernel
theorem dX9_scanNumber_18 : decode cX9_scanNumber 18 = .ok (.aload_n 0, 1) := by decide +kernel
theorem dX9_scanNumber_19 : decode cX9_scanNumber 19 = .ok (.getfield 26, 3) := by decide +kernel
theorem dX9_scanNumber_22 : decode cX9_scanNumber 22 = .ok (.invokevirtual 63, 3) := by decide +kernel
theorem dX9_scanNumber_25 : decode cX9_scanNumber 25 = .ok (.invokestatic 75, 3) := by decide +kernel
theorem dX9_scanNumber_28 : decode cX9_scanNumber 28 = .ok (.ifCond .eq 45, 3) := by decide +kernel
theorem dX9_scanNumber_31 : decode cX9_scanNumber 31 = .ok (.aload_n 0, 1) := by decide +kernel
theorem dX9_scanNumber_32 : decode cX9_scanNumber 32 = .ok (.aload_n 0, 1) := by decide +kernel
theorem dX9_scanNumber_33 : decode cX9_scanNumber 33 = .ok (.getfield 49, 3) := by decide +kernel
theorem dX9_scanNumber_36 : decode cX9_scanNumber 36 = .ok (.ldc2_w 100, 3) := by decide +kernel
theorem dX9_scanNumber_39 : decode cX9_scanNumber 39 = .ok (.lmul, 1) := by decide +kernel
theorem dX9_scanNumber_40 : decode cX9_scanNumber 40 = .ok (.aload_n 0, 1) := by decide +kernel
theorem dX9_scanNumber_41 : decode cX9_scanNumber 41 = .ok (.getfield 22, 3) := by decide +kernel
theorem dX9_scanNumber_44 : decode cX9_scanNumber 44 = .ok (.aload_n 0, 1) := by decide +kernel
theorem dX9_scanNumber_45 : decode cX9_scanNumber 45 = .ok (.getfield 26, 3) := by decide +kernel
theorem dX9_scanNumber_48 : decode cX9_scanNumber 48 = .ok (.invokevirtual 63, 3) := by decide +kernel
theorem dX9_scanNumber_51 : decode cX9_scanNumber 51 = .ok (.i2l, 1) := by decide +kernel
theorem dX9_scanNumber_52 : decode cX9_scanNumber 52 = .ok (.ladd, 1) := by decide +kernel
theorem dX9_scanNumber_53 : decode cX9_scanNumber 53 = .ok (.ldc2_w 102, 3) := by decide +kernel
theorem dX9_scanNumber_56 : decode cX9_scanNumber 56 = .ok (.lsub, 1) := by decide +kernel
theorem dX9_scanNumber_57 : decode cX9_scanNumber 57 = .ok (.putfield 49, 3) := by decide +kernel
theorem dX9_scanNumber_60 : decode cX9_scanNumber 60 = .ok (.aload_n 0, 1) := by decide +kernel
theorem dX9_scanNumber_61 : decode cX9_scanNumber 61 = .ok (.dup, 1) := by decide +kernel
theorem dX9_scanNumber_62 : decode cX9_scanNumber 62 = .ok (.getfield 26, 3) := by decide +kernel
theorem dX9_scanNumber_65 : decode cX9_scanNumber 65 = .ok (.iconst 1, 1) := by decide +kernel
theorem dX9_scanNumber_66 : decode cX9_scanNumber 66 = .ok (.iadd, 1) := by decide +kernel
theorem dX9_scanNumber_67 : decode cX9_scanNumber 67 = .ok (.putfield 26, 3) := by decide +kernel
theorem dX9_scanNumber_70 : decode cX9_scanNumber 70 = .ok (.goto (-70), 3) := by decide +kernel
theorem dX9_scanNumber_73 : decode cX9_scanNumber 73 = .ok (.aload_n 0, 1) := by decide +kernel
theorem dX9_scanNumber_74 : decode cX9_scanNumber 74 = .ok (.aload_n 0, 1) := by decide +kernel
theorem dX9_scanNumber_75 : decode cX9_scanNumber 75 = .ok (.getfield 26, 3) := by decide +kernel
theorem dX9_scanNumber_78 : decode cX9_scanNumber 78 = .ok (.aload_n 0, 1) := by decide +kernel
theorem dX9_scanNumber_79 : decode cX9_scanNumber 79 = .ok (.getfield 46, 3) := by decide +kernel
theorem dX9_scanNumber_82 : decode cX9_scanNumber 82 = .ok (.isub, 1) := by decide +kernel
theorem dX9_scanNumber_83 : decode cX9_scanNumber 83 = .ok (.iconst 4, 1) := by decide +kernel
theorem dX9_scanNumber_84 : decode cX9_scanNumber 84 = .ok (.if_icmp .le 7, 3) := by decide +kernel
theorem dX9_scanNumber_87 : decode cX9_scanNumber 87 = .ok (.iconst 1, 1) := by decide +kernel
theorem dX9_scanNumber_88 : decode cX9_scanNumber 88 = .ok (.goto 4, 3) := by decide +kernel
theorem dX9_scanNumber_91 : decode cX9_scanNumber 91 = .ok (.iconst 2, 1) := by decide +kernel
theorem dX9_scanNumber_92 : decode cX9_scanNumber 92 = .ok (.putfield 40, 3) := by decide +kernel
theorem dX9_scanNumber_95 : decode cX9_scanNumber 95 = .ok (.return_, 1) := by decide +kernel
theorem dX9_symbolKind_0 : decode cX9_symbolKind 0 = .ok (.iload_n 1, 1) := by decide +kernel
theorem dX9_symbolKind_1 : decode cX9_symbolKind 1 = .ok (.lookupswitch 231 #[(37, 164), (40, 131), (41, 134), (42, 158), (43, 152), (44, 137), (45, 155), (46, 215), (47, 161), (58, 143), (59, 140), (60, 167), (61, 149), (62, 198), (124, 146)], 131) := by decide +kernel
theorem dX9_symbolKind_132 : decode cX9_symbolKind 132 = .ok (.bipush 16, 2) := by decide +kernel
theorem dX9_symbolKind_134 : decode cX9_symbolKind 134 = .ok (.ireturn, 1) := by decide +kernel
theorem dX9_symbolKind_135 : decode cX9_symbolKind 135 = .ok (.bipush 17, 2) := by decide +kernel
theorem dX9_symbolKind_137 : decode cX9_symbolKind 137 = .ok (.ireturn, 1) := by decide +kernel
theorem dX9_symbolKind_138 : decode cX9_symbolKind 138 = .ok (.bipush 18, 2) := by decide +kernel
theorem dX9_symbolKind_140 : decode cX9_symbolKind 140 = .ok (.ireturn, 1) := by decide +kernel
theorem dX9_symbolKind_141 : decode cX9_symbolKind 141 = .ok (.bipush 19, 2) := by decide +kernel
theorem dX9_symbolKind_143 : decode cX9_symbolKind 143 = .ok (.ireturn, 1) := by decide +kernel
theorem dX9_symbolKind_144 : decode cX9_symbolKind 144 = .ok (.bipush 20, 2) := by decide +kernel
theorem dX9_symbolKind_146 : decode cX9_symbolKind 146 = .ok (.ireturn, 1) := by decide +kernel
theorem dX9_symbolKind_147 : decode cX9_symbolKind 147 = .ok (.bipush 21, 2) := by decide +kernel
theorem dX9_symbolKind_149 : decode cX9_symbolKind 149 = .ok (.ireturn, 1) := by decide +kernel
theorem dX9_symbolKind_150 : decode cX9_symbolKind 150 = .ok (.bipush 22, 2) := by decide +kernel
theorem dX9_symbolKind_152 : decode cX9_symbolKind 152 = .ok (.ireturn, 1) := by decide +kernel
theorem dX9_symbolKind_153 : decode cX9_symbolKind 153 = .ok (.bipush 28, 2) := by decide +kernel
theorem dX9_symbolKind_155 : decode cX9_symbolKind 155 = .ok (.ireturn, 1) := by decide +kernel
theorem dX9_symbolKind_156 : decode cX9_symbolKind 156 = .ok (.bipush 29, 2) := by decide +kernel
theorem dX9_symbolKind_158 : decode cX9_symbolKind 158 = .ok (.ireturn, 1) := by decide +kernel
theorem dX9_symbolKind_159 : decode cX9_symbolKind 159 = .ok (.bipush 30, 2) := by decide +kernel
theorem dX9_symbolKind_161 : decode cX9_symbolKind 161 = .ok (.ireturn, 1) := by decide +kernel
theorem dX9_symbolKind_162 : decode cX9_symbolKind 162 = .ok (.bipush 31, 2) := by decide +kernel
theorem dX9_symbolKind_164 : decode cX9_symbolKind 164 = .ok (.ireturn, 1) := by decide +kernel
theorem dX9_symbolKind_165 : decode cX9_symbolKind 165 = .ok (.bipush 32, 2) := by decide +kernel
theorem dX9_symbolKind_167 : decode cX9_symbolKind 167 = .ok (.ireturn, 1) := by decide +kernel
theorem dX9_symbolKind_168 : decode cX9_symbolKind 168 = .ok (.aload_n 0, 1) := by decide +kernel
theorem dX9_symbolKind_169 : decode cX9_symbolKind 169 = .ok (.bipush 61, 2) := by decide +kernel
theorem dX9_symbolKind_171 : decode cX9_symbolKind 171 = .ok (.invokevirtual 104, 3) := by decide +kernel
theorem dX9_symbolKind_174 : decode cX9_symbolKind 174 = .ok (.ifCond .eq 8, 3) := by decide +kernel
theorem dX9_symbolKind_177 : decode cX9_symbolKind 177 = .ok (.bipush 25, 2) := by decide +kernel
theorem dX9_symbolKind_179 : decode cX9_symbolKind 179 = .ok (.goto 19, 3) := by decide +kernel
theorem dX9_symbolKind_182 : decode cX9_symbolKind 182 = .ok (.aload_n 0, 1) := by decide +kernel
theorem dX9_symbolKind_183 : decode cX9_symbolKind 183 = .ok (.bipush 62, 2) := by decide +kernel
theorem dX9_symbolKind_185 : decode cX9_symbolKind 185 = .ok (.invokevirtual 104, 3) := by decide +kernel
theorem dX9_symbolKind_188 : decode cX9_symbolKind 188 = .ok (.ifCond .eq 8, 3) := by decide +kernel
theorem dX9_symbolKind_191 : decode cX9_symbolKind 191 = .ok (.bipush 23, 2) := by decide +kernel
theorem dX9_symbolKind_193 : decode cX9_symbolKind 193 = .ok (.goto 5, 3) := by decide +kernel
theorem dX9_symbolKind_196 : decode cX9_symbolKind 196 = .ok (.bipush 24, 2) := by decide +kernel
theorem dX9_symbolKind_198 : decode cX9_symbolKind 198 = .ok (.ireturn, 1) := by decide +kernel
theorem dX9_symbolKind_199 : decode cX9_symbolKind 199 = .ok (.aload_n 0, 1) := by decide +kernel
theorem dX9_symbolKind_200 : decode cX9_symbolKind 200 = .ok (.bipush 61, 2) := by decide +kernel
theorem dX9_symbolKind_202 : decode cX9_symbolKind 202 = .ok (.invokevirtual 104, 3) := by decide +kernel
theorem dX9_symbolKind_205 : decode cX9_symbolKind 205 = .ok (.ifCond .eq 8, 3) := by decide +kernel
theorem dX9_symbolKind_208 : decode cX9_symbolKind 208 = .ok (.bipush 27, 2) := by decide +kernel
theorem dX9_symbolKind_210 : decode cX9_symbolKind 210 = .ok (.goto 5, 3) := by decide +kernel
theorem dX9_symbolKind_213 : decode cX9_symbolKind 213 = .ok (.bipush 26, 2) := by decide +kernel
theorem dX9_symbolKind_215 : decode cX9_symbolKind 215 = .ok (.ireturn, 1) := by decide +kernel
theorem dX9_symbolKind_216 : decode cX9_symbolKind 216 = .ok (.aload_n 0, 1) := by decide +kernel
theorem dX9_symbolKind_217 : decode cX9_symbolKind 217 = .ok (.bipush 46, 2) := by decide +kernel
theorem dX9_symbolKind_219 : decode cX9_symbolKind 219 = .ok (.invokevirtual 104, 3) := by decide +kernel
theorem dX9_symbolKind_222 : decode cX9_symbolKind 222 = .ok (.ifCond .eq 8, 3) := by decide +kernel
theorem dX9_symbolKind_225 : decode cX9_symbolKind 225 = .ok (.bipush 33, 2) := by decide +kernel
theorem dX9_symbolKind_227 : decode cX9_symbolKind 227 = .ok (.goto 4, 3) := by decide +kernel
theorem dX9_symbolKind_230 : decode cX9_symbolKind 230 = .ok (.iconst 1, 1) := by decide +kernel
theorem dX9_symbolKind_231 : decode cX9_symbolKind 231 = .ok (.ireturn, 1) := by decide +kernel
theorem dX9_symbolKind_232 : decode cX9_symbolKind 232 = .ok (.iconst 1, 1) := by decide +kernel
theorem dX9_symbolKind_233 : decode cX9_symbolKind 233 = .ok (.ireturn, 1) := by decide +kernel
theorem dX9_follows_0 : decode cX9_follows 0 = .ok (.aload_n 0, 1) := by decide +kernel
theorem dX9_follows_1 : decode cX9_follows 1 = .ok (.getfield 22, 3) := by decide +kernel
theorem dX9_follows_4 : decode cX9_follows 4 = .ok (.aload_n 0, 1) := by decide +kernel
theorem dX9_follows_5 : decode cX9_follows 5 = .ok (.getfield 26, 3) := by decide +kernel
theorem dX9_follows_8 : decode cX9_follows 8 = .ok (.invokevirtual 63, 3) := by decide +kernel
theorem dX9_follows_11 : decode cX9_follows 11 = .ok (.iload_n 1, 1) := by decide +kernel
theorem dX9_follows_12 : decode cX9_follows 12 = .ok (.if_icmp .eq 5, 3) := by decide +kernel
theorem dX9_follows_15 : decode cX9_follows 15 = .ok (.iconst 0, 1) := by decide +kernel
theorem dX9_follows_16 : decode cX9_follows 16 = .ok (.ireturn, 1) := by decide +kernel
theorem dX9_follows_17 : decode cX9_follows 17 = .ok (.aload_n 0, 1) := by decide +kernel
theorem dX9_follows_18 : decode cX9_follows 18 = .ok (.dup, 1) := by decide +kernel
theorem dX9_follows_19 : decode cX9_follows 19 = .ok (.getfield 26, 3) := by decide +kernel
theorem dX9_follows_22 : decode cX9_follows 22 = .ok (.iconst 1, 1) := by decide +kernel
theorem dX9_follows_23 : decode cX9_follows 23 = .ok (.iadd, 1) := by decide +kernel
theorem dX9_follows_24 : decode cX9_follows 24 = .ok (.putfield 26, 3) := by decide +kernel
theorem dX9_follows_27 : decode cX9_follows 27 = .ok (.iconst 1, 1) := by decide +kernel
theorem dX9_follows_28 : decode cX9_follows 28 = .ok (.ireturn, 1) := by decide +kernel
theorem dX9_isBlank_0 : decode cX9_isBlank 0 = .ok (.iload_n 0, 1) := by decide +kernel
theorem dX9_isBlank_1 : decode cX9_isBlank 1 = .ok (.bipush 32, 2) := by decide +kernel
theorem dX9_isBlank_3 : decode cX9_isBlank 3 = .ok (.if_icmp .eq 9, 3) := by decide +kernel
theorem dX9_isBlank_6 : decode cX9_isBlank 6 = .ok (.iload_n 0, 1) := by decide +kernel
theorem dX9_isBlank_7 : decode cX9_isBlank 7 = .ok (.bipush 10, 2) := by decide +kernel
theorem dX9_isBlank_9 : decode cX9_isBlank 9 = .ok (.if_icmp .ne 7, 3) := by decide +kernel
theorem dX9_isBlank_12 : decode cX9_isBlank 12 = .ok (.iconst 1, 1) := by decide +kernel
theorem dX9_isBlank_13 : decode cX9_isBlank 13 = .ok (.goto 4, 3) := by decide +kernel
theorem dX9_isBlank_16 : decode cX9_isBlank 16 = .ok (.iconst 0, 1) := by decide +kernel
theorem dX9_isBlank_17 : decode cX9_isBlank 17 = .ok (.ireturn, 1) := by decide +kernel
theorem dX9_isLetter_0 : decode cX9_isLetter 0 = .ok (.iload_n 0, 1) := by decide +kernel
theorem dX9_isLetter_1 : decode cX9_isLetter 1 = .ok (.bipush 97, 2) := by decide +kernel
theorem dX9_isLetter_3 : decode cX9_isLetter 3 = .ok (.if_icmp .lt 13, 3) := by decide +kernel
theorem dX9_isLetter_6 : decode cX9_isLetter 6 = .ok (.iload_n 0, 1) := by decide +kernel
theorem dX9_isLetter_7 : decode cX9_isLetter 7 = .ok (.bipush 122, 2) := by decide +kernel
theorem dX9_isLetter_9 : decode cX9_isLetter 9 = .ok (.if_icmp .gt 7, 3) := by decide +kernel
theorem dX9_isLetter_12 : decode cX9_isLetter 12 = .ok (.iconst 1, 1) := by decide +kernel
theorem dX9_isLetter_13 : decode cX9_isLetter 13 = .ok (.goto 4, 3) := by decide +kernel
theorem dX9_isLetter_16 : decode cX9_isLetter 16 = .ok (.iconst 0, 1) := by decide +kernel
theorem dX9_isLetter_17 : decode cX9_isLetter 17 = .ok (.ireturn, 1) := by decide +kernel
theorem dX9_isDigit_0 : decode cX9_isDigit 0 = .ok (.iload_n 0, 1) := by decide +kernel
theorem dX9_isDigit_1 : decode cX9_isDigit 1 = .ok (.bipush 48, 2) := by decide +kernel
theorem dX9_isDigit_3 : decode cX9_isDigit 3 = .ok (.if_icmp .lt 13, 3) := by decide +kernel
theorem dX9_isDigit_6 : decode cX9_isDigit 6 = .ok (.iload_n 0, 1) := by decide +kernel
theorem dX9_isDigit_7 : decode cX9_isDigit 7 = .ok (.bipush 57, 2) := by decide +kernel
theorem dX9_isDigit_9 : decode cX9_isDigit 9 = .ok (.if_icmp .gt 7, 3) := by decide +kernel
theorem dX9_isDigit_12 : decode cX9_isDigit 12 = .ok (.iconst 1, 1) := by decide +kernel
theorem dX9_isDigit_13 : decode cX9_isDigit 13 = .ok (.goto 4, 3) := by decide +kernel
theorem dX9_isDigit_16 : decode cX9_isDigit 16 = .ok (.iconst 0, 1) := by decide +kernel
theorem dX9_isDigit_17 : decode cX9_isDigit 17 = .ok (.ireturn, 1) := by decide +kernel
theorem dX9_isWordSign_0 : decode cX9_isWordSign 0 = .ok (.iload_n 0, 1) := by decide +kernel
theorem dX9_isWordSign_1 : decode cX9_isWordSign 1 = .ok (.invokestatic 69, 3) := by decide +kernel
theorem dX9_isWordSign_4 : decode cX9_isWordSign 4 = .ok (.ifCond .ne 10, 3) := by decide +kernel
theorem dX9_isWordSign_7 : decode cX9_isWordSign 7 = .ok (.iload_n 0, 1) := by decide +kernel
theorem dX9_isWordSign_8 : decode cX9_isWordSign 8 = .ok (.invokestatic 75, 3) := by decide +kernel
theorem dX9_isWordSign_11 : decode cX9_isWordSign 11 = .ok (.ifCond .eq 7, 3) := by decide +kernel
theorem dX9_isWordSign_14 : decode cX9_isWordSign 14 = .ok (.iconst 1, 1) := by decide +kernel
theorem dX9_isWordSign_15 : decode cX9_isWordSign 15 = .ok (.goto 4, 3) := by decide +kernel
theorem dX9_isWordSign_18 : decode cX9_isWordSign 18 = .ok (.iconst 0, 1) := by decide +kernel
theorem dX9_isWordSign_19 : decode cX9_isWordSign 19 = .ok (.ireturn, 1) := by decide +kernel
theorem dX10_init_0 : decode cX10_init 0 = .ok (.aload_n 0, 1) := by decide +kernel
theorem dX10_init_1 : decode cX10_init 1 = .ok (.invokespecial 3, 3) := by decide +kernel
theorem dX10_init_4 : decode cX10_init 4 = .ok (.aload_n 0, 1) := by decide +kernel
theorem dX10_init_5 : decode cX10_init 5 = .ok (.bipush 41, 2) := by decide +kernel
theorem dX10_init_7 : decode cX10_init 7 = .ok (.newarray .long, 2) := by decide +kernel
theorem dX10_init_9 : decode cX10_init 9 = .ok (.putfield 9, 3) := by decide +kernel
theorem dX10_init_12 : decode cX10_init 12 = .ok (.aload_n 0, 1) := by decide +kernel
theorem dX10_init_13 : decode cX10_init 13 = .ok (.bipush 41, 2) := by decide +kernel
theorem dX10_init_15 : decode cX10_init 15 = .ok (.newarray .long, 2) := by decide +kernel
theorem dX10_init_17 : decode cX10_init 17 = .ok (.putfield 15, 3) := by decide +kernel
theorem dX10_init_20 : decode cX10_init 20 = .ok (.aload_n 0, 1) := by decide +kernel
theorem dX10_init_21 : decode cX10_init 21 = .ok (.bipush 41, 2) := by decide +kernel
theorem dX10_init_23 : decode cX10_init 23 = .ok (.newarray .long, 2) := by decide +kernel
theorem dX10_init_25 : decode cX10_init 25 = .ok (.putfield 18, 3) := by decide +kernel
theorem dX10_init_28 : decode cX10_init 28 = .ok (.return_, 1) := by decide +kernel
theorem dX10_begin_0 : decode cX10_begin 0 = .ok (.aload_n 0, 1) := by decide +kernel
theorem dX10_begin_1 : decode cX10_begin 1 = .ok (.aload_n 1, 1) := by decide +kernel
theorem dX10_begin_2 : decode cX10_begin 2 = .ok (.getfield 21, 3) := by decide +kernel
theorem dX10_begin_5 : decode cX10_begin 5 = .ok (.iconst 0, 1) := by decide +kernel
theorem dX10_begin_6 : decode cX10_begin 6 = .ok (.invokevirtual 27, 3) := by decide +kernel
theorem dX10_begin_9 : decode cX10_begin 9 = .ok (.putfield 33, 3) := by decide +kernel
theorem dX10_begin_12 : decode cX10_begin 12 = .ok (.aload_n 0, 1) := by decide +kernel
theorem dX10_begin_13 : decode cX10_begin 13 = .ok (.aload_n 1, 1) := by decide +kernel
theorem dX10_begin_14 : decode cX10_begin 14 = .ok (.getfield 21, 3) := by decide +kernel
theorem dX10_begin_17 : decode cX10_begin 17 = .ok (.iconst 1, 1) := by decide +kernel
theorem dX10_begin_18 : decode cX10_begin 18 = .ok (.invokevirtual 27, 3) := by decide +kernel
theorem dX10_begin_21 : decode cX10_begin 21 = .ok (.putfield 37, 3) := by decide +kernel
theorem dX10_begin_24 : decode cX10_begin 24 = .ok (.aload_n 0, 1) := by decide +kernel
theorem dX10_begin_25 : decode cX10_begin 25 = .ok (.aload_n 1, 1) := by decide +kernel
theorem dX10_begin_26 : decode cX10_begin 26 = .ok (.getfield 21, 3) := by decide +kernel
theorem dX10_begin_29 : decode cX10_begin 29 = .ok (.iconst 2, 1) := by decide +kernel
theorem dX10_begin_30 : decode cX10_begin 30 = .ok (.invokevirtual 27, 3) := by decide +kernel
theorem dX10_begin_33 : decode cX10_begin 33 = .ok (.putfield 40, 3) := by decide +kernel
theorem dX10_begin_36 : decode cX10_begin 36 = .ok (.aload_n 1, 1) := by decide +kernel
theorem dX10_begin_37 : decode cX10_begin 37 = .ok (.getfield 43, 3) := by decide +kernel
theorem dX10_begin_40 : decode cX10_begin 40 = .ok (.iconst 3, 1) := by decide +kernel
theorem dX10_begin_41 : decode cX10_begin 41 = .ok (.if_icmp .ne 7, 3) := by decide +kernel
theorem dX10_begin_44 : decode cX10_begin 44 = .ok (.iconst 1, 1) := by decide +kernel
theorem dX10_begin_45 : decode cX10_begin 45 = .ok (.goto 4, 3) := by decide +kernel
theorem dX10_begin_48 : decode cX10_begin 48 = .ok (.iconst 0, 1) := by decide +kernel
theorem dX10_begin_49 : decode cX10_begin 49 = .ok (.istore_n 2, 1) := by decide +kernel
theorem dX10_begin_50 : decode cX10_begin 50 = .ok (.aload_n 0, 1) := by decide +kernel
theorem dX10_begin_51 : decode cX10_begin 51 = .ok (.getfield 9, 3) := by decide +kernel
theorem dX10_begin_54 : decode cX10_begin 54 = .ok (.aload_n 0, 1) := by decide +kernel
theorem dX10_begin_55 : decode cX10_begin 55 = .ok (.getfield 33, 3) := by decide +kernel
theorem dX10_begin_58 : decode cX10_begin 58 = .ok (.aload_n 0, 1) := by decide +kernel
theorem dX10_begin_59 : decode cX10_begin 59 = .ok (.getfield 37, 3) := by decide +kernel
theorem dX10_begin_62 : decode cX10_begin 62 = .ok (.invokestatic 46, 3) := by decide +kernel
theorem dX10_begin_65 : decode cX10_begin 65 = .ok (.aload_n 0, 1) := by decide +kernel
theorem dX10_begin_66 : decode cX10_begin 66 = .ok (.getfield 15, 3) := by decide +kernel
theorem dX10_begin_69 : decode cX10_begin 69 = .ok (.iload_n 2, 1) := by decide +kernel
theorem dX10_begin_70 : decode cX10_begin 70 = .ok (.ifCond .eq 10, 3) := by decide +kernel
theorem dX10_begin_73 : decode cX10_begin 73 = .ok (.aload_n 0, 1) := by decide +kernel
theorem dX10_begin_74 : decode cX10_begin 74 = .ok (.getfield 33, 3) := by decide +kernel
theorem dX10_begin_77 : decode cX10_begin 77 = .ok (.goto 4, 3) := by decide +kernel
theorem dX10_begin_80 : decode cX10_begin 80 = .ok (.iconst 0, 1) := by decide +kernel
theorem dX10_begin_81 : decode cX10_begin 81 = .ok (.aload_n 0, 1) := by decide +kernel
theorem dX10_begin_82 : decode cX10_begin 82 = .ok (.getfield 40, 3) := by decide +kernel
theorem dX10_begin_85 : decode cX10_begin 85 = .ok (.invokestatic 46, 3) := by decide +kernel
theorem dX10_begin_88 : decode cX10_begin 88 = .ok (.aload_n 0, 1) := by decide +kernel
theorem dX10_begin_89 : decode cX10_begin 89 = .ok (.getfield 18, 3) := by decide +kernel
theorem dX10_begin_92 : decode cX10_begin 92 = .ok (.iload_n 2, 1) := by decide +kernel
theorem dX10_begin_93 : decode cX10_begin 93 = .ok (.ifCond .eq 10, 3) := by decide +kernel
theorem dX10_begin_96 : decode cX10_begin 96 = .ok (.aload_n 0, 1) := by decide +kernel
theorem dX10_begin_97 : decode cX10_begin 97 = .ok (.getfield 37, 3) := by decide +kernel
theorem dX10_begin_100 : decode cX10_begin 100 = .ok (.goto 4, 3) := by decide +kernel
theorem dX10_begin_103 : decode cX10_begin 103 = .ok (.iconst 0, 1) := by decide +kernel
theorem dX10_begin_104 : decode cX10_begin 104 = .ok (.aload_n 0, 1) := by decide +kernel
theorem dX10_begin_105 : decode cX10_begin 105 = .ok (.getfield 40, 3) := by decide +kernel
theorem dX10_begin_108 : decode cX10_begin 108 = .ok (.invokestatic 46, 3) := by decide +kernel
theorem dX10_begin_111 : decode cX10_begin 111 = .ok (.return_, 1) := by decide +kernel
theorem dX10_strikeTable_0 : decode cX10_strikeTable 0 = .ok (.iconst 0, 1) := by decide +kernel
theorem dX10_strikeTable_1 : decode cX10_strikeTable 1 = .ok (.istore_n 3, 1) := by decide +kernel
theorem dX10_strikeTable_2 : decode cX10_strikeTable 2 = .ok (.iload_n 3, 1) := by decide +kernel
theorem dX10_strikeTable_3 : decode cX10_strikeTable 3 = .ok (.aload_n 2, 1) := by decide +kernel
theorem dX10_strikeTable_4 : decode cX10_strikeTable 4 = .ok (.getfield 50, 3) := by decide +kernel
theorem dX10_strikeTable_7 : decode cX10_strikeTable 7 = .ok (.if_icmp .ge 55, 3) := by decide +kernel
theorem dX10_strikeTable_10 : decode cX10_strikeTable 10 = .ok (.aload_n 2, 1) := by decide +kernel
theorem dX10_strikeTable_11 : decode cX10_strikeTable 11 = .ok (.iload_n 3, 1) := by decide +kernel
theorem dX10_strikeTable_12 : decode cX10_strikeTable 12 = .ok (.invokevirtual 55, 3) := by decide +kernel
theorem dX10_strikeTable_15 : decode cX10_strikeTable 15 = .ok (.getfield 59, 3) := by decide +kernel
theorem dX10_strikeTable_18 : decode cX10_strikeTable 18 = .ok (.astore 4, 2) := by decide +kernel
theorem dX10_strikeTable_20 : decode cX10_strikeTable 20 = .ok (.aload_n 0, 1) := by decide +kernel
theorem dX10_strikeTable_21 : decode cX10_strikeTable 21 = .ok (.getfield 9, 3) := by decide +kernel
theorem dX10_strikeTable_24 : decode cX10_strikeTable 24 = .ok (.aload_n 1, 1) := by decide +kernel
theorem dX10_strikeTable_25 : decode cX10_strikeTable 25 = .ok (.aload 4, 2) := by decide +kernel
theorem dX10_strikeTable_27 : decode cX10_strikeTable 27 = .ok (.iconst 0, 1) := by decide +kernel
theorem dX10_strikeTable_28 : decode cX10_strikeTable 28 = .ok (.iconst 1, 1) := by decide +kernel
theorem dX10_strikeTable_29 : decode cX10_strikeTable 29 = .ok (.invokestatic 62, 3) := by decide +kernel
theorem dX10_strikeTable_32 : decode cX10_strikeTable 32 = .ok (.aload_n 0, 1) := by decide +kernel
theorem dX10_strikeTable_33 : decode cX10_strikeTable 33 = .ok (.getfield 15, 3) := by decide +kernel
theorem dX10_strikeTable_36 : decode cX10_strikeTable 36 = .ok (.aload_n 1, 1) := by decide +kernel
theorem dX10_strikeTable_37 : decode cX10_strikeTable 37 = .ok (.aload 4, 2) := by decide +kernel
theorem dX10_strikeTable_39 : decode cX10_strikeTable 39 = .ok (.iconst 0, 1) := by decide +kernel
theorem dX10_strikeTable_40 : decode cX10_strikeTable 40 = .ok (.iconst 2, 1) := by decide +kernel
theorem dX10_strikeTable_41 : decode cX10_strikeTable 41 = .ok (.invokestatic 62, 3) := by decide +kernel
theorem dX10_strikeTable_44 : decode cX10_strikeTable 44 = .ok (.aload_n 0, 1) := by decide +kernel
theorem dX10_strikeTable_45 : decode cX10_strikeTable 45 = .ok (.getfield 18, 3) := by decide +kernel
theorem dX10_strikeTable_48 : decode cX10_strikeTable 48 = .ok (.aload_n 1, 1) := by decide +kernel
theorem dX10_strikeTable_49 : decode cX10_strikeTable 49 = .ok (.aload 4, 2) := by decide +kernel
theorem dX10_strikeTable_51 : decode cX10_strikeTable 51 = .ok (.iconst 1, 1) := by decide +kernel
theorem dX10_strikeTable_52 : decode cX10_strikeTable 52 = .ok (.iconst 2, 1) := by decide +kernel
theorem dX10_strikeTable_53 : decode cX10_strikeTable 53 = .ok (.invokestatic 62, 3) := by decide +kernel
theorem dX10_strikeTable_56 : decode cX10_strikeTable 56 = .ok (.iinc 3 1, 3) := by decide +kernel
theorem dX10_strikeTable_59 : decode cX10_strikeTable 59 = .ok (.goto (-57), 3) := by decide +kernel
theorem dX10_strikeTable_62 : decode cX10_strikeTable 62 = .ok (.return_, 1) := by decide +kernel
theorem dX10_pairCount_0 : decode cX10_pairCount 0 = .ok (.aload_n 0, 1) := by decide +kernel
theorem dX10_pairCount_1 : decode cX10_pairCount 1 = .ok (.getfield 9, 3) := by decide +kernel
theorem dX10_pairCount_4 : decode cX10_pairCount 4 = .ok (.invokestatic 66, 3) := by decide +kernel
theorem dX10_pairCount_7 : decode cX10_pairCount 7 = .ok (.aload_n 0, 1) := by decide +kernel
theorem dX10_pairCount_8 : decode cX10_pairCount 8 = .ok (.getfield 15, 3) := by decide +kernel
theorem dX10_pairCount_11 : decode cX10_pairCount 11 = .ok (.invokestatic 66, 3) := by decide +kernel
theorem dX10_pairCount_14 : decode cX10_pairCount 14 = .ok (.iadd, 1) := by decide +kernel
theorem dX10_pairCount_15 : decode cX10_pairCount 15 = .ok (.aload_n 0, 1) := by decide +kernel
theorem dX10_pairCount_16 : decode cX10_pairCount 16 = .ok (.getfield 18, 3) := by decide +kernel
theorem dX10_pairCount_19 : decode cX10_pairCount 19 = .ok (.invokestatic 66, 3) := by decide +kernel
theorem dX10_pairCount_22 : decode cX10_pairCount 22 = .ok (.iadd, 1) := by decide +kernel
theorem dX10_pairCount_23 : decode cX10_pairCount 23 = .ok (.ireturn, 1) := by decide +kernel
theorem dX10_bestRow_0 : decode cX10_bestRow 0 = .ok (.iconst (-1), 1) := by decide +kernel
theorem dX10_bestRow_1 : decode cX10_bestRow 1 = .ok (.istore_n 1, 1) := by decide +kernel
theorem dX10_bestRow_2 : decode cX10_bestRow 2 = .ok (.iconst 0, 1) := by decide +kernel
theorem dX10_bestRow_3 : decode cX10_bestRow 3 = .ok (.istore_n 2, 1) := by decide +kernel
theorem dX10_bestRow_4 : decode cX10_bestRow 4 = .ok (.iconst 0, 1) := by decide +kernel
theorem dX10_bestRow_5 : decode cX10_bestRow 5 = .ok (.istore_n 3, 1) := by decide +kernel
theorem dX10_bestRow_6 : decode cX10_bestRow 6 = .ok (.iload_n 3, 1) := by decide +kernel
theorem dX10_bestRow_7 : decode cX10_bestRow 7 = .ok (.aload_n 0, 1) := by decide +kernel
theorem dX10_bestRow_8 : decode cX10_bestRow 8 = .ok (.getfield 33, 3) := by decide +kernel
theorem dX10_bestRow_11 : decode cX10_bestRow 11 = .ok (.if_icmp .ge 74, 3) := by decide +kernel
theorem dX10_bestRow_14 : decode cX10_bestRow 14 = .ok (.iconst 0, 1) := by decide +kernel
theorem dX10_bestRow_15 : decode cX10_bestRow 15 = .ok (.istore 4, 2) := by decide +kernel
theorem dX10_bestRow_17 : decode cX10_bestRow 17 = .ok (.iload 4, 2) := by decide +kernel
theorem dX10_bestRow_19 : decode cX10_bestRow 19 = .ok (.aload_n 0, 1) := by decide +kernel
theorem dX10_bestRow_20 : decode cX10_bestRow 20 = .ok (.getfield 37, 3) := by decide +kernel
theorem dX10_bestRow_23 : decode cX10_bestRow 23 = .ok (.if_icmp .ge 56, 3) := by decide +kernel
theorem dX10_bestRow_26 : decode cX10_bestRow 26 = .ok (.aload_n 0, 1) := by decide +kernel
theorem dX10_bestRow_27 : decode cX10_bestRow 27 = .ok (.iload_n 3, 1) := by decide +kernel
theorem dX10_bestRow_28 : decode cX10_bestRow 28 = .ok (.iload 4, 2) := by decide +kernel
theorem dX10_bestRow_30 : decode cX10_bestRow 30 = .ok (.invokevirtual 70, 3) := by decide +kernel
theorem dX10_bestRow_33 : decode cX10_bestRow 33 = .ok (.istore 5, 2) := by decide +kernel
theorem dX10_bestRow_35 : decode cX10_bestRow 35 = .ok (.aload_n 0, 1) := by decide +kernel
theorem dX10_bestRow_36 : decode cX10_bestRow 36 = .ok (.iload_n 3, 1) := by decide +kernel
theorem dX10_bestRow_37 : decode cX10_bestRow 37 = .ok (.iload 4, 2) := by decide +kernel
theorem dX10_bestRow_39 : decode cX10_bestRow 39 = .ok (.iload 5, 2) := by decide +kernel
theorem dX10_bestRow_41 : decode cX10_bestRow 41 = .ok (.invokevirtual 74, 3) := by decide +kernel
theorem dX10_bestRow_44 : decode cX10_bestRow 44 = .ok (.istore 6, 2) := by decide +kernel
theorem dX10_bestRow_46 : decode cX10_bestRow 46 = .ok (.iload 6, 2) := by decide +kernel
theorem dX10_bestRow_48 : decode cX10_bestRow 48 = .ok (.iload_n 2, 1) := by decide +kernel
theorem dX10_bestRow_49 : decode cX10_bestRow 49 = .ok (.if_icmp .le 24, 3) := by decide +kernel
theorem dX10_bestRow_52 : decode cX10_bestRow 52 = .ok (.iload 6, 2) := by decide +kernel
theorem dX10_bestRow_54 : decode cX10_bestRow 54 = .ok (.istore_n 2, 1) := by decide +kernel
theorem dX10_bestRow_55 : decode cX10_bestRow 55 = .ok (.iload_n 3, 1) := by decide +kernel
theorem dX10_bestRow_56 : decode cX10_bestRow 56 = .ok (.aload_n 0, 1) := by decide +kernel
theorem dX10_bestRow_57 : decode cX10_bestRow 57 = .ok (.getfield 37, 3) := by decide +kernel
theorem dX10_bestRow_60 : decode cX10_bestRow 60 = .ok (.imul, 1) := by decide +kernel
theorem dX10_bestRow_61 : decode cX10_bestRow 61 = .ok (.iload 4, 2) := by decide +kernel
theorem dX10_bestRow_63 : decode cX10_bestRow 63 = .ok (.iadd, 1) := by decide +kernel
theorem dX10_bestRow_64 : decode cX10_bestRow 64 = .ok (.aload_n 0, 1) := by decide +kernel
theorem dX10_bestRow_65 : decode cX10_bestRow 65 = .ok (.getfield 40, 3) := by decide +kernel
theorem dX10_bestRow_68 : decode cX10_bestRow 68 = .ok (.imul, 1) := by decide +kernel
theorem dX10_bestRow_69 : decode cX10_bestRow 69 = .ok (.iload 5, 2) := by decide +kernel
theorem dX10_bestRow_71 : decode cX10_bestRow 71 = .ok (.iadd, 1) := by decide +kernel
theorem dX10_bestRow_72 : decode cX10_bestRow 72 = .ok (.istore_n 1, 1) := by decide +kernel
theorem dX10_bestRow_73 : decode cX10_bestRow 73 = .ok (.iinc 4 1, 3) := by decide +kernel
theorem dX10_bestRow_76 : decode cX10_bestRow 76 = .ok (.goto (-59), 3) := by decide +kernel
theorem dX10_bestRow_79 : decode cX10_bestRow 79 = .ok (.iinc 3 1, 3) := by decide +kernel
theorem dX10_bestRow_82 : decode cX10_bestRow 82 = .ok (.goto (-76), 3) := by decide +kernel
theorem dX10_bestRow_85 : decode cX10_bestRow 85 = .ok (.iload_n 1, 1) := by decide +kernel
theorem dX10_bestRow_86 : decode cX10_bestRow 86 = .ok (.ireturn, 1) := by decide +kernel
theorem dX10_bestThird_0 : decode cX10_bestThird 0 = .ok (.aload_n 0, 1) := by decide +kernel
theorem dX10_bestThird_1 : decode cX10_bestThird 1 = .ok (.getfield 15, 3) := by decide +kernel
theorem dX10_bestThird_4 : decode cX10_bestThird 4 = .ok (.iload_n 1, 1) := by decide +kernel
theorem dX10_bestThird_5 : decode cX10_bestThird 5 = .ok (.invokestatic 78, 3) := by decide +kernel
theorem dX10_bestThird_8 : decode cX10_bestThird 8 = .ok (.lstore_n 3, 1) := by decide +kernel
theorem dX10_bestThird_9 : decode cX10_bestThird 9 = .ok (.aload_n 0, 1) := by decide +kernel
theorem dX10_bestThird_10 : decode cX10_bestThird 10 = .ok (.getfield 18, 3) := by decide +kernel
theorem dX10_bestThird_13 : decode cX10_bestThird 13 = .ok (.iload_n 2, 1) := by decide +kernel
theorem dX10_bestThird_14 : decode cX10_bestThird 14 = .ok (.invokestatic 78, 3) := by decide +kernel
theorem dX10_bestThird_17 : decode cX10_bestThird 17 = .ok (.lstore 5, 2) := by decide +kernel
theorem dX10_bestThird_19 : decode cX10_bestThird 19 = .ok (.lload_n 3, 1) := by decide +kernel
theorem dX10_bestThird_20 : decode cX10_bestThird 20 = .ok (.lload 5, 2) := by decide +kernel
theorem dX10_bestThird_22 : decode cX10_bestThird 22 = .ok (.land, 1) := by decide +kernel
theorem dX10_bestThird_23 : decode cX10_bestThird 23 = .ok (.lstore 7, 2) := by decide +kernel
theorem dX10_bestThird_25 : decode cX10_bestThird 25 = .ok (.lload 7, 2) := by decide +kernel
theorem dX10_bestThird_27 : decode cX10_bestThird 27 = .ok (.lconst 0, 1) := by decide +kernel
theorem dX10_bestThird_28 : decode cX10_bestThird 28 = .ok (.lcmp, 1) := by decide +kernel
theorem dX10_bestThird_29 : decode cX10_bestThird 29 = .ok (.ifCond .ne 10, 3) := by decide +kernel
theorem dX10_bestThird_32 : decode cX10_bestThird 32 = .ok (.lload_n 3, 1) := by decide +kernel
theorem dX10_bestThird_33 : decode cX10_bestThird 33 = .ok (.lload 5, 2) := by decide +kernel
theorem dX10_bestThird_35 : decode cX10_bestThird 35 = .ok (.lor, 1) := by decide +kernel
theorem dX10_bestThird_36 : decode cX10_bestThird 36 = .ok (.goto 5, 3) := by decide +kernel
theorem dX10_bestThird_39 : decode cX10_bestThird 39 = .ok (.lload 7, 2) := by decide +kernel
theorem dX10_bestThird_41 : decode cX10_bestThird 41 = .ok (.invokestatic 82, 3) := by decide +kernel
theorem dX10_bestThird_44 : decode cX10_bestThird 44 = .ok (.ireturn, 1) := by decide +kernel
theorem dX10_pairsIn_0 : decode cX10_pairsIn 0 = .ok (.aload_n 0, 1) := by decide +kernel
theorem dX10_pairsIn_1 : decode cX10_pairsIn 1 = .ok (.getfield 9, 3) := by decide +kernel
theorem dX10_pairsIn_4 : decode cX10_pairsIn 4 = .ok (.iload_n 1, 1) := by decide +kernel
theorem dX10_pairsIn_5 : decode cX10_pairsIn 5 = .ok (.iload_n 2, 1) := by decide +kernel
theorem dX10_pairsIn_6 : decode cX10_pairsIn 6 = .ok (.invokestatic 86, 3) := by decide +kernel
theorem dX10_pairsIn_9 : decode cX10_pairsIn 9 = .ok (.aload_n 0, 1) := by decide +kernel
theorem dX10_pairsIn_10 : decode cX10_pairsIn 10 = .ok (.getfield 15, 3) := by decide +kernel
theorem dX10_pairsIn_13 : decode cX10_pairsIn 13 = .ok (.iload_n 1, 1) := by decide +kernel
theorem dX10_pairsIn_14 : decode cX10_pairsIn 14 = .ok (.iload_n 3, 1) := by decide +kernel
theorem dX10_pairsIn_15 : decode cX10_pairsIn 15 = .ok (.invokestatic 86, 3) := by decide +kernel
theorem dX10_pairsIn_18 : decode cX10_pairsIn 18 = .ok (.iadd, 1) := by decide +kernel
theorem dX10_pairsIn_19 : decode cX10_pairsIn 19 = .ok (.aload_n 0, 1) := by decide +kernel
theorem dX10_pairsIn_20 : decode cX10_pairsIn 20 = .ok (.getfield 18, 3) := by decide +kernel
theorem dX10_pairsIn_23 : decode cX10_pairsIn 23 = .ok (.iload_n 2, 1) := by decide +kernel
theorem dX10_pairsIn_24 : decode cX10_pairsIn 24 = .ok (.iload_n 3, 1) := by decide +kernel
theorem dX10_pairsIn_25 : decode cX10_pairsIn 25 = .ok (.invokestatic 86, 3) := by decide +kernel
theorem dX10_pairsIn_28 : decode cX10_pairsIn 28 = .ok (.iadd, 1) := by decide +kernel
theorem dX10_pairsIn_29 : decode cX10_pairsIn 29 = .ok (.ireturn, 1) := by decide +kernel
theorem dX10_fill_0 : decode cX10_fill 0 = .ok (.iconst 0, 1) := by decide +kernel
theorem dX10_fill_1 : decode cX10_fill 1 = .ok (.istore_n 3, 1) := by decide +kernel
theorem dX10_fill_2 : decode cX10_fill 2 = .ok (.iload_n 3, 1) := by decide +kernel
theorem dX10_fill_3 : decode cX10_fill 3 = .ok (.aload_n 0, 1) := by decide +kernel
theorem dX10_fill_4 : decode cX10_fill 4 = .ok (.arraylength, 1) := by decide +kernel
theorem dX10_fill_5 : decode cX10_fill 5 = .ok (.if_icmp .ge 25, 3) := by decide +kernel
theorem dX10_fill_8 : decode cX10_fill 8 = .ok (.aload_n 0, 1) := by decide +kernel
theorem dX10_fill_9 : decode cX10_fill 9 = .ok (.iload_n 3, 1) := by decide +kernel
theorem dX10_fill_10 : decode cX10_fill 10 = .ok (.iload_n 3, 1) := by decide +kernel
theorem dX10_fill_11 : decode cX10_fill 11 = .ok (.iload_n 1, 1) := by decide +kernel
theorem dX10_fill_12 : decode cX10_fill 12 = .ok (.if_icmp .ge 10, 3) := by decide +kernel
theorem dX10_fill_15 : decode cX10_fill 15 = .ok (.iload_n 2, 1) := by decide +kernel
theorem dX10_fill_16 : decode cX10_fill 16 = .ok (.invokestatic 90, 3) := by decide +kernel
theorem dX10_fill_19 : decode cX10_fill 19 = .ok (.goto 4, 3) := by decide +kernel
theorem dX10_fill_22 : decode cX10_fill 22 = .ok (.lconst 0, 1) := by decide +kernel
theorem dX10_fill_23 : decode cX10_fill 23 = .ok (.lastore, 1) := by decide +kernel
theorem dX10_fill_24 : decode cX10_fill 24 = .ok (.iinc 3 1, 3) := by decide +kernel
theorem dX10_fill_27 : decode cX10_fill 27 = .ok (.goto (-25), 3) := by decide +kernel
theorem dX10_fill_30 : decode cX10_fill 30 = .ok (.return_, 1) := by decide +kernel
theorem dX10_strike_0 : decode cX10_strike 0 = .ok (.aload_n 2, 1) := by decide +kernel
theorem dX10_strike_1 : decode cX10_strike 1 = .ok (.iload 4, 2) := by decide +kernel
theorem dX10_strike_3 : decode cX10_strike 3 = .ok (.invokevirtual 94, 3) := by decide +kernel
theorem dX10_strike_6 : decode cX10_strike 6 = .ok (.aload_n 1, 1) := by decide +kernel
theorem dX10_strike_7 : decode cX10_strike 7 = .ok (.iload 4, 2) := by decide +kernel
theorem dX10_strike_9 : decode cX10_strike 9 = .ok (.invokevirtual 97, 3) := by decide +kernel
theorem dX10_strike_12 : decode cX10_strike 12 = .ok (.isub, 1) := by decide +kernel
theorem dX10_strike_13 : decode cX10_strike 13 = .ok (.iconst 1, 1) := by decide +kernel
theorem dX10_strike_14 : decode cX10_strike 14 = .ok (.iadd, 1) := by decide +kernel
theorem dX10_strike_15 : decode cX10_strike 15 = .ok (.invokestatic 90, 3) := by decide +kernel
theorem dX10_strike_18 : decode cX10_strike 18 = .ok (.aload_n 2, 1) := by decide +kernel
theorem dX10_strike_19 : decode cX10_strike 19 = .ok (.iload 4, 2) := by decide +kernel
theorem dX10_strike_21 : decode cX10_strike 21 = .ok (.invokevirtual 97, 3) := by decide +kernel
theorem dX10_strike_24 : decode cX10_strike 24 = .ok (.aload_n 1, 1) := by decide +kernel
theorem dX10_strike_25 : decode cX10_strike 25 = .ok (.iload 4, 2) := by decide +kernel
theorem dX10_strike_27 : decode cX10_strike 27 = .ok (.invokevirtual 97, 3) := by decide +kernel
theorem dX10_strike_30 : decode cX10_strike 30 = .ok (.isub, 1) := by decide +kernel
theorem dX10_strike_31 : decode cX10_strike 31 = .ok (.invokestatic 90, 3) := by decide +kernel
theorem dX10_strike_34 : decode cX10_strike 34 = .ok (.ldc2_w 100, 3) := by decide +kernel
theorem dX10_strike_37 : decode cX10_strike 37 = .ok (.lxor, 1) := by decide +kernel
theorem dX10_strike_38 : decode cX10_strike 38 = .ok (.land, 1) := by decide +kernel
theorem dX10_strike_39 : decode cX10_strike 39 = .ok (.lstore 5, 2) := by decide +kernel
theorem dX10_strike_41 : decode cX10_strike 41 = .ok (.aload_n 2, 1) := by decide +kernel
theorem dX10_strike_42 : decode cX10_strike 42 = .ok (.iload_n 3, 1) := by decide +kernel
theorem dX10_strike_43 : decode cX10_strike 43 = .ok (.invokevirtual 94, 3) := by decide +kernel
theorem dX10_strike_46 : decode cX10_strike 46 = .ok (.aload_n 1, 1) := by decide +kernel
theorem dX10_strike_47 : decode cX10_strike 47 = .ok (.iload_n 3, 1) := by decide +kernel
theorem dX10_strike_48 : decode cX10_strike 48 = .ok (.invokevirtual 97, 3) := by decide +kernel
theorem dX10_strike_51 : decode cX10_strike 51 = .ok (.isub, 1) := by decide +kernel
theorem dX10_strike_52 : decode cX10_strike 52 = .ok (.istore 7, 2) := by decide +kernel
theorem dX10_strike_54 : decode cX10_strike 54 = .ok (.aload_n 2, 1) := by decide +kernel
theorem dX10_strike_55 : decode cX10_strike 55 = .ok (.iload_n 3, 1) := by decide +kernel
theorem dX10_strike_56 : decode cX10_strike 56 = .ok (.invokevirtual 97, 3) := by decide +kernel
theorem dX10_strike_59 : decode cX10_strike 59 = .ok (.aload_n 1, 1) := by decide +kernel
theorem dX10_strike_60 : decode cX10_strike 60 = .ok (.iload_n 3, 1) := by decide +kernel
theorem dX10_strike_61 : decode cX10_strike 61 = .ok (.invokevirtual 97, 3) := by decide +kernel
theorem dX10_strike_64 : decode cX10_strike 64 = .ok (.isub, 1) := by decide +kernel
theorem dX10_strike_65 : decode cX10_strike 65 = .ok (.istore 8, 2) := by decide +kernel
theorem dX10_strike_67 : decode cX10_strike 67 = .ok (.iload 8, 2) := by decide +kernel
theorem dX10_strike_69 : decode cX10_strike 69 = .ok (.iload 7, 2) := by decide +kernel
theorem dX10_strike_71 : decode cX10_strike 71 = .ok (.if_icmp .gt 34, 3) := by decide +kernel
theorem dX10_strike_74 : decode cX10_strike 74 = .ok (.iload 8, 2) := by decide +kernel
theorem dX10_strike_76 : decode cX10_strike 76 = .ok (.ifCond .lt 23, 3) := by decide +kernel
theorem dX10_strike_79 : decode cX10_strike 79 = .ok (.iload 8, 2) := by decide +kernel
theorem dX10_strike_81 : decode cX10_strike 81 = .ok (.aload_n 0, 1) := by decide +kernel
theorem dX10_strike_82 : decode cX10_strike 82 = .ok (.arraylength, 1) := by decide +kernel
theorem dX10_strike_83 : decode cX10_strike 83 = .ok (.if_icmp .ge 16, 3) := by decide +kernel
theorem dX10_strike_86 : decode cX10_strike 86 = .ok (.aload_n 0, 1) := by decide +kernel
theorem dX10_strike_87 : decode cX10_strike 87 = .ok (.iload 8, 2) := by decide +kernel
theorem dX10_strike_89 : decode cX10_strike 89 = .ok (.dup2, 1) := by decide +kernel
theorem dX10_strike_90 : decode cX10_strike 90 = .ok (.laload, 1) := by decide +kernel
theorem dX10_strike_91 : decode cX10_strike 91 = .ok (.lload 5, 2) := by decide +kernel
theorem dX10_strike_93 : decode cX10_strike 93 = .ok (.ldc2_w 100, 3) := by decide +kernel
theorem dX10_strike_96 : decode cX10_strike 96 = .ok (.lxor, 1) := by decide +kernel
theorem dX10_strike_97 : decode cX10_strike 97 = .ok (.land, 1) := by decide +kernel
theorem dX10_strike_98 : decode cX10_strike 98 = .ok (.lastore, 1) := by decide +kernel
theorem dX10_strike_99 : decode cX10_strike 99 = .ok (.iinc 8 1, 3) := by decide +kernel
theorem dX10_strike_102 : decode cX10_strike 102 = .ok (.goto (-35), 3) := by decide +kernel
theorem dX10_strike_105 : decode cX10_strike 105 = .ok (.return_, 1) := by decide +kernel
theorem dX10_lowestBit_0 : decode cX10_lowestBit 0 = .ok (.lload_n 0, 1) := by decide +kernel
theorem dX10_lowestBit_1 : decode cX10_lowestBit 1 = .ok (.lconst 0, 1) := by decide +kernel
theorem dX10_lowestBit_2 : decode cX10_lowestBit 2 = .ok (.lcmp, 1) := by decide +kernel
theorem dX10_lowestBit_3 : decode cX10_lowestBit 3 = .ok (.ifCond .ne 7, 3) := by decide +kernel
theorem dX10_lowestBit_6 : decode cX10_lowestBit 6 = .ok (.iconst 0, 1) := by decide +kernel
theorem dX10_lowestBit_7 : decode cX10_lowestBit 7 = .ok (.goto 12, 3) := by decide +kernel
theorem dX10_lowestBit_10 : decode cX10_lowestBit 10 = .ok (.lload_n 0, 1) := by decide +kernel
theorem dX10_lowestBit_11 : decode cX10_lowestBit 11 = .ok (.lload_n 0, 1) := by decide +kernel
theorem dX10_lowestBit_12 : decode cX10_lowestBit 12 = .ok (.lneg, 1) := by decide +kernel
theorem dX10_lowestBit_13 : decode cX10_lowestBit 13 = .ok (.land, 1) := by decide +kernel
theorem dX10_lowestBit_14 : decode cX10_lowestBit 14 = .ok (.lconst 1, 1) := by decide +kernel
theorem dX10_lowestBit_15 : decode cX10_lowestBit 15 = .ok (.lsub, 1) := by decide +kernel
theorem dX10_lowestBit_16 : decode cX10_lowestBit 16 = .ok (.invokestatic 102, 3) := by decide +kernel
theorem dX10_lowestBit_19 : decode cX10_lowestBit 19 = .ok (.ireturn, 1) := by decide +kernel
theorem dX10_upTo_0 : decode cX10_upTo 0 = .ok (.lconst 1, 1) := by decide +kernel
theorem dX10_upTo_1 : decode cX10_upTo 1 = .ok (.iload_n 0, 1) := by decide +kernel
theorem dX10_upTo_2 : decode cX10_upTo 2 = .ok (.lshl, 1) := by decide +kernel
theorem dX10_upTo_3 : decode cX10_upTo 3 = .ok (.lconst 1, 1) := by decide +kernel
theorem dX10_upTo_4 : decode cX10_upTo 4 = .ok (.lsub, 1) := by decide +kernel
theorem dX10_upTo_5 : decode cX10_upTo 5 = .ok (.lreturn, 1) := by decide +kernel
theorem dX10_bits_0 : decode cX10_bits 0 = .ok (.iconst 0, 1) := by decide +kernel
theorem dX10_bits_1 : decode cX10_bits 1 = .ok (.istore_n 1, 1) := by decide +kernel
theorem dX10_bits_2 : decode cX10_bits 2 = .ok (.iconst 0, 1) := by decide +kernel
theorem dX10_bits_3 : decode cX10_bits 3 = .ok (.istore_n 2, 1) := by decide +kernel
theorem dX10_bits_4 : decode cX10_bits 4 = .ok (.iload_n 2, 1) := by decide +kernel
theorem dX10_bits_5 : decode cX10_bits 5 = .ok (.aload_n 0, 1) := by decide +kernel
theorem dX10_bits_6 : decode cX10_bits 6 = .ok (.arraylength, 1) := by decide +kernel
theorem dX10_bits_7 : decode cX10_bits 7 = .ok (.if_icmp .ge 18, 3) := by decide +kernel
theorem dX10_bits_10 : decode cX10_bits 10 = .ok (.iload_n 1, 1) := by decide +kernel
theorem dX10_bits_11 : decode cX10_bits 11 = .ok (.aload_n 0, 1) := by decide +kernel
theorem dX10_bits_12 : decode cX10_bits 12 = .ok (.iload_n 2, 1) := by decide +kernel
theorem dX10_bits_13 : decode cX10_bits 13 = .ok (.laload, 1) := by decide +kernel
theorem dX10_bits_14 : decode cX10_bits 14 = .ok (.invokestatic 102, 3) := by decide +kernel
theorem dX10_bits_17 : decode cX10_bits 17 = .ok (.iadd, 1) := by decide +kernel
theorem dX10_bits_18 : decode cX10_bits 18 = .ok (.istore_n 1, 1) := by decide +kernel
theorem dX10_bits_19 : decode cX10_bits 19 = .ok (.iinc 2 1, 3) := by decide +kernel
theorem dX10_bits_22 : decode cX10_bits 22 = .ok (.goto (-18), 3) := by decide +kernel
theorem dX10_bits_25 : decode cX10_bits 25 = .ok (.iload_n 1, 1) := by decide +kernel
theorem dX10_bits_26 : decode cX10_bits 26 = .ok (.ireturn, 1) := by decide +kernel
theorem dX10_maskAt_0 : decode cX10_maskAt 0 = .ok (.iload_n 1, 1) := by decide +kernel
theorem dX10_maskAt_1 : decode cX10_maskAt 1 = .ok (.ifCond .lt 15, 3) := by decide +kernel
theorem dX10_maskAt_4 : decode cX10_maskAt 4 = .ok (.iload_n 1, 1) := by decide +kernel
theorem dX10_maskAt_5 : decode cX10_maskAt 5 = .ok (.aload_n 0, 1) := by decide +kernel
theorem dX10_maskAt_6 : decode cX10_maskAt 6 = .ok (.arraylength, 1) := by decide +kernel
theorem dX10_maskAt_7 : decode cX10_maskAt 7 = .ok (.if_icmp .ge 9, 3) := by decide +kernel
theorem dX10_maskAt_10 : decode cX10_maskAt 10 = .ok (.aload_n 0, 1) := by decide +kernel
theorem dX10_maskAt_11 : decode cX10_maskAt 11 = .ok (.iload_n 1, 1) := by decide +kernel
theorem dX10_maskAt_12 : decode cX10_maskAt 12 = .ok (.laload, 1) := by decide +kernel
theorem dX10_maskAt_13 : decode cX10_maskAt 13 = .ok (.goto 4, 3) := by decide +kernel
theorem dX10_maskAt_16 : decode cX10_maskAt 16 = .ok (.lconst 0, 1) := by decide +kernel
theorem dX10_maskAt_17 : decode cX10_maskAt 17 = .ok (.lreturn, 1) := by decide +kernel
theorem dX10_bitAt_0 : decode cX10_bitAt 0 = .ok (.aload_n 0, 1) := by decide +kernel
theorem dX10_bitAt_1 : decode cX10_bitAt 1 = .ok (.iload_n 1, 1) := by decide +kernel
theorem dX10_bitAt_2 : decode cX10_bitAt 2 = .ok (.invokestatic 78, 3) := by decide +kernel
theorem dX10_bitAt_5 : decode cX10_bitAt 5 = .ok (.iload_n 2, 1) := by decide +kernel
theorem dX10_bitAt_6 : decode cX10_bitAt 6 = .ok (.lshr, 1) := by decide +kernel
theorem dX10_bitAt_7 : decode cX10_bitAt 7 = .ok (.lconst 1, 1) := by decide +kernel
theorem dX10_bitAt_8 : decode cX10_bitAt 8 = .ok (.land, 1) := by decide +kernel
theorem dX10_bitAt_9 : decode cX10_bitAt 9 = .ok (.l2i, 1) := by decide +kernel
theorem dX10_bitAt_10 : decode cX10_bitAt 10 = .ok (.ireturn, 1) := by decide +kernel
theorem dX11_init_0 : decode cX11_init 0 = .ok (.aload_n 0, 1) := by decide +kernel
theorem dX11_init_1 : decode cX11_init 1 = .ok (.invokespecial 3, 3) := by decide +kernel
theorem dX11_init_4 : decode cX11_init 4 = .ok (.aload_n 0, 1) := by decide +kernel
theorem dX11_init_5 : decode cX11_init 5 = .ok (.new 9, 3) := by decide +kernel
theorem dX11_init_8 : decode cX11_init 8 = .ok (.dup, 1) := by decide +kernel
theorem dX11_init_9 : decode cX11_init 9 = .ok (.invokespecial 11, 3) := by decide +kernel
theorem dX11_init_12 : decode cX11_init 12 = .ok (.putfield 12, 3) := by decide +kernel
theorem dX11_init_15 : decode cX11_init 15 = .ok (.aload_n 0, 1) := by decide +kernel
theorem dX11_init_16 : decode cX11_init 16 = .ok (.new 16, 3) := by decide +kernel
theorem dX11_init_19 : decode cX11_init 19 = .ok (.dup, 1) := by decide +kernel
theorem dX11_init_20 : decode cX11_init 20 = .ok (.aload_n 0, 1) := by decide +kernel
theorem dX11_init_21 : decode cX11_init 21 = .ok (.getfield 12, 3) := by decide +kernel
theorem dX11_init_24 : decode cX11_init 24 = .ok (.invokespecial 18, 3) := by decide +kernel
theorem dX11_init_27 : decode cX11_init 27 = .ok (.putfield 21, 3) := by decide +kernel
theorem dX11_init_30 : decode cX11_init 30 = .ok (.aload_n 0, 1) := by decide +kernel
theorem dX11_init_31 : decode cX11_init 31 = .ok (.new 25, 3) := by decide +kernel
theorem dX11_init_34 : decode cX11_init 34 = .ok (.dup, 1) := by decide +kernel
theorem dX11_init_35 : decode cX11_init 35 = .ok (.invokespecial 27, 3) := by decide +kernel
theorem dX11_init_38 : decode cX11_init 38 = .ok (.putfield 28, 3) := by decide +kernel
theorem dX11_init_41 : decode cX11_init 41 = .ok (.aload_n 0, 1) := by decide +kernel
theorem dX11_init_42 : decode cX11_init 42 = .ok (.new 32, 3) := by decide +kernel
theorem dX11_init_45 : decode cX11_init 45 = .ok (.dup, 1) := by decide +kernel
theorem dX11_init_46 : decode cX11_init 46 = .ok (.aload_n 0, 1) := by decide +kernel
theorem dX11_init_47 : decode cX11_init 47 = .ok (.getfield 21, 3) := by decide +kernel
theorem dX11_init_50 : decode cX11_init 50 = .ok (.aload_n 0, 1) := by decide +kernel
theorem dX11_init_51 : decode cX11_init 51 = .ok (.getfield 28, 3) := by decide +kernel
theorem dX11_init_54 : decode cX11_init 54 = .ok (.invokespecial 34, 3) := by decide +kernel
theorem dX11_init_57 : decode cX11_init 57 = .ok (.putfield 37, 3) := by decide +kernel
theorem dX11_init_60 : decode cX11_init 60 = .ok (.aload_n 0, 1) := by decide +kernel
theorem dX11_init_61 : decode cX11_init 61 = .ok (.new 41, 3) := by decide +kernel
theorem dX11_init_64 : decode cX11_init 64 = .ok (.dup, 1) := by decide +kernel
theorem dX11_init_65 : decode cX11_init 65 = .ok (.aload_n 0, 1) := by decide +kernel
theorem dX11_init_66 : decode cX11_init 66 = .ok (.getfield 28, 3) := by decide +kernel
theorem dX11_init_69 : decode cX11_init 69 = .ok (.invokespecial 43, 3) := by decide +kernel
theorem dX11_init_72 : decode cX11_init 72 = .ok (.putfield 46, 3) := by decide +kernel
theorem dX11_init_75 : decode cX11_init 75 = .ok (.aload_n 0, 1) := by decide +kernel
theorem dX11_init_76 : decode cX11_init 76 = .ok (.new 50, 3) := by decide +kernel
theorem dX11_init_79 : decode cX11_init 79 = .ok (.dup, 1) := by decide +kernel
theorem dX11_init_80 : decode cX11_init 80 = .ok (.aload_n 0, 1) := by decide +kernel
theorem dX11_init_81 : decode cX11_init 81 = .ok (.getfield 28, 3) := by decide +kernel
theorem dX11_init_84 : decode cX11_init 84 = .ok (.aload_n 0, 1) := by decide +kernel
theorem dX11_init_85 : decode cX11_init 85 = .ok (.getfield 46, 3) := by decide +kernel
theorem dX11_init_88 : decode cX11_init 88 = .ok (.invokespecial 52, 3) := by decide +kernel
theorem dX11_init_91 : decode cX11_init 91 = .ok (.putfield 55, 3) := by decide +kernel
theorem dX11_init_94 : decode cX11_init 94 = .ok (.aload_n 0, 1) := by decide +kernel
theorem dX11_init_95 : decode cX11_init 95 = .ok (.new 59, 3) := by decide +kernel
theorem dX11_init_98 : decode cX11_init 98 = .ok (.dup, 1) := by decide +kernel
theorem dX11_init_99 : decode cX11_init 99 = .ok (.invokespecial 61, 3) := by decide +kernel
theorem dX11_init_102 : decode cX11_init 102 = .ok (.putfield 62, 3) := by decide +kernel
theorem dX11_init_105 : decode cX11_init 105 = .ok (.aload_n 0, 1) := by decide +kernel
theorem dX11_init_106 : decode cX11_init 106 = .ok (.iconst (-1), 1) := by decide +kernel
theorem dX11_init_107 : decode cX11_init 107 = .ok (.putfield 66, 3) := by decide +kernel
theorem dX11_init_110 : decode cX11_init 110 = .ok (.return_, 1) := by decide +kernel
theorem dX11_feed_0 : decode cX11_feed 0 = .ok (.aload_n 0, 1) := by decide +kernel
theorem dX11_feed_1 : decode cX11_feed 1 = .ok (.getfield 12, 3) := by decide +kernel
theorem dX11_feed_4 : decode cX11_feed 4 = .ok (.invokevirtual 70, 3) := by decide +kernel
theorem dX11_feed_7 : decode cX11_feed 7 = .ok (.bipush 20, 2) := by decide +kernel
theorem dX11_feed_9 : decode cX11_feed 9 = .ok (.if_icmp .ge 11, 3) := by decide +kernel
theorem dX11_feed_12 : decode cX11_feed 12 = .ok (.new 74, 3) := by decide +kernel
theorem dX11_feed_15 : decode cX11_feed 15 = .ok (.dup, 1) := by decide +kernel
theorem dX11_feed_16 : decode cX11_feed 16 = .ok (.invokespecial 76, 3) := by decide +kernel
theorem dX11_feed_19 : decode cX11_feed 19 = .ok (.athrow, 1) := by decide +kernel
theorem dX11_feed_20 : decode cX11_feed 20 = .ok (.aload_n 0, 1) := by decide +kernel
theorem dX11_feed_21 : decode cX11_feed 21 = .ok (.getfield 12, 3) := by decide +kernel
theorem dX11_feed_24 : decode cX11_feed 24 = .ok (.iload_n 1, 1) := by decide +kernel
theorem dX11_feed_25 : decode cX11_feed 25 = .ok (.invokevirtual 77, 3) := by decide +kernel
theorem dX11_feed_28 : decode cX11_feed 28 = .ok (.aload_n 0, 1) := by decide +kernel
theorem dX11_feed_29 : decode cX11_feed 29 = .ok (.getfield 12, 3) := by decide +kernel
theorem dX11_feed_32 : decode cX11_feed 32 = .ok (.iload_n 2, 1) := by decide +kernel
theorem dX11_feed_33 : decode cX11_feed 33 = .ok (.invokevirtual 77, 3) := by decide +kernel
theorem dX11_feed_36 : decode cX11_feed 36 = .ok (.aload_n 0, 1) := by decide +kernel
theorem dX11_feed_37 : decode cX11_feed 37 = .ok (.getfield 12, 3) := by decide +kernel
theorem dX11_feed_40 : decode cX11_feed 40 = .ok (.iload_n 3, 1) := by decide +kernel
theorem dX11_feed_41 : decode cX11_feed 41 = .ok (.invokevirtual 77, 3) := by decide +kernel
theorem dX11_feed_44 : decode cX11_feed 44 = .ok (.aload_n 0, 1) := by decide +kernel
theorem dX11_feed_45 : decode cX11_feed 45 = .ok (.getfield 12, 3) := by decide +kernel
theorem dX11_feed_48 : decode cX11_feed 48 = .ok (.iload 4, 2) := by decide +kernel
theorem dX11_feed_50 : decode cX11_feed 50 = .ok (.invokevirtual 77, 3) := by decide +kernel
theorem dX11_feed_53 : decode cX11_feed 53 = .ok (.aload_n 0, 1) := by decide +kernel
theorem dX11_feed_54 : decode cX11_feed 54 = .ok (.getfield 12, 3) := by decide +kernel
theorem dX11_feed_57 : decode cX11_feed 57 = .ok (.iload 5, 2) := by decide +kernel
theorem dX11_feed_59 : decode cX11_feed 59 = .ok (.invokevirtual 77, 3) := by decide +kernel
theorem dX11_feed_62 : decode cX11_feed 62 = .ok (.aload_n 0, 1) := by decide +kernel
theorem dX11_feed_63 : decode cX11_feed 63 = .ok (.getfield 12, 3) := by decide +kernel
theorem dX11_feed_66 : decode cX11_feed 66 = .ok (.invokevirtual 81, 3) := by decide +kernel
theorem dX11_feed_69 : decode cX11_feed 69 = .ok (.ireturn, 1) := by decide +kernel
theorem dX11_trim_0 : decode cX11_trim 0 = .ok (.iload_n 1, 1) := by decide +kernel
theorem dX11_trim_1 : decode cX11_trim 1 = .ok (.ifCond .lt 14, 3) := by decide +kernel
theorem dX11_trim_4 : decode cX11_trim 4 = .ok (.iload_n 1, 1) := by decide +kernel
theorem dX11_trim_5 : decode cX11_trim 5 = .ok (.aload_n 0, 1) := by decide +kernel
theorem dX11_trim_6 : decode cX11_trim 6 = .ok (.getfield 12, 3) := by decide +kernel
theorem dX11_trim_9 : decode cX11_trim 9 = .ok (.invokevirtual 81, 3) := by decide +kernel
theorem dX11_trim_12 : decode cX11_trim 12 = .ok (.if_icmp .le 11, 3) := by decide +kernel
theorem dX11_trim_15 : decode cX11_trim 15 = .ok (.new 84, 3) := by decide +kernel
theorem dX11_trim_18 : decode cX11_trim 18 = .ok (.dup, 1) := by decide +kernel
theorem dX11_trim_19 : decode cX11_trim 19 = .ok (.invokespecial 86, 3) := by decide +kernel
theorem dX11_trim_22 : decode cX11_trim 22 = .ok (.athrow, 1) := by decide +kernel
theorem dX11_trim_23 : decode cX11_trim 23 = .ok (.aload_n 0, 1) := by decide +kernel
theorem dX11_trim_24 : decode cX11_trim 24 = .ok (.getfield 12, 3) := by decide +kernel
theorem dX11_trim_27 : decode cX11_trim 27 = .ok (.iload_n 1, 1) := by decide +kernel
theorem dX11_trim_28 : decode cX11_trim 28 = .ok (.invokevirtual 87, 3) := by decide +kernel
theorem dX11_trim_31 : decode cX11_trim 31 = .ok (.iload_n 1, 1) := by decide +kernel
theorem dX11_trim_32 : decode cX11_trim 32 = .ok (.ireturn, 1) := by decide +kernel
theorem dX11_compile_0 : decode cX11_compile 0 = .ok (.aload_n 0, 1) := by decide +kernel
theorem dX11_compile_1 : decode cX11_compile 1 = .ok (.getfield 21, 3) := by decide +kernel
theorem dX11_compile_4 : decode cX11_compile 4 = .ok (.invokevirtual 90, 3) := by decide +kernel
theorem dX11_compile_7 : decode cX11_compile 7 = .ok (.aload_n 0, 1) := by decide +kernel
theorem dX11_compile_8 : decode cX11_compile 8 = .ok (.getfield 37, 3) := by decide +kernel
theorem dX11_compile_11 : decode cX11_compile 11 = .ok (.invokevirtual 93, 3) := by decide +kernel
theorem dX11_compile_14 : decode cX11_compile 14 = .ok (.istore_n 1, 1) := by decide +kernel
theorem dX11_compile_15 : decode cX11_compile 15 = .ok (.aload_n 0, 1) := by decide +kernel
theorem dX11_compile_16 : decode cX11_compile 16 = .ok (.aload_n 0, 1) := by decide +kernel
theorem dX11_compile_17 : decode cX11_compile 17 = .ok (.getfield 37, 3) := by decide +kernel
theorem dX11_compile_20 : decode cX11_compile 20 = .ok (.invokevirtual 96, 3) := by decide +kernel
theorem dX11_compile_23 : decode cX11_compile 23 = .ok (.putfield 66, 3) := by decide +kernel
theorem dX11_compile_26 : decode cX11_compile 26 = .ok (.aload_n 0, 1) := by decide +kernel
theorem dX11_compile_27 : decode cX11_compile 27 = .ok (.getfield 55, 3) := by decide +kernel
theorem dX11_compile_30 : decode cX11_compile 30 = .ok (.invokevirtual 99, 3) := by decide +kernel
theorem dX11_compile_33 : decode cX11_compile 33 = .ok (.aload_n 0, 1) := by decide +kernel
theorem dX11_compile_34 : decode cX11_compile 34 = .ok (.getfield 12, 3) := by decide +kernel
theorem dX11_compile_37 : decode cX11_compile 37 = .ok (.iconst 0, 1) := by decide +kernel
theorem dX11_compile_38 : decode cX11_compile 38 = .ok (.invokevirtual 87, 3) := by decide +kernel
theorem dX11_compile_41 : decode cX11_compile 41 = .ok (.iload_n 1, 1) := by decide +kernel
theorem dX11_compile_42 : decode cX11_compile 42 = .ok (.ireturn, 1) := by decide +kernel
theorem dX11_errorAt_0 : decode cX11_errorAt 0 = .ok (.aload_n 0, 1) := by decide +kernel
theorem dX11_errorAt_1 : decode cX11_errorAt 1 = .ok (.getfield 66, 3) := by decide +kernel
theorem dX11_errorAt_4 : decode cX11_errorAt 4 = .ok (.ireturn, 1) := by decide +kernel
theorem dX11_count_0 : decode cX11_count 0 = .ok (.iload_n 1, 1) := by decide +kernel
theorem dX11_count_1 : decode cX11_count 1 = .ok (.tableswitch 75 0 4 #[35, 43, 51, 59, 67], 35) := by decide +kernel
theorem dX11_count_36 : decode cX11_count 36 = .ok (.aload_n 0, 1) := by decide +kernel
theorem dX11_count_37 : decode cX11_count 37 = .ok (.getfield 28, 3) := by decide +kernel
theorem dX11_count_40 : decode cX11_count 40 = .ok (.getfield 102, 3) := by decide +kernel
theorem dX11_count_43 : decode cX11_count 43 = .ok (.ireturn, 1) := by decide +kernel
theorem dX11_count_44 : decode cX11_count 44 = .ok (.aload_n 0, 1) := by decide +kernel
theorem dX11_count_45 : decode cX11_count 45 = .ok (.getfield 28, 3) := by decide +kernel
theorem dX11_count_48 : decode cX11_count 48 = .ok (.getfield 105, 3) := by decide +kernel
theorem dX11_count_51 : decode cX11_count 51 = .ok (.ireturn, 1) := by decide +kernel
theorem dX11_count_52 : decode cX11_count 52 = .ok (.aload_n 0, 1) := by decide +kernel
theorem dX11_count_53 : decode cX11_count 53 = .ok (.getfield 28, 3) := by decide +kernel
theorem dX11_count_56 : decode cX11_count 56 = .ok (.getfield 108, 3) := by decide +kernel
theorem dX11_count_59 : decode cX11_count 59 = .ok (.ireturn, 1) := by decide +kernel
theorem dX11_count_60 : decode cX11_count 60 = .ok (.aload_n 0, 1) := by decide +kernel
theorem dX11_count_61 : decode cX11_count 61 = .ok (.getfield 28, 3) := by decide +kernel
theorem dX11_count_64 : decode cX11_count 64 = .ok (.invokevirtual 111, 3) := by decide +kernel
theorem dX11_count_67 : decode cX11_count 67 = .ok (.ireturn, 1) := by decide +kernel
theorem dX11_count_68 : decode cX11_count 68 = .ok (.aload_n 0, 1) := by decide +kernel
theorem dX11_count_69 : decode cX11_count 69 = .ok (.getfield 12, 3) := by decide +kernel
theorem dX11_count_72 : decode cX11_count 72 = .ok (.invokevirtual 81, 3) := by decide +kernel
theorem dX11_count_75 : decode cX11_count 75 = .ok (.ireturn, 1) := by decide +kernel
theorem dX11_count_76 : decode cX11_count 76 = .ok (.new 114, 3) := by decide +kernel
theorem dX11_count_79 : decode cX11_count 79 = .ok (.dup, 1) := by decide +kernel
theorem dX11_count_80 : decode cX11_count 80 = .ok (.invokespecial 116, 3) := by decide +kernel
theorem dX11_count_83 : decode cX11_count 83 = .ok (.athrow, 1) := by decide +kernel
theorem dX11_fun_0 : decode cX11_fun 0 = .ok (.aload_n 0, 1) := by decide +kernel
theorem dX11_fun_1 : decode cX11_fun 1 = .ok (.iload_n 1, 1) := by decide +kernel
theorem dX11_fun_2 : decode cX11_fun 2 = .ok (.invokevirtual 117, 3) := by decide +kernel
theorem dX11_fun_5 : decode cX11_fun 5 = .ok (.astore_n 3, 1) := by decide +kernel
theorem dX11_fun_6 : decode cX11_fun 6 = .ok (.iload_n 2, 1) := by decide +kernel
theorem dX11_fun_7 : decode cX11_fun 7 = .ok (.tableswitch 82 0 5 #[37, 42, 47, 56, 64, 69], 37) := by decide +kernel
theorem dX11_fun_44 : decode cX11_fun 44 = .ok (.aload_n 3, 1) := by decide +kernel
theorem dX11_fun_45 : decode cX11_fun 45 = .ok (.getfield 121, 3) := by decide +kernel
theorem dX11_fun_48 : decode cX11_fun 48 = .ok (.ireturn, 1) := by decide +kernel
theorem dX11_fun_49 : decode cX11_fun 49 = .ok (.aload_n 3, 1) := by decide +kernel
theorem dX11_fun_50 : decode cX11_fun 50 = .ok (.getfield 126, 3) := by decide +kernel
theorem dX11_fun_53 : decode cX11_fun 53 = .ok (.ireturn, 1) := by decide +kernel
theorem dX11_fun_54 : decode cX11_fun 54 = .ok (.aload_n 0, 1) := by decide +kernel
theorem dX11_fun_55 : decode cX11_fun 55 = .ok (.getfield 28, 3) := by decide +kernel
theorem dX11_fun_58 : decode cX11_fun 58 = .ok (.iload_n 1, 1) := by decide +kernel
theorem dX11_fun_59 : decode cX11_fun 59 = .ok (.invokevirtual 129, 3) := by decide +kernel
theorem dX11_fun_62 : decode cX11_fun 62 = .ok (.ireturn, 1) := by decide +kernel
theorem dX11_fun_63 : decode cX11_fun 63 = .ok (.aload_n 3, 1) := by decide +kernel
theorem dX11_fun_64 : decode cX11_fun 64 = .ok (.getfield 133, 3) := by decide +kernel
theorem dX11_fun_67 : decode cX11_fun 67 = .ok (.invokevirtual 137, 3) := by decide +kernel
theorem dX11_fun_70 : decode cX11_fun 70 = .ok (.ireturn, 1) := by decide +kernel
theorem dX11_fun_71 : decode cX11_fun 71 = .ok (.aload_n 3, 1) := by decide +kernel
theorem dX11_fun_72 : decode cX11_fun 72 = .ok (.invokevirtual 142, 3) := by decide +kernel
theorem dX11_fun_75 : decode cX11_fun 75 = .ok (.ireturn, 1) := by decide +kernel
theorem dX11_fun_76 : decode cX11_fun 76 = .ok (.aload_n 0, 1) := by decide +kernel
theorem dX11_fun_77 : decode cX11_fun 77 = .ok (.iload_n 1, 1) := by decide +kernel
theorem dX11_fun_78 : decode cX11_fun 78 = .ok (.invokevirtual 145, 3) := by decide +kernel
theorem dX11_fun_81 : decode cX11_fun 81 = .ok (.aload_n 0, 1) := by decide +kernel
theorem dX11_fun_82 : decode cX11_fun 82 = .ok (.getfield 62, 3) := by decide +kernel
theorem dX11_fun_85 : decode cX11_fun 85 = .ok (.invokevirtual 148, 3) := by decide +kernel
theorem dX11_fun_88 : decode cX11_fun 88 = .ok (.ireturn, 1) := by decide +kernel
theorem dX11_fun_89 : decode cX11_fun 89 = .ok (.new 114, 3) := by decide +kernel
theorem dX11_fun_92 : decode cX11_fun 92 = .ok (.dup, 1) := by decide +kernel
theorem dX11_fun_93 : decode cX11_fun 93 = .ok (.invokespecial 116, 3) := by decide +kernel
theorem dX11_fun_96 : decode cX11_fun 96 = .ok (.athrow, 1) := by decide +kernel
theorem dX11_call_0 : decode cX11_call 0 = .ok (.aload_n 0, 1) := by decide +kernel
theorem dX11_call_1 : decode cX11_call 1 = .ok (.iload_n 1, 1) := by decide +kernel
theorem dX11_call_2 : decode cX11_call 2 = .ok (.invokevirtual 117, 3) := by decide +kernel
theorem dX11_call_5 : decode cX11_call 5 = .ok (.pop, 1) := by decide +kernel
theorem dX11_call_6 : decode cX11_call 6 = .ok (.aload_n 0, 1) := by decide +kernel
theorem dX11_call_7 : decode cX11_call 7 = .ok (.iload_n 1, 1) := by decide +kernel
theorem dX11_call_8 : decode cX11_call 8 = .ok (.iconst (-1), 1) := by decide +kernel
theorem dX11_call_9 : decode cX11_call 9 = .ok (.iload_n 2, 1) := by decide +kernel
theorem dX11_call_10 : decode cX11_call 10 = .ok (.iload_n 3, 1) := by decide +kernel
theorem dX11_call_11 : decode cX11_call 11 = .ok (.iload 4, 2) := by decide +kernel
theorem dX11_call_13 : decode cX11_call 13 = .ok (.invokevirtual 149, 3) := by decide +kernel
theorem dX11_call_16 : decode cX11_call 16 = .ok (.lreturn, 1) := by decide +kernel
theorem dX11_callChanged_0 : decode cX11_callChanged 0 = .ok (.iload_n 2, 1) := by decide +kernel
theorem dX11_callChanged_1 : decode cX11_callChanged 1 = .ok (.aload_n 0, 1) := by decide +kernel
theorem dX11_callChanged_2 : decode cX11_callChanged 2 = .ok (.iload_n 1, 1) := by decide +kernel
theorem dX11_callChanged_3 : decode cX11_callChanged 3 = .ok (.invokevirtual 117, 3) := by decide +kernel
theorem dX11_callChanged_6 : decode cX11_callChanged 6 = .ok (.getfield 126, 3) := by decide +kernel
theorem dX11_callChanged_9 : decode cX11_callChanged 9 = .ok (.invokestatic 153, 3) := by decide +kernel
theorem dX11_callChanged_12 : decode cX11_callChanged 12 = .ok (.aload_n 0, 1) := by decide +kernel
theorem dX11_callChanged_13 : decode cX11_callChanged 13 = .ok (.iload_n 1, 1) := by decide +kernel
theorem dX11_callChanged_14 : decode cX11_callChanged 14 = .ok (.iload_n 2, 1) := by decide +kernel
theorem dX11_callChanged_15 : decode cX11_callChanged 15 = .ok (.iload_n 3, 1) := by decide +kernel
theorem dX11_callChanged_16 : decode cX11_callChanged 16 = .ok (.iload 4, 2) := by decide +kernel
theorem dX11_callChanged_18 : decode cX11_callChanged 18 = .ok (.iload 5, 2) := by decide +kernel
theorem dX11_callChanged_20 : decode cX11_callChanged 20 = .ok (.invokevirtual 149, 3) := by decide +kernel
theorem dX11_callChanged_23 : decode cX11_callChanged 23 = .ok (.lreturn, 1) := by decide +kernel
theorem dX11_inputOf_0 : decode cX11_inputOf 0 = .ok (.aload_n 0, 1) := by decide +kernel
theorem dX11_inputOf_1 : decode cX11_inputOf 1 = .ok (.iload_n 1, 1) := by decide +kernel
theorem dX11_inputOf_2 : decode cX11_inputOf 2 = .ok (.invokevirtual 117, 3) := by decide +kernel
theorem dX11_inputOf_5 : decode cX11_inputOf 5 = .ok (.astore 4, 2) := by decide +kernel
theorem dX11_inputOf_7 : decode cX11_inputOf 7 = .ok (.iload_n 2, 1) := by decide +kernel
theorem dX11_inputOf_8 : decode cX11_inputOf 8 = .ok (.aload 4, 2) := by decide +kernel
theorem dX11_inputOf_10 : decode cX11_inputOf 10 = .ok (.getfield 133, 3) := by decide +kernel
theorem dX11_inputOf_13 : decode cX11_inputOf 13 = .ok (.invokevirtual 137, 3) := by decide +kernel
theorem dX11_inputOf_16 : decode cX11_inputOf 16 = .ok (.invokestatic 153, 3) := by decide +kernel
theorem dX11_inputOf_19 : decode cX11_inputOf 19 = .ok (.iload_n 3, 1) := by decide +kernel
theorem dX11_inputOf_20 : decode cX11_inputOf 20 = .ok (.aload 4, 2) := by decide +kernel
theorem dX11_inputOf_22 : decode cX11_inputOf 22 = .ok (.getfield 121, 3) := by decide +kernel
theorem dX11_inputOf_25 : decode cX11_inputOf 25 = .ok (.invokestatic 153, 3) := by decide +kernel
theorem dX11_inputOf_28 : decode cX11_inputOf 28 = .ok (.aload 4, 2) := by decide +kernel
theorem dX11_inputOf_30 : decode cX11_inputOf 30 = .ok (.getfield 133, 3) := by decide +kernel
theorem dX11_inputOf_33 : decode cX11_inputOf 33 = .ok (.iload_n 2, 1) := by decide +kernel
theorem dX11_inputOf_34 : decode cX11_inputOf 34 = .ok (.iload_n 3, 1) := by decide +kernel
theorem dX11_inputOf_35 : decode cX11_inputOf 35 = .ok (.invokevirtual 157, 3) := by decide +kernel
theorem dX11_inputOf_38 : decode cX11_inputOf 38 = .ok (.ireturn, 1) := by decide +kernel
theorem dX11_propose_0 : decode cX11_propose 0 = .ok (.aload_n 0, 1) := by decide +kernel
theorem dX11_propose_1 : decode cX11_propose 1 = .ok (.iload_n 1, 1) := by decide +kernel
theorem dX11_propose_2 : decode cX11_propose 2 = .ok (.invokevirtual 117, 3) := by decide +kernel
theorem dX11_propose_5 : decode cX11_propose 5 = .ok (.pop, 1) := by decide +kernel
theorem dX11_propose_6 : decode cX11_propose 6 = .ok (.aload_n 0, 1) := by decide +kernel
theorem dX11_propose_7 : decode cX11_propose 7 = .ok (.iload_n 1, 1) := by decide +kernel
theorem dX11_propose_8 : decode cX11_propose 8 = .ok (.invokevirtual 145, 3) := by decide +kernel
theorem dX11_propose_11 : decode cX11_propose 11 = .ok (.aload_n 0, 1) := by decide +kernel
theorem dX11_propose_12 : decode cX11_propose 12 = .ok (.getfield 62, 3) := by decide +kernel
theorem dX11_propose_15 : decode cX11_propose 15 = .ok (.invokevirtual 161, 3) := by decide +kernel
theorem dX11_propose_18 : decode cX11_propose 18 = .ok (.ireturn, 1) := by decide +kernel
theorem dX11_table_0 : decode cX11_table 0 = .ok (.aload_n 0, 1) := by decide +kernel
theorem dX11_table_1 : decode cX11_table 1 = .ok (.iload_n 1, 1) := by decide +kernel
theorem dX11_table_2 : decode cX11_table 2 = .ok (.invokevirtual 164, 3) := by decide +kernel
theorem dX11_table_5 : decode cX11_table 5 = .ok (.astore_n 3, 1) := by decide +kernel
theorem dX11_table_6 : decode cX11_table 6 = .ok (.iload_n 2, 1) := by decide +kernel
theorem dX11_table_7 : decode cX11_table 7 = .ok (.iconst 5, 1) := by decide +kernel
theorem dX11_table_8 : decode cX11_table 8 = .ok (.invokestatic 153, 3) := by decide +kernel
theorem dX11_table_11 : decode cX11_table 11 = .ok (.iload_n 2, 1) := by decide +kernel
theorem dX11_table_12 : decode cX11_table 12 = .ok (.iconst 3, 1) := by decide +kernel
theorem dX11_table_13 : decode cX11_table 13 = .ok (.if_icmp .lt 10, 3) := by decide +kernel
theorem dX11_table_16 : decode cX11_table 16 = .ok (.aload_n 0, 1) := by decide +kernel
theorem dX11_table_17 : decode cX11_table 17 = .ok (.getfield 55, 3) := by decide +kernel
theorem dX11_table_20 : decode cX11_table 20 = .ok (.invokevirtual 168, 3) := by decide +kernel
theorem dX11_table_23 : decode cX11_table 23 = .ok (.aload_n 3, 1) := by decide +kernel
theorem dX11_table_24 : decode cX11_table 24 = .ok (.iload_n 2, 1) := by decide +kernel
theorem dX11_table_25 : decode cX11_table 25 = .ok (.invokevirtual 171, 3) := by decide +kernel
theorem dX11_table_28 : decode cX11_table 28 = .ok (.ireturn, 1) := by decide +kernel
theorem dX11_caseOf_0 : decode cX11_caseOf 0 = .ok (.aload_n 0, 1) := by decide +kernel
theorem dX11_caseOf_1 : decode cX11_caseOf 1 = .ok (.iload_n 1, 1) := by decide +kernel
theorem dX11_caseOf_2 : decode cX11_caseOf 2 = .ok (.invokevirtual 164, 3) := by decide +kernel
theorem dX11_caseOf_5 : decode cX11_caseOf 5 = .ok (.astore 4, 2) := by decide +kernel
theorem dX11_caseOf_7 : decode cX11_caseOf 7 = .ok (.iload_n 2, 1) := by decide +kernel
theorem dX11_caseOf_8 : decode cX11_caseOf 8 = .ok (.aload 4, 2) := by decide +kernel
theorem dX11_caseOf_10 : decode cX11_caseOf 10 = .ok (.getfield 176, 3) := by decide +kernel
theorem dX11_caseOf_13 : decode cX11_caseOf 13 = .ok (.invokestatic 153, 3) := by decide +kernel
theorem dX11_caseOf_16 : decode cX11_caseOf 16 = .ok (.iload_n 3, 1) := by decide +kernel
theorem dX11_caseOf_17 : decode cX11_caseOf 17 = .ok (.aload_n 0, 1) := by decide +kernel
theorem dX11_caseOf_18 : decode cX11_caseOf 18 = .ok (.getfield 28, 3) := by decide +kernel
theorem dX11_caseOf_21 : decode cX11_caseOf 21 = .ok (.aload 4, 2) := by decide +kernel
theorem dX11_caseOf_23 : decode cX11_caseOf 23 = .ok (.getfield 178, 3) := by decide +kernel
theorem dX11_caseOf_26 : decode cX11_caseOf 26 = .ok (.invokevirtual 181, 3) := by decide +kernel
theorem dX11_caseOf_29 : decode cX11_caseOf 29 = .ok (.getfield 121, 3) := by decide +kernel
theorem dX11_caseOf_32 : decode cX11_caseOf 32 = .ok (.invokestatic 153, 3) := by decide +kernel
theorem dX11_caseOf_35 : decode cX11_caseOf 35 = .ok (.aload 4, 2) := by decide +kernel
theorem dX11_caseOf_37 : decode cX11_caseOf 37 = .ok (.iload_n 2, 1) := by decide +kernel
theorem dX11_caseOf_38 : decode cX11_caseOf 38 = .ok (.iload_n 3, 1) := by decide +kernel
theorem dX11_caseOf_39 : decode cX11_caseOf 39 = .ok (.invokevirtual 184, 3) := by decide +kernel
theorem dX11_caseOf_42 : decode cX11_caseOf 42 = .ok (.ireturn, 1) := by decide +kernel
theorem dX11_holds_0 : decode cX11_holds 0 = .ok (.aload_n 0, 1) := by decide +kernel
theorem dX11_holds_1 : decode cX11_holds 1 = .ok (.iload_n 1, 1) := by decide +kernel
theorem dX11_holds_2 : decode cX11_holds 2 = .ok (.invokevirtual 164, 3) := by decide +kernel
theorem dX11_holds_5 : decode cX11_holds 5 = .ok (.astore_n 3, 1) := by decide +kernel
theorem dX11_holds_6 : decode cX11_holds 6 = .ok (.iload_n 2, 1) := by decide +kernel
theorem dX11_holds_7 : decode cX11_holds 7 = .ok (.aload_n 3, 1) := by decide +kernel
theorem dX11_holds_8 : decode cX11_holds 8 = .ok (.getfield 176, 3) := by decide +kernel
theorem dX11_holds_11 : decode cX11_holds 11 = .ok (.invokestatic 153, 3) := by decide +kernel
theorem dX11_holds_14 : decode cX11_holds 14 = .ok (.aload_n 0, 1) := by decide +kernel
theorem dX11_holds_15 : decode cX11_holds 15 = .ok (.getfield 55, 3) := by decide +kernel
theorem dX11_holds_18 : decode cX11_holds 18 = .ok (.invokevirtual 168, 3) := by decide +kernel
theorem dX11_holds_21 : decode cX11_holds 21 = .ok (.aload_n 3, 1) := by decide +kernel
theorem dX11_holds_22 : decode cX11_holds 22 = .ok (.iload_n 2, 1) := by decide +kernel
theorem dX11_holds_23 : decode cX11_holds 23 = .ok (.invokevirtual 185, 3) := by decide +kernel
theorem dX11_holds_26 : decode cX11_holds 26 = .ok (.ireturn, 1) := by decide +kernel
theorem dX11_taken_0 : decode cX11_taken 0 = .ok (.iload_n 1, 1) := by decide +kernel
theorem dX11_taken_1 : decode cX11_taken 1 = .ok (.aload_n 0, 1) := by decide +kernel
theorem dX11_taken_2 : decode cX11_taken 2 = .ok (.getfield 28, 3) := by decide +kernel
theorem dX11_taken_5 : decode cX11_taken 5 = .ok (.getfield 108, 3) := by decide +kernel
theorem dX11_taken_8 : decode cX11_taken 8 = .ok (.invokestatic 153, 3) := by decide +kernel
theorem dX11_taken_11 : decode cX11_taken 11 = .ok (.aload_n 0, 1) := by decide +kernel
theorem dX11_taken_12 : decode cX11_taken 12 = .ok (.getfield 55, 3) := by decide +kernel
theorem dX11_taken_15 : decode cX11_taken 15 = .ok (.invokevirtual 168, 3) := by decide +kernel
theorem dX11_taken_18 : decode cX11_taken 18 = .ok (.aload_n 0, 1) := by decide +kernel
theorem dX11_taken_19 : decode cX11_taken 19 = .ok (.getfield 46, 3) := by decide +kernel
theorem dX11_taken_22 : decode cX11_taken 22 = .ok (.iload_n 1, 1) := by decide +kernel
theorem dX11_taken_23 : decode cX11_taken 23 = .ok (.iload_n 2, 1) := by decide +kernel
theorem dX11_taken_24 : decode cX11_taken 24 = .ok (.invokevirtual 189, 3) := by decide +kernel
theorem dX11_taken_27 : decode cX11_taken 27 = .ok (.ireturn, 1) := by decide +kernel
theorem dX11_finds_0 : decode cX11_finds 0 = .ok (.aload_n 0, 1) := by decide +kernel
theorem dX11_finds_1 : decode cX11_finds 1 = .ok (.iload_n 1, 1) := by decide +kernel
theorem dX11_finds_2 : decode cX11_finds 2 = .ok (.invokevirtual 164, 3) := by decide +kernel
theorem dX11_finds_5 : decode cX11_finds 5 = .ok (.astore_n 3, 1) := by decide +kernel
theorem dX11_finds_6 : decode cX11_finds 6 = .ok (.iload_n 2, 1) := by decide +kernel
theorem dX11_finds_7 : decode cX11_finds 7 = .ok (.aload_n 0, 1) := by decide +kernel
theorem dX11_finds_8 : decode cX11_finds 8 = .ok (.getfield 28, 3) := by decide +kernel
theorem dX11_finds_11 : decode cX11_finds 11 = .ok (.aload_n 3, 1) := by decide +kernel
theorem dX11_finds_12 : decode cX11_finds 12 = .ok (.getfield 178, 3) := by decide +kernel
theorem dX11_finds_15 : decode cX11_finds 15 = .ok (.invokevirtual 181, 3) := by decide +kernel
theorem dX11_finds_18 : decode cX11_finds 18 = .ok (.getfield 126, 3) := by decide +kernel
theorem dX11_finds_21 : decode cX11_finds 21 = .ok (.invokestatic 153, 3) := by decide +kernel
theorem dX11_finds_24 : decode cX11_finds 24 = .ok (.aload_n 0, 1) := by decide +kernel
theorem dX11_finds_25 : decode cX11_finds 25 = .ok (.getfield 55, 3) := by decide +kernel
theorem dX11_finds_28 : decode cX11_finds 28 = .ok (.aload_n 3, 1) := by decide +kernel
theorem dX11_finds_29 : decode cX11_finds 29 = .ok (.aconst_null, 1) := by decide +kernel
theorem dX11_finds_30 : decode cX11_finds 30 = .ok (.invokevirtual 193, 3) := by decide +kernel
theorem dX11_finds_33 : decode cX11_finds 33 = .ok (.iload_n 2, 1) := by decide +kernel
theorem dX11_finds_34 : decode cX11_finds 34 = .ok (.lshr, 1) := by decide +kernel
theorem dX11_finds_35 : decode cX11_finds 35 = .ok (.lconst 1, 1) := by decide +kernel
theorem dX11_finds_36 : decode cX11_finds 36 = .ok (.land, 1) := by decide +kernel
theorem dX11_finds_37 : decode cX11_finds 37 = .ok (.lconst 0, 1) := by decide +kernel
theorem dX11_finds_38 : decode cX11_finds 38 = .ok (.lcmp, 1) := by decide +kernel
theorem dX11_finds_39 : decode cX11_finds 39 = .ok (.ifCond .eq 7, 3) := by decide +kernel
theorem dX11_finds_42 : decode cX11_finds 42 = .ok (.iconst 1, 1) := by decide +kernel
theorem dX11_finds_43 : decode cX11_finds 43 = .ok (.goto 4, 3) := by decide +kernel
theorem dX11_finds_46 : decode cX11_finds 46 = .ok (.iconst 0, 1) := by decide +kernel
theorem dX11_finds_47 : decode cX11_finds 47 = .ok (.ireturn, 1) := by decide +kernel
theorem dX11_score_0 : decode cX11_score 0 = .ok (.aload_n 0, 1) := by decide +kernel
theorem dX11_score_1 : decode cX11_score 1 = .ok (.iload_n 1, 1) := by decide +kernel
theorem dX11_score_2 : decode cX11_score 2 = .ok (.invokevirtual 164, 3) := by decide +kernel
theorem dX11_score_5 : decode cX11_score 5 = .ok (.astore_n 2, 1) := by decide +kernel
theorem dX11_score_6 : decode cX11_score 6 = .ok (.aload_n 0, 1) := by decide +kernel
theorem dX11_score_7 : decode cX11_score 7 = .ok (.getfield 28, 3) := by decide +kernel
theorem dX11_score_10 : decode cX11_score 10 = .ok (.aload_n 2, 1) := by decide +kernel
theorem dX11_score_11 : decode cX11_score 11 = .ok (.getfield 178, 3) := by decide +kernel
theorem dX11_score_14 : decode cX11_score 14 = .ok (.invokevirtual 181, 3) := by decide +kernel
theorem dX11_score_17 : decode cX11_score 17 = .ok (.getfield 126, 3) := by decide +kernel
theorem dX11_score_20 : decode cX11_score 20 = .ok (.istore_n 3, 1) := by decide +kernel
theorem dX11_score_21 : decode cX11_score 21 = .ok (.iload_n 3, 1) := by decide +kernel
theorem dX11_score_22 : decode cX11_score 22 = .ok (.ifCond .ne 5, 3) := by decide +kernel
theorem dX11_score_25 : decode cX11_score 25 = .ok (.dconst 1, 1) := by decide +kernel
theorem dX11_score_26 : decode cX11_score 26 = .ok (.dreturn, 1) := by decide +kernel
theorem dX11_score_27 : decode cX11_score 27 = .ok (.aload_n 0, 1) := by decide +kernel
theorem dX11_score_28 : decode cX11_score 28 = .ok (.getfield 55, 3) := by decide +kernel
theorem dX11_score_31 : decode cX11_score 31 = .ok (.aload_n 2, 1) := by decide +kernel
theorem dX11_score_32 : decode cX11_score 32 = .ok (.aconst_null, 1) := by decide +kernel
theorem dX11_score_33 : decode cX11_score 33 = .ok (.invokevirtual 193, 3) := by decide +kernel
theorem dX11_score_36 : decode cX11_score 36 = .ok (.invokestatic 197, 3) := by decide +kernel
theorem dX11_score_39 : decode cX11_score 39 = .ok (.i2d, 1) := by decide +kernel
theorem dX11_score_40 : decode cX11_score 40 = .ok (.iload_n 3, 1) := by decide +kernel
theorem dX11_score_41 : decode cX11_score 41 = .ok (.i2d, 1) := by decide +kernel
theorem dX11_score_42 : decode cX11_score 42 = .ok (.ddiv, 1) := by decide +kernel
theorem dX11_score_43 : decode cX11_score 43 = .ok (.dreturn, 1) := by decide +kernel
theorem dX11_grow_0 : decode cX11_grow 0 = .ok (.aload_n 0, 1) := by decide +kernel
theorem dX11_grow_1 : decode cX11_grow 1 = .ok (.iload_n 1, 1) := by decide +kernel
theorem dX11_grow_2 : decode cX11_grow 2 = .ok (.invokevirtual 164, 3) := by decide +kernel
theorem dX11_grow_5 : decode cX11_grow 5 = .ok (.astore_n 2, 1) := by decide +kernel
theorem dX11_grow_6 : decode cX11_grow 6 = .ok (.aload_n 0, 1) := by decide +kernel
theorem dX11_grow_7 : decode cX11_grow 7 = .ok (.aload_n 2, 1) := by decide +kernel
theorem dX11_grow_8 : decode cX11_grow 8 = .ok (.getfield 178, 3) := by decide +kernel
theorem dX11_grow_11 : decode cX11_grow 11 = .ok (.invokevirtual 145, 3) := by decide +kernel
theorem dX11_grow_14 : decode cX11_grow 14 = .ok (.aload_n 0, 1) := by decide +kernel
theorem dX11_grow_15 : decode cX11_grow 15 = .ok (.getfield 62, 3) := by decide +kernel
theorem dX11_grow_18 : decode cX11_grow 18 = .ok (.invokevirtual 161, 3) := by decide +kernel
theorem dX11_grow_21 : decode cX11_grow 21 = .ok (.istore_n 3, 1) := by decide +kernel
theorem dX11_grow_22 : decode cX11_grow 22 = .ok (.iload_n 3, 1) := by decide +kernel
theorem dX11_grow_23 : decode cX11_grow 23 = .ok (.ifCond .lt 21, 3) := by decide +kernel
theorem dX11_grow_26 : decode cX11_grow 26 = .ok (.aload_n 2, 1) := by decide +kernel
theorem dX11_grow_27 : decode cX11_grow 27 = .ok (.getfield 203, 3) := by decide +kernel
theorem dX11_grow_30 : decode cX11_grow 30 = .ok (.bipush 12, 2) := by decide +kernel
theorem dX11_grow_32 : decode cX11_grow 32 = .ok (.if_icmp .ge 12, 3) := by decide +kernel
theorem dX11_grow_35 : decode cX11_grow 35 = .ok (.aload_n 2, 1) := by decide +kernel
theorem dX11_grow_36 : decode cX11_grow 36 = .ok (.getfield 176, 3) := by decide +kernel
theorem dX11_grow_39 : decode cX11_grow 39 = .ok (.bipush 100, 2) := by decide +kernel
theorem dX11_grow_41 : decode cX11_grow 41 = .ok (.if_icmp .lt 11, 3) := by decide +kernel
theorem dX11_grow_44 : decode cX11_grow 44 = .ok (.new 74, 3) := by decide +kernel
theorem dX11_grow_47 : decode cX11_grow 47 = .ok (.dup, 1) := by decide +kernel
theorem dX11_grow_48 : decode cX11_grow 48 = .ok (.invokespecial 76, 3) := by decide +kernel
theorem dX11_grow_51 : decode cX11_grow 51 = .ok (.athrow, 1) := by decide +kernel
theorem dX11_grow_52 : decode cX11_grow 52 = .ok (.aload_n 0, 1) := by decide +kernel
theorem dX11_grow_53 : decode cX11_grow 53 = .ok (.aload_n 2, 1) := by decide +kernel
theorem dX11_grow_54 : decode cX11_grow 54 = .ok (.iload_n 3, 1) := by decide +kernel
theorem dX11_grow_55 : decode cX11_grow 55 = .ok (.invokevirtual 205, 3) := by decide +kernel
theorem dX11_grow_58 : decode cX11_grow 58 = .ok (.aload_n 0, 1) := by decide +kernel
theorem dX11_grow_59 : decode cX11_grow 59 = .ok (.getfield 55, 3) := by decide +kernel
theorem dX11_grow_62 : decode cX11_grow 62 = .ok (.invokevirtual 99, 3) := by decide +kernel
theorem dX11_grow_65 : decode cX11_grow 65 = .ok (.aload_n 2, 1) := by decide +kernel
theorem dX11_grow_66 : decode cX11_grow 66 = .ok (.getfield 176, 3) := by decide +kernel
theorem dX11_grow_69 : decode cX11_grow 69 = .ok (.ireturn, 1) := by decide +kernel
theorem dX11_shorten_0 : decode cX11_shorten 0 = .ok (.aload_n 0, 1) := by decide +kernel
theorem dX11_shorten_1 : decode cX11_shorten 1 = .ok (.iload_n 1, 1) := by decide +kernel
theorem dX11_shorten_2 : decode cX11_shorten 2 = .ok (.invokevirtual 164, 3) := by decide +kernel
theorem dX11_shorten_5 : decode cX11_shorten 5 = .ok (.astore_n 2, 1) := by decide +kernel
theorem dX11_shorten_6 : decode cX11_shorten 6 = .ok (.aload_n 2, 1) := by decide +kernel
theorem dX11_shorten_7 : decode cX11_shorten 7 = .ok (.getfield 203, 3) := by decide +kernel
theorem dX11_shorten_10 : decode cX11_shorten 10 = .ok (.iconst 1, 1) := by decide +kernel
theorem dX11_shorten_11 : decode cX11_shorten 11 = .ok (.isub, 1) := by decide +kernel
theorem dX11_shorten_12 : decode cX11_shorten 12 = .ok (.istore_n 3, 1) := by decide +kernel
theorem dX11_shorten_13 : decode cX11_shorten 13 = .ok (.iload_n 3, 1) := by decide +kernel
theorem dX11_shorten_14 : decode cX11_shorten 14 = .ok (.ifCond .lt 57, 3) := by decide +kernel
theorem dX11_shorten_17 : decode cX11_shorten 17 = .ok (.aload_n 2, 1) := by decide +kernel
theorem dX11_shorten_18 : decode cX11_shorten 18 = .ok (.getfield 203, 3) := by decide +kernel
theorem dX11_shorten_21 : decode cX11_shorten 21 = .ok (.iconst 1, 1) := by decide +kernel
theorem dX11_shorten_22 : decode cX11_shorten 22 = .ok (.if_icmp .le 49, 3) := by decide +kernel
theorem dX11_shorten_25 : decode cX11_shorten 25 = .ok (.aload_n 0, 1) := by decide +kernel
theorem dX11_shorten_26 : decode cX11_shorten 26 = .ok (.getfield 55, 3) := by decide +kernel
theorem dX11_shorten_29 : decode cX11_shorten 29 = .ok (.aload_n 2, 1) := by decide +kernel
theorem dX11_shorten_30 : decode cX11_shorten 30 = .ok (.aload_n 2, 1) := by decide +kernel
theorem dX11_shorten_31 : decode cX11_shorten 31 = .ok (.iload_n 3, 1) := by decide +kernel
theorem dX11_shorten_32 : decode cX11_shorten 32 = .ok (.invokevirtual 209, 3) := by decide +kernel
theorem dX11_shorten_35 : decode cX11_shorten 35 = .ok (.invokevirtual 193, 3) := by decide +kernel
theorem dX11_shorten_38 : decode cX11_shorten 38 = .ok (.lstore 4, 2) := by decide +kernel
theorem dX11_shorten_40 : decode cX11_shorten 40 = .ok (.lload 4, 2) := by decide +kernel
theorem dX11_shorten_42 : decode cX11_shorten 42 = .ok (.invokestatic 197, 3) := by decide +kernel
theorem dX11_shorten_45 : decode cX11_shorten 45 = .ok (.aload_n 0, 1) := by decide +kernel
theorem dX11_shorten_46 : decode cX11_shorten 46 = .ok (.getfield 55, 3) := by decide +kernel
theorem dX11_shorten_49 : decode cX11_shorten 49 = .ok (.aload_n 2, 1) := by decide +kernel
theorem dX11_shorten_50 : decode cX11_shorten 50 = .ok (.aconst_null, 1) := by decide +kernel
theorem dX11_shorten_51 : decode cX11_shorten 51 = .ok (.invokevirtual 193, 3) := by decide +kernel
theorem dX11_shorten_54 : decode cX11_shorten 54 = .ok (.invokestatic 197, 3) := by decide +kernel
theorem dX11_shorten_57 : decode cX11_shorten 57 = .ok (.if_icmp .ne 8, 3) := by decide +kernel
theorem dX11_shorten_60 : decode cX11_shorten 60 = .ok (.aload_n 2, 1) := by decide +kernel
theorem dX11_shorten_61 : decode cX11_shorten 61 = .ok (.iload_n 3, 1) := by decide +kernel
theorem dX11_shorten_62 : decode cX11_shorten 62 = .ok (.invokevirtual 213, 3) := by decide +kernel
theorem dX11_shorten_65 : decode cX11_shorten 65 = .ok (.iinc 3 (-1), 3) := by decide +kernel
theorem dX11_shorten_68 : decode cX11_shorten 68 = .ok (.goto (-55), 3) := by decide +kernel
theorem dX11_shorten_71 : decode cX11_shorten 71 = .ok (.aload_n 0, 1) := by decide +kernel
theorem dX11_shorten_72 : decode cX11_shorten 72 = .ok (.getfield 55, 3) := by decide +kernel
theorem dX11_shorten_75 : decode cX11_shorten 75 = .ok (.invokevirtual 99, 3) := by decide +kernel
theorem dX11_shorten_78 : decode cX11_shorten 78 = .ok (.aload_n 2, 1) := by decide +kernel
theorem dX11_shorten_79 : decode cX11_shorten 79 = .ok (.getfield 203, 3) := by decide +kernel
theorem dX11_shorten_82 : decode cX11_shorten 82 = .ok (.ireturn, 1) := by decide +kernel
theorem dX11_digest_0 : decode cX11_digest 0 = .ok (.aload_n 0, 1) := by decide +kernel
theorem dX11_digest_1 : decode cX11_digest 1 = .ok (.getfield 55, 3) := by decide +kernel
theorem dX11_digest_4 : decode cX11_digest 4 = .ok (.invokevirtual 168, 3) := by decide +kernel
theorem dX11_digest_7 : decode cX11_digest 7 = .ok (.ldc2_w 216, 3) := by decide +kernel
theorem dX11_digest_10 : decode cX11_digest 10 = .ok (.lstore_n 1, 1) := by decide +kernel
theorem dX11_digest_11 : decode cX11_digest 11 = .ok (.iconst 0, 1) := by decide +kernel
theorem dX11_digest_12 : decode cX11_digest 12 = .ok (.istore_n 3, 1) := by decide +kernel
theorem dX11_digest_13 : decode cX11_digest 13 = .ok (.iload_n 3, 1) := by decide +kernel
theorem dX11_digest_14 : decode cX11_digest 14 = .ok (.iconst 4, 1) := by decide +kernel
theorem dX11_digest_15 : decode cX11_digest 15 = .ok (.if_icmp .gt 22, 3) := by decide +kernel
theorem dX11_digest_18 : decode cX11_digest 18 = .ok (.lload_n 1, 1) := by decide +kernel
theorem dX11_digest_19 : decode cX11_digest 19 = .ok (.ldc2_w 218, 3) := by decide +kernel
theorem dX11_digest_22 : decode cX11_digest 22 = .ok (.lmul, 1) := by decide +kernel
theorem dX11_digest_23 : decode cX11_digest 23 = .ok (.aload_n 0, 1) := by decide +kernel
theorem dX11_digest_24 : decode cX11_digest 24 = .ok (.iload_n 3, 1) := by decide +kernel
theorem dX11_digest_25 : decode cX11_digest 25 = .ok (.invokevirtual 220, 3) := by decide +kernel
theorem dX11_digest_28 : decode cX11_digest 28 = .ok (.i2l, 1) := by decide +kernel
theorem dX11_digest_29 : decode cX11_digest 29 = .ok (.ladd, 1) := by decide +kernel
theorem dX11_digest_30 : decode cX11_digest 30 = .ok (.lstore_n 1, 1) := by decide +kernel
theorem dX11_digest_31 : decode cX11_digest 31 = .ok (.iinc 3 1, 3) := by decide +kernel
theorem dX11_digest_34 : decode cX11_digest 34 = .ok (.goto (-21), 3) := by decide +kernel
theorem dX11_digest_37 : decode cX11_digest 37 = .ok (.iconst 0, 1) := by decide +kernel
theorem dX11_digest_38 : decode cX11_digest 38 = .ok (.istore_n 3, 1) := by decide +kernel
theorem dX11_digest_39 : decode cX11_digest 39 = .ok (.iload_n 3, 1) := by decide +kernel
theorem dX11_digest_40 : decode cX11_digest 40 = .ok (.aload_n 0, 1) := by decide +kernel
theorem dX11_digest_41 : decode cX11_digest 41 = .ok (.getfield 28, 3) := by decide +kernel
theorem dX11_digest_44 : decode cX11_digest 44 = .ok (.getfield 102, 3) := by decide +kernel
theorem dX11_digest_47 : decode cX11_digest 47 = .ok (.if_icmp .ge 39, 3) := by decide +kernel
theorem dX11_digest_50 : decode cX11_digest 50 = .ok (.iconst 0, 1) := by decide +kernel
theorem dX11_digest_51 : decode cX11_digest 51 = .ok (.istore 4, 2) := by decide +kernel
theorem dX11_digest_53 : decode cX11_digest 53 = .ok (.iload 4, 2) := by decide +kernel
theorem dX11_digest_55 : decode cX11_digest 55 = .ok (.iconst 5, 1) := by decide +kernel
theorem dX11_digest_56 : decode cX11_digest 56 = .ok (.if_icmp .gt 24, 3) := by decide +kernel
theorem dX11_digest_59 : decode cX11_digest 59 = .ok (.lload_n 1, 1) := by decide +kernel
theorem dX11_digest_60 : decode cX11_digest 60 = .ok (.ldc2_w 218, 3) := by decide +kernel
theorem dX11_digest_63 : decode cX11_digest 63 = .ok (.lmul, 1) := by decide +kernel
theorem dX11_digest_64 : decode cX11_digest 64 = .ok (.aload_n 0, 1) := by decide +kernel
theorem dX11_digest_65 : decode cX11_digest 65 = .ok (.iload_n 3, 1) := by decide +kernel
theorem dX11_digest_66 : decode cX11_digest 66 = .ok (.iload 4, 2) := by decide +kernel
theorem dX11_digest_68 : decode cX11_digest 68 = .ok (.invokevirtual 223, 3) := by decide +kernel
theorem dX11_digest_71 : decode cX11_digest 71 = .ok (.i2l, 1) := by decide +kernel
theorem dX11_digest_72 : decode cX11_digest 72 = .ok (.ladd, 1) := by decide +kernel
theorem dX11_digest_73 : decode cX11_digest 73 = .ok (.lstore_n 1, 1) := by decide +kernel
theorem dX11_digest_74 : decode cX11_digest 74 = .ok (.iinc 4 1, 3) := by decide +kernel
theorem dX11_digest_77 : decode cX11_digest 77 = .ok (.goto (-24), 3) := by decide +kernel
theorem dX11_digest_80 : decode cX11_digest 80 = .ok (.iinc 3 1, 3) := by decide +kernel
theorem dX11_digest_83 : decode cX11_digest 83 = .ok (.goto (-44), 3) := by decide +kernel
theorem dX11_digest_86 : decode cX11_digest 86 = .ok (.iconst 0, 1) := by decide +kernel
theorem dX11_digest_87 : decode cX11_digest 87 = .ok (.istore_n 3, 1) := by decide +kernel
theorem dX11_digest_88 : decode cX11_digest 88 = .ok (.iload_n 3, 1) := by decide +kernel
theorem dX11_digest_89 : decode cX11_digest 89 = .ok (.aload_n 0, 1) := by decide +kernel
theorem dX11_digest_90 : decode cX11_digest 90 = .ok (.getfield 28, 3) := by decide +kernel
theorem dX11_digest_93 : decode cX11_digest 93 = .ok (.getfield 105, 3) := by decide +kernel
theorem dX11_digest_96 : decode cX11_digest 96 = .ok (.if_icmp .ge 23, 3) := by decide +kernel
theorem dX11_digest_99 : decode cX11_digest 99 = .ok (.aload_n 0, 1) := by decide +kernel
theorem dX11_digest_100 : decode cX11_digest 100 = .ok (.lload_n 1, 1) := by decide +kernel
theorem dX11_digest_101 : decode cX11_digest 101 = .ok (.aload_n 0, 1) := by decide +kernel
theorem dX11_digest_102 : decode cX11_digest 102 = .ok (.getfield 28, 3) := by decide +kernel
theorem dX11_digest_105 : decode cX11_digest 105 = .ok (.iload_n 3, 1) := by decide +kernel
theorem dX11_digest_106 : decode cX11_digest 106 = .ok (.invokevirtual 225, 3) := by decide +kernel
theorem dX11_digest_109 : decode cX11_digest 109 = .ok (.invokevirtual 228, 3) := by decide +kernel
theorem dX11_digest_112 : decode cX11_digest 112 = .ok (.lstore_n 1, 1) := by decide +kernel
theorem dX11_digest_113 : decode cX11_digest 113 = .ok (.iinc 3 1, 3) := by decide +kernel
theorem dX11_digest_116 : decode cX11_digest 116 = .ok (.goto (-28), 3) := by decide +kernel
theorem dX11_digest_119 : decode cX11_digest 119 = .ok (.iconst 0, 1) := by decide +kernel
theorem dX11_digest_120 : decode cX11_digest 120 = .ok (.istore_n 3, 1) := by decide +kernel
theorem dX11_digest_121 : decode cX11_digest 121 = .ok (.iload_n 3, 1) := by decide +kernel
theorem dX11_digest_122 : decode cX11_digest 122 = .ok (.aload_n 0, 1) := by decide +kernel
theorem dX11_digest_123 : decode cX11_digest 123 = .ok (.getfield 28, 3) := by decide +kernel
theorem dX11_digest_126 : decode cX11_digest 126 = .ok (.getfield 108, 3) := by decide +kernel
theorem dX11_digest_129 : decode cX11_digest 129 = .ok (.if_icmp .ge 43, 3) := by decide +kernel
theorem dX11_digest_132 : decode cX11_digest 132 = .ok (.lload_n 1, 1) := by decide +kernel
theorem dX11_digest_133 : decode cX11_digest 133 = .ok (.ldc2_w 218, 3) := by decide +kernel
theorem dX11_digest_136 : decode cX11_digest 136 = .ok (.lmul, 1) := by decide +kernel
theorem dX11_digest_137 : decode cX11_digest 137 = .ok (.aload_n 0, 1) := by decide +kernel
theorem dX11_digest_138 : decode cX11_digest 138 = .ok (.getfield 46, 3) := by decide +kernel
theorem dX11_digest_141 : decode cX11_digest 141 = .ok (.iload_n 3, 1) := by decide +kernel
theorem dX11_digest_142 : decode cX11_digest 142 = .ok (.iconst 1, 1) := by decide +kernel
theorem dX11_digest_143 : decode cX11_digest 143 = .ok (.invokevirtual 189, 3) := by decide +kernel
theorem dX11_digest_146 : decode cX11_digest 146 = .ok (.i2l, 1) := by decide +kernel
theorem dX11_digest_147 : decode cX11_digest 147 = .ok (.ladd, 1) := by decide +kernel
theorem dX11_digest_148 : decode cX11_digest 148 = .ok (.lstore_n 1, 1) := by decide +kernel
theorem dX11_digest_149 : decode cX11_digest 149 = .ok (.lload_n 1, 1) := by decide +kernel
theorem dX11_digest_150 : decode cX11_digest 150 = .ok (.ldc2_w 218, 3) := by decide +kernel
theorem dX11_digest_153 : decode cX11_digest 153 = .ok (.lmul, 1) := by decide +kernel
theorem dX11_digest_154 : decode cX11_digest 154 = .ok (.aload_n 0, 1) := by decide +kernel
theorem dX11_digest_155 : decode cX11_digest 155 = .ok (.getfield 46, 3) := by decide +kernel
theorem dX11_digest_158 : decode cX11_digest 158 = .ok (.iload_n 3, 1) := by decide +kernel
theorem dX11_digest_159 : decode cX11_digest 159 = .ok (.iconst 0, 1) := by decide +kernel
theorem dX11_digest_160 : decode cX11_digest 160 = .ok (.invokevirtual 189, 3) := by decide +kernel
theorem dX11_digest_163 : decode cX11_digest 163 = .ok (.i2l, 1) := by decide +kernel
theorem dX11_digest_164 : decode cX11_digest 164 = .ok (.ladd, 1) := by decide +kernel
theorem dX11_digest_165 : decode cX11_digest 165 = .ok (.lstore_n 1, 1) := by decide +kernel
theorem dX11_digest_166 : decode cX11_digest 166 = .ok (.iinc 3 1, 3) := by decide +kernel
theorem dX11_digest_169 : decode cX11_digest 169 = .ok (.goto (-48), 3) := by decide +kernel
theorem dX11_digest_172 : decode cX11_digest 172 = .ok (.lload_n 1, 1) := by decide +kernel
theorem dX11_digest_173 : decode cX11_digest 173 = .ok (.lreturn, 1) := by decide +kernel
theorem dX11_addTable_0 : decode cX11_addTable 0 = .ok (.lload_n 1, 1) := by decide +kernel
theorem dX11_addTable_1 : decode cX11_addTable 1 = .ok (.lstore 4, 2) := by decide +kernel
theorem dX11_addTable_3 : decode cX11_addTable 3 = .ok (.iconst 0, 1) := by decide +kernel
theorem dX11_addTable_4 : decode cX11_addTable 4 = .ok (.istore 6, 2) := by decide +kernel
theorem dX11_addTable_6 : decode cX11_addTable 6 = .ok (.iload 6, 2) := by decide +kernel
theorem dX11_addTable_8 : decode cX11_addTable 8 = .ok (.iconst 4, 1) := by decide +kernel
theorem dX11_addTable_9 : decode cX11_addTable 9 = .ok (.if_icmp .gt 25, 3) := by decide +kernel
theorem dX11_addTable_12 : decode cX11_addTable 12 = .ok (.lload 4, 2) := by decide +kernel
theorem dX11_addTable_14 : decode cX11_addTable 14 = .ok (.ldc2_w 218, 3) := by decide +kernel
theorem dX11_addTable_17 : decode cX11_addTable 17 = .ok (.lmul, 1) := by decide +kernel
theorem dX11_addTable_18 : decode cX11_addTable 18 = .ok (.aload_n 3, 1) := by decide +kernel
theorem dX11_addTable_19 : decode cX11_addTable 19 = .ok (.iload 6, 2) := by decide +kernel
theorem dX11_addTable_21 : decode cX11_addTable 21 = .ok (.invokevirtual 171, 3) := by decide +kernel
theorem dX11_addTable_24 : decode cX11_addTable 24 = .ok (.i2l, 1) := by decide +kernel
theorem dX11_addTable_25 : decode cX11_addTable 25 = .ok (.ladd, 1) := by decide +kernel
theorem dX11_addTable_26 : decode cX11_addTable 26 = .ok (.lstore 4, 2) := by decide +kernel
theorem dX11_addTable_28 : decode cX11_addTable 28 = .ok (.iinc 6 1, 3) := by decide +kernel
theorem dX11_addTable_31 : decode cX11_addTable 31 = .ok (.goto (-25), 3) := by decide +kernel
theorem dX11_addTable_34 : decode cX11_addTable 34 = .ok (.aload_n 0, 1) := by decide +kernel
theorem dX11_addTable_35 : decode cX11_addTable 35 = .ok (.getfield 28, 3) := by decide +kernel
theorem dX11_addTable_38 : decode cX11_addTable 38 = .ok (.aload_n 3, 1) := by decide +kernel
theorem dX11_addTable_39 : decode cX11_addTable 39 = .ok (.getfield 178, 3) := by decide +kernel
theorem dX11_addTable_42 : decode cX11_addTable 42 = .ok (.invokevirtual 181, 3) := by decide +kernel
theorem dX11_addTable_45 : decode cX11_addTable 45 = .ok (.getfield 121, 3) := by decide +kernel
theorem dX11_addTable_48 : decode cX11_addTable 48 = .ok (.istore 6, 2) := by decide +kernel
theorem dX11_addTable_50 : decode cX11_addTable 50 = .ok (.iconst 0, 1) := by decide +kernel
theorem dX11_addTable_51 : decode cX11_addTable 51 = .ok (.istore 7, 2) := by decide +kernel
theorem dX11_addTable_53 : decode cX11_addTable 53 = .ok (.iload 7, 2) := by decide +kernel
theorem dX11_addTable_55 : decode cX11_addTable 55 = .ok (.aload_n 3, 1) := by decide +kernel
theorem dX11_addTable_56 : decode cX11_addTable 56 = .ok (.getfield 176, 3) := by decide +kernel
theorem dX11_addTable_59 : decode cX11_addTable 59 = .ok (.if_icmp .ge 43, 3) := by decide +kernel
theorem dX11_addTable_62 : decode cX11_addTable 62 = .ok (.iconst 0, 1) := by decide +kernel
theorem dX11_addTable_63 : decode cX11_addTable 63 = .ok (.istore 8, 2) := by decide +kernel
theorem dX11_addTable_65 : decode cX11_addTable 65 = .ok (.iload 8, 2) := by decide +kernel
theorem dX11_addTable_67 : decode cX11_addTable 67 = .ok (.iload 6, 2) := by decide +kernel
theorem dX11_addTable_69 : decode cX11_addTable 69 = .ok (.if_icmp .ge 27, 3) := by decide +kernel
theorem dX11_addTable_72 : decode cX11_addTable 72 = .ok (.lload 4, 2) := by decide +kernel
theorem dX11_addTable_74 : decode cX11_addTable 74 = .ok (.ldc2_w 218, 3) := by decide +kernel
theorem dX11_addTable_77 : decode cX11_addTable 77 = .ok (.lmul, 1) := by decide +kernel
theorem dX11_addTable_78 : decode cX11_addTable 78 = .ok (.aload_n 3, 1) := by decide +kernel
theorem dX11_addTable_79 : decode cX11_addTable 79 = .ok (.iload 7, 2) := by decide +kernel
theorem dX11_addTable_81 : decode cX11_addTable 81 = .ok (.iload 8, 2) := by decide +kernel
theorem dX11_addTable_83 : decode cX11_addTable 83 = .ok (.invokevirtual 184, 3) := by decide +kernel
theorem dX11_addTable_86 : decode cX11_addTable 86 = .ok (.i2l, 1) := by decide +kernel
theorem dX11_addTable_87 : decode cX11_addTable 87 = .ok (.ladd, 1) := by decide +kernel
theorem dX11_addTable_88 : decode cX11_addTable 88 = .ok (.lstore 4, 2) := by decide +kernel
theorem dX11_addTable_90 : decode cX11_addTable 90 = .ok (.iinc 8 1, 3) := by decide +kernel
theorem dX11_addTable_93 : decode cX11_addTable 93 = .ok (.goto (-28), 3) := by decide +kernel
theorem dX11_addTable_96 : decode cX11_addTable 96 = .ok (.iinc 7 1, 3) := by decide +kernel
theorem dX11_addTable_99 : decode cX11_addTable 99 = .ok (.goto (-46), 3) := by decide +kernel
theorem dX11_addTable_102 : decode cX11_addTable 102 = .ok (.lload 4, 2) := by decide +kernel
theorem dX11_addTable_104 : decode cX11_addTable 104 = .ok (.lreturn, 1) := by decide +kernel
theorem dX11_requireBelow_0 : decode cX11_requireBelow 0 = .ok (.iload_n 0, 1) := by decide +kernel
theorem dX11_requireBelow_1 : decode cX11_requireBelow 1 = .ok (.ifCond .lt 8, 3) := by decide +kernel
theorem dX11_requireBelow_4 : decode cX11_requireBelow 4 = .ok (.iload_n 0, 1) := by decide +kernel
theorem dX11_requireBelow_5 : decode cX11_requireBelow 5 = .ok (.iload_n 1, 1) := by decide +kernel
theorem dX11_requireBelow_6 : decode cX11_requireBelow 6 = .ok (.if_icmp .lt 11, 3) := by decide +kernel
theorem dX11_requireBelow_9 : decode cX11_requireBelow 9 = .ok (.new 114, 3) := by decide +kernel
theorem dX11_requireBelow_12 : decode cX11_requireBelow 12 = .ok (.dup, 1) := by decide +kernel
theorem dX11_requireBelow_13 : decode cX11_requireBelow 13 = .ok (.invokespecial 116, 3) := by decide +kernel
theorem dX11_requireBelow_16 : decode cX11_requireBelow 16 = .ok (.athrow, 1) := by decide +kernel
theorem dX11_requireBelow_17 : decode cX11_requireBelow 17 = .ok (.return_, 1) := by decide +kernel
theorem dX11_existingFun_0 : decode cX11_existingFun 0 = .ok (.iload_n 1, 1) := by decide +kernel
theorem dX11_existingFun_1 : decode cX11_existingFun 1 = .ok (.aload_n 0, 1) := by decide +kernel
theorem dX11_existingFun_2 : decode cX11_existingFun 2 = .ok (.getfield 28, 3) := by decide +kernel
theorem dX11_existingFun_5 : decode cX11_existingFun 5 = .ok (.getfield 102, 3) := by decide +kernel
theorem dX11_existingFun_8 : decode cX11_existingFun 8 = .ok (.invokestatic 153, 3) := by decide +kernel
theorem dX11_existingFun_11 : decode cX11_existingFun 11 = .ok (.aload_n 0, 1) := by decide +kernel
theorem dX11_existingFun_12 : decode cX11_existingFun 12 = .ok (.getfield 28, 3) := by decide +kernel
theorem dX11_existingFun_15 : decode cX11_existingFun 15 = .ok (.iload_n 1, 1) := by decide +kernel
theorem dX11_existingFun_16 : decode cX11_existingFun 16 = .ok (.invokevirtual 181, 3) := by decide +kernel
theorem dX11_existingFun_19 : decode cX11_existingFun 19 = .ok (.areturn, 1) := by decide +kernel
theorem dX11_existingTable_0 : decode cX11_existingTable 0 = .ok (.iload_n 1, 1) := by decide +kernel
theorem dX11_existingTable_1 : decode cX11_existingTable 1 = .ok (.aload_n 0, 1) := by decide +kernel
theorem dX11_existingTable_2 : decode cX11_existingTable 2 = .ok (.getfield 28, 3) := by decide +kernel
theorem dX11_existingTable_5 : decode cX11_existingTable 5 = .ok (.getfield 105, 3) := by decide +kernel
theorem dX11_existingTable_8 : decode cX11_existingTable 8 = .ok (.invokestatic 153, 3) := by decide +kernel
theorem dX11_existingTable_11 : decode cX11_existingTable 11 = .ok (.aload_n 0, 1) := by decide +kernel
theorem dX11_existingTable_12 : decode cX11_existingTable 12 = .ok (.getfield 28, 3) := by decide +kernel
theorem dX11_existingTable_15 : decode cX11_existingTable 15 = .ok (.iload_n 1, 1) := by decide +kernel
theorem dX11_existingTable_16 : decode cX11_existingTable 16 = .ok (.invokevirtual 225, 3) := by decide +kernel
theorem dX11_existingTable_19 : decode cX11_existingTable 19 = .ok (.areturn, 1) := by decide +kernel
theorem dX11_valueOrThrow_0 : decode cX11_valueOrThrow 0 = .ok (.aload_n 0, 1) := by decide +kernel
theorem dX11_valueOrThrow_1 : decode cX11_valueOrThrow 1 = .ok (.getfield 46, 3) := by decide +kernel
theorem dX11_valueOrThrow_4 : decode cX11_valueOrThrow 4 = .ok (.iload_n 1, 1) := by decide +kernel
theorem dX11_valueOrThrow_5 : decode cX11_valueOrThrow 5 = .ok (.iload_n 2, 1) := by decide +kernel
theorem dX11_valueOrThrow_6 : decode cX11_valueOrThrow 6 = .ok (.iload_n 3, 1) := by decide +kernel
theorem dX11_valueOrThrow_7 : decode cX11_valueOrThrow 7 = .ok (.i2l, 1) := by decide +kernel
theorem dX11_valueOrThrow_8 : decode cX11_valueOrThrow 8 = .ok (.iload 4, 2) := by decide +kernel
theorem dX11_valueOrThrow_10 : decode cX11_valueOrThrow 10 = .ok (.i2l, 1) := by decide +kernel
theorem dX11_valueOrThrow_11 : decode cX11_valueOrThrow 11 = .ok (.iload 5, 2) := by decide +kernel
theorem dX11_valueOrThrow_13 : decode cX11_valueOrThrow 13 = .ok (.i2l, 1) := by decide +kernel
theorem dX11_valueOrThrow_14 : decode cX11_valueOrThrow 14 = .ok (.invokevirtual 232, 3) := by decide +kernel
theorem dX11_valueOrThrow_17 : decode cX11_valueOrThrow 17 = .ok (.lstore 6, 2) := by decide +kernel
theorem dX11_valueOrThrow_19 : decode cX11_valueOrThrow 19 = .ok (.aload_n 0, 1) := by decide +kernel
theorem dX11_valueOrThrow_20 : decode cX11_valueOrThrow 20 = .ok (.getfield 46, 3) := by decide +kernel
theorem dX11_valueOrThrow_23 : decode cX11_valueOrThrow 23 = .ok (.invokevirtual 236, 3) := by decide +kernel
theorem dX11_valueOrThrow_26 : decode cX11_valueOrThrow 26 = .ok (.ifCond .eq 11, 3) := by decide +kernel
theorem dX11_valueOrThrow_29 : decode cX11_valueOrThrow 29 = .ok (.new 74, 3) := by decide +kernel
theorem dX11_valueOrThrow_32 : decode cX11_valueOrThrow 32 = .ok (.dup, 1) := by decide +kernel
theorem dX11_valueOrThrow_33 : decode cX11_valueOrThrow 33 = .ok (.invokespecial 76, 3) := by decide +kernel
theorem dX11_valueOrThrow_36 : decode cX11_valueOrThrow 36 = .ok (.athrow, 1) := by decide +kernel
theorem dX11_valueOrThrow_37 : decode cX11_valueOrThrow 37 = .ok (.lload 6, 2) := by decide +kernel
theorem dX11_valueOrThrow_39 : decode cX11_valueOrThrow 39 = .ok (.lreturn, 1) := by decide +kernel
theorem dX11_findUntried_0 : decode cX11_findUntried 0 = .ok (.aload_n 0, 1) := by decide +kernel
theorem dX11_findUntried_1 : decode cX11_findUntried 1 = .ok (.getfield 28, 3) := by decide +kernel
theorem dX11_findUntried_4 : decode cX11_findUntried 4 = .ok (.iload_n 1, 1) := by decide +kernel
theorem dX11_findUntried_5 : decode cX11_findUntried 5 = .ok (.invokevirtual 181, 3) := by decide +kernel
theorem dX11_findUntried_8 : decode cX11_findUntried 8 = .ok (.astore_n 2, 1) := by decide +kernel
theorem dX11_findUntried_9 : decode cX11_findUntried 9 = .ok (.aload_n 0, 1) := by decide +kernel
theorem dX11_findUntried_10 : decode cX11_findUntried 10 = .ok (.getfield 62, 3) := by decide +kernel
theorem dX11_findUntried_13 : decode cX11_findUntried 13 = .ok (.aload_n 2, 1) := by decide +kernel
theorem dX11_findUntried_14 : decode cX11_findUntried 14 = .ok (.invokevirtual 240, 3) := by decide +kernel
theorem dX11_findUntried_17 : decode cX11_findUntried 17 = .ok (.iconst 0, 1) := by decide +kernel
theorem dX11_findUntried_18 : decode cX11_findUntried 18 = .ok (.istore_n 3, 1) := by decide +kernel
theorem dX11_findUntried_19 : decode cX11_findUntried 19 = .ok (.iload_n 3, 1) := by decide +kernel
theorem dX11_findUntried_20 : decode cX11_findUntried 20 = .ok (.aload_n 0, 1) := by decide +kernel
theorem dX11_findUntried_21 : decode cX11_findUntried 21 = .ok (.getfield 28, 3) := by decide +kernel
theorem dX11_findUntried_24 : decode cX11_findUntried 24 = .ok (.getfield 105, 3) := by decide +kernel
theorem dX11_findUntried_27 : decode cX11_findUntried 27 = .ok (.if_icmp .ge 41, 3) := by decide +kernel
theorem dX11_findUntried_30 : decode cX11_findUntried 30 = .ok (.aload_n 0, 1) := by decide +kernel
theorem dX11_findUntried_31 : decode cX11_findUntried 31 = .ok (.getfield 28, 3) := by decide +kernel
theorem dX11_findUntried_34 : decode cX11_findUntried 34 = .ok (.iload_n 3, 1) := by decide +kernel
theorem dX11_findUntried_35 : decode cX11_findUntried 35 = .ok (.invokevirtual 225, 3) := by decide +kernel
theorem dX11_findUntried_38 : decode cX11_findUntried 38 = .ok (.astore 4, 2) := by decide +kernel
theorem dX11_findUntried_40 : decode cX11_findUntried 40 = .ok (.aload 4, 2) := by decide +kernel
theorem dX11_findUntried_42 : decode cX11_findUntried 42 = .ok (.getfield 178, 3) := by decide +kernel
theorem dX11_findUntried_45 : decode cX11_findUntried 45 = .ok (.iload_n 1, 1) := by decide +kernel
theorem dX11_findUntried_46 : decode cX11_findUntried 46 = .ok (.if_icmp .ne 16, 3) := by decide +kernel
theorem dX11_findUntried_49 : decode cX11_findUntried 49 = .ok (.aload_n 0, 1) := by decide +kernel
theorem dX11_findUntried_50 : decode cX11_findUntried 50 = .ok (.getfield 62, 3) := by decide +kernel
theorem dX11_findUntried_53 : decode cX11_findUntried 53 = .ok (.aload_n 2, 1) := by decide +kernel
theorem dX11_findUntried_54 : decode cX11_findUntried 54 = .ok (.getfield 133, 3) := by decide +kernel
theorem dX11_findUntried_57 : decode cX11_findUntried 57 = .ok (.aload 4, 2) := by decide +kernel
theorem dX11_findUntried_59 : decode cX11_findUntried 59 = .ok (.invokevirtual 244, 3) := by decide +kernel
theorem dX11_findUntried_62 : decode cX11_findUntried 62 = .ok (.iinc 3 1, 3) := by decide +kernel
theorem dX11_findUntried_65 : decode cX11_findUntried 65 = .ok (.goto (-46), 3) := by decide +kernel
theorem dX11_findUntried_68 : decode cX11_findUntried 68 = .ok (.return_, 1) := by decide +kernel
theorem dX11_addCase_0 : decode cX11_addCase 0 = .ok (.aload_n 0, 1) := by decide +kernel
theorem dX11_addCase_1 : decode cX11_addCase 1 = .ok (.getfield 28, 3) := by decide +kernel
theorem dX11_addCase_4 : decode cX11_addCase 4 = .ok (.aload_n 1, 1) := by decide +kernel
theorem dX11_addCase_5 : decode cX11_addCase 5 = .ok (.getfield 178, 3) := by decide +kernel
theorem dX11_addCase_8 : decode cX11_addCase 8 = .ok (.invokevirtual 181, 3) := by decide +kernel
theorem dX11_addCase_11 : decode cX11_addCase 11 = .ok (.getfield 133, 3) := by decide +kernel
theorem dX11_addCase_14 : decode cX11_addCase 14 = .ok (.astore_n 3, 1) := by decide +kernel
theorem dX11_addCase_15 : decode cX11_addCase 15 = .ok (.aload_n 1, 1) := by decide +kernel
theorem dX11_addCase_16 : decode cX11_addCase 16 = .ok (.invokevirtual 248, 3) := by decide +kernel
theorem dX11_addCase_19 : decode cX11_addCase 19 = .ok (.astore 4, 2) := by decide +kernel
theorem dX11_addCase_21 : decode cX11_addCase 21 = .ok (.iconst 0, 1) := by decide +kernel
theorem dX11_addCase_22 : decode cX11_addCase 22 = .ok (.istore 5, 2) := by decide +kernel
theorem dX11_addCase_24 : decode cX11_addCase 24 = .ok (.iload 5, 2) := by decide +kernel
theorem dX11_addCase_26 : decode cX11_addCase 26 = .ok (.iconst 3, 1) := by decide +kernel
theorem dX11_addCase_27 : decode cX11_addCase 27 = .ok (.if_icmp .ge 32, 3) := by decide +kernel
theorem dX11_addCase_30 : decode cX11_addCase 30 = .ok (.aload_n 3, 1) := by decide +kernel
theorem dX11_addCase_31 : decode cX11_addCase 31 = .ok (.iload_n 2, 1) := by decide +kernel
theorem dX11_addCase_32 : decode cX11_addCase 32 = .ok (.iload 5, 2) := by decide +kernel
theorem dX11_addCase_34 : decode cX11_addCase 34 = .ok (.invokevirtual 157, 3) := by decide +kernel
theorem dX11_addCase_37 : decode cX11_addCase 37 = .ok (.istore 6, 2) := by decide +kernel
theorem dX11_addCase_39 : decode cX11_addCase 39 = .ok (.aload 4, 2) := by decide +kernel
theorem dX11_addCase_41 : decode cX11_addCase 41 = .ok (.getfield 252, 3) := by decide +kernel
theorem dX11_addCase_44 : decode cX11_addCase 44 = .ok (.iload 5, 2) := by decide +kernel
theorem dX11_addCase_46 : decode cX11_addCase 46 = .ok (.iload 6, 2) := by decide +kernel
theorem dX11_addCase_48 : decode cX11_addCase 48 = .ok (.iload 6, 2) := by decide +kernel
theorem dX11_addCase_50 : decode cX11_addCase 50 = .ok (.invokevirtual 255, 3) := by decide +kernel
theorem dX11_addCase_53 : decode cX11_addCase 53 = .ok (.iinc 5 1, 3) := by decide +kernel
theorem dX11_addCase_56 : decode cX11_addCase 56 = .ok (.goto (-32), 3) := by decide +kernel
theorem dX11_addCase_59 : decode cX11_addCase 59 = .ok (.aload 4, 2) := by decide +kernel
theorem dX11_addCase_61 : decode cX11_addCase 61 = .ok (.getfield 252, 3) := by decide +kernel
theorem dX11_addCase_64 : decode cX11_addCase 64 = .ok (.astore 5, 2) := by decide +kernel
theorem dX11_addCase_66 : decode cX11_addCase 66 = .ok (.aload 4, 2) := by decide +kernel
theorem dX11_addCase_68 : decode cX11_addCase 68 = .ok (.aload_n 0, 1) := by decide +kernel
theorem dX11_addCase_69 : decode cX11_addCase 69 = .ok (.getfield 46, 3) := by decide +kernel
theorem dX11_addCase_72 : decode cX11_addCase 72 = .ok (.aload_n 1, 1) := by decide +kernel
theorem dX11_addCase_73 : decode cX11_addCase 73 = .ok (.getfield 178, 3) := by decide +kernel
theorem dX11_addCase_76 : decode cX11_addCase 76 = .ok (.iconst (-1), 1) := by decide +kernel
theorem dX11_addCase_77 : decode cX11_addCase 77 = .ok (.aload 5, 2) := by decide +kernel
theorem dX11_addCase_79 : decode cX11_addCase 79 = .ok (.iconst 0, 1) := by decide +kernel
theorem dX11_addCase_80 : decode cX11_addCase 80 = .ok (.invokevirtual 259, 3) := by decide +kernel
theorem dX11_addCase_83 : decode cX11_addCase 83 = .ok (.i2l, 1) := by decide +kernel
theorem dX11_addCase_84 : decode cX11_addCase 84 = .ok (.aload 5, 2) := by decide +kernel
theorem dX11_addCase_86 : decode cX11_addCase 86 = .ok (.iconst 1, 1) := by decide +kernel
theorem dX11_addCase_87 : decode cX11_addCase 87 = .ok (.invokevirtual 259, 3) := by decide +kernel
theorem dX11_addCase_90 : decode cX11_addCase 90 = .ok (.i2l, 1) := by decide +kernel
theorem dX11_addCase_91 : decode cX11_addCase 91 = .ok (.aload 5, 2) := by decide +kernel
theorem dX11_addCase_93 : decode cX11_addCase 93 = .ok (.iconst 2, 1) := by decide +kernel
theorem dX11_addCase_94 : decode cX11_addCase 94 = .ok (.invokevirtual 259, 3) := by decide +kernel
theorem dX11_addCase_97 : decode cX11_addCase 97 = .ok (.i2l, 1) := by decide +kernel
theorem dX11_addCase_98 : decode cX11_addCase 98 = .ok (.invokevirtual 232, 3) := by decide +kernel
theorem dX11_addCase_101 : decode cX11_addCase 101 = .ok (.putfield 262, 3) := by decide +kernel
theorem dX11_addCase_104 : decode cX11_addCase 104 = .ok (.aload 4, 2) := by decide +kernel
theorem dX11_addCase_106 : decode cX11_addCase 106 = .ok (.aload_n 0, 1) := by decide +kernel
theorem dX11_addCase_107 : decode cX11_addCase 107 = .ok (.getfield 46, 3) := by decide +kernel
theorem dX11_addCase_110 : decode cX11_addCase 110 = .ok (.invokevirtual 236, 3) := by decide +kernel
theorem dX11_addCase_113 : decode cX11_addCase 113 = .ok (.ifCond .eq 8, 3) := by decide +kernel
theorem dX11_addCase_116 : decode cX11_addCase 116 = .ok (.bipush 15, 2) := by decide +kernel
theorem dX11_addCase_118 : decode cX11_addCase 118 = .ok (.goto 5, 3) := by decide +kernel
theorem dX11_addCase_121 : decode cX11_addCase 121 = .ok (.bipush 22, 2) := by decide +kernel
theorem dX11_addCase_123 : decode cX11_addCase 123 = .ok (.putfield 266, 3) := by decide +kernel
theorem dX11_addCase_126 : decode cX11_addCase 126 = .ok (.aload_n 1, 1) := by decide +kernel
theorem dX11_addCase_127 : decode cX11_addCase 127 = .ok (.invokevirtual 269, 3) := by decide +kernel
theorem dX11_addCase_130 : decode cX11_addCase 130 = .ok (.return_, 1) := by decide +kernel
theorem dX11_isRelated_0 : decode cX11_isRelated 0 = .ok (.iload_n 0, 1) := by decide +kernel
theorem dX11_isRelated_1 : decode cX11_isRelated 1 = .ok (.tableswitch 95 22 26 #[35, 47, 59, 71, 83], 35) := by decide +kernel
theorem dX11_isRelated_36 : decode cX11_isRelated 36 = .ok (.lload_n 1, 1) := by decide +kernel
theorem dX11_isRelated_37 : decode cX11_isRelated 37 = .ok (.lload_n 3, 1) := by decide +kernel
theorem dX11_isRelated_38 : decode cX11_isRelated 38 = .ok (.lcmp, 1) := by decide +kernel
theorem dX11_isRelated_39 : decode cX11_isRelated 39 = .ok (.ifCond .ne 7, 3) := by decide +kernel
theorem dX11_isRelated_42 : decode cX11_isRelated 42 = .ok (.iconst 1, 1) := by decide +kernel
theorem dX11_isRelated_43 : decode cX11_isRelated 43 = .ok (.goto 4, 3) := by decide +kernel
theorem dX11_isRelated_46 : decode cX11_isRelated 46 = .ok (.iconst 0, 1) := by decide +kernel
theorem dX11_isRelated_47 : decode cX11_isRelated 47 = .ok (.ireturn, 1) := by decide +kernel
theorem dX11_isRelated_48 : decode cX11_isRelated 48 = .ok (.lload_n 1, 1) := by decide +kernel
theorem dX11_isRelated_49 : decode cX11_isRelated 49 = .ok (.lload_n 3, 1) := by decide +kernel
theorem dX11_isRelated_50 : decode cX11_isRelated 50 = .ok (.lcmp, 1) := by decide +kernel
theorem dX11_isRelated_51 : decode cX11_isRelated 51 = .ok (.ifCond .eq 7, 3) := by decide +kernel
theorem dX11_isRelated_54 : decode cX11_isRelated 54 = .ok (.iconst 1, 1) := by decide +kernel
theorem dX11_isRelated_55 : decode cX11_isRelated 55 = .ok (.goto 4, 3) := by decide +kernel
theorem dX11_isRelated_58 : decode cX11_isRelated 58 = .ok (.iconst 0, 1) := by decide +kernel
theorem dX11_isRelated_59 : decode cX11_isRelated 59 = .ok (.ireturn, 1) := by decide +kernel
theorem dX11_isRelated_60 : decode cX11_isRelated 60 = .ok (.lload_n 1, 1) := by decide +kernel
theorem dX11_isRelated_61 : decode cX11_isRelated 61 = .ok (.lload_n 3, 1) := by decide +kernel
theorem dX11_isRelated_62 : decode cX11_isRelated 62 = .ok (.lcmp, 1) := by decide +kernel
theorem dX11_isRelated_63 : decode cX11_isRelated 63 = .ok (.ifCond .ge 7, 3) := by decide +kernel
theorem dX11_isRelated_66 : decode cX11_isRelated 66 = .ok (.iconst 1, 1) := by decide +kernel
theorem dX11_isRelated_67 : decode cX11_isRelated 67 = .ok (.goto 4, 3) := by decide +kernel
theorem dX11_isRelated_70 : decode cX11_isRelated 70 = .ok (.iconst 0, 1) := by decide +kernel
theorem dX11_isRelated_71 : decode cX11_isRelated 71 = .ok (.ireturn, 1) := by decide +kernel
theorem dX11_isRelated_72 : decode cX11_isRelated 72 = .ok (.lload_n 1, 1) := by decide +kernel
theorem dX11_isRelated_73 : decode cX11_isRelated 73 = .ok (.lload_n 3, 1) := by decide +kernel
theorem dX11_isRelated_74 : decode cX11_isRelated 74 = .ok (.lcmp, 1) := by decide +kernel
theorem dX11_isRelated_75 : decode cX11_isRelated 75 = .ok (.ifCond .gt 7, 3) := by decide +kernel
theorem dX11_isRelated_78 : decode cX11_isRelated 78 = .ok (.iconst 1, 1) := by decide +kernel
theorem dX11_isRelated_79 : decode cX11_isRelated 79 = .ok (.goto 4, 3) := by decide +kernel
theorem dX11_isRelated_82 : decode cX11_isRelated 82 = .ok (.iconst 0, 1) := by decide +kernel
theorem dX11_isRelated_83 : decode cX11_isRelated 83 = .ok (.ireturn, 1) := by decide +kernel
theorem dX11_isRelated_84 : decode cX11_isRelated 84 = .ok (.lload_n 1, 1) := by decide +kernel
theorem dX11_isRelated_85 : decode cX11_isRelated 85 = .ok (.lload_n 3, 1) := by decide +kernel
theorem dX11_isRelated_86 : decode cX11_isRelated 86 = .ok (.lcmp, 1) := by decide +kernel
theorem dX11_isRelated_87 : decode cX11_isRelated 87 = .ok (.ifCond .le 7, 3) := by decide +kernel
theorem dX11_isRelated_90 : decode cX11_isRelated 90 = .ok (.iconst 1, 1) := by decide +kernel
theorem dX11_isRelated_91 : decode cX11_isRelated 91 = .ok (.goto 4, 3) := by decide +kernel
theorem dX11_isRelated_94 : decode cX11_isRelated 94 = .ok (.iconst 0, 1) := by decide +kernel
theorem dX11_isRelated_95 : decode cX11_isRelated 95 = .ok (.ireturn, 1) := by decide +kernel
theorem dX11_isRelated_96 : decode cX11_isRelated 96 = .ok (.lload_n 1, 1) := by decide +kernel
theorem dX11_isRelated_97 : decode cX11_isRelated 97 = .ok (.lload_n 3, 1) := by decide +kernel
theorem dX11_isRelated_98 : decode cX11_isRelated 98 = .ok (.lcmp, 1) := by decide +kernel
theorem dX11_isRelated_99 : decode cX11_isRelated 99 = .ok (.ifCond .lt 7, 3) := by decide +kernel
theorem dX11_isRelated_102 : decode cX11_isRelated 102 = .ok (.iconst 1, 1) := by decide +kernel
theorem dX11_isRelated_103 : decode cX11_isRelated 103 = .ok (.goto 4, 3) := by decide +kernel
theorem dX11_isRelated_106 : decode cX11_isRelated 106 = .ok (.iconst 0, 1) := by decide +kernel
theorem dX11_isRelated_107 : decode cX11_isRelated 107 = .ok (.ireturn, 1) := by decide +kernel
theorem dX12_init_0 : decode cX12_init 0 = .ok (.aload_n 0, 1) := by decide +kernel
theorem dX12_init_1 : decode cX12_init 1 = .ok (.invokespecial 3, 3) := by decide +kernel
theorem dX12_init_4 : decode cX12_init 4 = .ok (.aload_n 0, 1) := by decide +kernel
theorem dX12_init_5 : decode cX12_init 5 = .ok (.sipush 1500, 3) := by decide +kernel
theorem dX12_init_8 : decode cX12_init 8 = .ok (.newarray .int, 2) := by decide +kernel
theorem dX12_init_10 : decode cX12_init 10 = .ok (.putfield 9, 3) := by decide +kernel
theorem dX12_init_13 : decode cX12_init 13 = .ok (.aload_n 0, 1) := by decide +kernel
theorem dX12_init_14 : decode cX12_init 14 = .ok (.iconst (-1), 1) := by decide +kernel
theorem dX12_init_15 : decode cX12_init 15 = .ok (.putfield 13, 3) := by decide +kernel
theorem dX12_init_18 : decode cX12_init 18 = .ok (.aload_n 0, 1) := by decide +kernel
theorem dX12_init_19 : decode cX12_init 19 = .ok (.sipush 1501, 3) := by decide +kernel
theorem dX12_init_22 : decode cX12_init 22 = .ok (.newarray .int, 2) := by decide +kernel
theorem dX12_init_24 : decode cX12_init 24 = .ok (.putfield 17, 3) := by decide +kernel
theorem dX12_init_27 : decode cX12_init 27 = .ok (.aload_n 0, 1) := by decide +kernel
theorem dX12_init_28 : decode cX12_init 28 = .ok (.sipush 1501, 3) := by decide +kernel
theorem dX12_init_31 : decode cX12_init 31 = .ok (.newarray .int, 2) := by decide +kernel
theorem dX12_init_33 : decode cX12_init 33 = .ok (.putfield 20, 3) := by decide +kernel
theorem dX12_init_36 : decode cX12_init 36 = .ok (.aload_n 0, 1) := by decide +kernel
theorem dX12_init_37 : decode cX12_init 37 = .ok (.sipush 1501, 3) := by decide +kernel
theorem dX12_init_40 : decode cX12_init 40 = .ok (.newarray .int, 2) := by decide +kernel
theorem dX12_init_42 : decode cX12_init 42 = .ok (.putfield 23, 3) := by decide +kernel
theorem dX12_init_45 : decode cX12_init 45 = .ok (.aload_n 0, 1) := by decide +kernel
theorem dX12_init_46 : decode cX12_init 46 = .ok (.sipush 1501, 3) := by decide +kernel
theorem dX12_init_49 : decode cX12_init 49 = .ok (.newarray .int, 2) := by decide +kernel
theorem dX12_init_51 : decode cX12_init 51 = .ok (.putfield 26, 3) := by decide +kernel
theorem dX12_init_54 : decode cX12_init 54 = .ok (.aload_n 0, 1) := by decide +kernel
theorem dX12_init_55 : decode cX12_init 55 = .ok (.sipush 1501, 3) := by decide +kernel
theorem dX12_init_58 : decode cX12_init 58 = .ok (.newarray .int, 2) := by decide +kernel
theorem dX12_init_60 : decode cX12_init 60 = .ok (.putfield 29, 3) := by decide +kernel
theorem dX12_init_63 : decode cX12_init 63 = .ok (.aload_n 0, 1) := by decide +kernel
theorem dX12_init_64 : decode cX12_init 64 = .ok (.sipush 1500, 3) := by decide +kernel
theorem dX12_init_67 : decode cX12_init 67 = .ok (.newarray .int, 2) := by decide +kernel
theorem dX12_init_69 : decode cX12_init 69 = .ok (.putfield 32, 3) := by decide +kernel
theorem dX12_init_72 : decode cX12_init 72 = .ok (.aload_n 0, 1) := by decide +kernel
theorem dX12_init_73 : decode cX12_init 73 = .ok (.sipush 1500, 3) := by decide +kernel
theorem dX12_init_76 : decode cX12_init 76 = .ok (.newarray .int, 2) := by decide +kernel
theorem dX12_init_78 : decode cX12_init 78 = .ok (.putfield 35, 3) := by decide +kernel
theorem dX12_init_81 : decode cX12_init 81 = .ok (.aload_n 0, 1) := by decide +kernel
theorem dX12_init_82 : decode cX12_init 82 = .ok (.sipush 1500, 3) := by decide +kernel
theorem dX12_init_85 : decode cX12_init 85 = .ok (.newarray .int, 2) := by decide +kernel
theorem dX12_init_87 : decode cX12_init 87 = .ok (.putfield 38, 3) := by decide +kernel
theorem dX12_init_90 : decode cX12_init 90 = .ok (.aload_n 0, 1) := by decide +kernel
theorem dX12_init_91 : decode cX12_init 91 = .ok (.sipush 1500, 3) := by decide +kernel
theorem dX12_init_94 : decode cX12_init 94 = .ok (.newarray .int, 2) := by decide +kernel
theorem dX12_init_96 : decode cX12_init 96 = .ok (.putfield 41, 3) := by decide +kernel
theorem dX12_init_99 : decode cX12_init 99 = .ok (.aload_n 0, 1) := by decide +kernel
theorem dX12_init_100 : decode cX12_init 100 = .ok (.sipush 1500, 3) := by decide +kernel
theorem dX12_init_103 : decode cX12_init 103 = .ok (.newarray .int, 2) := by decide +kernel
theorem dX12_init_105 : decode cX12_init 105 = .ok (.putfield 44, 3) := by decide +kernel
theorem dX12_init_108 : decode cX12_init 108 = .ok (.aload_n 0, 1) := by decide +kernel
theorem dX12_init_109 : decode cX12_init 109 = .ok (.sipush 1500, 3) := by decide +kernel
theorem dX12_init_112 : decode cX12_init 112 = .ok (.newarray .int, 2) := by decide +kernel
theorem dX12_init_114 : decode cX12_init 114 = .ok (.putfield 47, 3) := by decide +kernel
theorem dX12_init_117 : decode cX12_init 117 = .ok (.aload_n 0, 1) := by decide +kernel
theorem dX12_init_118 : decode cX12_init 118 = .ok (.bipush 6, 2) := by decide +kernel
theorem dX12_init_120 : decode cX12_init 120 = .ok (.newarray .long, 2) := by decide +kernel
theorem dX12_init_122 : decode cX12_init 122 = .ok (.putfield 50, 3) := by decide +kernel
theorem dX12_init_125 : decode cX12_init 125 = .ok (.aload_n 0, 1) := by decide +kernel
theorem dX12_init_126 : decode cX12_init 126 = .ok (.bipush 6, 2) := by decide +kernel
theorem dX12_init_128 : decode cX12_init 128 = .ok (.newarray .int, 2) := by decide +kernel
theorem dX12_init_130 : decode cX12_init 130 = .ok (.putfield 54, 3) := by decide +kernel
theorem dX12_init_133 : decode cX12_init 133 = .ok (.aload_n 0, 1) := by decide +kernel
theorem dX12_init_134 : decode cX12_init 134 = .ok (.bipush 18, 2) := by decide +kernel
theorem dX12_init_136 : decode cX12_init 136 = .ok (.newarray .long, 2) := by decide +kernel
theorem dX12_init_138 : decode cX12_init 138 = .ok (.putfield 57, 3) := by decide +kernel
theorem dX12_init_141 : decode cX12_init 141 = .ok (.aload_n 0, 1) := by decide +kernel
theorem dX12_init_142 : decode cX12_init 142 = .ok (.bipush 18, 2) := by decide +kernel
theorem dX12_init_144 : decode cX12_init 144 = .ok (.newarray .int, 2) := by decide +kernel
theorem dX12_init_146 : decode cX12_init 146 = .ok (.putfield 60, 3) := by decide +kernel
theorem dX12_init_149 : decode cX12_init 149 = .ok (.aload_n 0, 1) := by decide +kernel
theorem dX12_init_150 : decode cX12_init 150 = .ok (.bipush 18, 2) := by decide +kernel
theorem dX12_init_152 : decode cX12_init 152 = .ok (.newarray .int, 2) := by decide +kernel
theorem dX12_init_154 : decode cX12_init 154 = .ok (.putfield 63, 3) := by decide +kernel
theorem dX12_init_157 : decode cX12_init 157 = .ok (.aload_n 0, 1) := by decide +kernel
theorem dX12_init_158 : decode cX12_init 158 = .ok (.bipush 6, 2) := by decide +kernel
theorem dX12_init_160 : decode cX12_init 160 = .ok (.newarray .int, 2) := by decide +kernel
theorem dX12_init_162 : decode cX12_init 162 = .ok (.putfield 66, 3) := by decide +kernel
theorem dX12_init_165 : decode cX12_init 165 = .ok (.aload_n 0, 1) := by decide +kernel
theorem dX12_init_166 : decode cX12_init 166 = .ok (.bipush 6, 2) := by decide +kernel
theorem dX12_init_168 : decode cX12_init 168 = .ok (.newarray .int, 2) := by decide +kernel
theorem dX12_init_170 : decode cX12_init 170 = .ok (.putfield 69, 3) := by decide +kernel
theorem dX12_init_173 : decode cX12_init 173 = .ok (.aload_n 0, 1) := by decide +kernel
theorem dX12_init_174 : decode cX12_init 174 = .ok (.bipush 6, 2) := by decide +kernel
theorem dX12_init_176 : decode cX12_init 176 = .ok (.newarray .int, 2) := by decide +kernel
theorem dX12_init_178 : decode cX12_init 178 = .ok (.putfield 72, 3) := by decide +kernel
theorem dX12_init_181 : decode cX12_init 181 = .ok (.aload_n 0, 1) := by decide +kernel
theorem dX12_init_182 : decode cX12_init 182 = .ok (.bipush 6, 2) := by decide +kernel
theorem dX12_init_184 : decode cX12_init 184 = .ok (.newarray .long, 2) := by decide +kernel
theorem dX12_init_186 : decode cX12_init 186 = .ok (.putfield 75, 3) := by decide +kernel
theorem dX12_init_189 : decode cX12_init 189 = .ok (.aload_n 0, 1) := by decide +kernel
theorem dX12_init_190 : decode cX12_init 190 = .ok (.bipush 6, 2) := by decide +kernel
theorem dX12_init_192 : decode cX12_init 192 = .ok (.newarray .int, 2) := by decide +kernel
theorem dX12_init_194 : decode cX12_init 194 = .ok (.putfield 78, 3) := by decide +kernel
theorem dX12_init_197 : decode cX12_init 197 = .ok (.aload_n 0, 1) := by decide +kernel
theorem dX12_init_198 : decode cX12_init 198 = .ok (.bipush 6, 2) := by decide +kernel
theorem dX12_init_200 : decode cX12_init 200 = .ok (.newarray .int, 2) := by decide +kernel
theorem dX12_init_202 : decode cX12_init 202 = .ok (.putfield 81, 3) := by decide +kernel
theorem dX12_init_205 : decode cX12_init 205 = .ok (.aload_n 0, 1) := by decide +kernel
theorem dX12_init_206 : decode cX12_init 206 = .ok (.sipush 216, 3) := by decide +kernel
theorem dX12_init_209 : decode cX12_init 209 = .ok (.newarray .int, 2) := by decide +kernel
theorem dX12_init_211 : decode cX12_init 211 = .ok (.putfield 84, 3) := by decide +kernel
theorem dX12_init_214 : decode cX12_init 214 = .ok (.aload_n 0, 1) := by decide +kernel
theorem dX12_init_215 : decode cX12_init 215 = .ok (.sipush 216, 3) := by decide +kernel
theorem dX12_init_218 : decode cX12_init 218 = .ok (.newarray .int, 2) := by decide +kernel
theorem dX12_init_220 : decode cX12_init 220 = .ok (.putfield 87, 3) := by decide +kernel
theorem dX12_init_223 : decode cX12_init 223 = .ok (.aload_n 0, 1) := by decide +kernel
theorem dX12_init_224 : decode cX12_init 224 = .ok (.bipush 72, 2) := by decide +kernel
theorem dX12_init_226 : decode cX12_init 226 = .ok (.newarray .int, 2) := by decide +kernel
theorem dX12_init_228 : decode cX12_init 228 = .ok (.putfield 90, 3) := by decide +kernel
theorem dX12_init_231 : decode cX12_init 231 = .ok (.aload_n 0, 1) := by decide +kernel
theorem dX12_init_232 : decode cX12_init 232 = .ok (.bipush 72, 2) := by decide +kernel
theorem dX12_init_234 : decode cX12_init 234 = .ok (.newarray .long, 2) := by decide +kernel
theorem dX12_init_236 : decode cX12_init 236 = .ok (.putfield 93, 3) := by decide +kernel
theorem dX12_init_239 : decode cX12_init 239 = .ok (.aload_n 0, 1) := by decide +kernel
theorem dX12_init_240 : decode cX12_init 240 = .ok (.sipush 1500, 3) := by decide +kernel
theorem dX12_init_243 : decode cX12_init 243 = .ok (.newarray .int, 2) := by decide +kernel
theorem dX12_init_245 : decode cX12_init 245 = .ok (.putfield 96, 3) := by decide +kernel
theorem dX12_init_248 : decode cX12_init 248 = .ok (.aload_n 0, 1) := by decide +kernel
theorem dX12_init_249 : decode cX12_init 249 = .ok (.sipush 1500, 3) := by decide +kernel
theorem dX12_init_252 : decode cX12_init 252 = .ok (.newarray .int, 2) := by decide +kernel
theorem dX12_init_254 : decode cX12_init 254 = .ok (.putfield 99, 3) := by decide +kernel
theorem dX12_init_257 : decode cX12_init 257 = .ok (.aload_n 0, 1) := by decide +kernel
theorem dX12_init_258 : decode cX12_init 258 = .ok (.sipush 6724, 3) := by decide +kernel
theorem dX12_init_261 : decode cX12_init 261 = .ok (.newarray .boolean, 2) := by decide +kernel
theorem dX12_init_263 : decode cX12_init 263 = .ok (.putfield 102, 3) := by decide +kernel
theorem dX12_init_266 : decode cX12_init 266 = .ok (.aload_n 0, 1) := by decide +kernel
theorem dX12_init_267 : decode cX12_init 267 = .ok (.iconst 3, 1) := by decide +kernel
theorem dX12_init_268 : decode cX12_init 268 = .ok (.newarray .int, 2) := by decide +kernel
theorem dX12_init_270 : decode cX12_init 270 = .ok (.putfield 106, 3) := by decide +kernel
theorem dX12_init_273 : decode cX12_init 273 = .ok (.return_, 1) := by decide +kernel
theorem dX12_thrown_0 : decode cX12_thrown 0 = .ok (.aload_n 0, 1) := by decide +kernel
theorem dX12_thrown_1 : decode cX12_thrown 1 = .ok (.getfield 109, 3) := by decide +kernel
theorem dX12_thrown_4 : decode cX12_thrown 4 = .ok (.ireturn, 1) := by decide +kernel
theorem dX12_no_0 : decode cX12_no 0 = .ok (.aload_n 0, 1) := by decide +kernel
theorem dX12_no_1 : decode cX12_no 1 = .ok (.iload_n 1, 1) := by decide +kernel
theorem dX12_no_2 : decode cX12_no 2 = .ok (.putfield 109, 3) := by decide +kernel
theorem dX12_no_5 : decode cX12_no 5 = .ok (.iconst 0, 1) := by decide +kernel
theorem dX12_no_6 : decode cX12_no 6 = .ok (.ireturn, 1) := by decide +kernel
theorem dX12_isIn_0 : decode cX12_isIn 0 = .ok (.iload_n 0, 1) := by decide +kernel
theorem dX12_isIn_1 : decode cX12_isIn 1 = .ok (.iload_n 1, 1) := by decide +kernel
theorem dX12_isIn_2 : decode cX12_isIn 2 = .ok (.if_icmp .lt 12, 3) := by decide +kernel
theorem dX12_isIn_5 : decode cX12_isIn 5 = .ok (.iload_n 0, 1) := by decide +kernel
theorem dX12_isIn_6 : decode cX12_isIn 6 = .ok (.iload_n 2, 1) := by decide +kernel
theorem dX12_isIn_7 : decode cX12_isIn 7 = .ok (.if_icmp .gt 7, 3) := by decide +kernel
theorem dX12_isIn_10 : decode cX12_isIn 10 = .ok (.iconst 1, 1) := by decide +kernel
theorem dX12_isIn_11 : decode cX12_isIn 11 = .ok (.goto 4, 3) := by decide +kernel
theorem dX12_isIn_14 : decode cX12_isIn 14 = .ok (.iconst 0, 1) := by decide +kernel
theorem dX12_isIn_15 : decode cX12_isIn 15 = .ok (.ireturn, 1) := by decide +kernel
theorem dX12_feed_0 : decode cX12_feed 0 = .ok (.aload_n 0, 1) := by decide +kernel
theorem dX12_feed_1 : decode cX12_feed 1 = .ok (.iconst 0, 1) := by decide +kernel
theorem dX12_feed_2 : decode cX12_feed 2 = .ok (.putfield 109, 3) := by decide +kernel
theorem dX12_feed_5 : decode cX12_feed 5 = .ok (.aload_n 0, 1) := by decide +kernel
theorem dX12_feed_6 : decode cX12_feed 6 = .ok (.getfield 112, 3) := by decide +kernel
theorem dX12_feed_9 : decode cX12_feed 9 = .ok (.bipush 20, 2) := by decide +kernel
theorem dX12_feed_11 : decode cX12_feed 11 = .ok (.iadd, 1) := by decide +kernel
theorem dX12_feed_12 : decode cX12_feed 12 = .ok (.sipush 1500, 3) := by decide +kernel
theorem dX12_feed_15 : decode cX12_feed 15 = .ok (.if_icmp .le 9, 3) := by decide +kernel
theorem dX12_feed_18 : decode cX12_feed 18 = .ok (.aload_n 0, 1) := by decide +kernel
theorem dX12_feed_19 : decode cX12_feed 19 = .ok (.iconst 1, 1) := by decide +kernel
theorem dX12_feed_20 : decode cX12_feed 20 = .ok (.invokevirtual 115, 3) := by decide +kernel
theorem dX12_feed_23 : decode cX12_feed 23 = .ok (.ireturn, 1) := by decide +kernel
theorem dX12_feed_24 : decode cX12_feed 24 = .ok (.iconst 5, 1) := by decide +kernel
theorem dX12_feed_25 : decode cX12_feed 25 = .ok (.newarray .int, 2) := by decide +kernel
theorem dX12_feed_27 : decode cX12_feed 27 = .ok (.dup, 1) := by decide +kernel
theorem dX12_feed_28 : decode cX12_feed 28 = .ok (.iconst 0, 1) := by decide +kernel
theorem dX12_feed_29 : decode cX12_feed 29 = .ok (.iload_n 1, 1) := by decide +kernel
theorem dX12_feed_30 : decode cX12_feed 30 = .ok (.iastore, 1) := by decide +kernel
theorem dX12_feed_31 : decode cX12_feed 31 = .ok (.dup, 1) := by decide +kernel
theorem dX12_feed_32 : decode cX12_feed 32 = .ok (.iconst 1, 1) := by decide +kernel
theorem dX12_feed_33 : decode cX12_feed 33 = .ok (.iload_n 2, 1) := by decide +kernel
theorem dX12_feed_34 : decode cX12_feed 34 = .ok (.iastore, 1) := by decide +kernel
theorem dX12_feed_35 : decode cX12_feed 35 = .ok (.dup, 1) := by decide +kernel
theorem dX12_feed_36 : decode cX12_feed 36 = .ok (.iconst 2, 1) := by decide +kernel
theorem dX12_feed_37 : decode cX12_feed 37 = .ok (.iload_n 3, 1) := by decide +kernel
theorem dX12_feed_38 : decode cX12_feed 38 = .ok (.iastore, 1) := by decide +kernel
theorem dX12_feed_39 : decode cX12_feed 39 = .ok (.dup, 1) := by decide +kernel
theorem dX12_feed_40 : decode cX12_feed 40 = .ok (.iconst 3, 1) := by decide +kernel
theorem dX12_feed_41 : decode cX12_feed 41 = .ok (.iload 4, 2) := by decide +kernel
theorem dX12_feed_43 : decode cX12_feed 43 = .ok (.iastore, 1) := by decide +kernel
theorem dX12_feed_44 : decode cX12_feed 44 = .ok (.dup, 1) := by decide +kernel
theorem dX12_feed_45 : decode cX12_feed 45 = .ok (.iconst 4, 1) := by decide +kernel
theorem dX12_feed_46 : decode cX12_feed 46 = .ok (.iload 5, 2) := by decide +kernel
theorem dX12_feed_48 : decode cX12_feed 48 = .ok (.iastore, 1) := by decide +kernel
theorem dX12_feed_49 : decode cX12_feed 49 = .ok (.astore 6, 2) := by decide +kernel
theorem dX12_feed_51 : decode cX12_feed 51 = .ok (.aload 6, 2) := by decide +kernel
theorem dX12_feed_53 : decode cX12_feed 53 = .ok (.astore 7, 2) := by decide +kernel
theorem dX12_feed_55 : decode cX12_feed 55 = .ok (.aload 7, 2) := by decide +kernel
theorem dX12_feed_57 : decode cX12_feed 57 = .ok (.arraylength, 1) := by decide +kernel
theorem dX12_feed_58 : decode cX12_feed 58 = .ok (.istore 8, 2) := by decide +kernel
theorem dX12_feed_60 : decode cX12_feed 60 = .ok (.iconst 0, 1) := by decide +kernel
theorem dX12_feed_61 : decode cX12_feed 61 = .ok (.istore 9, 2) := by decide +kernel
theorem dX12_feed_63 : decode cX12_feed 63 = .ok (.iload 9, 2) := by decide +kernel
theorem dX12_feed_65 : decode cX12_feed 65 = .ok (.iload 8, 2) := by decide +kernel
theorem dX12_feed_67 : decode cX12_feed 67 = .ok (.if_icmp .ge 61, 3) := by decide +kernel
theorem dX12_feed_70 : decode cX12_feed 70 = .ok (.aload 7, 2) := by decide +kernel
theorem dX12_feed_72 : decode cX12_feed 72 = .ok (.iload 9, 2) := by decide +kernel
theorem dX12_feed_74 : decode cX12_feed 74 = .ok (.iaload, 1) := by decide +kernel
theorem dX12_feed_75 : decode cX12_feed 75 = .ok (.istore 10, 2) := by decide +kernel
theorem dX12_feed_77 : decode cX12_feed 77 = .ok (.iconst 3, 1) := by decide +kernel
theorem dX12_feed_78 : decode cX12_feed 78 = .ok (.istore 11, 2) := by decide +kernel
theorem dX12_feed_80 : decode cX12_feed 80 = .ok (.iload 11, 2) := by decide +kernel
theorem dX12_feed_82 : decode cX12_feed 82 = .ok (.ifCond .lt 40, 3) := by decide +kernel
theorem dX12_feed_85 : decode cX12_feed 85 = .ok (.aload_n 0, 1) := by decide +kernel
theorem dX12_feed_86 : decode cX12_feed 86 = .ok (.getfield 9, 3) := by decide +kernel
theorem dX12_feed_89 : decode cX12_feed 89 = .ok (.aload_n 0, 1) := by decide +kernel
theorem dX12_feed_90 : decode cX12_feed 90 = .ok (.getfield 112, 3) := by decide +kernel
theorem dX12_feed_93 : decode cX12_feed 93 = .ok (.iload 10, 2) := by decide +kernel
theorem dX12_feed_95 : decode cX12_feed 95 = .ok (.bipush 8, 2) := by decide +kernel
theorem dX12_feed_97 : decode cX12_feed 97 = .ok (.iload 11, 2) := by decide +kernel
theorem dX12_feed_99 : decode cX12_feed 99 = .ok (.imul, 1) := by decide +kernel
theorem dX12_feed_100 : decode cX12_feed 100 = .ok (.ishr, 1) := by decide +kernel
theorem dX12_feed_101 : decode cX12_feed 101 = .ok (.sipush 255, 3) := by decide +kernel
theorem dX12_feed_104 : decode cX12_feed 104 = .ok (.iand, 1) := by decide +kernel
theorem dX12_feed_105 : decode cX12_feed 105 = .ok (.iastore, 1) := by decide +kernel
theorem dX12_feed_106 : decode cX12_feed 106 = .ok (.aload_n 0, 1) := by decide +kernel
theorem dX12_feed_107 : decode cX12_feed 107 = .ok (.dup, 1) := by decide +kernel
theorem dX12_feed_108 : decode cX12_feed 108 = .ok (.getfield 112, 3) := by decide +kernel
theorem dX12_feed_111 : decode cX12_feed 111 = .ok (.iconst 1, 1) := by decide +kernel
theorem dX12_feed_112 : decode cX12_feed 112 = .ok (.iadd, 1) := by decide +kernel
theorem dX12_feed_113 : decode cX12_feed 113 = .ok (.putfield 112, 3) := by decide +kernel
theorem dX12_feed_116 : decode cX12_feed 116 = .ok (.iinc 11 (-1), 3) := by decide +kernel
theorem dX12_feed_119 : decode cX12_feed 119 = .ok (.goto (-39), 3) := by decide +kernel
theorem dX12_feed_122 : decode cX12_feed 122 = .ok (.iinc 9 1, 3) := by decide +kernel
theorem dX12_feed_125 : decode cX12_feed 125 = .ok (.goto (-62), 3) := by decide +kernel
theorem dX12_feed_128 : decode cX12_feed 128 = .ok (.aload_n 0, 1) := by decide +kernel
theorem dX12_feed_129 : decode cX12_feed 129 = .ok (.getfield 112, 3) := by decide +kernel
theorem dX12_feed_132 : decode cX12_feed 132 = .ok (.ireturn, 1) := by decide +kernel
theorem dX12_trim_0 : decode cX12_trim 0 = .ok (.aload_n 0, 1) := by decide +kernel
theorem dX12_trim_1 : decode cX12_trim 1 = .ok (.iconst 0, 1) := by decide +kernel
theorem dX12_trim_2 : decode cX12_trim 2 = .ok (.putfield 109, 3) := by decide +kernel
theorem dX12_trim_5 : decode cX12_trim 5 = .ok (.iload_n 1, 1) := by decide +kernel
theorem dX12_trim_6 : decode cX12_trim 6 = .ok (.iconst 0, 1) := by decide +kernel
theorem dX12_trim_7 : decode cX12_trim 7 = .ok (.aload_n 0, 1) := by decide +kernel
theorem dX12_trim_8 : decode cX12_trim 8 = .ok (.getfield 112, 3) := by decide +kernel
theorem dX12_trim_11 : decode cX12_trim 11 = .ok (.invokestatic 119, 3) := by decide +kernel
theorem dX12_trim_14 : decode cX12_trim 14 = .ok (.ifCond .ne 9, 3) := by decide +kernel
theorem dX12_trim_17 : decode cX12_trim 17 = .ok (.aload_n 0, 1) := by decide +kernel
theorem dX12_trim_18 : decode cX12_trim 18 = .ok (.iconst 1, 1) := by decide +kernel
theorem dX12_trim_19 : decode cX12_trim 19 = .ok (.invokevirtual 115, 3) := by decide +kernel
theorem dX12_trim_22 : decode cX12_trim 22 = .ok (.ireturn, 1) := by decide +kernel
theorem dX12_trim_23 : decode cX12_trim 23 = .ok (.aload_n 0, 1) := by decide +kernel
theorem dX12_trim_24 : decode cX12_trim 24 = .ok (.iload_n 1, 1) := by decide +kernel
theorem dX12_trim_25 : decode cX12_trim 25 = .ok (.putfield 112, 3) := by decide +kernel
theorem dX12_trim_28 : decode cX12_trim 28 = .ok (.iload_n 1, 1) := by decide +kernel
theorem dX12_trim_29 : decode cX12_trim 29 = .ok (.ireturn, 1) := by decide +kernel
theorem dX12_byteAt_0 : decode cX12_byteAt 0 = .ok (.iload_n 1, 1) := by decide +kernel
theorem dX12_byteAt_1 : decode cX12_byteAt 1 = .ok (.aload_n 0, 1) := by decide +kernel
theorem dX12_byteAt_2 : decode cX12_byteAt 2 = .ok (.getfield 112, 3) := by decide +kernel
theorem dX12_byteAt_5 : decode cX12_byteAt 5 = .ok (.if_icmp .ge 12, 3) := by decide +kernel
theorem dX12_byteAt_8 : decode cX12_byteAt 8 = .ok (.aload_n 0, 1) := by decide +kernel
theorem dX12_byteAt_9 : decode cX12_byteAt 9 = .ok (.getfield 9, 3) := by decide +kernel
theorem dX12_byteAt_12 : decode cX12_byteAt 12 = .ok (.iload_n 1, 1) := by decide +kernel
theorem dX12_byteAt_13 : decode cX12_byteAt 13 = .ok (.iaload, 1) := by decide +kernel
theorem dX12_byteAt_14 : decode cX12_byteAt 14 = .ok (.goto 4, 3) := by decide +kernel
theorem dX12_byteAt_17 : decode cX12_byteAt 17 = .ok (.iconst (-1), 1) := by decide +kernel
theorem dX12_byteAt_18 : decode cX12_byteAt 18 = .ok (.ireturn, 1) := by decide +kernel
theorem dX12_isLetter_0 : decode cX12_isLetter 0 = .ok (.iload_n 0, 1) := by decide +kernel
theorem dX12_isLetter_1 : decode cX12_isLetter 1 = .ok (.bipush 97, 2) := by decide +kernel
theorem dX12_isLetter_3 : decode cX12_isLetter 3 = .ok (.bipush 122, 2) := by decide +kernel
theorem dX12_isLetter_5 : decode cX12_isLetter 5 = .ok (.invokestatic 119, 3) := by decide +kernel
theorem dX12_isLetter_8 : decode cX12_isLetter 8 = .ok (.ireturn, 1) := by decide +kernel
theorem dX12_isDigit_0 : decode cX12_isDigit 0 = .ok (.iload_n 0, 1) := by decide +kernel
theorem dX12_isDigit_1 : decode cX12_isDigit 1 = .ok (.bipush 48, 2) := by decide +kernel
theorem dX12_isDigit_3 : decode cX12_isDigit 3 = .ok (.bipush 57, 2) := by decide +kernel
theorem dX12_isDigit_5 : decode cX12_isDigit 5 = .ok (.invokestatic 119, 3) := by decide +kernel
theorem dX12_isDigit_8 : decode cX12_isDigit 8 = .ok (.ireturn, 1) := by decide +kernel
theorem dX12_symbolAt_0 : decode cX12_symbolAt 0 = .ok (.aload_n 0, 1) := by decide +kernel
theorem dX12_symbolAt_1 : decode cX12_symbolAt 1 = .ok (.iload_n 1, 1) := by decide +kernel
theorem dX12_symbolAt_2 : decode cX12_symbolAt 2 = .ok (.invokevirtual 123, 3) := by decide +kernel
theorem dX12_symbolAt_5 : decode cX12_symbolAt 5 = .ok (.istore_n 2, 1) := by decide +kernel
theorem dX12_symbolAt_6 : decode cX12_symbolAt 6 = .ok (.aload_n 0, 1) := by decide +kernel
theorem dX12_symbolAt_7 : decode cX12_symbolAt 7 = .ok (.iload_n 1, 1) := by decide +kernel
theorem dX12_symbolAt_8 : decode cX12_symbolAt 8 = .ok (.iconst 1, 1) := by decide +kernel
theorem dX12_symbolAt_9 : decode cX12_symbolAt 9 = .ok (.iadd, 1) := by decide +kernel
theorem dX12_symbolAt_10 : decode cX12_symbolAt 10 = .ok (.invokevirtual 123, 3) := by decide +kernel
theorem dX12_symbolAt_13 : decode cX12_symbolAt 13 = .ok (.istore_n 3, 1) := by decide +kernel
theorem dX12_symbolAt_14 : decode cX12_symbolAt 14 = .ok (.iload_n 2, 1) := by decide +kernel
theorem dX12_symbolAt_15 : decode cX12_symbolAt 15 = .ok (.bipush 46, 2) := by decide +kernel
theorem dX12_symbolAt_17 : decode cX12_symbolAt 17 = .ok (.if_icmp .ne 15, 3) := by decide +kernel
theorem dX12_symbolAt_20 : decode cX12_symbolAt 20 = .ok (.iload_n 3, 1) := by decide +kernel
theorem dX12_symbolAt_21 : decode cX12_symbolAt 21 = .ok (.bipush 46, 2) := by decide +kernel
theorem dX12_symbolAt_23 : decode cX12_symbolAt 23 = .ok (.if_icmp .ne 7, 3) := by decide +kernel
theorem dX12_symbolAt_26 : decode cX12_symbolAt 26 = .ok (.iconst 2, 1) := by decide +kernel
theorem dX12_symbolAt_27 : decode cX12_symbolAt 27 = .ok (.goto 4, 3) := by decide +kernel
theorem dX12_symbolAt_30 : decode cX12_symbolAt 30 = .ok (.iconst 0, 1) := by decide +kernel
theorem dX12_symbolAt_31 : decode cX12_symbolAt 31 = .ok (.ireturn, 1) := by decide +kernel
theorem dX12_symbolAt_32 : decode cX12_symbolAt 32 = .ok (.iload_n 2, 1) := by decide +kernel
theorem dX12_symbolAt_33 : decode cX12_symbolAt 33 = .ok (.bipush 60, 2) := by decide +kernel
theorem dX12_symbolAt_35 : decode cX12_symbolAt 35 = .ok (.if_icmp .ne 15, 3) := by decide +kernel
theorem dX12_symbolAt_38 : decode cX12_symbolAt 38 = .ok (.iload_n 3, 1) := by decide +kernel
theorem dX12_symbolAt_39 : decode cX12_symbolAt 39 = .ok (.bipush 61, 2) := by decide +kernel
theorem dX12_symbolAt_41 : decode cX12_symbolAt 41 = .ok (.if_icmp .eq 21, 3) := by decide +kernel
theorem dX12_symbolAt_44 : decode cX12_symbolAt 44 = .ok (.iload_n 3, 1) := by decide +kernel
theorem dX12_symbolAt_45 : decode cX12_symbolAt 45 = .ok (.bipush 62, 2) := by decide +kernel
theorem dX12_symbolAt_47 : decode cX12_symbolAt 47 = .ok (.if_icmp .eq 15, 3) := by decide +kernel
theorem dX12_symbolAt_50 : decode cX12_symbolAt 50 = .ok (.iload_n 2, 1) := by decide +kernel
theorem dX12_symbolAt_51 : decode cX12_symbolAt 51 = .ok (.bipush 62, 2) := by decide +kernel
theorem dX12_symbolAt_53 : decode cX12_symbolAt 53 = .ok (.if_icmp .ne 11, 3) := by decide +kernel
theorem dX12_symbolAt_56 : decode cX12_symbolAt 56 = .ok (.iload_n 3, 1) := by decide +kernel
theorem dX12_symbolAt_57 : decode cX12_symbolAt 57 = .ok (.bipush 61, 2) := by decide +kernel
theorem dX12_symbolAt_59 : decode cX12_symbolAt 59 = .ok (.if_icmp .ne 5, 3) := by decide +kernel
theorem dX12_symbolAt_62 : decode cX12_symbolAt 62 = .ok (.iconst 2, 1) := by decide +kernel
theorem dX12_symbolAt_63 : decode cX12_symbolAt 63 = .ok (.ireturn, 1) := by decide +kernel
theorem dX12_symbolAt_64 : decode cX12_symbolAt 64 = .ok (.iload_n 2, 1) := by decide +kernel
theorem dX12_symbolAt_65 : decode cX12_symbolAt 65 = .ok (.ifCond .le 16, 3) := by decide +kernel
theorem dX12_symbolAt_68 : decode cX12_symbolAt 68 = .ok (.ldc 126, 2) := by decide +kernel
theorem dX12_symbolAt_70 : decode cX12_symbolAt 70 = .ok (.iload_n 2, 1) := by decide +kernel
theorem dX12_symbolAt_71 : decode cX12_symbolAt 71 = .ok (.invokevirtual 128, 3) := by decide +kernel
theorem dX12_symbolAt_74 : decode cX12_symbolAt 74 = .ok (.ifCond .lt 7, 3) := by decide +kernel
theorem dX12_symbolAt_77 : decode cX12_symbolAt 77 = .ok (.iconst 1, 1) := by decide +kernel
theorem dX12_symbolAt_78 : decode cX12_symbolAt 78 = .ok (.goto 4, 3) := by decide +kernel
theorem dX12_symbolAt_81 : decode cX12_symbolAt 81 = .ok (.iconst 0, 1) := by decide +kernel
theorem dX12_symbolAt_82 : decode cX12_symbolAt 82 = .ok (.ireturn, 1) := by decide +kernel
theorem dX12_scan_0 : decode cX12_scan 0 = .ok (.iconst 0, 1) := by decide +kernel
theorem dX12_scan_1 : decode cX12_scan 1 = .ok (.istore_n 1, 1) := by decide +kernel
theorem dX12_scan_2 : decode cX12_scan 2 = .ok (.iconst 0, 1) := by decide +kernel
theorem dX12_scan_3 : decode cX12_scan 3 = .ok (.istore_n 2, 1) := by decide +kernel
theorem dX12_scan_4 : decode cX12_scan 4 = .ok (.iconst 1, 1) := by decide +kernel
theorem dX12_scan_5 : decode cX12_scan 5 = .ok (.istore_n 3, 1) := by decide +kernel
theorem dX12_scan_6 : decode cX12_scan 6 = .ok (.iload_n 3, 1) := by decide +kernel
theorem dX12_scan_7 : decode cX12_scan 7 = .ok (.ifCond .eq 222, 3) := by decide +kernel
theorem dX12_scan_10 : decode cX12_scan 10 = .ok (.aload_n 0, 1) := by decide +kernel
theorem dX12_scan_11 : decode cX12_scan 11 = .ok (.iload_n 2, 1) := by decide +kernel
theorem dX12_scan_12 : decode cX12_scan 12 = .ok (.invokevirtual 123, 3) := by decide +kernel
theorem dX12_scan_15 : decode cX12_scan 15 = .ok (.bipush 32, 2) := by decide +kernel
theorem dX12_scan_17 : decode cX12_scan 17 = .ok (.if_icmp .eq 13, 3) := by decide +kernel
theorem dX12_scan_20 : decode cX12_scan 20 = .ok (.aload_n 0, 1) := by decide +kernel
theorem dX12_scan_21 : decode cX12_scan 21 = .ok (.iload_n 2, 1) := by decide +kernel
theorem dX12_scan_22 : decode cX12_scan 22 = .ok (.invokevirtual 123, 3) := by decide +kernel
theorem dX12_scan_25 : decode cX12_scan 25 = .ok (.bipush 10, 2) := by decide +kernel
theorem dX12_scan_27 : decode cX12_scan 27 = .ok (.if_icmp .ne 9, 3) := by decide +kernel
theorem dX12_scan_30 : decode cX12_scan 30 = .ok (.iinc 2 1, 3) := by decide +kernel
theorem dX12_scan_33 : decode cX12_scan 33 = .ok (.goto (-23), 3) := by decide +kernel
theorem dX12_scan_36 : decode cX12_scan 36 = .ok (.iload_n 2, 1) := by decide +kernel
theorem dX12_scan_37 : decode cX12_scan 37 = .ok (.istore 4, 2) := by decide +kernel
theorem dX12_scan_39 : decode cX12_scan 39 = .ok (.iconst 0, 1) := by decide +kernel
theorem dX12_scan_40 : decode cX12_scan 40 = .ok (.istore 5, 2) := by decide +kernel
theorem dX12_scan_42 : decode cX12_scan 42 = .ok (.aload_n 0, 1) := by decide +kernel
theorem dX12_scan_43 : decode cX12_scan 43 = .ok (.iload_n 2, 1) := by decide +kernel
theorem dX12_scan_44 : decode cX12_scan 44 = .ok (.invokevirtual 123, 3) := by decide +kernel
theorem dX12_scan_47 : decode cX12_scan 47 = .ok (.invokestatic 133, 3) := by decide +kernel
theorem dX12_scan_50 : decode cX12_scan 50 = .ok (.ifCond .eq 52, 3) := by decide +kernel
theorem dX12_scan_53 : decode cX12_scan 53 = .ok (.aload_n 0, 1) := by decide +kernel
theorem dX12_scan_54 : decode cX12_scan 54 = .ok (.iload 4, 2) := by decide +kernel
theorem dX12_scan_56 : decode cX12_scan 56 = .ok (.invokevirtual 123, 3) := by decide +kernel
theorem dX12_scan_59 : decode cX12_scan 59 = .ok (.invokestatic 133, 3) := by decide +kernel
theorem dX12_scan_62 : decode cX12_scan 62 = .ok (.ifCond .ne 15, 3) := by decide +kernel
theorem dX12_scan_65 : decode cX12_scan 65 = .ok (.aload_n 0, 1) := by decide +kernel
theorem dX12_scan_66 : decode cX12_scan 66 = .ok (.iload 4, 2) := by decide +kernel
theorem dX12_scan_68 : decode cX12_scan 68 = .ok (.invokevirtual 123, 3) := by decide +kernel
theorem dX12_scan_71 : decode cX12_scan 71 = .ok (.invokestatic 137, 3) := by decide +kernel
theorem dX12_scan_74 : decode cX12_scan 74 = .ok (.ifCond .eq 9, 3) := by decide +kernel
theorem dX12_scan_77 : decode cX12_scan 77 = .ok (.iinc 4 1, 3) := by decide +kernel
theorem dX12_scan_80 : decode cX12_scan 80 = .ok (.goto (-27), 3) := by decide +kernel
theorem dX12_scan_83 : decode cX12_scan 83 = .ok (.iload 4, 2) := by decide +kernel
theorem dX12_scan_85 : decode cX12_scan 85 = .ok (.iload_n 2, 1) := by decide +kernel
theorem dX12_scan_86 : decode cX12_scan 86 = .ok (.isub, 1) := by decide +kernel
theorem dX12_scan_87 : decode cX12_scan 87 = .ok (.bipush 8, 2) := by decide +kernel
theorem dX12_scan_89 : decode cX12_scan 89 = .ok (.if_icmp .gt 7, 3) := by decide +kernel
theorem dX12_scan_92 : decode cX12_scan 92 = .ok (.iconst 1, 1) := by decide +kernel
theorem dX12_scan_93 : decode cX12_scan 93 = .ok (.goto 4, 3) := by decide +kernel
theorem dX12_scan_96 : decode cX12_scan 96 = .ok (.iconst 4, 1) := by decide +kernel
theorem dX12_scan_97 : decode cX12_scan 97 = .ok (.istore 5, 2) := by decide +kernel
theorem dX12_scan_99 : decode cX12_scan 99 = .ok (.goto 87, 3) := by decide +kernel
theorem dX12_scan_102 : decode cX12_scan 102 = .ok (.aload_n 0, 1) := by decide +kernel
theorem dX12_scan_103 : decode cX12_scan 103 = .ok (.iload_n 2, 1) := by decide +kernel
theorem dX12_scan_104 : decode cX12_scan 104 = .ok (.invokevirtual 123, 3) := by decide +kernel
theorem dX12_scan_107 : decode cX12_scan 107 = .ok (.invokestatic 137, 3) := by decide +kernel
theorem dX12_scan_110 : decode cX12_scan 110 = .ok (.ifCond .eq 39, 3) := by decide +kernel
theorem dX12_scan_113 : decode cX12_scan 113 = .ok (.aload_n 0, 1) := by decide +kernel
theorem dX12_scan_114 : decode cX12_scan 114 = .ok (.iload 4, 2) := by decide +kernel
theorem dX12_scan_116 : decode cX12_scan 116 = .ok (.invokevirtual 123, 3) := by decide +kernel
theorem dX12_scan_119 : decode cX12_scan 119 = .ok (.invokestatic 137, 3) := by decide +kernel
theorem dX12_scan_122 : decode cX12_scan 122 = .ok (.ifCond .eq 9, 3) := by decide +kernel
theorem dX12_scan_125 : decode cX12_scan 125 = .ok (.iinc 4 1, 3) := by decide +kernel
theorem dX12_scan_128 : decode cX12_scan 128 = .ok (.goto (-15), 3) := by decide +kernel
theorem dX12_scan_131 : decode cX12_scan 131 = .ok (.iload 4, 2) := by decide +kernel
theorem dX12_scan_133 : decode cX12_scan 133 = .ok (.iload_n 2, 1) := by decide +kernel
theorem dX12_scan_134 : decode cX12_scan 134 = .ok (.isub, 1) := by decide +kernel
theorem dX12_scan_135 : decode cX12_scan 135 = .ok (.iconst 4, 1) := by decide +kernel
theorem dX12_scan_136 : decode cX12_scan 136 = .ok (.if_icmp .gt 7, 3) := by decide +kernel
theorem dX12_scan_139 : decode cX12_scan 139 = .ok (.iconst 2, 1) := by decide +kernel
theorem dX12_scan_140 : decode cX12_scan 140 = .ok (.goto 4, 3) := by decide +kernel
theorem dX12_scan_143 : decode cX12_scan 143 = .ok (.iconst 4, 1) := by decide +kernel
theorem dX12_scan_144 : decode cX12_scan 144 = .ok (.istore 5, 2) := by decide +kernel
theorem dX12_scan_146 : decode cX12_scan 146 = .ok (.goto 40, 3) := by decide +kernel
theorem dX12_scan_149 : decode cX12_scan 149 = .ok (.iload_n 2, 1) := by decide +kernel
theorem dX12_scan_150 : decode cX12_scan 150 = .ok (.aload_n 0, 1) := by decide +kernel
theorem dX12_scan_151 : decode cX12_scan 151 = .ok (.getfield 112, 3) := by decide +kernel
theorem dX12_scan_154 : decode cX12_scan 154 = .ok (.if_icmp .ge 32, 3) := by decide +kernel
theorem dX12_scan_157 : decode cX12_scan 157 = .ok (.iload 4, 2) := by decide +kernel
theorem dX12_scan_159 : decode cX12_scan 159 = .ok (.iconst 1, 1) := by decide +kernel
theorem dX12_scan_160 : decode cX12_scan 160 = .ok (.aload_n 0, 1) := by decide +kernel
theorem dX12_scan_161 : decode cX12_scan 161 = .ok (.iload_n 2, 1) := by decide +kernel
theorem dX12_scan_162 : decode cX12_scan 162 = .ok (.invokevirtual 140, 3) := by decide +kernel
theorem dX12_scan_165 : decode cX12_scan 165 = .ok (.invokestatic 143, 3) := by decide +kernel
theorem dX12_scan_168 : decode cX12_scan 168 = .ok (.iadd, 1) := by decide +kernel
theorem dX12_scan_169 : decode cX12_scan 169 = .ok (.istore 4, 2) := by decide +kernel
theorem dX12_scan_171 : decode cX12_scan 171 = .ok (.aload_n 0, 1) := by decide +kernel
theorem dX12_scan_172 : decode cX12_scan 172 = .ok (.iload_n 2, 1) := by decide +kernel
theorem dX12_scan_173 : decode cX12_scan 173 = .ok (.invokevirtual 140, 3) := by decide +kernel
theorem dX12_scan_176 : decode cX12_scan 176 = .ok (.ifCond .le 7, 3) := by decide +kernel
theorem dX12_scan_179 : decode cX12_scan 179 = .ok (.iconst 3, 1) := by decide +kernel
theorem dX12_scan_180 : decode cX12_scan 180 = .ok (.goto 4, 3) := by decide +kernel
theorem dX12_scan_183 : decode cX12_scan 183 = .ok (.iconst 4, 1) := by decide +kernel
theorem dX12_scan_184 : decode cX12_scan 184 = .ok (.istore 5, 2) := by decide +kernel
theorem dX12_scan_186 : decode cX12_scan 186 = .ok (.aload_n 0, 1) := by decide +kernel
theorem dX12_scan_187 : decode cX12_scan 187 = .ok (.getfield 17, 3) := by decide +kernel
theorem dX12_scan_190 : decode cX12_scan 190 = .ok (.iload_n 1, 1) := by decide +kernel
theorem dX12_scan_191 : decode cX12_scan 191 = .ok (.iload 5, 2) := by decide +kernel
theorem dX12_scan_193 : decode cX12_scan 193 = .ok (.iastore, 1) := by decide +kernel
theorem dX12_scan_194 : decode cX12_scan 194 = .ok (.aload_n 0, 1) := by decide +kernel
theorem dX12_scan_195 : decode cX12_scan 195 = .ok (.getfield 20, 3) := by decide +kernel
theorem dX12_scan_198 : decode cX12_scan 198 = .ok (.iload_n 1, 1) := by decide +kernel
theorem dX12_scan_199 : decode cX12_scan 199 = .ok (.iload_n 2, 1) := by decide +kernel
theorem dX12_scan_200 : decode cX12_scan 200 = .ok (.iastore, 1) := by decide +kernel
theorem dX12_scan_201 : decode cX12_scan 201 = .ok (.aload_n 0, 1) := by decide +kernel
theorem dX12_scan_202 : decode cX12_scan 202 = .ok (.getfield 23, 3) := by decide +kernel
theorem dX12_scan_205 : decode cX12_scan 205 = .ok (.iload_n 1, 1) := by decide +kernel
theorem dX12_scan_206 : decode cX12_scan 206 = .ok (.iload 4, 2) := by decide +kernel
theorem dX12_scan_208 : decode cX12_scan 208 = .ok (.iastore, 1) := by decide +kernel
theorem dX12_scan_209 : decode cX12_scan 209 = .ok (.iinc 1 1, 3) := by decide +kernel
theorem dX12_scan_212 : decode cX12_scan 212 = .ok (.iload 4, 2) := by decide +kernel
theorem dX12_scan_214 : decode cX12_scan 214 = .ok (.istore_n 2, 1) := by decide +kernel
theorem dX12_scan_215 : decode cX12_scan 215 = .ok (.iload 5, 2) := by decide +kernel
theorem dX12_scan_217 : decode cX12_scan 217 = .ok (.ifCond .eq 7, 3) := by decide +kernel
theorem dX12_scan_220 : decode cX12_scan 220 = .ok (.iconst 1, 1) := by decide +kernel
theorem dX12_scan_221 : decode cX12_scan 221 = .ok (.goto 4, 3) := by decide +kernel
theorem dX12_scan_224 : decode cX12_scan 224 = .ok (.iconst 0, 1) := by decide +kernel
theorem dX12_scan_225 : decode cX12_scan 225 = .ok (.istore_n 3, 1) := by decide +kernel
theorem dX12_scan_226 : decode cX12_scan 226 = .ok (.goto (-220), 3) := by decide +kernel
theorem dX12_scan_229 : decode cX12_scan 229 = .ok (.return_, 1) := by decide +kernel
theorem dX12_is_0 : decode cX12_is 0 = .ok (.aload_n 0, 1) := by decide +kernel
theorem dX12_is_1 : decode cX12_is 1 = .ok (.getfield 17, 3) := by decide +kernel
theorem dX12_is_4 : decode cX12_is 4 = .ok (.iload_n 1, 1) := by decide +kernel
theorem dX12_is_5 : decode cX12_is 5 = .ok (.iaload, 1) := by decide +kernel
theorem dX12_is_6 : decode cX12_is 6 = .ok (.iconst 1, 1) := by decide +kernel
theorem dX12_is_7 : decode cX12_is 7 = .ok (.if_icmp .eq 13, 3) := by decide +kernel
theorem dX12_is_10 : decode cX12_is 10 = .ok (.aload_n 0, 1) := by decide +kernel
theorem dX12_is_11 : decode cX12_is 11 = .ok (.getfield 17, 3) := by decide +kernel
theorem dX12_is_14 : decode cX12_is 14 = .ok (.iload_n 1, 1) := by decide +kernel
theorem dX12_is_15 : decode cX12_is 15 = .ok (.iaload, 1) := by decide +kernel
theorem dX12_is_16 : decode cX12_is 16 = .ok (.iconst 3, 1) := by decide +kernel
theorem dX12_is_17 : decode cX12_is 17 = .ok (.if_icmp .ne 27, 3) := by decide +kernel
theorem dX12_is_20 : decode cX12_is 20 = .ok (.aload_n 0, 1) := by decide +kernel
theorem dX12_is_21 : decode cX12_is 21 = .ok (.getfield 23, 3) := by decide +kernel
theorem dX12_is_24 : decode cX12_is 24 = .ok (.iload_n 1, 1) := by decide +kernel
theorem dX12_is_25 : decode cX12_is 25 = .ok (.iaload, 1) := by decide +kernel
theorem dX12_is_26 : decode cX12_is 26 = .ok (.aload_n 0, 1) := by decide +kernel
theorem dX12_is_27 : decode cX12_is 27 = .ok (.getfield 20, 3) := by decide +kernel
theorem dX12_is_30 : decode cX12_is 30 = .ok (.iload_n 1, 1) := by decide +kernel
theorem dX12_is_31 : decode cX12_is 31 = .ok (.iaload, 1) := by decide +kernel
theorem dX12_is_32 : decode cX12_is 32 = .ok (.isub, 1) := by decide +kernel
theorem dX12_is_33 : decode cX12_is 33 = .ok (.aload_n 2, 1) := by decide +kernel
theorem dX12_is_34 : decode cX12_is 34 = .ok (.invokevirtual 149, 3) := by decide +kernel
theorem dX12_is_37 : decode cX12_is 37 = .ok (.if_icmp .ne 7, 3) := by decide +kernel
theorem dX12_is_40 : decode cX12_is 40 = .ok (.iconst 1, 1) := by decide +kernel
theorem dX12_is_41 : decode cX12_is 41 = .ok (.goto 4, 3) := by decide +kernel
theorem dX12_is_44 : decode cX12_is 44 = .ok (.iconst 0, 1) := by decide +kernel
theorem dX12_is_45 : decode cX12_is 45 = .ok (.istore_n 3, 1) := by decide +kernel
theorem dX12_is_46 : decode cX12_is 46 = .ok (.iconst 0, 1) := by decide +kernel
theorem dX12_is_47 : decode cX12_is 47 = .ok (.istore 4, 2) := by decide +kernel
theorem dX12_is_49 : decode cX12_is 49 = .ok (.iload 4, 2) := by decide +kernel
theorem dX12_is_51 : decode cX12_is 51 = .ok (.aload_n 2, 1) := by decide +kernel
theorem dX12_is_52 : decode cX12_is 52 = .ok (.invokevirtual 149, 3) := by decide +kernel
theorem dX12_is_55 : decode cX12_is 55 = .ok (.if_icmp .ge 42, 3) := by decide +kernel
theorem dX12_is_58 : decode cX12_is 58 = .ok (.iload_n 3, 1) := by decide +kernel
theorem dX12_is_59 : decode cX12_is 59 = .ok (.ifCond .eq 38, 3) := by decide +kernel
theorem dX12_is_62 : decode cX12_is 62 = .ok (.aload_n 0, 1) := by decide +kernel
theorem dX12_is_63 : decode cX12_is 63 = .ok (.getfield 9, 3) := by decide +kernel
theorem dX12_is_66 : decode cX12_is 66 = .ok (.aload_n 0, 1) := by decide +kernel
theorem dX12_is_67 : decode cX12_is 67 = .ok (.getfield 20, 3) := by decide +kernel
theorem dX12_is_70 : decode cX12_is 70 = .ok (.iload_n 1, 1) := by decide +kernel
theorem dX12_is_71 : decode cX12_is 71 = .ok (.iaload, 1) := by decide +kernel
theorem dX12_is_72 : decode cX12_is 72 = .ok (.iload 4, 2) := by decide +kernel
theorem dX12_is_74 : decode cX12_is 74 = .ok (.iadd, 1) := by decide +kernel
theorem dX12_is_75 : decode cX12_is 75 = .ok (.iaload, 1) := by decide +kernel
theorem dX12_is_76 : decode cX12_is 76 = .ok (.aload_n 2, 1) := by decide +kernel
theorem dX12_is_77 : decode cX12_is 77 = .ok (.iload 4, 2) := by decide +kernel
theorem dX12_is_79 : decode cX12_is 79 = .ok (.invokevirtual 152, 3) := by decide +kernel
theorem dX12_is_82 : decode cX12_is 82 = .ok (.if_icmp .ne 7, 3) := by decide +kernel
theorem dX12_is_85 : decode cX12_is 85 = .ok (.iconst 1, 1) := by decide +kernel
theorem dX12_is_86 : decode cX12_is 86 = .ok (.goto 4, 3) := by decide +kernel
theorem dX12_is_89 : decode cX12_is 89 = .ok (.iconst 0, 1) := by decide +kernel
theorem dX12_is_90 : decode cX12_is 90 = .ok (.istore_n 3, 1) := by decide +kernel
theorem dX12_is_91 : decode cX12_is 91 = .ok (.iinc 4 1, 3) := by decide +kernel
theorem dX12_is_94 : decode cX12_is 94 = .ok (.goto (-45), 3) := by decide +kernel
theorem dX12_is_97 : decode cX12_is 97 = .ok (.iload_n 3, 1) := by decide +kernel
theorem dX12_is_98 : decode cX12_is 98 = .ok (.ireturn, 1) := by decide +kernel
theorem dX12_isName_0 : decode cX12_isName 0 = .ok (.aload_n 0, 1) := by decide +kernel
theorem dX12_isName_1 : decode cX12_isName 1 = .ok (.getfield 17, 3) := by decide +kernel
theorem dX12_isName_4 : decode cX12_isName 4 = .ok (.iload_n 1, 1) := by decide +kernel
theorem dX12_isName_5 : decode cX12_isName 5 = .ok (.iaload, 1) := by decide +kernel
theorem dX12_isName_6 : decode cX12_isName 6 = .ok (.iconst 1, 1) := by decide +kernel
theorem dX12_isName_7 : decode cX12_isName 7 = .ok (.if_icmp .ne 7, 3) := by decide +kernel
theorem dX12_isName_10 : decode cX12_isName 10 = .ok (.iconst 1, 1) := by decide +kernel
theorem dX12_isName_11 : decode cX12_isName 11 = .ok (.goto 4, 3) := by decide +kernel
theorem dX12_isName_14 : decode cX12_isName 14 = .ok (.iconst 0, 1) := by decide +kernel
theorem dX12_isName_15 : decode cX12_isName 15 = .ok (.istore_n 2, 1) := by decide +kernel
theorem dX12_isName_16 : decode cX12_isName 16 = .ok (.getstatic 156, 3) := by decide +kernel
theorem dX12_isName_19 : decode cX12_isName 19 = .ok (.astore_n 3, 1) := by decide +kernel
theorem dX12_isName_20 : decode cX12_isName 20 = .ok (.aload_n 3, 1) := by decide +kernel
theorem dX12_isName_21 : decode cX12_isName 21 = .ok (.arraylength, 1) := by decide +kernel
theorem dX12_isName_22 : decode cX12_isName 22 = .ok (.istore 4, 2) := by decide +kernel
theorem dX12_isName_24 : decode cX12_isName 24 = .ok (.iconst 0, 1) := by decide +kernel
theorem dX12_isName_25 : decode cX12_isName 25 = .ok (.istore 5, 2) := by decide +kernel
theorem dX12_isName_27 : decode cX12_isName 27 = .ok (.iload 5, 2) := by decide +kernel
theorem dX12_isName_29 : decode cX12_isName 29 = .ok (.iload 4, 2) := by decide +kernel
theorem dX12_isName_31 : decode cX12_isName 31 = .ok (.if_icmp .ge 35, 3) := by decide +kernel
theorem dX12_isName_34 : decode cX12_isName 34 = .ok (.aload_n 3, 1) := by decide +kernel
theorem dX12_isName_35 : decode cX12_isName 35 = .ok (.iload 5, 2) := by decide +kernel
theorem dX12_isName_37 : decode cX12_isName 37 = .ok (.aaload, 1) := by decide +kernel
theorem dX12_isName_38 : decode cX12_isName 38 = .ok (.astore 6, 2) := by decide +kernel
theorem dX12_isName_40 : decode cX12_isName 40 = .ok (.iload_n 2, 1) := by decide +kernel
theorem dX12_isName_41 : decode cX12_isName 41 = .ok (.ifCond .eq 17, 3) := by decide +kernel
theorem dX12_isName_44 : decode cX12_isName 44 = .ok (.aload_n 0, 1) := by decide +kernel
theorem dX12_isName_45 : decode cX12_isName 45 = .ok (.iload_n 1, 1) := by decide +kernel
theorem dX12_isName_46 : decode cX12_isName 46 = .ok (.aload 6, 2) := by decide +kernel
theorem dX12_isName_48 : decode cX12_isName 48 = .ok (.invokevirtual 160, 3) := by decide +kernel
theorem dX12_isName_51 : decode cX12_isName 51 = .ok (.ifCond .ne 7, 3) := by decide +kernel
theorem dX12_isName_54 : decode cX12_isName 54 = .ok (.iconst 1, 1) := by decide +kernel
theorem dX12_isName_55 : decode cX12_isName 55 = .ok (.goto 4, 3) := by decide +kernel
theorem dX12_isName_58 : decode cX12_isName 58 = .ok (.iconst 0, 1) := by decide +kernel
theorem dX12_isName_59 : decode cX12_isName 59 = .ok (.istore_n 2, 1) := by decide +kernel
theorem dX12_isName_60 : decode cX12_isName 60 = .ok (.iinc 5 1, 3) := by decide +kernel
theorem dX12_isName_63 : decode cX12_isName 63 = .ok (.goto (-36), 3) := by decide +kernel
theorem dX12_isName_66 : decode cX12_isName 66 = .ok (.iload_n 2, 1) := by decide +kernel
theorem dX12_isName_67 : decode cX12_isName 67 = .ok (.ireturn, 1) := by decide +kernel
theorem dX12_nameOf_0 : decode cX12_nameOf 0 = .ok (.lconst 0, 1) := by decide +kernel
theorem dX12_nameOf_1 : decode cX12_nameOf 1 = .ok (.lstore_n 2, 1) := by decide +kernel
theorem dX12_nameOf_2 : decode cX12_nameOf 2 = .ok (.aload_n 0, 1) := by decide +kernel
theorem dX12_nameOf_3 : decode cX12_nameOf 3 = .ok (.getfield 20, 3) := by decide +kernel
theorem dX12_nameOf_6 : decode cX12_nameOf 6 = .ok (.iload_n 1, 1) := by decide +kernel
theorem dX12_nameOf_7 : decode cX12_nameOf 7 = .ok (.iaload, 1) := by decide +kernel
theorem dX12_nameOf_8 : decode cX12_nameOf 8 = .ok (.istore 4, 2) := by decide +kernel
theorem dX12_nameOf_10 : decode cX12_nameOf 10 = .ok (.iload 4, 2) := by decide +kernel
theorem dX12_nameOf_12 : decode cX12_nameOf 12 = .ok (.aload_n 0, 1) := by decide +kernel
theorem dX12_nameOf_13 : decode cX12_nameOf 13 = .ok (.getfield 23, 3) := by decide +kernel
theorem dX12_nameOf_16 : decode cX12_nameOf 16 = .ok (.iload_n 1, 1) := by decide +kernel
theorem dX12_nameOf_17 : decode cX12_nameOf 17 = .ok (.iaload, 1) := by decide +kernel
theorem dX12_nameOf_18 : decode cX12_nameOf 18 = .ok (.if_icmp .ge 53, 3) := by decide +kernel
theorem dX12_nameOf_21 : decode cX12_nameOf 21 = .ok (.ldc2_w 164, 3) := by decide +kernel
theorem dX12_nameOf_24 : decode cX12_nameOf 24 = .ok (.lload_n 2, 1) := by decide +kernel
theorem dX12_nameOf_25 : decode cX12_nameOf 25 = .ok (.lmul, 1) := by decide +kernel
theorem dX12_nameOf_26 : decode cX12_nameOf 26 = .ok (.aload_n 0, 1) := by decide +kernel
theorem dX12_nameOf_27 : decode cX12_nameOf 27 = .ok (.getfield 9, 3) := by decide +kernel
theorem dX12_nameOf_30 : decode cX12_nameOf 30 = .ok (.iload 4, 2) := by decide +kernel
theorem dX12_nameOf_32 : decode cX12_nameOf 32 = .ok (.iaload, 1) := by decide +kernel
theorem dX12_nameOf_33 : decode cX12_nameOf 33 = .ok (.invokestatic 137, 3) := by decide +kernel
theorem dX12_nameOf_36 : decode cX12_nameOf 36 = .ok (.ifCond .eq 16, 3) := by decide +kernel
theorem dX12_nameOf_39 : decode cX12_nameOf 39 = .ok (.aload_n 0, 1) := by decide +kernel
theorem dX12_nameOf_40 : decode cX12_nameOf 40 = .ok (.getfield 9, 3) := by decide +kernel
theorem dX12_nameOf_43 : decode cX12_nameOf 43 = .ok (.iload 4, 2) := by decide +kernel
theorem dX12_nameOf_45 : decode cX12_nameOf 45 = .ok (.iaload, 1) := by decide +kernel
theorem dX12_nameOf_46 : decode cX12_nameOf 46 = .ok (.bipush 47, 2) := by decide +kernel
theorem dX12_nameOf_48 : decode cX12_nameOf 48 = .ok (.isub, 1) := by decide +kernel
theorem dX12_nameOf_49 : decode cX12_nameOf 49 = .ok (.goto 13, 3) := by decide +kernel
theorem dX12_nameOf_52 : decode cX12_nameOf 52 = .ok (.aload_n 0, 1) := by decide +kernel
theorem dX12_nameOf_53 : decode cX12_nameOf 53 = .ok (.getfield 9, 3) := by decide +kernel
theorem dX12_nameOf_56 : decode cX12_nameOf 56 = .ok (.iload 4, 2) := by decide +kernel
theorem dX12_nameOf_58 : decode cX12_nameOf 58 = .ok (.iaload, 1) := by decide +kernel
theorem dX12_nameOf_59 : decode cX12_nameOf 59 = .ok (.bipush 86, 2) := by decide +kernel
theorem dX12_nameOf_61 : decode cX12_nameOf 61 = .ok (.isub, 1) := by decide +kernel
theorem dX12_nameOf_62 : decode cX12_nameOf 62 = .ok (.i2l, 1) := by decide +kernel
theorem dX12_nameOf_63 : decode cX12_nameOf 63 = .ok (.ladd, 1) := by decide +kernel
theorem dX12_nameOf_64 : decode cX12_nameOf 64 = .ok (.lstore_n 2, 1) := by decide +kernel
theorem dX12_nameOf_65 : decode cX12_nameOf 65 = .ok (.iinc 4 1, 3) := by decide +kernel
theorem dX12_nameOf_68 : decode cX12_nameOf 68 = .ok (.goto (-58), 3) := by decide +kernel
theorem dX12_nameOf_71 : decode cX12_nameOf 71 = .ok (.lload_n 2, 1) := by decide +kernel
theorem dX12_nameOf_72 : decode cX12_nameOf 72 = .ok (.lreturn, 1) := by decide +kernel
theorem dX12_numberOf_0 : decode cX12_numberOf 0 = .ok (.iconst 0, 1) := by decide +kernel
theorem dX12_numberOf_1 : decode cX12_numberOf 1 = .ok (.istore_n 2, 1) := by decide +kernel
theorem dX12_numberOf_2 : decode cX12_numberOf 2 = .ok (.aload_n 0, 1) := by decide +kernel
theorem dX12_numberOf_3 : decode cX12_numberOf 3 = .ok (.getfield 20, 3) := by decide +kernel
theorem dX12_numberOf_6 : decode cX12_numberOf 6 = .ok (.iload_n 1, 1) := by decide +kernel
theorem dX12_numberOf_7 : decode cX12_numberOf 7 = .ok (.iaload, 1) := by decide +kernel
theorem dX12_numberOf_8 : decode cX12_numberOf 8 = .ok (.istore_n 3, 1) := by decide +kernel
theorem dX12_numberOf_9 : decode cX12_numberOf 9 = .ok (.iload_n 3, 1) := by decide +kernel
theorem dX12_numberOf_10 : decode cX12_numberOf 10 = .ok (.aload_n 0, 1) := by decide +kernel
theorem dX12_numberOf_11 : decode cX12_numberOf 11 = .ok (.getfield 23, 3) := by decide +kernel
theorem dX12_numberOf_14 : decode cX12_numberOf 14 = .ok (.iload_n 1, 1) := by decide +kernel
theorem dX12_numberOf_15 : decode cX12_numberOf 15 = .ok (.iaload, 1) := by decide +kernel
theorem dX12_numberOf_16 : decode cX12_numberOf 16 = .ok (.if_icmp .ge 24, 3) := by decide +kernel
theorem dX12_numberOf_19 : decode cX12_numberOf 19 = .ok (.bipush 10, 2) := by decide +kernel
theorem dX12_numberOf_21 : decode cX12_numberOf 21 = .ok (.iload_n 2, 1) := by decide +kernel
theorem dX12_numberOf_22 : decode cX12_numberOf 22 = .ok (.imul, 1) := by decide +kernel
theorem dX12_numberOf_23 : decode cX12_numberOf 23 = .ok (.aload_n 0, 1) := by decide +kernel
theorem dX12_numberOf_24 : decode cX12_numberOf 24 = .ok (.getfield 9, 3) := by decide +kernel
theorem dX12_numberOf_27 : decode cX12_numberOf 27 = .ok (.iload_n 3, 1) := by decide +kernel
theorem dX12_numberOf_28 : decode cX12_numberOf 28 = .ok (.iaload, 1) := by decide +kernel
theorem dX12_numberOf_29 : decode cX12_numberOf 29 = .ok (.iadd, 1) := by decide +kernel
theorem dX12_numberOf_30 : decode cX12_numberOf 30 = .ok (.bipush 48, 2) := by decide +kernel
theorem dX12_numberOf_32 : decode cX12_numberOf 32 = .ok (.isub, 1) := by decide +kernel
theorem dX12_numberOf_33 : decode cX12_numberOf 33 = .ok (.istore_n 2, 1) := by decide +kernel
theorem dX12_numberOf_34 : decode cX12_numberOf 34 = .ok (.iinc 3 1, 3) := by decide +kernel
theorem dX12_numberOf_37 : decode cX12_numberOf 37 = .ok (.goto (-28), 3) := by decide +kernel
theorem dX12_numberOf_40 : decode cX12_numberOf 40 = .ok (.iload_n 2, 1) := by decide +kernel
theorem dX12_numberOf_41 : decode cX12_numberOf 41 = .ok (.ireturn, 1) := by decide +kernel
theorem dX12_operator_0 : decode cX12_operator 0 = .ok (.iconst (-1), 1) := by decide +kernel
theorem dX12_operator_1 : decode cX12_operator 1 = .ok (.istore 4, 2) := by decide +kernel
theorem dX12_operator_3 : decode cX12_operator 3 = .ok (.iload_n 2, 1) := by decide +kernel
theorem dX12_operator_4 : decode cX12_operator 4 = .ok (.istore 5, 2) := by decide +kernel
theorem dX12_operator_6 : decode cX12_operator 6 = .ok (.iload 5, 2) := by decide +kernel
theorem dX12_operator_8 : decode cX12_operator 8 = .ok (.iload_n 3, 1) := by decide +kernel
theorem dX12_operator_9 : decode cX12_operator 9 = .ok (.if_icmp .ge 27, 3) := by decide +kernel
theorem dX12_operator_12 : decode cX12_operator 12 = .ok (.aload_n 0, 1) := by decide +kernel
theorem dX12_operator_13 : decode cX12_operator 13 = .ok (.iload_n 1, 1) := by decide +kernel
theorem dX12_operator_14 : decode cX12_operator 14 = .ok (.getstatic 166, 3) := by decide +kernel
theorem dX12_operator_17 : decode cX12_operator 17 = .ok (.iload 5, 2) := by decide +kernel
theorem dX12_operator_19 : decode cX12_operator 19 = .ok (.aaload, 1) := by decide +kernel
theorem dX12_operator_20 : decode cX12_operator 20 = .ok (.invokevirtual 160, 3) := by decide +kernel
theorem dX12_operator_23 : decode cX12_operator 23 = .ok (.ifCond .eq 7, 3) := by decide +kernel
theorem dX12_operator_26 : decode cX12_operator 26 = .ok (.iload 5, 2) := by decide +kernel
theorem dX12_operator_28 : decode cX12_operator 28 = .ok (.istore 4, 2) := by decide +kernel
theorem dX12_operator_30 : decode cX12_operator 30 = .ok (.iinc 5 1, 3) := by decide +kernel
theorem dX12_operator_33 : decode cX12_operator 33 = .ok (.goto (-27), 3) := by decide +kernel
theorem dX12_operator_36 : decode cX12_operator 36 = .ok (.iload 4, 2) := by decide +kernel
theorem dX12_operator_38 : decode cX12_operator 38 = .ok (.ireturn, 1) := by decide +kernel
theorem dX12_sees_0 : decode cX12_sees 0 = .ok (.aload_n 0, 1) := by decide +kernel
theorem dX12_sees_1 : decode cX12_sees 1 = .ok (.aload_n 0, 1) := by decide +kernel
theorem dX12_sees_2 : decode cX12_sees 2 = .ok (.getfield 169, 3) := by decide +kernel
theorem dX12_sees_5 : decode cX12_sees 5 = .ok (.aload_n 1, 1) := by decide +kernel
theorem dX12_sees_6 : decode cX12_sees 6 = .ok (.invokevirtual 160, 3) := by decide +kernel
theorem dX12_sees_9 : decode cX12_sees 9 = .ok (.ireturn, 1) := by decide +kernel
theorem dX12_takes_0 : decode cX12_takes 0 = .ok (.aload_n 0, 1) := by decide +kernel
theorem dX12_takes_1 : decode cX12_takes 1 = .ok (.aload_n 1, 1) := by decide +kernel
theorem dX12_takes_2 : decode cX12_takes 2 = .ok (.invokevirtual 172, 3) := by decide +kernel
theorem dX12_takes_5 : decode cX12_takes 5 = .ok (.ifCond .ne 5, 3) := by decide +kernel
theorem dX12_takes_8 : decode cX12_takes 8 = .ok (.iconst 0, 1) := by decide +kernel
theorem dX12_takes_9 : decode cX12_takes 9 = .ok (.ireturn, 1) := by decide +kernel
theorem dX12_takes_10 : decode cX12_takes 10 = .ok (.aload_n 0, 1) := by decide +kernel
theorem dX12_takes_11 : decode cX12_takes 11 = .ok (.dup, 1) := by decide +kernel
theorem dX12_takes_12 : decode cX12_takes 12 = .ok (.getfield 169, 3) := by decide +kernel
theorem dX12_takes_15 : decode cX12_takes 15 = .ok (.iconst 1, 1) := by decide +kernel
theorem dX12_takes_16 : decode cX12_takes 16 = .ok (.iadd, 1) := by decide +kernel
theorem dX12_takes_17 : decode cX12_takes 17 = .ok (.putfield 169, 3) := by decide +kernel
theorem dX12_takes_20 : decode cX12_takes 20 = .ok (.iconst 1, 1) := by decide +kernel
theorem dX12_takes_21 : decode cX12_takes 21 = .ok (.ireturn, 1) := by decide +kernel
theorem dX12_takesName_0 : decode cX12_takesName 0 = .ok (.aload_n 0, 1) := by decide +kernel
theorem dX12_takesName_1 : decode cX12_takesName 1 = .ok (.aload_n 0, 1) := by decide +kernel
theorem dX12_takesName_2 : decode cX12_takesName 2 = .ok (.getfield 169, 3) := by decide +kernel
theorem dX12_takesName_5 : decode cX12_takesName 5 = .ok (.invokevirtual 176, 3) := by decide +kernel
theorem dX12_takesName_8 : decode cX12_takesName 8 = .ok (.ifCond .ne 5, 3) := by decide +kernel
theorem dX12_takesName_11 : decode cX12_takesName 11 = .ok (.iconst 0, 1) := by decide +kernel
theorem dX12_takesName_12 : decode cX12_takesName 12 = .ok (.ireturn, 1) := by decide +kernel
theorem dX12_takesName_13 : decode cX12_takesName 13 = .ok (.aload_n 0, 1) := by decide +kernel
theorem dX12_takesName_14 : decode cX12_takesName 14 = .ok (.dup, 1) := by decide +kernel
theorem dX12_takesName_15 : decode cX12_takesName 15 = .ok (.getfield 169, 3) := by decide +kernel
theorem dX12_takesName_18 : decode cX12_takesName 18 = .ok (.iconst 1, 1) := by decide +kernel
theorem dX12_takesName_19 : decode cX12_takesName 19 = .ok (.iadd, 1) := by decide +kernel
theorem dX12_takesName_20 : decode cX12_takesName 20 = .ok (.putfield 169, 3) := by decide +kernel
theorem dX12_takesName_23 : decode cX12_takesName 23 = .ok (.iconst 1, 1) := by decide +kernel
theorem dX12_takesName_24 : decode cX12_takesName 24 = .ok (.ireturn, 1) := by decide +kernel
theorem dX12_takesWhole_0 : decode cX12_takesWhole 0 = .ok (.aload_n 0, 1) := by decide +kernel
theorem dX12_takesWhole_1 : decode cX12_takesWhole 1 = .ok (.ldc 179, 2) := by decide +kernel
theorem dX12_takesWhole_3 : decode cX12_takesWhole 3 = .ok (.invokevirtual 181, 3) := by decide +kernel
theorem dX12_takesWhole_6 : decode cX12_takesWhole 6 = .ok (.pop, 1) := by decide +kernel
theorem dX12_takesWhole_7 : decode cX12_takesWhole 7 = .ok (.aload_n 0, 1) := by decide +kernel
theorem dX12_takesWhole_8 : decode cX12_takesWhole 8 = .ok (.getfield 17, 3) := by decide +kernel
theorem dX12_takesWhole_11 : decode cX12_takesWhole 11 = .ok (.aload_n 0, 1) := by decide +kernel
theorem dX12_takesWhole_12 : decode cX12_takesWhole 12 = .ok (.getfield 169, 3) := by decide +kernel
theorem dX12_takesWhole_15 : decode cX12_takesWhole 15 = .ok (.iaload, 1) := by decide +kernel
theorem dX12_takesWhole_16 : decode cX12_takesWhole 16 = .ok (.iconst 2, 1) := by decide +kernel
theorem dX12_takesWhole_17 : decode cX12_takesWhole 17 = .ok (.if_icmp .eq 5, 3) := by decide +kernel
theorem dX12_takesWhole_20 : decode cX12_takesWhole 20 = .ok (.iconst 0, 1) := by decide +kernel
theorem dX12_takesWhole_21 : decode cX12_takesWhole 21 = .ok (.ireturn, 1) := by decide +kernel
theorem dX12_takesWhole_22 : decode cX12_takesWhole 22 = .ok (.aload_n 0, 1) := by decide +kernel
theorem dX12_takesWhole_23 : decode cX12_takesWhole 23 = .ok (.dup, 1) := by decide +kernel
theorem dX12_takesWhole_24 : decode cX12_takesWhole 24 = .ok (.getfield 169, 3) := by decide +kernel
theorem dX12_takesWhole_27 : decode cX12_takesWhole 27 = .ok (.iconst 1, 1) := by decide +kernel
theorem dX12_takesWhole_28 : decode cX12_takesWhole 28 = .ok (.iadd, 1) := by decide +kernel
theorem dX12_takesWhole_29 : decode cX12_takesWhole 29 = .ok (.putfield 169, 3) := by decide +kernel
theorem dX12_takesWhole_32 : decode cX12_takesWhole 32 = .ok (.iconst 1, 1) := by decide +kernel
theorem dX12_takesWhole_33 : decode cX12_takesWhole 33 = .ok (.ireturn, 1) := by decide +kernel
theorem dX12_program_0 : decode cX12_program 0 = .ok (.aload_n 0, 1) := by decide +kernel
theorem dX12_program_1 : decode cX12_program 1 = .ok (.invokevirtual 184, 3) := by decide +kernel
theorem dX12_program_4 : decode cX12_program 4 = .ok (.ifCond .ne 5, 3) := by decide +kernel
theorem dX12_program_7 : decode cX12_program 7 = .ok (.iconst 0, 1) := by decide +kernel
theorem dX12_program_8 : decode cX12_program 8 = .ok (.ireturn, 1) := by decide +kernel
theorem dX12_program_9 : decode cX12_program 9 = .ok (.aload_n 0, 1) := by decide +kernel
theorem dX12_program_10 : decode cX12_program 10 = .ok (.getfield 17, 3) := by decide +kernel
theorem dX12_program_13 : decode cX12_program 13 = .ok (.aload_n 0, 1) := by decide +kernel
theorem dX12_program_14 : decode cX12_program 14 = .ok (.getfield 169, 3) := by decide +kernel
theorem dX12_program_17 : decode cX12_program 17 = .ok (.iaload, 1) := by decide +kernel
theorem dX12_program_18 : decode cX12_program 18 = .ok (.ifCond .ne (-18), 3) := by decide +kernel
theorem dX12_program_21 : decode cX12_program 21 = .ok (.iconst 1, 1) := by decide +kernel
theorem dX12_program_22 : decode cX12_program 22 = .ok (.ireturn, 1) := by decide +kernel
theorem dX12_item_0 : decode cX12_item 0 = .ok (.aload_n 0, 1) := by decide +kernel
theorem dX12_item_1 : decode cX12_item 1 = .ok (.ldc 188, 2) := by decide +kernel
theorem dX12_item_3 : decode cX12_item 3 = .ok (.invokevirtual 181, 3) := by decide +kernel
theorem dX12_item_6 : decode cX12_item 6 = .ok (.ifCond .eq 66, 3) := by decide +kernel
theorem dX12_item_9 : decode cX12_item 9 = .ok (.aload_n 0, 1) := by decide +kernel
theorem dX12_item_10 : decode cX12_item 10 = .ok (.invokevirtual 190, 3) := by decide +kernel
theorem dX12_item_13 : decode cX12_item 13 = .ok (.ifCond .eq 57, 3) := by decide +kernel
theorem dX12_item_16 : decode cX12_item 16 = .ok (.aload_n 0, 1) := by decide +kernel
theorem dX12_item_17 : decode cX12_item 17 = .ok (.ldc 193, 2) := by decide +kernel
theorem dX12_item_19 : decode cX12_item 19 = .ok (.invokevirtual 181, 3) := by decide +kernel
theorem dX12_item_22 : decode cX12_item 22 = .ok (.ifCond .eq 48, 3) := by decide +kernel
theorem dX12_item_25 : decode cX12_item 25 = .ok (.aload_n 0, 1) := by decide +kernel
theorem dX12_item_26 : decode cX12_item 26 = .ok (.invokevirtual 195, 3) := by decide +kernel
theorem dX12_item_29 : decode cX12_item 29 = .ok (.ifCond .eq 41, 3) := by decide +kernel
theorem dX12_item_32 : decode cX12_item 32 = .ok (.aload_n 0, 1) := by decide +kernel
theorem dX12_item_33 : decode cX12_item 33 = .ok (.ldc 198, 2) := by decide +kernel
theorem dX12_item_35 : decode cX12_item 35 = .ok (.invokevirtual 181, 3) := by decide +kernel
theorem dX12_item_38 : decode cX12_item 38 = .ok (.ifCond .eq 32, 3) := by decide +kernel
theorem dX12_item_41 : decode cX12_item 41 = .ok (.aload_n 0, 1) := by decide +kernel
theorem dX12_item_42 : decode cX12_item 42 = .ok (.ldc 200, 2) := by decide +kernel
theorem dX12_item_44 : decode cX12_item 44 = .ok (.invokevirtual 181, 3) := by decide +kernel
theorem dX12_item_47 : decode cX12_item 47 = .ok (.ifCond .eq 23, 3) := by decide +kernel
theorem dX12_item_50 : decode cX12_item 50 = .ok (.aload_n 0, 1) := by decide +kernel
theorem dX12_item_51 : decode cX12_item 51 = .ok (.invokevirtual 202, 3) := by decide +kernel
theorem dX12_item_54 : decode cX12_item 54 = .ok (.ifCond .eq 16, 3) := by decide +kernel
theorem dX12_item_57 : decode cX12_item 57 = .ok (.aload_n 0, 1) := by decide +kernel
theorem dX12_item_58 : decode cX12_item 58 = .ok (.ldc 205, 2) := by decide +kernel
theorem dX12_item_60 : decode cX12_item 60 = .ok (.invokevirtual 181, 3) := by decide +kernel
theorem dX12_item_63 : decode cX12_item 63 = .ok (.ifCond .eq 7, 3) := by decide +kernel
theorem dX12_item_66 : decode cX12_item 66 = .ok (.iconst 1, 1) := by decide +kernel
theorem dX12_item_67 : decode cX12_item 67 = .ok (.goto 4, 3) := by decide +kernel
theorem dX12_item_70 : decode cX12_item 70 = .ok (.iconst 0, 1) := by decide +kernel
theorem dX12_item_71 : decode cX12_item 71 = .ok (.ireturn, 1) := by decide +kernel
theorem dX12_item_72 : decode cX12_item 72 = .ok (.aload_n 0, 1) := by decide +kernel
theorem dX12_item_73 : decode cX12_item 73 = .ok (.ldc 207, 2) := by decide +kernel
theorem dX12_item_75 : decode cX12_item 75 = .ok (.invokevirtual 181, 3) := by decide +kernel
theorem dX12_item_78 : decode cX12_item 78 = .ok (.ifCond .eq 55, 3) := by decide +kernel
theorem dX12_item_81 : decode cX12_item 81 = .ok (.aload_n 0, 1) := by decide +kernel
theorem dX12_item_82 : decode cX12_item 82 = .ok (.invokevirtual 190, 3) := by decide +kernel
theorem dX12_item_85 : decode cX12_item 85 = .ok (.ifCond .eq 48, 3) := by decide +kernel
theorem dX12_item_88 : decode cX12_item 88 = .ok (.aload_n 0, 1) := by decide +kernel
theorem dX12_item_89 : decode cX12_item 89 = .ok (.ldc 209, 2) := by decide +kernel
theorem dX12_item_91 : decode cX12_item 91 = .ok (.invokevirtual 181, 3) := by decide +kernel
theorem dX12_item_94 : decode cX12_item 94 = .ok (.ifCond .eq 39, 3) := by decide +kernel
theorem dX12_item_97 : decode cX12_item 97 = .ok (.aload_n 0, 1) := by decide +kernel
theorem dX12_item_98 : decode cX12_item 98 = .ok (.invokevirtual 190, 3) := by decide +kernel
theorem dX12_item_101 : decode cX12_item 101 = .ok (.ifCond .eq 32, 3) := by decide +kernel
