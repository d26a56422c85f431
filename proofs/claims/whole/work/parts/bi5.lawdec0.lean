/-! decode rows of the law's class (the kit printed them) -/
theorem dL_feed_0 : decode cL_feed 0 = .ok (.aload 6, 2) := by decide +kernel
theorem dL_feed_2 : decode cL_feed 2 = .ok (.iconst 0, 1) := by decide +kernel
theorem dL_feed_3 : decode cL_feed 3 = .ok (.aload_n 0, 1) := by decide +kernel
theorem dL_feed_4 : decode cL_feed 4 = .ok (.iload_n 1, 1) := by decide +kernel
theorem dL_feed_5 : decode cL_feed 5 = .ok (.iload_n 2, 1) := by decide +kernel
theorem dL_feed_6 : decode cL_feed 6 = .ok (.iload_n 3, 1) := by decide +kernel
theorem dL_feed_7 : decode cL_feed 7 = .ok (.iload 4, 2) := by decide +kernel
theorem dL_feed_9 : decode cL_feed 9 = .ok (.iload 5, 2) := by decide +kernel
theorem dL_feed_11 : decode cL_feed 11 = .ok (.invokevirtual 7, 3) := by decide +kernel
theorem dL_feed_14 : decode cL_feed 14 = .ok (.i2l, 1) := by decide +kernel
theorem dL_feed_15 : decode cL_feed 15 = .ok (.lastore, 1) := by decide +kernel
theorem dL_feed_16 : decode cL_feed 16 = .ok (.goto 7, 3) := by decide +kernel
theorem dL_feed_19 : decode cL_feed 19 = .ok (.astore 7, 2) := by decide +kernel
theorem dL_feed_21 : decode cL_feed 21 = .ok (.iconst 1, 1) := by decide +kernel
theorem dL_feed_22 : decode cL_feed 22 = .ok (.ireturn, 1) := by decide +kernel
theorem dL_feed_23 : decode cL_feed 23 = .ok (.iconst 0, 1) := by decide +kernel
theorem dL_feed_24 : decode cL_feed 24 = .ok (.ireturn, 1) := by decide +kernel
theorem dL_trim_0 : decode cL_trim 0 = .ok (.aload_n 2, 1) := by decide +kernel
theorem dL_trim_1 : decode cL_trim 1 = .ok (.iconst 0, 1) := by decide +kernel
theorem dL_trim_2 : decode cL_trim 2 = .ok (.aload_n 0, 1) := by decide +kernel
theorem dL_trim_3 : decode cL_trim 3 = .ok (.iload_n 1, 1) := by decide +kernel
theorem dL_trim_4 : decode cL_trim 4 = .ok (.invokevirtual 15, 3) := by decide +kernel
theorem dL_trim_7 : decode cL_trim 7 = .ok (.i2l, 1) := by decide +kernel
theorem dL_trim_8 : decode cL_trim 8 = .ok (.lastore, 1) := by decide +kernel
theorem dL_trim_9 : decode cL_trim 9 = .ok (.goto 6, 3) := by decide +kernel
theorem dL_trim_12 : decode cL_trim 12 = .ok (.astore_n 3, 1) := by decide +kernel
theorem dL_trim_13 : decode cL_trim 13 = .ok (.iconst 1, 1) := by decide +kernel
theorem dL_trim_14 : decode cL_trim 14 = .ok (.ireturn, 1) := by decide +kernel
theorem dL_trim_15 : decode cL_trim 15 = .ok (.iconst 0, 1) := by decide +kernel
theorem dL_trim_16 : decode cL_trim 16 = .ok (.ireturn, 1) := by decide +kernel
theorem dL_count_0 : decode cL_count 0 = .ok (.aload_n 2, 1) := by decide +kernel
theorem dL_count_1 : decode cL_count 1 = .ok (.iconst 0, 1) := by decide +kernel
theorem dL_count_2 : decode cL_count 2 = .ok (.aload_n 0, 1) := by decide +kernel
theorem dL_count_3 : decode cL_count 3 = .ok (.iload_n 1, 1) := by decide +kernel
theorem dL_count_4 : decode cL_count 4 = .ok (.invokevirtual 21, 3) := by decide +kernel
theorem dL_count_7 : decode cL_count 7 = .ok (.i2l, 1) := by decide +kernel
theorem dL_count_8 : decode cL_count 8 = .ok (.lastore, 1) := by decide +kernel
theorem dL_count_9 : decode cL_count 9 = .ok (.goto 6, 3) := by decide +kernel
theorem dL_count_12 : decode cL_count 12 = .ok (.astore_n 3, 1) := by decide +kernel
theorem dL_count_13 : decode cL_count 13 = .ok (.iconst 1, 1) := by decide +kernel
theorem dL_count_14 : decode cL_count 14 = .ok (.ireturn, 1) := by decide +kernel
theorem dL_count_15 : decode cL_count 15 = .ok (.iconst 0, 1) := by decide +kernel
theorem dL_count_16 : decode cL_count 16 = .ok (.ireturn, 1) := by decide +kernel
theorem dL_fun_0 : decode cL_fun 0 = .ok (.aload_n 3, 1) := by decide +kernel
theorem dL_fun_1 : decode cL_fun 1 = .ok (.iconst 0, 1) := by decide +kernel
theorem dL_fun_2 : decode cL_fun 2 = .ok (.aload_n 0, 1) := by decide +kernel
theorem dL_fun_3 : decode cL_fun 3 = .ok (.iload_n 1, 1) := by decide +kernel
theorem dL_fun_4 : decode cL_fun 4 = .ok (.iload_n 2, 1) := by decide +kernel
theorem dL_fun_5 : decode cL_fun 5 = .ok (.invokevirtual 26, 3) := by decide +kernel
theorem dL_fun_8 : decode cL_fun 8 = .ok (.i2l, 1) := by decide +kernel
theorem dL_fun_9 : decode cL_fun 9 = .ok (.lastore, 1) := by decide +kernel
theorem dL_fun_10 : decode cL_fun 10 = .ok (.goto 7, 3) := by decide +kernel
theorem dL_fun_13 : decode cL_fun 13 = .ok (.astore 4, 2) := by decide +kernel
theorem dL_fun_15 : decode cL_fun 15 = .ok (.iconst 1, 1) := by decide +kernel
theorem dL_fun_16 : decode cL_fun 16 = .ok (.ireturn, 1) := by decide +kernel
theorem dL_fun_17 : decode cL_fun 17 = .ok (.iconst 0, 1) := by decide +kernel
theorem dL_fun_18 : decode cL_fun 18 = .ok (.ireturn, 1) := by decide +kernel
theorem dL_call_0 : decode cL_call 0 = .ok (.aload 5, 2) := by decide +kernel
theorem dL_call_2 : decode cL_call 2 = .ok (.iconst 0, 1) := by decide +kernel
theorem dL_call_3 : decode cL_call 3 = .ok (.aload_n 0, 1) := by decide +kernel
theorem dL_call_4 : decode cL_call 4 = .ok (.iload_n 1, 1) := by decide +kernel
theorem dL_call_5 : decode cL_call 5 = .ok (.iload_n 2, 1) := by decide +kernel
theorem dL_call_6 : decode cL_call 6 = .ok (.iload_n 3, 1) := by decide +kernel
theorem dL_call_7 : decode cL_call 7 = .ok (.iload 4, 2) := by decide +kernel
theorem dL_call_9 : decode cL_call 9 = .ok (.invokevirtual 30, 3) := by decide +kernel
theorem dL_call_12 : decode cL_call 12 = .ok (.lastore, 1) := by decide +kernel
theorem dL_call_13 : decode cL_call 13 = .ok (.goto 11, 3) := by decide +kernel
theorem dL_call_16 : decode cL_call 16 = .ok (.astore 6, 2) := by decide +kernel
theorem dL_call_18 : decode cL_call 18 = .ok (.iconst 1, 1) := by decide +kernel
theorem dL_call_19 : decode cL_call 19 = .ok (.ireturn, 1) := by decide +kernel
theorem dL_call_20 : decode cL_call 20 = .ok (.astore 6, 2) := by decide +kernel
theorem dL_call_22 : decode cL_call 22 = .ok (.iconst 2, 1) := by decide +kernel
theorem dL_call_23 : decode cL_call 23 = .ok (.ireturn, 1) := by decide +kernel
theorem dL_call_24 : decode cL_call 24 = .ok (.iconst 0, 1) := by decide +kernel
theorem dL_call_25 : decode cL_call 25 = .ok (.ireturn, 1) := by decide +kernel
theorem dL_callChanged_0 : decode cL_callChanged 0 = .ok (.aload 6, 2) := by decide +kernel
theorem dL_callChanged_2 : decode cL_callChanged 2 = .ok (.iconst 0, 1) := by decide +kernel
theorem dL_callChanged_3 : decode cL_callChanged 3 = .ok (.aload_n 0, 1) := by decide +kernel
theorem dL_callChanged_4 : decode cL_callChanged 4 = .ok (.iload_n 1, 1) := by decide +kernel
theorem dL_callChanged_5 : decode cL_callChanged 5 = .ok (.iload_n 2, 1) := by decide +kernel
theorem dL_callChanged_6 : decode cL_callChanged 6 = .ok (.iload_n 3, 1) := by decide +kernel
theorem dL_callChanged_7 : decode cL_callChanged 7 = .ok (.iload 4, 2) := by decide +kernel
theorem dL_callChanged_9 : decode cL_callChanged 9 = .ok (.iload 5, 2) := by decide +kernel
theorem dL_callChanged_11 : decode cL_callChanged 11 = .ok (.invokevirtual 34, 3) := by decide +kernel
theorem dL_callChanged_14 : decode cL_callChanged 14 = .ok (.lastore, 1) := by decide +kernel
theorem dL_callChanged_15 : decode cL_callChanged 15 = .ok (.goto 11, 3) := by decide +kernel
theorem dL_callChanged_18 : decode cL_callChanged 18 = .ok (.astore 7, 2) := by decide +kernel
theorem dL_callChanged_20 : decode cL_callChanged 20 = .ok (.iconst 1, 1) := by decide +kernel
theorem dL_callChanged_21 : decode cL_callChanged 21 = .ok (.ireturn, 1) := by decide +kernel
theorem dL_callChanged_22 : decode cL_callChanged 22 = .ok (.astore 7, 2) := by decide +kernel
theorem dL_callChanged_24 : decode cL_callChanged 24 = .ok (.iconst 2, 1) := by decide +kernel
theorem dL_callChanged_25 : decode cL_callChanged 25 = .ok (.ireturn, 1) := by decide +kernel
theorem dL_callChanged_26 : decode cL_callChanged 26 = .ok (.iconst 0, 1) := by decide +kernel
theorem dL_callChanged_27 : decode cL_callChanged 27 = .ok (.ireturn, 1) := by decide +kernel
theorem dL_inputOf_0 : decode cL_inputOf 0 = .ok (.aload 4, 2) := by decide +kernel
theorem dL_inputOf_2 : decode cL_inputOf 2 = .ok (.iconst 0, 1) := by decide +kernel
theorem dL_inputOf_3 : decode cL_inputOf 3 = .ok (.aload_n 0, 1) := by decide +kernel
theorem dL_inputOf_4 : decode cL_inputOf 4 = .ok (.iload_n 1, 1) := by decide +kernel
theorem dL_inputOf_5 : decode cL_inputOf 5 = .ok (.iload_n 2, 1) := by decide +kernel
theorem dL_inputOf_6 : decode cL_inputOf 6 = .ok (.iload_n 3, 1) := by decide +kernel
theorem dL_inputOf_7 : decode cL_inputOf 7 = .ok (.invokevirtual 38, 3) := by decide +kernel
theorem dL_inputOf_10 : decode cL_inputOf 10 = .ok (.i2l, 1) := by decide +kernel
theorem dL_inputOf_11 : decode cL_inputOf 11 = .ok (.lastore, 1) := by decide +kernel
theorem dL_inputOf_12 : decode cL_inputOf 12 = .ok (.goto 7, 3) := by decide +kernel
theorem dL_inputOf_15 : decode cL_inputOf 15 = .ok (.astore 5, 2) := by decide +kernel
theorem dL_inputOf_17 : decode cL_inputOf 17 = .ok (.iconst 1, 1) := by decide +kernel
theorem dL_inputOf_18 : decode cL_inputOf 18 = .ok (.ireturn, 1) := by decide +kernel
theorem dL_inputOf_19 : decode cL_inputOf 19 = .ok (.iconst 0, 1) := by decide +kernel
theorem dL_inputOf_20 : decode cL_inputOf 20 = .ok (.ireturn, 1) := by decide +kernel
theorem dL_propose_0 : decode cL_propose 0 = .ok (.aload_n 2, 1) := by decide +kernel
theorem dL_propose_1 : decode cL_propose 1 = .ok (.iconst 0, 1) := by decide +kernel
theorem dL_propose_2 : decode cL_propose 2 = .ok (.aload_n 0, 1) := by decide +kernel
theorem dL_propose_3 : decode cL_propose 3 = .ok (.iload_n 1, 1) := by decide +kernel
theorem dL_propose_4 : decode cL_propose 4 = .ok (.invokevirtual 42, 3) := by decide +kernel
theorem dL_propose_7 : decode cL_propose 7 = .ok (.i2l, 1) := by decide +kernel
theorem dL_propose_8 : decode cL_propose 8 = .ok (.lastore, 1) := by decide +kernel
theorem dL_propose_9 : decode cL_propose 9 = .ok (.goto 6, 3) := by decide +kernel
theorem dL_propose_12 : decode cL_propose 12 = .ok (.astore_n 3, 1) := by decide +kernel
theorem dL_propose_13 : decode cL_propose 13 = .ok (.iconst 1, 1) := by decide +kernel
theorem dL_propose_14 : decode cL_propose 14 = .ok (.ireturn, 1) := by decide +kernel
theorem dL_propose_15 : decode cL_propose 15 = .ok (.iconst 0, 1) := by decide +kernel
theorem dL_propose_16 : decode cL_propose 16 = .ok (.ireturn, 1) := by decide +kernel
theorem dL_table_0 : decode cL_table 0 = .ok (.aload_n 3, 1) := by decide +kernel
theorem dL_table_1 : decode cL_table 1 = .ok (.iconst 0, 1) := by decide +kernel
theorem dL_table_2 : decode cL_table 2 = .ok (.aload_n 0, 1) := by decide +kernel
theorem dL_table_3 : decode cL_table 3 = .ok (.iload_n 1, 1) := by decide +kernel
theorem dL_table_4 : decode cL_table 4 = .ok (.iload_n 2, 1) := by decide +kernel
theorem dL_table_5 : decode cL_table 5 = .ok (.invokevirtual 45, 3) := by decide +kernel
theorem dL_table_8 : decode cL_table 8 = .ok (.i2l, 1) := by decide +kernel
theorem dL_table_9 : decode cL_table 9 = .ok (.lastore, 1) := by decide +kernel
theorem dL_table_10 : decode cL_table 10 = .ok (.goto 7, 3) := by decide +kernel
theorem dL_table_13 : decode cL_table 13 = .ok (.astore 4, 2) := by decide +kernel
theorem dL_table_15 : decode cL_table 15 = .ok (.iconst 1, 1) := by decide +kernel
theorem dL_table_16 : decode cL_table 16 = .ok (.ireturn, 1) := by decide +kernel
theorem dL_table_17 : decode cL_table 17 = .ok (.iconst 0, 1) := by decide +kernel
theorem dL_table_18 : decode cL_table 18 = .ok (.ireturn, 1) := by decide +kernel
theorem dL_caseOf_0 : decode cL_caseOf 0 = .ok (.aload 4, 2) := by decide +kernel
theorem dL_caseOf_2 : decode cL_caseOf 2 = .ok (.iconst 0, 1) := by decide +kernel
theorem dL_caseOf_3 : decode cL_caseOf 3 = .ok (.aload_n 0, 1) := by decide +kernel
theorem dL_caseOf_4 : decode cL_caseOf 4 = .ok (.iload_n 1, 1) := by decide +kernel
theorem dL_caseOf_5 : decode cL_caseOf 5 = .ok (.iload_n 2, 1) := by decide +kernel
theorem dL_caseOf_6 : decode cL_caseOf 6 = .ok (.iload_n 3, 1) := by decide +kernel
theorem dL_caseOf_7 : decode cL_caseOf 7 = .ok (.invokevirtual 48, 3) := by decide +kernel
theorem dL_caseOf_10 : decode cL_caseOf 10 = .ok (.i2l, 1) := by decide +kernel
theorem dL_caseOf_11 : decode cL_caseOf 11 = .ok (.lastore, 1) := by decide +kernel
theorem dL_caseOf_12 : decode cL_caseOf 12 = .ok (.goto 7, 3) := by decide +kernel
theorem dL_caseOf_15 : decode cL_caseOf 15 = .ok (.astore 5, 2) := by decide +kernel
theorem dL_caseOf_17 : decode cL_caseOf 17 = .ok (.iconst 1, 1) := by decide +kernel
theorem dL_caseOf_18 : decode cL_caseOf 18 = .ok (.ireturn, 1) := by decide +kernel
theorem dL_caseOf_19 : decode cL_caseOf 19 = .ok (.iconst 0, 1) := by decide +kernel
theorem dL_caseOf_20 : decode cL_caseOf 20 = .ok (.ireturn, 1) := by decide +kernel
theorem dL_holds_0 : decode cL_holds 0 = .ok (.aload_n 3, 1) := by decide +kernel
theorem dL_holds_1 : decode cL_holds 1 = .ok (.iconst 0, 1) := by decide +kernel
theorem dL_holds_2 : decode cL_holds 2 = .ok (.aload_n 0, 1) := by decide +kernel
theorem dL_holds_3 : decode cL_holds 3 = .ok (.iload_n 1, 1) := by decide +kernel
theorem dL_holds_4 : decode cL_holds 4 = .ok (.iload_n 2, 1) := by decide +kernel
theorem dL_holds_5 : decode cL_holds 5 = .ok (.invokevirtual 51, 3) := by decide +kernel
theorem dL_holds_8 : decode cL_holds 8 = .ok (.ifCond .eq 7, 3) := by decide +kernel
theorem dL_holds_11 : decode cL_holds 11 = .ok (.lconst 1, 1) := by decide +kernel
theorem dL_holds_12 : decode cL_holds 12 = .ok (.goto 4, 3) := by decide +kernel
theorem dL_holds_15 : decode cL_holds 15 = .ok (.lconst 0, 1) := by decide +kernel
theorem dL_holds_16 : decode cL_holds 16 = .ok (.lastore, 1) := by decide +kernel
theorem dL_holds_17 : decode cL_holds 17 = .ok (.goto 7, 3) := by decide +kernel
theorem dL_holds_20 : decode cL_holds 20 = .ok (.astore 4, 2) := by decide +kernel
theorem dL_holds_22 : decode cL_holds 22 = .ok (.iconst 1, 1) := by decide +kernel
theorem dL_holds_23 : decode cL_holds 23 = .ok (.ireturn, 1) := by decide +kernel
theorem dL_holds_24 : decode cL_holds 24 = .ok (.iconst 0, 1) := by decide +kernel
theorem dL_holds_25 : decode cL_holds 25 = .ok (.ireturn, 1) := by decide +kernel
theorem dL_taken_0 : decode cL_taken 0 = .ok (.aload_n 3, 1) := by decide +kernel
theorem dL_taken_1 : decode cL_taken 1 = .ok (.iconst 0, 1) := by decide +kernel
theorem dL_taken_2 : decode cL_taken 2 = .ok (.aload_n 0, 1) := by decide +kernel
theorem dL_taken_3 : decode cL_taken 3 = .ok (.iload_n 1, 1) := by decide +kernel
theorem dL_taken_4 : decode cL_taken 4 = .ok (.iload_n 2, 1) := by decide +kernel
theorem dL_taken_5 : decode cL_taken 5 = .ok (.invokevirtual 55, 3) := by decide +kernel
theorem dL_taken_8 : decode cL_taken 8 = .ok (.i2l, 1) := by decide +kernel
theorem dL_taken_9 : decode cL_taken 9 = .ok (.lastore, 1) := by decide +kernel
theorem dL_taken_10 : decode cL_taken 10 = .ok (.goto 7, 3) := by decide +kernel
theorem dL_taken_13 : decode cL_taken 13 = .ok (.astore 4, 2) := by decide +kernel
theorem dL_taken_15 : decode cL_taken 15 = .ok (.iconst 1, 1) := by decide +kernel
theorem dL_taken_16 : decode cL_taken 16 = .ok (.ireturn, 1) := by decide +kernel
theorem dL_taken_17 : decode cL_taken 17 = .ok (.iconst 0, 1) := by decide +kernel
theorem dL_taken_18 : decode cL_taken 18 = .ok (.ireturn, 1) := by decide +kernel
theorem dL_finds_0 : decode cL_finds 0 = .ok (.aload_n 3, 1) := by decide +kernel
theorem dL_finds_1 : decode cL_finds 1 = .ok (.iconst 0, 1) := by decide +kernel
theorem dL_finds_2 : decode cL_finds 2 = .ok (.aload_n 0, 1) := by decide +kernel
theorem dL_finds_3 : decode cL_finds 3 = .ok (.iload_n 1, 1) := by decide +kernel
theorem dL_finds_4 : decode cL_finds 4 = .ok (.iload_n 2, 1) := by decide +kernel
theorem dL_finds_5 : decode cL_finds 5 = .ok (.invokevirtual 59, 3) := by decide +kernel
theorem dL_finds_8 : decode cL_finds 8 = .ok (.ifCond .eq 7, 3) := by decide +kernel
theorem dL_finds_11 : decode cL_finds 11 = .ok (.lconst 1, 1) := by decide +kernel
theorem dL_finds_12 : decode cL_finds 12 = .ok (.goto 4, 3) := by decide +kernel
theorem dL_finds_15 : decode cL_finds 15 = .ok (.lconst 0, 1) := by decide +kernel
theorem dL_finds_16 : decode cL_finds 16 = .ok (.lastore, 1) := by decide +kernel
theorem dL_finds_17 : decode cL_finds 17 = .ok (.goto 7, 3) := by decide +kernel
theorem dL_finds_20 : decode cL_finds 20 = .ok (.astore 4, 2) := by decide +kernel
theorem dL_finds_22 : decode cL_finds 22 = .ok (.iconst 1, 1) := by decide +kernel
theorem dL_finds_23 : decode cL_finds 23 = .ok (.ireturn, 1) := by decide +kernel
theorem dL_finds_24 : decode cL_finds 24 = .ok (.iconst 0, 1) := by decide +kernel
theorem dL_finds_25 : decode cL_finds 25 = .ok (.ireturn, 1) := by decide +kernel
theorem dL_score_0 : decode cL_score 0 = .ok (.aload_n 2, 1) := by decide +kernel
theorem dL_score_1 : decode cL_score 1 = .ok (.iconst 0, 1) := by decide +kernel
theorem dL_score_2 : decode cL_score 2 = .ok (.aload_n 0, 1) := by decide +kernel
theorem dL_score_3 : decode cL_score 3 = .ok (.iload_n 1, 1) := by decide +kernel
theorem dL_score_4 : decode cL_score 4 = .ok (.invokevirtual 62, 3) := by decide +kernel
theorem dL_score_7 : decode cL_score 7 = .ok (.dastore, 1) := by decide +kernel
theorem dL_score_8 : decode cL_score 8 = .ok (.goto 6, 3) := by decide +kernel
theorem dL_score_11 : decode cL_score 11 = .ok (.astore_n 3, 1) := by decide +kernel
theorem dL_score_12 : decode cL_score 12 = .ok (.iconst 1, 1) := by decide +kernel
theorem dL_score_13 : decode cL_score 13 = .ok (.ireturn, 1) := by decide +kernel
theorem dL_score_14 : decode cL_score 14 = .ok (.iconst 0, 1) := by decide +kernel
theorem dL_score_15 : decode cL_score 15 = .ok (.ireturn, 1) := by decide +kernel
theorem dL_grow_0 : decode cL_grow 0 = .ok (.aload_n 2, 1) := by decide +kernel
theorem dL_grow_1 : decode cL_grow 1 = .ok (.iconst 0, 1) := by decide +kernel
theorem dL_grow_2 : decode cL_grow 2 = .ok (.aload_n 0, 1) := by decide +kernel
theorem dL_grow_3 : decode cL_grow 3 = .ok (.iload_n 1, 1) := by decide +kernel
theorem dL_grow_4 : decode cL_grow 4 = .ok (.invokevirtual 66, 3) := by decide +kernel
theorem dL_grow_7 : decode cL_grow 7 = .ok (.i2l, 1) := by decide +kernel
theorem dL_grow_8 : decode cL_grow 8 = .ok (.lastore, 1) := by decide +kernel
theorem dL_grow_9 : decode cL_grow 9 = .ok (.goto 9, 3) := by decide +kernel
theorem dL_grow_12 : decode cL_grow 12 = .ok (.astore_n 3, 1) := by decide +kernel
theorem dL_grow_13 : decode cL_grow 13 = .ok (.iconst 1, 1) := by decide +kernel
theorem dL_grow_14 : decode cL_grow 14 = .ok (.ireturn, 1) := by decide +kernel
theorem dL_grow_15 : decode cL_grow 15 = .ok (.astore_n 3, 1) := by decide +kernel
theorem dL_grow_16 : decode cL_grow 16 = .ok (.iconst 2, 1) := by decide +kernel
theorem dL_grow_17 : decode cL_grow 17 = .ok (.ireturn, 1) := by decide +kernel
theorem dL_grow_18 : decode cL_grow 18 = .ok (.iconst 0, 1) := by decide +kernel
theorem dL_grow_19 : decode cL_grow 19 = .ok (.ireturn, 1) := by decide +kernel
theorem dL_shorten_0 : decode cL_shorten 0 = .ok (.aload_n 2, 1) := by decide +kernel
theorem dL_shorten_1 : decode cL_shorten 1 = .ok (.iconst 0, 1) := by decide +kernel
theorem dL_shorten_2 : decode cL_shorten 2 = .ok (.aload_n 0, 1) := by decide +kernel
theorem dL_shorten_3 : decode cL_shorten 3 = .ok (.iload_n 1, 1) := by decide +kernel
theorem dL_shorten_4 : decode cL_shorten 4 = .ok (.invokevirtual 69, 3) := by decide +kernel
theorem dL_shorten_7 : decode cL_shorten 7 = .ok (.i2l, 1) := by decide +kernel
theorem dL_shorten_8 : decode cL_shorten 8 = .ok (.lastore, 1) := by decide +kernel
theorem dL_shorten_9 : decode cL_shorten 9 = .ok (.goto 6, 3) := by decide +kernel
theorem dL_shorten_12 : decode cL_shorten 12 = .ok (.astore_n 3, 1) := by decide +kernel
theorem dL_shorten_13 : decode cL_shorten 13 = .ok (.iconst 1, 1) := by decide +kernel
theorem dL_shorten_14 : decode cL_shorten 14 = .ok (.ireturn, 1) := by decide +kernel
theorem dL_shorten_15 : decode cL_shorten 15 = .ok (.iconst 0, 1) := by decide +kernel
theorem dL_shorten_16 : decode cL_shorten 16 = .ok (.ireturn, 1) := by decide +kernel
theorem dL_law_0 : decode cL_law 0 = .ok (.new 8, 3) := by decide +kernel
theorem dL_law_3 : decode cL_law 3 = .ok (.dup, 1) := by decide +kernel
theorem dL_law_4 : decode cL_law 4 = .ok (.invokespecial 72, 3) := by decide +kernel
theorem dL_law_7 : decode cL_law 7 = .ok (.astore_n 1, 1) := by decide +kernel
theorem dL_law_8 : decode cL_law 8 = .ok (.new 73, 3) := by decide +kernel
theorem dL_law_11 : decode cL_law 11 = .ok (.dup, 1) := by decide +kernel
theorem dL_law_12 : decode cL_law 12 = .ok (.invokespecial 75, 3) := by decide +kernel
theorem dL_law_15 : decode cL_law 15 = .ok (.astore_n 2, 1) := by decide +kernel
theorem dL_law_16 : decode cL_law 16 = .ok (.iconst 1, 1) := by decide +kernel
theorem dL_law_17 : decode cL_law 17 = .ok (.newarray .long, 2) := by decide +kernel
theorem dL_law_19 : decode cL_law 19 = .ok (.astore_n 3, 1) := by decide +kernel
theorem dL_law_20 : decode cL_law 20 = .ok (.iconst 1, 1) := by decide +kernel
theorem dL_law_21 : decode cL_law 21 = .ok (.newarray .double, 2) := by decide +kernel
theorem dL_law_23 : decode cL_law 23 = .ok (.astore 4, 2) := by decide +kernel
theorem dL_law_25 : decode cL_law 25 = .ok (.iconst 0, 1) := by decide +kernel
theorem dL_law_26 : decode cL_law 26 = .ok (.istore 5, 2) := by decide +kernel
theorem dL_law_28 : decode cL_law 28 = .ok (.iload 5, 2) := by decide +kernel
theorem dL_law_30 : decode cL_law 30 = .ok (.aload_n 0, 1) := by decide +kernel
theorem dL_law_31 : decode cL_law 31 = .ok (.arraylength, 1) := by decide +kernel
theorem dL_law_32 : decode cL_law 32 = .ok (.bipush 6, 2) := by decide +kernel
theorem dL_law_34 : decode cL_law 34 = .ok (.isub, 1) := by decide +kernel
theorem dL_law_35 : decode cL_law 35 = .ok (.if_icmp .gt 1332, 3) := by decide +kernel
theorem dL_law_38 : decode cL_law 38 = .ok (.aload_n 0, 1) := by decide +kernel
theorem dL_law_39 : decode cL_law 39 = .ok (.iload 5, 2) := by decide +kernel
theorem dL_law_41 : decode cL_law 41 = .ok (.iaload, 1) := by decide +kernel
theorem dL_law_42 : decode cL_law 42 = .ok (.bipush 31, 2) := by decide +kernel
theorem dL_law_44 : decode cL_law 44 = .ok (.iand, 1) := by decide +kernel
theorem dL_law_45 : decode cL_law 45 = .ok (.tableswitch 1316 0 18 #[91, 195, 251, 264, 277, 333, 401, 492, 595, 675, 731, 799, 879, 954, 1038, 1113, 1190, 1246, 1302], 91) := by decide +kernel
theorem dL_law_136 : decode cL_law 136 = .ok (.aload_n 1, 1) := by decide +kernel
theorem dL_law_137 : decode cL_law 137 = .ok (.aload_n 0, 1) := by decide +kernel
theorem dL_law_138 : decode cL_law 138 = .ok (.iload 5, 2) := by decide +kernel
theorem dL_law_140 : decode cL_law 140 = .ok (.iconst 1, 1) := by decide +kernel
theorem dL_law_141 : decode cL_law 141 = .ok (.iadd, 1) := by decide +kernel
theorem dL_law_142 : decode cL_law 142 = .ok (.iaload, 1) := by decide +kernel
theorem dL_law_143 : decode cL_law 143 = .ok (.aload_n 0, 1) := by decide +kernel
theorem dL_law_144 : decode cL_law 144 = .ok (.iload 5, 2) := by decide +kernel
theorem dL_law_146 : decode cL_law 146 = .ok (.iconst 2, 1) := by decide +kernel
theorem dL_law_147 : decode cL_law 147 = .ok (.iadd, 1) := by decide +kernel
theorem dL_law_148 : decode cL_law 148 = .ok (.iaload, 1) := by decide +kernel
theorem dL_law_149 : decode cL_law 149 = .ok (.aload_n 0, 1) := by decide +kernel
theorem dL_law_150 : decode cL_law 150 = .ok (.iload 5, 2) := by decide +kernel
theorem dL_law_152 : decode cL_law 152 = .ok (.iconst 3, 1) := by decide +kernel
theorem dL_law_153 : decode cL_law 153 = .ok (.iadd, 1) := by decide +kernel
theorem dL_law_154 : decode cL_law 154 = .ok (.iaload, 1) := by decide +kernel
theorem dL_law_155 : decode cL_law 155 = .ok (.aload_n 0, 1) := by decide +kernel
theorem dL_law_156 : decode cL_law 156 = .ok (.iload 5, 2) := by decide +kernel
theorem dL_law_158 : decode cL_law 158 = .ok (.iconst 4, 1) := by decide +kernel
theorem dL_law_159 : decode cL_law 159 = .ok (.iadd, 1) := by decide +kernel
theorem dL_law_160 : decode cL_law 160 = .ok (.iaload, 1) := by decide +kernel
theorem dL_law_161 : decode cL_law 161 = .ok (.aload_n 0, 1) := by decide +kernel
theorem dL_law_162 : decode cL_law 162 = .ok (.iload 5, 2) := by decide +kernel
theorem dL_law_164 : decode cL_law 164 = .ok (.iconst 5, 1) := by decide +kernel
theorem dL_law_165 : decode cL_law 165 = .ok (.iadd, 1) := by decide +kernel
theorem dL_law_166 : decode cL_law 166 = .ok (.iaload, 1) := by decide +kernel
theorem dL_law_167 : decode cL_law 167 = .ok (.aload_n 3, 1) := by decide +kernel
theorem dL_law_168 : decode cL_law 168 = .ok (.invokestatic 76, 3) := by decide +kernel
theorem dL_law_171 : decode cL_law 171 = .ok (.istore 6, 2) := by decide +kernel
theorem dL_law_173 : decode cL_law 173 = .ok (.aload_n 2, 1) := by decide +kernel
theorem dL_law_174 : decode cL_law 174 = .ok (.aload_n 0, 1) := by decide +kernel
theorem dL_law_175 : decode cL_law 175 = .ok (.iload 5, 2) := by decide +kernel
theorem dL_law_177 : decode cL_law 177 = .ok (.iconst 1, 1) := by decide +kernel
theorem dL_law_178 : decode cL_law 178 = .ok (.iadd, 1) := by decide +kernel
theorem dL_law_179 : decode cL_law 179 = .ok (.iaload, 1) := by decide +kernel
theorem dL_law_180 : decode cL_law 180 = .ok (.aload_n 0, 1) := by decide +kernel
theorem dL_law_181 : decode cL_law 181 = .ok (.iload 5, 2) := by decide +kernel
theorem dL_law_183 : decode cL_law 183 = .ok (.iconst 2, 1) := by decide +kernel
theorem dL_law_184 : decode cL_law 184 = .ok (.iadd, 1) := by decide +kernel
theorem dL_law_185 : decode cL_law 185 = .ok (.iaload, 1) := by decide +kernel
theorem dL_law_186 : decode cL_law 186 = .ok (.aload_n 0, 1) := by decide +kernel
theorem dL_law_187 : decode cL_law 187 = .ok (.iload 5, 2) := by decide +kernel
theorem dL_law_189 : decode cL_law 189 = .ok (.iconst 3, 1) := by decide +kernel
theorem dL_law_190 : decode cL_law 190 = .ok (.iadd, 1) := by decide +kernel
theorem dL_law_191 : decode cL_law 191 = .ok (.iaload, 1) := by decide +kernel
theorem dL_law_192 : decode cL_law 192 = .ok (.aload_n 0, 1) := by decide +kernel
theorem dL_law_193 : decode cL_law 193 = .ok (.iload 5, 2) := by decide +kernel
theorem dL_law_195 : decode cL_law 195 = .ok (.iconst 4, 1) := by decide +kernel
theorem dL_law_196 : decode cL_law 196 = .ok (.iadd, 1) := by decide +kernel
theorem dL_law_197 : decode cL_law 197 = .ok (.iaload, 1) := by decide +kernel
theorem dL_law_198 : decode cL_law 198 = .ok (.aload_n 0, 1) := by decide +kernel
theorem dL_law_199 : decode cL_law 199 = .ok (.iload 5, 2) := by decide +kernel
theorem dL_law_201 : decode cL_law 201 = .ok (.iconst 5, 1) := by decide +kernel
theorem dL_law_202 : decode cL_law 202 = .ok (.iadd, 1) := by decide +kernel
theorem dL_law_203 : decode cL_law 203 = .ok (.iaload, 1) := by decide +kernel
theorem dL_law_204 : decode cL_law 204 = .ok (.invokevirtual 81, 3) := by decide +kernel
theorem dL_law_207 : decode cL_law 207 = .ok (.istore 7, 2) := by decide +kernel
theorem dL_law_209 : decode cL_law 209 = .ok (.aload_n 2, 1) := by decide +kernel
theorem dL_law_210 : decode cL_law 210 = .ok (.invokevirtual 82, 3) := by decide +kernel
theorem dL_law_213 : decode cL_law 213 = .ok (.iload 6, 2) := by decide +kernel
theorem dL_law_215 : decode cL_law 215 = .ok (.if_icmp .eq 5, 3) := by decide +kernel
theorem dL_law_218 : decode cL_law 218 = .ok (.iconst 0, 1) := by decide +kernel
theorem dL_law_219 : decode cL_law 219 = .ok (.ireturn, 1) := by decide +kernel
theorem dL_law_220 : decode cL_law 220 = .ok (.iload 6, 2) := by decide +kernel
theorem dL_law_222 : decode cL_law 222 = .ok (.ifCond .ne 15, 3) := by decide +kernel
theorem dL_law_225 : decode cL_law 225 = .ok (.aload_n 3, 1) := by decide +kernel
theorem dL_law_226 : decode cL_law 226 = .ok (.iconst 0, 1) := by decide +kernel
theorem dL_law_227 : decode cL_law 227 = .ok (.laload, 1) := by decide +kernel
theorem dL_law_228 : decode cL_law 228 = .ok (.iload 7, 2) := by decide +kernel
theorem dL_law_230 : decode cL_law 230 = .ok (.i2l, 1) := by decide +kernel
theorem dL_law_231 : decode cL_law 231 = .ok (.lcmp, 1) := by decide +kernel
theorem dL_law_232 : decode cL_law 232 = .ok (.ifCond .eq 5, 3) := by decide +kernel
theorem dL_law_235 : decode cL_law 235 = .ok (.iconst 0, 1) := by decide +kernel
theorem dL_law_236 : decode cL_law 236 = .ok (.ireturn, 1) := by decide +kernel
theorem dL_law_237 : decode cL_law 237 = .ok (.goto 1124, 3) := by decide +kernel
theorem dL_law_240 : decode cL_law 240 = .ok (.aload_n 1, 1) := by decide +kernel
theorem dL_law_241 : decode cL_law 241 = .ok (.aload_n 0, 1) := by decide +kernel
theorem dL_law_242 : decode cL_law 242 = .ok (.iload 5, 2) := by decide +kernel
theorem dL_law_244 : decode cL_law 244 = .ok (.iconst 1, 1) := by decide +kernel
theorem dL_law_245 : decode cL_law 245 = .ok (.iadd, 1) := by decide +kernel
theorem dL_law_246 : decode cL_law 246 = .ok (.iaload, 1) := by decide +kernel
theorem dL_law_247 : decode cL_law 247 = .ok (.aload_n 3, 1) := by decide +kernel
theorem dL_law_248 : decode cL_law 248 = .ok (.invokestatic 86, 3) := by decide +kernel
theorem dL_law_251 : decode cL_law 251 = .ok (.istore 6, 2) := by decide +kernel
theorem dL_law_253 : decode cL_law 253 = .ok (.aload_n 2, 1) := by decide +kernel
theorem dL_law_254 : decode cL_law 254 = .ok (.aload_n 0, 1) := by decide +kernel
theorem dL_law_255 : decode cL_law 255 = .ok (.iload 5, 2) := by decide +kernel
theorem dL_law_257 : decode cL_law 257 = .ok (.iconst 1, 1) := by decide +kernel
theorem dL_law_258 : decode cL_law 258 = .ok (.iadd, 1) := by decide +kernel
theorem dL_law_259 : decode cL_law 259 = .ok (.iaload, 1) := by decide +kernel
theorem dL_law_260 : decode cL_law 260 = .ok (.invokevirtual 89, 3) := by decide +kernel
