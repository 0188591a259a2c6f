theorem dX10_advance_242 : decode cX10_advance 242 = .ok (.iconst 3, 1) := by decide +kernel
theorem dX10_advance_243 : decode cX10_advance 243 = .ok (.goto 4, 3) := by decide +kernel
theorem dX10_advance_246 : decode cX10_advance 246 = .ok (.iconst 4, 1) := by decide +kernel
theorem dX10_advance_247 : decode cX10_advance 247 = .ok (.putfield 84, 3) := by decide +kernel
theorem dX10_advance_250 : decode cX10_advance 250 = .ok (.return_, 1) := by decide +kernel
theorem dX10_isWord_0 : decode cX10_isWord 0 = .ok (.aload_n 0, 1) := by decide +kernel
theorem dX10_isWord_1 : decode cX10_isWord 1 = .ok (.getfield 84, 3) := by decide +kernel
theorem dX10_isWord_4 : decode cX10_isWord 4 = .ok (.iconst 1, 1) := by decide +kernel
theorem dX10_isWord_5 : decode cX10_isWord 5 = .ok (.if_icmp .ne 23, 3) := by decide +kernel
theorem dX10_isWord_8 : decode cX10_isWord 8 = .ok (.aload_n 0, 1) := by decide +kernel
theorem dX10_isWord_9 : decode cX10_isWord 9 = .ok (.getfield 67, 3) := by decide +kernel
theorem dX10_isWord_12 : decode cX10_isWord 12 = .ok (.aload_n 0, 1) := by decide +kernel
theorem dX10_isWord_13 : decode cX10_isWord 13 = .ok (.getfield 78, 3) := by decide +kernel
theorem dX10_isWord_16 : decode cX10_isWord 16 = .ok (.isub, 1) := by decide +kernel
theorem dX10_isWord_17 : decode cX10_isWord 17 = .ok (.aload_n 1, 1) := by decide +kernel
theorem dX10_isWord_18 : decode cX10_isWord 18 = .ok (.invokevirtual 90, 3) := by decide +kernel
theorem dX10_isWord_21 : decode cX10_isWord 21 = .ok (.if_icmp .ne 7, 3) := by decide +kernel
theorem dX10_isWord_24 : decode cX10_isWord 24 = .ok (.iconst 1, 1) := by decide +kernel
theorem dX10_isWord_25 : decode cX10_isWord 25 = .ok (.goto 4, 3) := by decide +kernel
theorem dX10_isWord_28 : decode cX10_isWord 28 = .ok (.iconst 0, 1) := by decide +kernel
theorem dX10_isWord_29 : decode cX10_isWord 29 = .ok (.istore_n 2, 1) := by decide +kernel
theorem dX10_isWord_30 : decode cX10_isWord 30 = .ok (.iconst 0, 1) := by decide +kernel
theorem dX10_isWord_31 : decode cX10_isWord 31 = .ok (.istore_n 3, 1) := by decide +kernel
theorem dX10_isWord_32 : decode cX10_isWord 32 = .ok (.iload_n 3, 1) := by decide +kernel
theorem dX10_isWord_33 : decode cX10_isWord 33 = .ok (.aload_n 1, 1) := by decide +kernel
theorem dX10_isWord_34 : decode cX10_isWord 34 = .ok (.invokevirtual 90, 3) := by decide +kernel
theorem dX10_isWord_37 : decode cX10_isWord 37 = .ok (.if_icmp .ge 38, 3) := by decide +kernel
theorem dX10_isWord_40 : decode cX10_isWord 40 = .ok (.iload_n 2, 1) := by decide +kernel
theorem dX10_isWord_41 : decode cX10_isWord 41 = .ok (.ifCond .eq 34, 3) := by decide +kernel
theorem dX10_isWord_44 : decode cX10_isWord 44 = .ok (.aload_n 0, 1) := by decide +kernel
theorem dX10_isWord_45 : decode cX10_isWord 45 = .ok (.getfield 17, 3) := by decide +kernel
theorem dX10_isWord_48 : decode cX10_isWord 48 = .ok (.aload_n 0, 1) := by decide +kernel
theorem dX10_isWord_49 : decode cX10_isWord 49 = .ok (.getfield 78, 3) := by decide +kernel
theorem dX10_isWord_52 : decode cX10_isWord 52 = .ok (.iload_n 3, 1) := by decide +kernel
theorem dX10_isWord_53 : decode cX10_isWord 53 = .ok (.iadd, 1) := by decide +kernel
theorem dX10_isWord_54 : decode cX10_isWord 54 = .ok (.baload, 1) := by decide +kernel
theorem dX10_isWord_55 : decode cX10_isWord 55 = .ok (.aload_n 1, 1) := by decide +kernel
theorem dX10_isWord_56 : decode cX10_isWord 56 = .ok (.iload_n 3, 1) := by decide +kernel
theorem dX10_isWord_57 : decode cX10_isWord 57 = .ok (.invokevirtual 95, 3) := by decide +kernel
theorem dX10_isWord_60 : decode cX10_isWord 60 = .ok (.if_icmp .ne 7, 3) := by decide +kernel
theorem dX10_isWord_63 : decode cX10_isWord 63 = .ok (.iconst 1, 1) := by decide +kernel
theorem dX10_isWord_64 : decode cX10_isWord 64 = .ok (.goto 4, 3) := by decide +kernel
theorem dX10_isWord_67 : decode cX10_isWord 67 = .ok (.iconst 0, 1) := by decide +kernel
theorem dX10_isWord_68 : decode cX10_isWord 68 = .ok (.istore_n 2, 1) := by decide +kernel
theorem dX10_isWord_69 : decode cX10_isWord 69 = .ok (.iinc 3 1, 3) := by decide +kernel
theorem dX10_isWord_72 : decode cX10_isWord 72 = .ok (.goto (-40), 3) := by decide +kernel
theorem dX10_isWord_75 : decode cX10_isWord 75 = .ok (.iload_n 2, 1) := by decide +kernel
theorem dX10_isWord_76 : decode cX10_isWord 76 = .ok (.ireturn, 1) := by decide +kernel
theorem dX10_failsAt_0 : decode cX10_failsAt 0 = .ok (.aload_n 0, 1) := by decide +kernel
theorem dX10_failsAt_1 : decode cX10_failsAt 1 = .ok (.getfield 99, 3) := by decide +kernel
theorem dX10_failsAt_4 : decode cX10_failsAt 4 = .ok (.ifCond .ne 13, 3) := by decide +kernel
theorem dX10_failsAt_7 : decode cX10_failsAt 7 = .ok (.aload_n 0, 1) := by decide +kernel
theorem dX10_failsAt_8 : decode cX10_failsAt 8 = .ok (.iload_n 1, 1) := by decide +kernel
theorem dX10_failsAt_9 : decode cX10_failsAt 9 = .ok (.putfield 99, 3) := by decide +kernel
theorem dX10_failsAt_12 : decode cX10_failsAt 12 = .ok (.aload_n 0, 1) := by decide +kernel
theorem dX10_failsAt_13 : decode cX10_failsAt 13 = .ok (.iload_n 2, 1) := by decide +kernel
theorem dX10_failsAt_14 : decode cX10_failsAt 14 = .ok (.putfield 21, 3) := by decide +kernel
theorem dX10_failsAt_17 : decode cX10_failsAt 17 = .ok (.iconst 0, 1) := by decide +kernel
theorem dX10_failsAt_18 : decode cX10_failsAt 18 = .ok (.ireturn, 1) := by decide +kernel
theorem dX10_fails_0 : decode cX10_fails 0 = .ok (.aload_n 0, 1) := by decide +kernel
theorem dX10_fails_1 : decode cX10_fails 1 = .ok (.iload_n 1, 1) := by decide +kernel
theorem dX10_fails_2 : decode cX10_fails 2 = .ok (.aload_n 0, 1) := by decide +kernel
theorem dX10_fails_3 : decode cX10_fails 3 = .ok (.getfield 78, 3) := by decide +kernel
theorem dX10_fails_6 : decode cX10_fails 6 = .ok (.invokevirtual 102, 3) := by decide +kernel
theorem dX10_fails_9 : decode cX10_fails 9 = .ok (.ireturn, 1) := by decide +kernel
theorem dX10_starts_0 : decode cX10_starts 0 = .ok (.iload_n 2, 1) := by decide +kernel
theorem dX10_starts_1 : decode cX10_starts 1 = .ok (.ifCond .ne 9, 3) := by decide +kernel
theorem dX10_starts_4 : decode cX10_starts 4 = .ok (.aload_n 0, 1) := by decide +kernel
theorem dX10_starts_5 : decode cX10_starts 5 = .ok (.iload_n 1, 1) := by decide +kernel
theorem dX10_starts_6 : decode cX10_starts 6 = .ok (.invokevirtual 106, 3) := by decide +kernel
theorem dX10_starts_9 : decode cX10_starts 9 = .ok (.ireturn, 1) := by decide +kernel
theorem dX10_starts_10 : decode cX10_starts 10 = .ok (.aload_n 0, 1) := by decide +kernel
theorem dX10_starts_11 : decode cX10_starts 11 = .ok (.invokevirtual 110, 3) := by decide +kernel
theorem dX10_starts_14 : decode cX10_starts 14 = .ok (.iconst 1, 1) := by decide +kernel
theorem dX10_starts_15 : decode cX10_starts 15 = .ok (.ireturn, 1) := by decide +kernel
theorem dX10_takes_0 : decode cX10_takes 0 = .ok (.aload_n 0, 1) := by decide +kernel
theorem dX10_takes_1 : decode cX10_takes 1 = .ok (.getfield 84, 3) := by decide +kernel
theorem dX10_takes_4 : decode cX10_takes 4 = .ok (.iconst 2, 1) := by decide +kernel
theorem dX10_takes_5 : decode cX10_takes 5 = .ok (.if_icmp .eq 9, 3) := by decide +kernel
theorem dX10_takes_8 : decode cX10_takes 8 = .ok (.aload_n 0, 1) := by decide +kernel
theorem dX10_takes_9 : decode cX10_takes 9 = .ok (.iconst 1, 1) := by decide +kernel
theorem dX10_takes_10 : decode cX10_takes 10 = .ok (.invokevirtual 106, 3) := by decide +kernel
theorem dX10_takes_13 : decode cX10_takes 13 = .ok (.ireturn, 1) := by decide +kernel
theorem dX10_takes_14 : decode cX10_takes 14 = .ok (.aload_n 0, 1) := by decide +kernel
theorem dX10_takes_15 : decode cX10_takes 15 = .ok (.getfield 81, 3) := by decide +kernel
theorem dX10_takes_18 : decode cX10_takes 18 = .ok (.iload_n 1, 1) := by decide +kernel
theorem dX10_takes_19 : decode cX10_takes 19 = .ok (.iload_n 2, 1) := by decide +kernel
theorem dX10_takes_20 : decode cX10_takes 20 = .ok (.invokestatic 74, 3) := by decide +kernel
theorem dX10_takes_23 : decode cX10_takes 23 = .ok (.ifCond .ne 9, 3) := by decide +kernel
theorem dX10_takes_26 : decode cX10_takes 26 = .ok (.aload_n 0, 1) := by decide +kernel
theorem dX10_takes_27 : decode cX10_takes 27 = .ok (.iconst 3, 1) := by decide +kernel
theorem dX10_takes_28 : decode cX10_takes 28 = .ok (.invokevirtual 106, 3) := by decide +kernel
theorem dX10_takes_31 : decode cX10_takes 31 = .ok (.ireturn, 1) := by decide +kernel
theorem dX10_takes_32 : decode cX10_takes 32 = .ok (.aload_n 0, 1) := by decide +kernel
theorem dX10_takes_33 : decode cX10_takes 33 = .ok (.aload_n 0, 1) := by decide +kernel
theorem dX10_takes_34 : decode cX10_takes 34 = .ok (.getfield 81, 3) := by decide +kernel
theorem dX10_takes_37 : decode cX10_takes 37 = .ok (.putfield 113, 3) := by decide +kernel
theorem dX10_takes_40 : decode cX10_takes 40 = .ok (.aload_n 0, 1) := by decide +kernel
theorem dX10_takes_41 : decode cX10_takes 41 = .ok (.invokevirtual 110, 3) := by decide +kernel
theorem dX10_takes_44 : decode cX10_takes 44 = .ok (.iconst 1, 1) := by decide +kernel
theorem dX10_takes_45 : decode cX10_takes 45 = .ok (.ireturn, 1) := by decide +kernel
theorem dX10_closes_0 : decode cX10_closes 0 = .ok (.aload_n 0, 1) := by decide +kernel
theorem dX10_closes_1 : decode cX10_closes 1 = .ok (.iconst 1, 1) := by decide +kernel
theorem dX10_closes_2 : decode cX10_closes 2 = .ok (.aload_n 0, 1) := by decide +kernel
theorem dX10_closes_3 : decode cX10_closes 3 = .ok (.getfield 84, 3) := by decide +kernel
theorem dX10_closes_6 : decode cX10_closes 6 = .ok (.iconst 3, 1) := by decide +kernel
theorem dX10_closes_7 : decode cX10_closes 7 = .ok (.if_icmp .ne 7, 3) := by decide +kernel
theorem dX10_closes_10 : decode cX10_closes 10 = .ok (.iconst 1, 1) := by decide +kernel
theorem dX10_closes_11 : decode cX10_closes 11 = .ok (.goto 4, 3) := by decide +kernel
theorem dX10_closes_14 : decode cX10_closes 14 = .ok (.iconst 0, 1) := by decide +kernel
theorem dX10_closes_15 : decode cX10_closes 15 = .ok (.invokevirtual 116, 3) := by decide +kernel
theorem dX10_closes_18 : decode cX10_closes 18 = .ok (.ireturn, 1) := by decide +kernel
theorem dX10_named_0 : decode cX10_named 0 = .ok (.iconst 0, 1) := by decide +kernel
theorem dX10_named_1 : decode cX10_named 1 = .ok (.istore 4, 2) := by decide +kernel
theorem dX10_named_3 : decode cX10_named 3 = .ok (.iload 4, 2) := by decide +kernel
theorem dX10_named_5 : decode cX10_named 5 = .ok (.iload_n 1, 1) := by decide +kernel
theorem dX10_named_6 : decode cX10_named 6 = .ok (.if_icmp .ge 21, 3) := by decide +kernel
theorem dX10_named_9 : decode cX10_named 9 = .ok (.aload_n 0, 1) := by decide +kernel
theorem dX10_named_10 : decode cX10_named 10 = .ok (.iload 4, 2) := by decide +kernel
theorem dX10_named_12 : decode cX10_named 12 = .ok (.laload, 1) := by decide +kernel
theorem dX10_named_13 : decode cX10_named 13 = .ok (.lload_n 2, 1) := by decide +kernel
theorem dX10_named_14 : decode cX10_named 14 = .ok (.lcmp, 1) := by decide +kernel
theorem dX10_named_15 : decode cX10_named 15 = .ok (.ifCond .ne 6, 3) := by decide +kernel
theorem dX10_named_18 : decode cX10_named 18 = .ok (.iload 4, 2) := by decide +kernel
theorem dX10_named_20 : decode cX10_named 20 = .ok (.ireturn, 1) := by decide +kernel
theorem dX10_named_21 : decode cX10_named 21 = .ok (.iinc 4 1, 3) := by decide +kernel
theorem dX10_named_24 : decode cX10_named 24 = .ok (.goto (-21), 3) := by decide +kernel
theorem dX10_named_27 : decode cX10_named 27 = .ok (.iconst (-1), 1) := by decide +kernel
theorem dX10_named_28 : decode cX10_named 28 = .ok (.ireturn, 1) := by decide +kernel
theorem dX10_badLine_0 : decode cX10_badLine 0 = .ok (.aload_n 0, 1) := by decide +kernel
theorem dX10_badLine_1 : decode cX10_badLine 1 = .ok (.invokevirtual 110, 3) := by decide +kernel
theorem dX10_badLine_4 : decode cX10_badLine 4 = .ok (.aload_n 0, 1) := by decide +kernel
theorem dX10_badLine_5 : decode cX10_badLine 5 = .ok (.getfield 84, 3) := by decide +kernel
theorem dX10_badLine_8 : decode cX10_badLine 8 = .ok (.iconst 2, 1) := by decide +kernel
theorem dX10_badLine_9 : decode cX10_badLine 9 = .ok (.if_icmp .ne 38, 3) := by decide +kernel
theorem dX10_badLine_12 : decode cX10_badLine 12 = .ok (.aload_n 0, 1) := by decide +kernel
theorem dX10_badLine_13 : decode cX10_badLine 13 = .ok (.getfield 81, 3) := by decide +kernel
theorem dX10_badLine_16 : decode cX10_badLine 16 = .ok (.aload_n 0, 1) := by decide +kernel
theorem dX10_badLine_17 : decode cX10_badLine 17 = .ok (.getfield 7, 3) := by decide +kernel
theorem dX10_badLine_20 : decode cX10_badLine 20 = .ok (.iconst 0, 1) := by decide +kernel
theorem dX10_badLine_21 : decode cX10_badLine 21 = .ok (.iaload, 1) := by decide +kernel
theorem dX10_badLine_22 : decode cX10_badLine 22 = .ok (.if_icmp .ge 25, 3) := by decide +kernel
theorem dX10_badLine_25 : decode cX10_badLine 25 = .ok (.aload_n 0, 1) := by decide +kernel
theorem dX10_badLine_26 : decode cX10_badLine 26 = .ok (.getfield 7, 3) := by decide +kernel
theorem dX10_badLine_29 : decode cX10_badLine 29 = .ok (.bipush 103, 2) := by decide +kernel
theorem dX10_badLine_31 : decode cX10_badLine 31 = .ok (.aload_n 0, 1) := by decide +kernel
theorem dX10_badLine_32 : decode cX10_badLine 32 = .ok (.getfield 81, 3) := by decide +kernel
theorem dX10_badLine_35 : decode cX10_badLine 35 = .ok (.iadd, 1) := by decide +kernel
theorem dX10_badLine_36 : decode cX10_badLine 36 = .ok (.iaload, 1) := by decide +kernel
theorem dX10_badLine_37 : decode cX10_badLine 37 = .ok (.iconst 1, 1) := by decide +kernel
theorem dX10_badLine_38 : decode cX10_badLine 38 = .ok (.if_icmp .ne 9, 3) := by decide +kernel
theorem dX10_badLine_41 : decode cX10_badLine 41 = .ok (.aload_n 0, 1) := by decide +kernel
theorem dX10_badLine_42 : decode cX10_badLine 42 = .ok (.iconst 2, 1) := by decide +kernel
theorem dX10_badLine_43 : decode cX10_badLine 43 = .ok (.invokevirtual 106, 3) := by decide +kernel
theorem dX10_badLine_46 : decode cX10_badLine 46 = .ok (.ireturn, 1) := by decide +kernel
theorem dX10_badLine_47 : decode cX10_badLine 47 = .ok (.aload_n 0, 1) := by decide +kernel
theorem dX10_badLine_48 : decode cX10_badLine 48 = .ok (.iconst 0, 1) := by decide +kernel
theorem dX10_badLine_49 : decode cX10_badLine 49 = .ok (.aload_n 0, 1) := by decide +kernel
theorem dX10_badLine_50 : decode cX10_badLine 50 = .ok (.getfield 7, 3) := by decide +kernel
theorem dX10_badLine_53 : decode cX10_badLine 53 = .ok (.iconst 0, 1) := by decide +kernel
theorem dX10_badLine_54 : decode cX10_badLine 54 = .ok (.iaload, 1) := by decide +kernel
theorem dX10_badLine_55 : decode cX10_badLine 55 = .ok (.iconst 1, 1) := by decide +kernel
theorem dX10_badLine_56 : decode cX10_badLine 56 = .ok (.isub, 1) := by decide +kernel
theorem dX10_badLine_57 : decode cX10_badLine 57 = .ok (.invokevirtual 120, 3) := by decide +kernel
theorem dX10_badLine_60 : decode cX10_badLine 60 = .ok (.ifCond .ne 5, 3) := by decide +kernel
theorem dX10_badLine_63 : decode cX10_badLine 63 = .ok (.iconst 0, 1) := by decide +kernel
theorem dX10_badLine_64 : decode cX10_badLine 64 = .ok (.ireturn, 1) := by decide +kernel
theorem dX10_badLine_65 : decode cX10_badLine 65 = .ok (.aload_n 0, 1) := by decide +kernel
theorem dX10_badLine_66 : decode cX10_badLine 66 = .ok (.getfield 7, 3) := by decide +kernel
theorem dX10_badLine_69 : decode cX10_badLine 69 = .ok (.bipush 103, 2) := by decide +kernel
theorem dX10_badLine_71 : decode cX10_badLine 71 = .ok (.aload_n 0, 1) := by decide +kernel
theorem dX10_badLine_72 : decode cX10_badLine 72 = .ok (.getfield 113, 3) := by decide +kernel
theorem dX10_badLine_75 : decode cX10_badLine 75 = .ok (.iadd, 1) := by decide +kernel
theorem dX10_badLine_76 : decode cX10_badLine 76 = .ok (.iconst 1, 1) := by decide +kernel
theorem dX10_badLine_77 : decode cX10_badLine 77 = .ok (.iastore, 1) := by decide +kernel
theorem dX10_badLine_78 : decode cX10_badLine 78 = .ok (.iconst 1, 1) := by decide +kernel
theorem dX10_badLine_79 : decode cX10_badLine 79 = .ok (.ireturn, 1) := by decide +kernel
theorem dX10_fileLine_0 : decode cX10_fileLine 0 = .ok (.aload_n 0, 1) := by decide +kernel
theorem dX10_fileLine_1 : decode cX10_fileLine 1 = .ok (.getfield 7, 3) := by decide +kernel
theorem dX10_fileLine_4 : decode cX10_fileLine 4 = .ok (.iconst 2, 1) := by decide +kernel
theorem dX10_fileLine_5 : decode cX10_fileLine 5 = .ok (.iaload, 1) := by decide +kernel
theorem dX10_fileLine_6 : decode cX10_fileLine 6 = .ok (.istore_n 1, 1) := by decide +kernel
theorem dX10_fileLine_7 : decode cX10_fileLine 7 = .ok (.aload_n 0, 1) := by decide +kernel
theorem dX10_fileLine_8 : decode cX10_fileLine 8 = .ok (.iconst 5, 1) := by decide +kernel
theorem dX10_fileLine_9 : decode cX10_fileLine 9 = .ok (.iload_n 1, 1) := by decide +kernel
theorem dX10_fileLine_10 : decode cX10_fileLine 10 = .ok (.bipush 10, 2) := by decide +kernel
theorem dX10_fileLine_12 : decode cX10_fileLine 12 = .ok (.if_icmp .ge 7, 3) := by decide +kernel
theorem dX10_fileLine_15 : decode cX10_fileLine 15 = .ok (.iconst 1, 1) := by decide +kernel
theorem dX10_fileLine_16 : decode cX10_fileLine 16 = .ok (.goto 4, 3) := by decide +kernel
theorem dX10_fileLine_19 : decode cX10_fileLine 19 = .ok (.iconst 0, 1) := by decide +kernel
theorem dX10_fileLine_20 : decode cX10_fileLine 20 = .ok (.invokevirtual 116, 3) := by decide +kernel
theorem dX10_fileLine_23 : decode cX10_fileLine 23 = .ok (.ifCond .ne 5, 3) := by decide +kernel
theorem dX10_fileLine_26 : decode cX10_fileLine 26 = .ok (.iconst 0, 1) := by decide +kernel
theorem dX10_fileLine_27 : decode cX10_fileLine 27 = .ok (.ireturn, 1) := by decide +kernel
theorem dX10_fileLine_28 : decode cX10_fileLine 28 = .ok (.aload_n 0, 1) := by decide +kernel
theorem dX10_fileLine_29 : decode cX10_fileLine 29 = .ok (.getfield 84, 3) := by decide +kernel
theorem dX10_fileLine_32 : decode cX10_fileLine 32 = .ok (.iconst 1, 1) := by decide +kernel
theorem dX10_fileLine_33 : decode cX10_fileLine 33 = .ok (.if_icmp .eq 9, 3) := by decide +kernel
theorem dX10_fileLine_36 : decode cX10_fileLine 36 = .ok (.aload_n 0, 1) := by decide +kernel
theorem dX10_fileLine_37 : decode cX10_fileLine 37 = .ok (.iconst 1, 1) := by decide +kernel
theorem dX10_fileLine_38 : decode cX10_fileLine 38 = .ok (.invokevirtual 106, 3) := by decide +kernel
theorem dX10_fileLine_41 : decode cX10_fileLine 41 = .ok (.ireturn, 1) := by decide +kernel
theorem dX10_fileLine_42 : decode cX10_fileLine 42 = .ok (.aload_n 0, 1) := by decide +kernel
theorem dX10_fileLine_43 : decode cX10_fileLine 43 = .ok (.getfield 63, 3) := by decide +kernel
theorem dX10_fileLine_46 : decode cX10_fileLine 46 = .ok (.lstore_n 2, 1) := by decide +kernel
theorem dX10_fileLine_47 : decode cX10_fileLine 47 = .ok (.aload_n 0, 1) := by decide +kernel
theorem dX10_fileLine_48 : decode cX10_fileLine 48 = .ok (.iconst 2, 1) := by decide +kernel
theorem dX10_fileLine_49 : decode cX10_fileLine 49 = .ok (.aload_n 0, 1) := by decide +kernel
theorem dX10_fileLine_50 : decode cX10_fileLine 50 = .ok (.getfield 28, 3) := by decide +kernel
theorem dX10_fileLine_53 : decode cX10_fileLine 53 = .ok (.iload_n 1, 1) := by decide +kernel
theorem dX10_fileLine_54 : decode cX10_fileLine 54 = .ok (.lload_n 2, 1) := by decide +kernel
theorem dX10_fileLine_55 : decode cX10_fileLine 55 = .ok (.invokestatic 123, 3) := by decide +kernel
theorem dX10_fileLine_58 : decode cX10_fileLine 58 = .ok (.iconst (-1), 1) := by decide +kernel
theorem dX10_fileLine_59 : decode cX10_fileLine 59 = .ok (.if_icmp .ne 7, 3) := by decide +kernel
theorem dX10_fileLine_62 : decode cX10_fileLine 62 = .ok (.iconst 1, 1) := by decide +kernel
theorem dX10_fileLine_63 : decode cX10_fileLine 63 = .ok (.goto 4, 3) := by decide +kernel
theorem dX10_fileLine_66 : decode cX10_fileLine 66 = .ok (.iconst 0, 1) := by decide +kernel
theorem dX10_fileLine_67 : decode cX10_fileLine 67 = .ok (.invokevirtual 116, 3) := by decide +kernel
theorem dX10_fileLine_70 : decode cX10_fileLine 70 = .ok (.ifCond .ne 5, 3) := by decide +kernel
theorem dX10_fileLine_73 : decode cX10_fileLine 73 = .ok (.iconst 0, 1) := by decide +kernel
theorem dX10_fileLine_74 : decode cX10_fileLine 74 = .ok (.ireturn, 1) := by decide +kernel
theorem dX10_fileLine_75 : decode cX10_fileLine 75 = .ok (.aload_n 0, 1) := by decide +kernel
theorem dX10_fileLine_76 : decode cX10_fileLine 76 = .ok (.getfield 28, 3) := by decide +kernel
theorem dX10_fileLine_79 : decode cX10_fileLine 79 = .ok (.iload_n 1, 1) := by decide +kernel
theorem dX10_fileLine_80 : decode cX10_fileLine 80 = .ok (.lload_n 2, 1) := by decide +kernel
theorem dX10_fileLine_81 : decode cX10_fileLine 81 = .ok (.lastore, 1) := by decide +kernel
theorem dX10_fileLine_82 : decode cX10_fileLine 82 = .ok (.aload_n 0, 1) := by decide +kernel
theorem dX10_fileLine_83 : decode cX10_fileLine 83 = .ok (.getfield 7, 3) := by decide +kernel
theorem dX10_fileLine_86 : decode cX10_fileLine 86 = .ok (.iconst 2, 1) := by decide +kernel
theorem dX10_fileLine_87 : decode cX10_fileLine 87 = .ok (.dup2, 1) := by decide +kernel
theorem dX10_fileLine_88 : decode cX10_fileLine 88 = .ok (.iaload, 1) := by decide +kernel
theorem dX10_fileLine_89 : decode cX10_fileLine 89 = .ok (.iconst 1, 1) := by decide +kernel
theorem dX10_fileLine_90 : decode cX10_fileLine 90 = .ok (.iadd, 1) := by decide +kernel
theorem dX10_fileLine_91 : decode cX10_fileLine 91 = .ok (.iastore, 1) := by decide +kernel
theorem dX10_fileLine_92 : decode cX10_fileLine 92 = .ok (.iconst 1, 1) := by decide +kernel
theorem dX10_fileLine_93 : decode cX10_fileLine 93 = .ok (.ireturn, 1) := by decide +kernel
theorem dX10_takesFile_0 : decode cX10_takesFile 0 = .ok (.aload_n 0, 1) := by decide +kernel
theorem dX10_takesFile_1 : decode cX10_takesFile 1 = .ok (.getfield 84, 3) := by decide +kernel
theorem dX10_takesFile_4 : decode cX10_takesFile 4 = .ok (.iconst 1, 1) := by decide +kernel
theorem dX10_takesFile_5 : decode cX10_takesFile 5 = .ok (.if_icmp .eq 9, 3) := by decide +kernel
theorem dX10_takesFile_8 : decode cX10_takesFile 8 = .ok (.aload_n 0, 1) := by decide +kernel
theorem dX10_takesFile_9 : decode cX10_takesFile 9 = .ok (.iconst 1, 1) := by decide +kernel
theorem dX10_takesFile_10 : decode cX10_takesFile 10 = .ok (.invokevirtual 106, 3) := by decide +kernel
theorem dX10_takesFile_13 : decode cX10_takesFile 13 = .ok (.ireturn, 1) := by decide +kernel
theorem dX10_takesFile_14 : decode cX10_takesFile 14 = .ok (.aload_n 0, 1) := by decide +kernel
theorem dX10_takesFile_15 : decode cX10_takesFile 15 = .ok (.aload_n 0, 1) := by decide +kernel
theorem dX10_takesFile_16 : decode cX10_takesFile 16 = .ok (.getfield 28, 3) := by decide +kernel
theorem dX10_takesFile_19 : decode cX10_takesFile 19 = .ok (.aload_n 0, 1) := by decide +kernel
theorem dX10_takesFile_20 : decode cX10_takesFile 20 = .ok (.getfield 7, 3) := by decide +kernel
theorem dX10_takesFile_23 : decode cX10_takesFile 23 = .ok (.iconst 2, 1) := by decide +kernel
theorem dX10_takesFile_24 : decode cX10_takesFile 24 = .ok (.iaload, 1) := by decide +kernel
theorem dX10_takesFile_25 : decode cX10_takesFile 25 = .ok (.aload_n 0, 1) := by decide +kernel
theorem dX10_takesFile_26 : decode cX10_takesFile 26 = .ok (.getfield 63, 3) := by decide +kernel
theorem dX10_takesFile_29 : decode cX10_takesFile 29 = .ok (.invokestatic 123, 3) := by decide +kernel
theorem dX10_takesFile_32 : decode cX10_takesFile 32 = .ok (.putfield 127, 3) := by decide +kernel
theorem dX10_takesFile_35 : decode cX10_takesFile 35 = .ok (.aload_n 0, 1) := by decide +kernel
theorem dX10_takesFile_36 : decode cX10_takesFile 36 = .ok (.iconst 4, 1) := by decide +kernel
theorem dX10_takesFile_37 : decode cX10_takesFile 37 = .ok (.aload_n 0, 1) := by decide +kernel
theorem dX10_takesFile_38 : decode cX10_takesFile 38 = .ok (.getfield 127, 3) := by decide +kernel
theorem dX10_takesFile_41 : decode cX10_takesFile 41 = .ok (.iconst (-1), 1) := by decide +kernel
theorem dX10_takesFile_42 : decode cX10_takesFile 42 = .ok (.if_icmp .eq 7, 3) := by decide +kernel
theorem dX10_takesFile_45 : decode cX10_takesFile 45 = .ok (.iconst 1, 1) := by decide +kernel
theorem dX10_takesFile_46 : decode cX10_takesFile 46 = .ok (.goto 4, 3) := by decide +kernel
theorem dX10_takesFile_49 : decode cX10_takesFile 49 = .ok (.iconst 0, 1) := by decide +kernel
theorem dX10_takesFile_50 : decode cX10_takesFile 50 = .ok (.invokevirtual 116, 3) := by decide +kernel
theorem dX10_takesFile_53 : decode cX10_takesFile 53 = .ok (.ireturn, 1) := by decide +kernel
theorem dX10_writeLine_0 : decode cX10_writeLine 0 = .ok (.aload_n 0, 1) := by decide +kernel
theorem dX10_writeLine_1 : decode cX10_writeLine 1 = .ok (.invokevirtual 110, 3) := by decide +kernel
theorem dX10_writeLine_4 : decode cX10_writeLine 4 = .ok (.aload_n 0, 1) := by decide +kernel
theorem dX10_writeLine_5 : decode cX10_writeLine 5 = .ok (.invokevirtual 130, 3) := by decide +kernel
theorem dX10_writeLine_8 : decode cX10_writeLine 8 = .ok (.ifCond .eq 13, 3) := by decide +kernel
theorem dX10_writeLine_11 : decode cX10_writeLine 11 = .ok (.aload_n 0, 1) := by decide +kernel
theorem dX10_writeLine_12 : decode cX10_writeLine 12 = .ok (.iconst 1, 1) := by decide +kernel
theorem dX10_writeLine_13 : decode cX10_writeLine 13 = .ok (.bipush 8, 2) := by decide +kernel
theorem dX10_writeLine_15 : decode cX10_writeLine 15 = .ok (.invokevirtual 120, 3) := by decide +kernel
theorem dX10_writeLine_18 : decode cX10_writeLine 18 = .ok (.ifCond .ne 5, 3) := by decide +kernel
theorem dX10_writeLine_21 : decode cX10_writeLine 21 = .ok (.iconst 0, 1) := by decide +kernel
theorem dX10_writeLine_22 : decode cX10_writeLine 22 = .ok (.ireturn, 1) := by decide +kernel
theorem dX10_writeLine_23 : decode cX10_writeLine 23 = .ok (.aload_n 0, 1) := by decide +kernel
theorem dX10_writeLine_24 : decode cX10_writeLine 24 = .ok (.getfield 113, 3) := by decide +kernel
theorem dX10_writeLine_27 : decode cX10_writeLine 27 = .ok (.istore_n 2, 1) := by decide +kernel
theorem dX10_writeLine_28 : decode cX10_writeLine 28 = .ok (.aload_n 0, 1) := by decide +kernel
theorem dX10_writeLine_29 : decode cX10_writeLine 29 = .ok (.iconst 0, 1) := by decide +kernel
theorem dX10_writeLine_30 : decode cX10_writeLine 30 = .ok (.sipush 999, 3) := by decide +kernel
theorem dX10_writeLine_33 : decode cX10_writeLine 33 = .ok (.invokevirtual 120, 3) := by decide +kernel
theorem dX10_writeLine_36 : decode cX10_writeLine 36 = .ok (.ifCond .ne 5, 3) := by decide +kernel
theorem dX10_writeLine_39 : decode cX10_writeLine 39 = .ok (.iconst 0, 1) := by decide +kernel
theorem dX10_writeLine_40 : decode cX10_writeLine 40 = .ok (.ireturn, 1) := by decide +kernel
theorem dX10_writeLine_41 : decode cX10_writeLine 41 = .ok (.aload_n 0, 1) := by decide +kernel
theorem dX10_writeLine_42 : decode cX10_writeLine 42 = .ok (.aload_n 0, 1) := by decide +kernel
theorem dX10_writeLine_43 : decode cX10_writeLine 43 = .ok (.getfield 127, 3) := by decide +kernel
theorem dX10_writeLine_46 : decode cX10_writeLine 46 = .ok (.iload_n 2, 1) := by decide +kernel
theorem dX10_writeLine_47 : decode cX10_writeLine 47 = .ok (.invokevirtual 134, 3) := by decide +kernel
theorem dX10_writeLine_50 : decode cX10_writeLine 50 = .ok (.ifCond .le 11, 3) := by decide +kernel
theorem dX10_writeLine_53 : decode cX10_writeLine 53 = .ok (.aload_n 0, 1) := by decide +kernel
theorem dX10_writeLine_54 : decode cX10_writeLine 54 = .ok (.bipush 6, 2) := by decide +kernel
theorem dX10_writeLine_56 : decode cX10_writeLine 56 = .ok (.iload_n 1, 1) := by decide +kernel
theorem dX10_writeLine_57 : decode cX10_writeLine 57 = .ok (.invokevirtual 102, 3) := by decide +kernel
theorem dX10_writeLine_60 : decode cX10_writeLine 60 = .ok (.ireturn, 1) := by decide +kernel
theorem dX10_writeLine_61 : decode cX10_writeLine 61 = .ok (.aload_n 0, 1) := by decide +kernel
theorem dX10_writeLine_62 : decode cX10_writeLine 62 = .ok (.aload_n 0, 1) := by decide +kernel
theorem dX10_writeLine_63 : decode cX10_writeLine 63 = .ok (.getfield 127, 3) := by decide +kernel
theorem dX10_writeLine_66 : decode cX10_writeLine 66 = .ok (.iload_n 2, 1) := by decide +kernel
theorem dX10_writeLine_67 : decode cX10_writeLine 67 = .ok (.aload_n 0, 1) := by decide +kernel
theorem dX10_writeLine_68 : decode cX10_writeLine 68 = .ok (.getfield 113, 3) := by decide +kernel
theorem dX10_writeLine_71 : decode cX10_writeLine 71 = .ok (.invokevirtual 138, 3) := by decide +kernel
theorem dX10_writeLine_74 : decode cX10_writeLine 74 = .ok (.istore_n 3, 1) := by decide +kernel
theorem dX10_writeLine_75 : decode cX10_writeLine 75 = .ok (.iconst 1, 1) := by decide +kernel
theorem dX10_writeLine_76 : decode cX10_writeLine 76 = .ok (.ireturn, 1) := by decide +kernel
theorem dX10_eraseLine_0 : decode cX10_eraseLine 0 = .ok (.aload_n 0, 1) := by decide +kernel
theorem dX10_eraseLine_1 : decode cX10_eraseLine 1 = .ok (.invokevirtual 110, 3) := by decide +kernel
theorem dX10_eraseLine_4 : decode cX10_eraseLine 4 = .ok (.aload_n 0, 1) := by decide +kernel
theorem dX10_eraseLine_5 : decode cX10_eraseLine 5 = .ok (.invokevirtual 130, 3) := by decide +kernel
theorem dX10_eraseLine_8 : decode cX10_eraseLine 8 = .ok (.ifCond .ne 5, 3) := by decide +kernel
theorem dX10_eraseLine_11 : decode cX10_eraseLine 11 = .ok (.iconst 0, 1) := by decide +kernel
theorem dX10_eraseLine_12 : decode cX10_eraseLine 12 = .ok (.ireturn, 1) := by decide +kernel
theorem dX10_eraseLine_13 : decode cX10_eraseLine 13 = .ok (.aload_n 0, 1) := by decide +kernel
theorem dX10_eraseLine_14 : decode cX10_eraseLine 14 = .ok (.aload_n 0, 1) := by decide +kernel
theorem dX10_eraseLine_15 : decode cX10_eraseLine 15 = .ok (.getfield 127, 3) := by decide +kernel
theorem dX10_eraseLine_18 : decode cX10_eraseLine 18 = .ok (.invokevirtual 142, 3) := by decide +kernel
theorem dX10_eraseLine_21 : decode cX10_eraseLine 21 = .ok (.ifCond .le 11, 3) := by decide +kernel
theorem dX10_eraseLine_24 : decode cX10_eraseLine 24 = .ok (.aload_n 0, 1) := by decide +kernel
theorem dX10_eraseLine_25 : decode cX10_eraseLine 25 = .ok (.bipush 6, 2) := by decide +kernel
theorem dX10_eraseLine_27 : decode cX10_eraseLine 27 = .ok (.iload_n 1, 1) := by decide +kernel
theorem dX10_eraseLine_28 : decode cX10_eraseLine 28 = .ok (.invokevirtual 102, 3) := by decide +kernel
theorem dX10_eraseLine_31 : decode cX10_eraseLine 31 = .ok (.ireturn, 1) := by decide +kernel
theorem dX10_eraseLine_32 : decode cX10_eraseLine 32 = .ok (.aload_n 0, 1) := by decide +kernel
theorem dX10_eraseLine_33 : decode cX10_eraseLine 33 = .ok (.aload_n 0, 1) := by decide +kernel
theorem dX10_eraseLine_34 : decode cX10_eraseLine 34 = .ok (.getfield 127, 3) := by decide +kernel
theorem dX10_eraseLine_37 : decode cX10_eraseLine 37 = .ok (.invokevirtual 145, 3) := by decide +kernel
theorem dX10_eraseLine_40 : decode cX10_eraseLine 40 = .ok (.iconst 1, 1) := by decide +kernel
theorem dX10_eraseLine_41 : decode cX10_eraseLine 41 = .ok (.ireturn, 1) := by decide +kernel
theorem dX10_closeLine_0 : decode cX10_closeLine 0 = .ok (.aload_n 0, 1) := by decide +kernel
theorem dX10_closeLine_1 : decode cX10_closeLine 1 = .ok (.invokevirtual 110, 3) := by decide +kernel
theorem dX10_closeLine_4 : decode cX10_closeLine 4 = .ok (.aload_n 0, 1) := by decide +kernel
theorem dX10_closeLine_5 : decode cX10_closeLine 5 = .ok (.invokevirtual 148, 3) := by decide +kernel
theorem dX10_closeLine_8 : decode cX10_closeLine 8 = .ok (.ifCond .le 11, 3) := by decide +kernel
theorem dX10_closeLine_11 : decode cX10_closeLine 11 = .ok (.aload_n 0, 1) := by decide +kernel
theorem dX10_closeLine_12 : decode cX10_closeLine 12 = .ok (.bipush 6, 2) := by decide +kernel
theorem dX10_closeLine_14 : decode cX10_closeLine 14 = .ok (.iload_n 1, 1) := by decide +kernel
theorem dX10_closeLine_15 : decode cX10_closeLine 15 = .ok (.invokevirtual 102, 3) := by decide +kernel
theorem dX10_closeLine_18 : decode cX10_closeLine 18 = .ok (.ireturn, 1) := by decide +kernel
theorem dX10_closeLine_19 : decode cX10_closeLine 19 = .ok (.aload_n 0, 1) := by decide +kernel
theorem dX10_closeLine_20 : decode cX10_closeLine 20 = .ok (.invokevirtual 151, 3) := by decide +kernel
theorem dX10_closeLine_23 : decode cX10_closeLine 23 = .ok (.iconst 1, 1) := by decide +kernel
theorem dX10_closeLine_24 : decode cX10_closeLine 24 = .ok (.ireturn, 1) := by decide +kernel
theorem dX10_statement_0 : decode cX10_statement 0 = .ok (.aload_n 0, 1) := by decide +kernel
theorem dX10_statement_1 : decode cX10_statement 1 = .ok (.getfield 78, 3) := by decide +kernel
theorem dX10_statement_4 : decode cX10_statement 4 = .ok (.istore_n 1, 1) := by decide +kernel
theorem dX10_statement_5 : decode cX10_statement 5 = .ok (.aload_n 0, 1) := by decide +kernel
theorem dX10_statement_6 : decode cX10_statement 6 = .ok (.ldc 154, 2) := by decide +kernel
theorem dX10_statement_8 : decode cX10_statement 8 = .ok (.invokevirtual 156, 3) := by decide +kernel
theorem dX10_statement_11 : decode cX10_statement 11 = .ok (.ifCond .eq 8, 3) := by decide +kernel
theorem dX10_statement_14 : decode cX10_statement 14 = .ok (.aload_n 0, 1) := by decide +kernel
theorem dX10_statement_15 : decode cX10_statement 15 = .ok (.invokevirtual 160, 3) := by decide +kernel
theorem dX10_statement_18 : decode cX10_statement 18 = .ok (.ireturn, 1) := by decide +kernel
theorem dX10_statement_19 : decode cX10_statement 19 = .ok (.aload_n 0, 1) := by decide +kernel
theorem dX10_statement_20 : decode cX10_statement 20 = .ok (.ldc 163, 2) := by decide +kernel
theorem dX10_statement_22 : decode cX10_statement 22 = .ok (.invokevirtual 156, 3) := by decide +kernel
theorem dX10_statement_25 : decode cX10_statement 25 = .ok (.ifCond .eq 8, 3) := by decide +kernel
theorem dX10_statement_28 : decode cX10_statement 28 = .ok (.aload_n 0, 1) := by decide +kernel
theorem dX10_statement_29 : decode cX10_statement 29 = .ok (.invokevirtual 165, 3) := by decide +kernel
theorem dX10_statement_32 : decode cX10_statement 32 = .ok (.ireturn, 1) := by decide +kernel
theorem dX10_statement_33 : decode cX10_statement 33 = .ok (.aload_n 0, 1) := by decide +kernel
theorem dX10_statement_34 : decode cX10_statement 34 = .ok (.ldc 168, 2) := by decide +kernel
theorem dX10_statement_36 : decode cX10_statement 36 = .ok (.invokevirtual 156, 3) := by decide +kernel
theorem dX10_statement_39 : decode cX10_statement 39 = .ok (.ifCond .eq 11, 3) := by decide +kernel
theorem dX10_statement_42 : decode cX10_statement 42 = .ok (.aload_n 0, 1) := by decide +kernel
theorem dX10_statement_43 : decode cX10_statement 43 = .ok (.iload_n 1, 1) := by decide +kernel
theorem dX10_statement_44 : decode cX10_statement 44 = .ok (.invokevirtual 170, 3) := by decide +kernel
theorem dX10_statement_47 : decode cX10_statement 47 = .ok (.goto 42, 3) := by decide +kernel
theorem dX10_statement_50 : decode cX10_statement 50 = .ok (.aload_n 0, 1) := by decide +kernel
theorem dX10_statement_51 : decode cX10_statement 51 = .ok (.ldc 173, 2) := by decide +kernel
theorem dX10_statement_53 : decode cX10_statement 53 = .ok (.invokevirtual 156, 3) := by decide +kernel
theorem dX10_statement_56 : decode cX10_statement 56 = .ok (.ifCond .eq 11, 3) := by decide +kernel
theorem dX10_statement_59 : decode cX10_statement 59 = .ok (.aload_n 0, 1) := by decide +kernel
theorem dX10_statement_60 : decode cX10_statement 60 = .ok (.iload_n 1, 1) := by decide +kernel
theorem dX10_statement_61 : decode cX10_statement 61 = .ok (.invokevirtual 175, 3) := by decide +kernel
theorem dX10_statement_64 : decode cX10_statement 64 = .ok (.goto 25, 3) := by decide +kernel
theorem dX10_statement_67 : decode cX10_statement 67 = .ok (.aload_n 0, 1) := by decide +kernel
theorem dX10_statement_68 : decode cX10_statement 68 = .ok (.ldc 178, 2) := by decide +kernel
theorem dX10_statement_70 : decode cX10_statement 70 = .ok (.invokevirtual 156, 3) := by decide +kernel
theorem dX10_statement_73 : decode cX10_statement 73 = .ok (.ifCond .eq 11, 3) := by decide +kernel
theorem dX10_statement_76 : decode cX10_statement 76 = .ok (.aload_n 0, 1) := by decide +kernel
theorem dX10_statement_77 : decode cX10_statement 77 = .ok (.iload_n 1, 1) := by decide +kernel
theorem dX10_statement_78 : decode cX10_statement 78 = .ok (.invokevirtual 180, 3) := by decide +kernel
theorem dX10_statement_81 : decode cX10_statement 81 = .ok (.goto 8, 3) := by decide +kernel
theorem dX10_statement_84 : decode cX10_statement 84 = .ok (.aload_n 0, 1) := by decide +kernel
theorem dX10_statement_85 : decode cX10_statement 85 = .ok (.iconst 1, 1) := by decide +kernel
theorem dX10_statement_86 : decode cX10_statement 86 = .ok (.invokevirtual 106, 3) := by decide +kernel
theorem dX10_statement_89 : decode cX10_statement 89 = .ok (.ireturn, 1) := by decide +kernel
theorem dX10_head_0 : decode cX10_head 0 = .ok (.aload_n 0, 1) := by decide +kernel
theorem dX10_head_1 : decode cX10_head 1 = .ok (.iconst 1, 1) := by decide +kernel
theorem dX10_head_2 : decode cX10_head 2 = .ok (.aload_n 0, 1) := by decide +kernel
theorem dX10_head_3 : decode cX10_head 3 = .ok (.ldc 183, 2) := by decide +kernel
theorem dX10_head_5 : decode cX10_head 5 = .ok (.invokevirtual 156, 3) := by decide +kernel
theorem dX10_head_8 : decode cX10_head 8 = .ok (.invokevirtual 116, 3) := by decide +kernel
theorem dX10_head_11 : decode cX10_head 11 = .ok (.ifCond .eq 14, 3) := by decide +kernel
theorem dX10_head_14 : decode cX10_head 14 = .ok (.aload_n 0, 1) := by decide +kernel
theorem dX10_head_15 : decode cX10_head 15 = .ok (.bipush 8, 2) := by decide +kernel
theorem dX10_head_17 : decode cX10_head 17 = .ok (.bipush 96, 2) := by decide +kernel
theorem dX10_head_19 : decode cX10_head 19 = .ok (.invokevirtual 120, 3) := by decide +kernel
theorem dX10_head_22 : decode cX10_head 22 = .ok (.ifCond .ne 5, 3) := by decide +kernel
theorem dX10_head_25 : decode cX10_head 25 = .ok (.iconst 0, 1) := by decide +kernel
theorem dX10_head_26 : decode cX10_head 26 = .ok (.ireturn, 1) := by decide +kernel
theorem dX10_head_27 : decode cX10_head 27 = .ok (.aload_n 0, 1) := by decide +kernel
theorem dX10_head_28 : decode cX10_head 28 = .ok (.getfield 113, 3) := by decide +kernel
theorem dX10_head_31 : decode cX10_head 31 = .ok (.iconst 2, 1) := by decide +kernel
theorem dX10_head_32 : decode cX10_head 32 = .ok (.idiv, 1) := by decide +kernel
theorem dX10_head_33 : decode cX10_head 33 = .ok (.bipush 16, 2) := by decide +kernel
theorem dX10_head_35 : decode cX10_head 35 = .ok (.if_icmp .ge 12, 3) := by decide +kernel
theorem dX10_head_38 : decode cX10_head 38 = .ok (.aload_n 0, 1) := by decide +kernel
theorem dX10_head_39 : decode cX10_head 39 = .ok (.getfield 113, 3) := by decide +kernel
theorem dX10_head_42 : decode cX10_head 42 = .ok (.iconst 2, 1) := by decide +kernel
theorem dX10_head_43 : decode cX10_head 43 = .ok (.idiv, 1) := by decide +kernel
theorem dX10_head_44 : decode cX10_head 44 = .ok (.goto 5, 3) := by decide +kernel
theorem dX10_head_47 : decode cX10_head 47 = .ok (.bipush 16, 2) := by decide +kernel
theorem dX10_head_49 : decode cX10_head 49 = .ok (.istore_n 1, 1) := by decide +kernel
theorem dX10_head_50 : decode cX10_head 50 = .ok (.aload_n 0, 1) := by decide +kernel
theorem dX10_head_51 : decode cX10_head 51 = .ok (.getfield 7, 3) := by decide +kernel
theorem dX10_head_54 : decode cX10_head 54 = .ok (.iconst 0, 1) := by decide +kernel
theorem dX10_head_55 : decode cX10_head 55 = .ok (.aload_n 0, 1) := by decide +kernel
theorem dX10_head_56 : decode cX10_head 56 = .ok (.getfield 113, 3) := by decide +kernel
theorem dX10_head_59 : decode cX10_head 59 = .ok (.iastore, 1) := by decide +kernel
theorem dX10_head_60 : decode cX10_head 60 = .ok (.aload_n 0, 1) := by decide +kernel
theorem dX10_head_61 : decode cX10_head 61 = .ok (.iconst 0, 1) := by decide +kernel
theorem dX10_head_62 : decode cX10_head 62 = .ok (.iload_n 1, 1) := by decide +kernel
theorem dX10_head_63 : decode cX10_head 63 = .ok (.invokevirtual 120, 3) := by decide +kernel
theorem dX10_head_66 : decode cX10_head 66 = .ok (.ifCond .ne 5, 3) := by decide +kernel
theorem dX10_head_69 : decode cX10_head 69 = .ok (.iconst 0, 1) := by decide +kernel
theorem dX10_head_70 : decode cX10_head 70 = .ok (.ireturn, 1) := by decide +kernel
theorem dX10_head_71 : decode cX10_head 71 = .ok (.aload_n 0, 1) := by decide +kernel
theorem dX10_head_72 : decode cX10_head 72 = .ok (.getfield 7, 3) := by decide +kernel
theorem dX10_head_75 : decode cX10_head 75 = .ok (.iconst 1, 1) := by decide +kernel
theorem dX10_head_76 : decode cX10_head 76 = .ok (.aload_n 0, 1) := by decide +kernel
theorem dX10_head_77 : decode cX10_head 77 = .ok (.getfield 113, 3) := by decide +kernel
theorem dX10_head_80 : decode cX10_head 80 = .ok (.iastore, 1) := by decide +kernel
theorem dX10_head_81 : decode cX10_head 81 = .ok (.aload_n 0, 1) := by decide +kernel
theorem dX10_head_82 : decode cX10_head 82 = .ok (.invokevirtual 185, 3) := by decide +kernel
theorem dX10_head_85 : decode cX10_head 85 = .ok (.ireturn, 1) := by decide +kernel
theorem dX10_parse_0 : decode cX10_parse 0 = .ok (.aload_n 0, 1) := by decide +kernel
theorem dX10_parse_1 : decode cX10_parse 1 = .ok (.iconst 0, 1) := by decide +kernel
theorem dX10_parse_2 : decode cX10_parse 2 = .ok (.putfield 50, 3) := by decide +kernel
theorem dX10_parse_5 : decode cX10_parse 5 = .ok (.aload_n 0, 1) := by decide +kernel
theorem dX10_parse_6 : decode cX10_parse 6 = .ok (.iload_n 1, 1) := by decide +kernel
theorem dX10_parse_7 : decode cX10_parse 7 = .ok (.iconst 0, 1) := by decide +kernel
theorem dX10_parse_8 : decode cX10_parse 8 = .ok (.aload_n 0, 1) := by decide +kernel
theorem dX10_parse_9 : decode cX10_parse 9 = .ok (.getfield 53, 3) := by decide +kernel
theorem dX10_parse_12 : decode cX10_parse 12 = .ok (.invokestatic 74, 3) := by decide +kernel
theorem dX10_parse_15 : decode cX10_parse 15 = .ok (.ifCond .ne 7, 3) := by decide +kernel
theorem dX10_parse_18 : decode cX10_parse 18 = .ok (.iconst 1, 1) := by decide +kernel
theorem dX10_parse_19 : decode cX10_parse 19 = .ok (.goto 4, 3) := by decide +kernel
theorem dX10_parse_22 : decode cX10_parse 22 = .ok (.iconst 0, 1) := by decide +kernel
theorem dX10_parse_23 : decode cX10_parse 23 = .ok (.iconst 1, 1) := by decide +kernel
theorem dX10_parse_24 : decode cX10_parse 24 = .ok (.invokevirtual 188, 3) := by decide +kernel
theorem dX10_parse_27 : decode cX10_parse 27 = .ok (.ifCond .eq 5, 3) := by decide +kernel
theorem dX10_parse_30 : decode cX10_parse 30 = .ok (.iconst 0, 1) := by decide +kernel
theorem dX10_parse_31 : decode cX10_parse 31 = .ok (.ireturn, 1) := by decide +kernel
theorem dX10_parse_32 : decode cX10_parse 32 = .ok (.aload_n 0, 1) := by decide +kernel
theorem dX10_parse_33 : decode cX10_parse 33 = .ok (.iload_n 1, 1) := by decide +kernel
theorem dX10_parse_34 : decode cX10_parse 34 = .ok (.putfield 60, 3) := by decide +kernel
theorem dX10_parse_37 : decode cX10_parse 37 = .ok (.aload_n 0, 1) := by decide +kernel
theorem dX10_parse_38 : decode cX10_parse 38 = .ok (.iconst 0, 1) := by decide +kernel
theorem dX10_parse_39 : decode cX10_parse 39 = .ok (.putfield 53, 3) := by decide +kernel
theorem dX10_parse_42 : decode cX10_parse 42 = .ok (.aload_n 0, 1) := by decide +kernel
theorem dX10_parse_43 : decode cX10_parse 43 = .ok (.iconst 0, 1) := by decide +kernel
theorem dX10_parse_44 : decode cX10_parse 44 = .ok (.putfield 67, 3) := by decide +kernel
theorem dX10_parse_47 : decode cX10_parse 47 = .ok (.aload_n 0, 1) := by decide +kernel
theorem dX10_parse_48 : decode cX10_parse 48 = .ok (.iconst 0, 1) := by decide +kernel
theorem dX10_parse_49 : decode cX10_parse 49 = .ok (.putfield 99, 3) := by decide +kernel
theorem dX10_parse_52 : decode cX10_parse 52 = .ok (.aload_n 0, 1) := by decide +kernel
theorem dX10_parse_53 : decode cX10_parse 53 = .ok (.iconst (-1), 1) := by decide +kernel
theorem dX10_parse_54 : decode cX10_parse 54 = .ok (.putfield 21, 3) := by decide +kernel
theorem dX10_parse_57 : decode cX10_parse 57 = .ok (.aload_n 0, 1) := by decide +kernel
theorem dX10_parse_58 : decode cX10_parse 58 = .ok (.getfield 7, 3) := by decide +kernel
theorem dX10_parse_61 : decode cX10_parse 61 = .ok (.iconst 0, 1) := by decide +kernel
theorem dX10_parse_62 : decode cX10_parse 62 = .ok (.aload_n 0, 1) := by decide +kernel
theorem dX10_parse_63 : decode cX10_parse 63 = .ok (.getfield 25, 3) := by decide +kernel
theorem dX10_parse_66 : decode cX10_parse 66 = .ok (.iconst 0, 1) := by decide +kernel
theorem dX10_parse_67 : decode cX10_parse 67 = .ok (.invokestatic 192, 3) := by decide +kernel
theorem dX10_parse_70 : decode cX10_parse 70 = .ok (.iconst 0, 1) := by decide +kernel
theorem dX10_parse_71 : decode cX10_parse 71 = .ok (.istore_n 2, 1) := by decide +kernel
theorem dX10_parse_72 : decode cX10_parse 72 = .ok (.iload_n 2, 1) := by decide +kernel
theorem dX10_parse_73 : decode cX10_parse 73 = .ok (.sipush 1555, 3) := by decide +kernel
theorem dX10_parse_76 : decode cX10_parse 76 = .ok (.if_icmp .ge 16, 3) := by decide +kernel
theorem dX10_parse_79 : decode cX10_parse 79 = .ok (.aload_n 0, 1) := by decide +kernel
theorem dX10_parse_80 : decode cX10_parse 80 = .ok (.getfield 7, 3) := by decide +kernel
theorem dX10_parse_83 : decode cX10_parse 83 = .ok (.iload_n 2, 1) := by decide +kernel
theorem dX10_parse_84 : decode cX10_parse 84 = .ok (.iconst 0, 1) := by decide +kernel
theorem dX10_parse_85 : decode cX10_parse 85 = .ok (.iastore, 1) := by decide +kernel
theorem dX10_parse_86 : decode cX10_parse 86 = .ok (.iinc 2 1, 3) := by decide +kernel
theorem dX10_parse_89 : decode cX10_parse 89 = .ok (.goto (-17), 3) := by decide +kernel
theorem dX10_parse_92 : decode cX10_parse 92 = .ok (.aload_n 0, 1) := by decide +kernel
theorem dX10_parse_93 : decode cX10_parse 93 = .ok (.invokevirtual 110, 3) := by decide +kernel
theorem dX10_parse_96 : decode cX10_parse 96 = .ok (.aload_n 0, 1) := by decide +kernel
theorem dX10_parse_97 : decode cX10_parse 97 = .ok (.invokevirtual 196, 3) := by decide +kernel
theorem dX10_parse_100 : decode cX10_parse 100 = .ok (.istore_n 2, 1) := by decide +kernel
theorem dX10_parse_101 : decode cX10_parse 101 = .ok (.iload_n 2, 1) := by decide +kernel
theorem dX10_parse_102 : decode cX10_parse 102 = .ok (.ifCond .eq 33, 3) := by decide +kernel
theorem dX10_parse_105 : decode cX10_parse 105 = .ok (.aload_n 0, 1) := by decide +kernel
theorem dX10_parse_106 : decode cX10_parse 106 = .ok (.getfield 84, 3) := by decide +kernel
theorem dX10_parse_109 : decode cX10_parse 109 = .ok (.ifCond .eq 26, 3) := by decide +kernel
theorem dX10_parse_112 : decode cX10_parse 112 = .ok (.aload_n 0, 1) := by decide +kernel
theorem dX10_parse_113 : decode cX10_parse 113 = .ok (.invokevirtual 199, 3) := by decide +kernel
theorem dX10_parse_116 : decode cX10_parse 116 = .ok (.ifCond .eq 14, 3) := by decide +kernel
theorem dX10_parse_119 : decode cX10_parse 119 = .ok (.aload_n 0, 1) := by decide +kernel
theorem dX10_parse_120 : decode cX10_parse 120 = .ok (.invokevirtual 185, 3) := by decide +kernel
theorem dX10_parse_123 : decode cX10_parse 123 = .ok (.ifCond .eq 7, 3) := by decide +kernel
theorem dX10_parse_126 : decode cX10_parse 126 = .ok (.iconst 1, 1) := by decide +kernel
theorem dX10_parse_127 : decode cX10_parse 127 = .ok (.goto 4, 3) := by decide +kernel
theorem dX10_parse_130 : decode cX10_parse 130 = .ok (.iconst 0, 1) := by decide +kernel
theorem dX10_parse_131 : decode cX10_parse 131 = .ok (.istore_n 2, 1) := by decide +kernel
theorem dX10_parse_132 : decode cX10_parse 132 = .ok (.goto (-31), 3) := by decide +kernel
theorem dX10_parse_135 : decode cX10_parse 135 = .ok (.iload_n 2, 1) := by decide +kernel
theorem dX10_parse_136 : decode cX10_parse 136 = .ok (.ifCond .ne 21, 3) := by decide +kernel
theorem dX10_parse_139 : decode cX10_parse 139 = .ok (.aload_n 0, 1) := by decide +kernel
theorem dX10_parse_140 : decode cX10_parse 140 = .ok (.getfield 25, 3) := by decide +kernel
theorem dX10_parse_143 : decode cX10_parse 143 = .ok (.iconst 0, 1) := by decide +kernel
theorem dX10_parse_144 : decode cX10_parse 144 = .ok (.aload_n 0, 1) := by decide +kernel
theorem dX10_parse_145 : decode cX10_parse 145 = .ok (.getfield 7, 3) := by decide +kernel
theorem dX10_parse_148 : decode cX10_parse 148 = .ok (.iconst 0, 1) := by decide +kernel
theorem dX10_parse_149 : decode cX10_parse 149 = .ok (.invokestatic 192, 3) := by decide +kernel
theorem dX10_parse_152 : decode cX10_parse 152 = .ok (.aload_n 0, 1) := by decide +kernel
theorem dX10_parse_153 : decode cX10_parse 153 = .ok (.getfield 99, 3) := by decide +kernel
theorem dX10_parse_156 : decode cX10_parse 156 = .ok (.ireturn, 1) := by decide +kernel
theorem dX10_parse_157 : decode cX10_parse 157 = .ok (.iconst 0, 1) := by decide +kernel
theorem dX10_parse_158 : decode cX10_parse 158 = .ok (.istore_n 3, 1) := by decide +kernel
theorem dX10_parse_159 : decode cX10_parse 159 = .ok (.iload_n 3, 1) := by decide +kernel
theorem dX10_parse_160 : decode cX10_parse 160 = .ok (.bipush 10, 2) := by decide +kernel
theorem dX10_parse_162 : decode cX10_parse 162 = .ok (.if_icmp .ge 21, 3) := by decide +kernel
theorem dX10_parse_165 : decode cX10_parse 165 = .ok (.aload_n 0, 1) := by decide +kernel
theorem dX10_parse_166 : decode cX10_parse 166 = .ok (.getfield 13, 3) := by decide +kernel
theorem dX10_parse_169 : decode cX10_parse 169 = .ok (.iload_n 3, 1) := by decide +kernel
theorem dX10_parse_170 : decode cX10_parse 170 = .ok (.aload_n 0, 1) := by decide +kernel
theorem dX10_parse_171 : decode cX10_parse 171 = .ok (.getfield 28, 3) := by decide +kernel
theorem dX10_parse_174 : decode cX10_parse 174 = .ok (.iload_n 3, 1) := by decide +kernel
theorem dX10_parse_175 : decode cX10_parse 175 = .ok (.laload, 1) := by decide +kernel
theorem dX10_parse_176 : decode cX10_parse 176 = .ok (.lastore, 1) := by decide +kernel
theorem dX10_parse_177 : decode cX10_parse 177 = .ok (.iinc 3 1, 3) := by decide +kernel
theorem dX10_parse_180 : decode cX10_parse 180 = .ok (.goto (-21), 3) := by decide +kernel
theorem dX10_parse_183 : decode cX10_parse 183 = .ok (.aload_n 0, 1) := by decide +kernel
theorem dX10_parse_184 : decode cX10_parse 184 = .ok (.iconst 0, 1) := by decide +kernel
theorem dX10_parse_185 : decode cX10_parse 185 = .ok (.putfield 202, 3) := by decide +kernel
theorem dX10_parse_188 : decode cX10_parse 188 = .ok (.aload_n 0, 1) := by decide +kernel
theorem dX10_parse_189 : decode cX10_parse 189 = .ok (.getfield 47, 3) := by decide +kernel
theorem dX10_parse_192 : decode cX10_parse 192 = .ok (.iconst 0, 1) := by decide +kernel
theorem dX10_parse_193 : decode cX10_parse 193 = .ok (.iconst 0, 1) := by decide +kernel
theorem dX10_parse_194 : decode cX10_parse 194 = .ok (.bastore, 1) := by decide +kernel
theorem dX10_parse_195 : decode cX10_parse 195 = .ok (.aload_n 0, 1) := by decide +kernel
theorem dX10_parse_196 : decode cX10_parse 196 = .ok (.getfield 47, 3) := by decide +kernel
theorem dX10_parse_199 : decode cX10_parse 199 = .ok (.iconst 1, 1) := by decide +kernel
theorem dX10_parse_200 : decode cX10_parse 200 = .ok (.iconst 0, 1) := by decide +kernel
theorem dX10_parse_201 : decode cX10_parse 201 = .ok (.bastore, 1) := by decide +kernel
theorem dX10_parse_202 : decode cX10_parse 202 = .ok (.iconst 0, 1) := by decide +kernel
theorem dX10_parse_203 : decode cX10_parse 203 = .ok (.ireturn, 1) := by decide +kernel
theorem dX10_errorPosition_0 : decode cX10_errorPosition 0 = .ok (.aload_n 0, 1) := by decide +kernel
theorem dX10_errorPosition_1 : decode cX10_errorPosition 1 = .ok (.iconst 0, 1) := by decide +kernel
theorem dX10_errorPosition_2 : decode cX10_errorPosition 2 = .ok (.putfield 50, 3) := by decide +kernel
theorem dX10_errorPosition_5 : decode cX10_errorPosition 5 = .ok (.aload_n 0, 1) := by decide +kernel
theorem dX10_errorPosition_6 : decode cX10_errorPosition 6 = .ok (.getfield 21, 3) := by decide +kernel
theorem dX10_errorPosition_9 : decode cX10_errorPosition 9 = .ok (.ireturn, 1) := by decide +kernel
theorem dX10_find_0 : decode cX10_find 0 = .ok (.aload_n 0, 1) := by decide +kernel
theorem dX10_find_1 : decode cX10_find 1 = .ok (.iconst 0, 1) := by decide +kernel
theorem dX10_find_2 : decode cX10_find 2 = .ok (.putfield 50, 3) := by decide +kernel
theorem dX10_find_5 : decode cX10_find 5 = .ok (.aload_n 0, 1) := by decide +kernel
theorem dX10_find_6 : decode cX10_find 6 = .ok (.aload_n 0, 1) := by decide +kernel
theorem dX10_find_7 : decode cX10_find 7 = .ok (.getfield 53, 3) := by decide +kernel
theorem dX10_find_10 : decode cX10_find 10 = .ok (.putfield 60, 3) := by decide +kernel
theorem dX10_find_13 : decode cX10_find 13 = .ok (.aload_n 0, 1) := by decide +kernel
theorem dX10_find_14 : decode cX10_find 14 = .ok (.iconst 0, 1) := by decide +kernel
theorem dX10_find_15 : decode cX10_find 15 = .ok (.putfield 53, 3) := by decide +kernel
theorem dX10_find_18 : decode cX10_find 18 = .ok (.aload_n 0, 1) := by decide +kernel
theorem dX10_find_19 : decode cX10_find 19 = .ok (.iconst 0, 1) := by decide +kernel
theorem dX10_find_20 : decode cX10_find 20 = .ok (.putfield 78, 3) := by decide +kernel
theorem dX10_find_23 : decode cX10_find 23 = .ok (.aload_n 0, 1) := by decide +kernel
theorem dX10_find_24 : decode cX10_find 24 = .ok (.iconst 0, 1) := by decide +kernel
theorem dX10_find_25 : decode cX10_find 25 = .ok (.putfield 67, 3) := by decide +kernel
theorem dX10_find_28 : decode cX10_find 28 = .ok (.aload_n 0, 1) := by decide +kernel
theorem dX10_find_29 : decode cX10_find 29 = .ok (.invokevirtual 87, 3) := by decide +kernel
theorem dX10_find_32 : decode cX10_find 32 = .ok (.aload_n 0, 1) := by decide +kernel
theorem dX10_find_33 : decode cX10_find 33 = .ok (.getfield 67, 3) := by decide +kernel
theorem dX10_find_36 : decode cX10_find 36 = .ok (.istore_n 1, 1) := by decide +kernel
theorem dX10_find_37 : decode cX10_find 37 = .ok (.aload_n 0, 1) := by decide +kernel
theorem dX10_find_38 : decode cX10_find 38 = .ok (.aload_n 0, 1) := by decide +kernel
theorem dX10_find_39 : decode cX10_find 39 = .ok (.getfield 67, 3) := by decide +kernel
theorem dX10_find_42 : decode cX10_find 42 = .ok (.invokevirtual 70, 3) := by decide +kernel
theorem dX10_find_45 : decode cX10_find 45 = .ok (.bipush 32, 2) := by decide +kernel
theorem dX10_find_47 : decode cX10_find 47 = .ok (.if_icmp .ne 16, 3) := by decide +kernel
theorem dX10_find_50 : decode cX10_find 50 = .ok (.aload_n 0, 1) := by decide +kernel
theorem dX10_find_51 : decode cX10_find 51 = .ok (.dup, 1) := by decide +kernel
theorem dX10_find_52 : decode cX10_find 52 = .ok (.getfield 67, 3) := by decide +kernel
theorem dX10_find_55 : decode cX10_find 55 = .ok (.iconst 1, 1) := by decide +kernel
theorem dX10_find_56 : decode cX10_find 56 = .ok (.iadd, 1) := by decide +kernel
theorem dX10_find_57 : decode cX10_find 57 = .ok (.putfield 67, 3) := by decide +kernel
theorem dX10_find_60 : decode cX10_find 60 = .ok (.goto (-23), 3) := by decide +kernel
theorem dX10_find_63 : decode cX10_find 63 = .ok (.iload_n 1, 1) := by decide +kernel
theorem dX10_find_64 : decode cX10_find 64 = .ok (.ifCond .eq 20, 3) := by decide +kernel
theorem dX10_find_67 : decode cX10_find 67 = .ok (.iload_n 1, 1) := by decide +kernel
theorem dX10_find_68 : decode cX10_find 68 = .ok (.bipush 8, 2) := by decide +kernel
theorem dX10_find_70 : decode cX10_find 70 = .ok (.if_icmp .gt 14, 3) := by decide +kernel
theorem dX10_find_73 : decode cX10_find 73 = .ok (.aload_n 0, 1) := by decide +kernel
theorem dX10_find_74 : decode cX10_find 74 = .ok (.getfield 67, 3) := by decide +kernel
theorem dX10_find_77 : decode cX10_find 77 = .ok (.aload_n 0, 1) := by decide +kernel
theorem dX10_find_78 : decode cX10_find 78 = .ok (.getfield 60, 3) := by decide +kernel
theorem dX10_find_81 : decode cX10_find 81 = .ok (.if_icmp .ge 7, 3) := by decide +kernel
theorem dX10_find_84 : decode cX10_find 84 = .ok (.iconst (-1), 1) := by decide +kernel
theorem dX10_find_85 : decode cX10_find 85 = .ok (.goto 20, 3) := by decide +kernel
theorem dX10_find_88 : decode cX10_find 88 = .ok (.aload_n 0, 1) := by decide +kernel
theorem dX10_find_89 : decode cX10_find 89 = .ok (.getfield 13, 3) := by decide +kernel
theorem dX10_find_92 : decode cX10_find 92 = .ok (.aload_n 0, 1) := by decide +kernel
theorem dX10_find_93 : decode cX10_find 93 = .ok (.getfield 7, 3) := by decide +kernel
theorem dX10_find_96 : decode cX10_find 96 = .ok (.iconst 2, 1) := by decide +kernel
theorem dX10_find_97 : decode cX10_find 97 = .ok (.iaload, 1) := by decide +kernel
theorem dX10_find_98 : decode cX10_find 98 = .ok (.aload_n 0, 1) := by decide +kernel
theorem dX10_find_99 : decode cX10_find 99 = .ok (.getfield 63, 3) := by decide +kernel
theorem dX10_find_102 : decode cX10_find 102 = .ok (.invokestatic 123, 3) := by decide +kernel
theorem dX10_find_105 : decode cX10_find 105 = .ok (.ireturn, 1) := by decide +kernel
theorem dX10_mainMany_0 : decode cX10_mainMany 0 = .ok (.aload_n 0, 1) := by decide +kernel
theorem dX10_mainMany_1 : decode cX10_mainMany 1 = .ok (.getfield 7, 3) := by decide +kernel
theorem dX10_mainMany_4 : decode cX10_mainMany 4 = .ok (.iconst 0, 1) := by decide +kernel
theorem dX10_mainMany_5 : decode cX10_mainMany 5 = .ok (.iaload, 1) := by decide +kernel
theorem dX10_mainMany_6 : decode cX10_mainMany 6 = .ok (.aload_n 0, 1) := by decide +kernel
theorem dX10_mainMany_7 : decode cX10_mainMany 7 = .ok (.getfield 7, 3) := by decide +kernel
theorem dX10_mainMany_10 : decode cX10_mainMany 10 = .ok (.iconst 1, 1) := by decide +kernel
theorem dX10_mainMany_11 : decode cX10_mainMany 11 = .ok (.iaload, 1) := by decide +kernel
theorem dX10_mainMany_12 : decode cX10_mainMany 12 = .ok (.isub, 1) := by decide +kernel
theorem dX10_mainMany_13 : decode cX10_mainMany 13 = .ok (.ireturn, 1) := by decide +kernel
theorem dX10_isMain_0 : decode cX10_isMain 0 = .ok (.iload_n 1, 1) := by decide +kernel
theorem dX10_isMain_1 : decode cX10_isMain 1 = .ok (.aload_n 0, 1) := by decide +kernel
theorem dX10_isMain_2 : decode cX10_isMain 2 = .ok (.invokevirtual 205, 3) := by decide +kernel
theorem dX10_isMain_5 : decode cX10_isMain 5 = .ok (.if_icmp .ge 7, 3) := by decide +kernel
theorem dX10_isMain_8 : decode cX10_isMain 8 = .ok (.iconst 1, 1) := by decide +kernel
theorem dX10_isMain_9 : decode cX10_isMain 9 = .ok (.goto 4, 3) := by decide +kernel
theorem dX10_isMain_12 : decode cX10_isMain 12 = .ok (.iconst 0, 1) := by decide +kernel
theorem dX10_isMain_13 : decode cX10_isMain 13 = .ok (.ireturn, 1) := by decide +kernel
theorem dX10_placeOf_0 : decode cX10_placeOf 0 = .ok (.aload_n 0, 1) := by decide +kernel
theorem dX10_placeOf_1 : decode cX10_placeOf 1 = .ok (.getfield 7, 3) := by decide +kernel
theorem dX10_placeOf_4 : decode cX10_placeOf 4 = .ok (.sipush 679, 3) := by decide +kernel
theorem dX10_placeOf_7 : decode cX10_placeOf 7 = .ok (.iload_n 1, 1) := by decide +kernel
theorem dX10_placeOf_8 : decode cX10_placeOf 8 = .ok (.iadd, 1) := by decide +kernel
theorem dX10_placeOf_9 : decode cX10_placeOf 9 = .ok (.iaload, 1) := by decide +kernel
theorem dX10_placeOf_10 : decode cX10_placeOf 10 = .ok (.ifCond .le 18, 3) := by decide +kernel
theorem dX10_placeOf_13 : decode cX10_placeOf 13 = .ok (.aload_n 0, 1) := by decide +kernel
theorem dX10_placeOf_14 : decode cX10_placeOf 14 = .ok (.getfield 7, 3) := by decide +kernel
theorem dX10_placeOf_17 : decode cX10_placeOf 17 = .ok (.sipush 679, 3) := by decide +kernel
theorem dX10_placeOf_20 : decode cX10_placeOf 20 = .ok (.iload_n 1, 1) := by decide +kernel
theorem dX10_placeOf_21 : decode cX10_placeOf 21 = .ok (.iadd, 1) := by decide +kernel
theorem dX10_placeOf_22 : decode cX10_placeOf 22 = .ok (.iaload, 1) := by decide +kernel
theorem dX10_placeOf_23 : decode cX10_placeOf 23 = .ok (.iconst 1, 1) := by decide +kernel
theorem dX10_placeOf_24 : decode cX10_placeOf 24 = .ok (.isub, 1) := by decide +kernel
theorem dX10_placeOf_25 : decode cX10_placeOf 25 = .ok (.goto 4, 3) := by decide +kernel
theorem dX10_placeOf_28 : decode cX10_placeOf 28 = .ok (.iload_n 1, 1) := by decide +kernel
theorem dX10_placeOf_29 : decode cX10_placeOf 29 = .ok (.ireturn, 1) := by decide +kernel
theorem dX10_canRead_0 : decode cX10_canRead 0 = .ok (.iconst 1, 1) := by decide +kernel
theorem dX10_canRead_1 : decode cX10_canRead 1 = .ok (.istore_n 3, 1) := by decide +kernel
theorem dX10_canRead_2 : decode cX10_canRead 2 = .ok (.iload_n 1, 1) := by decide +kernel
theorem dX10_canRead_3 : decode cX10_canRead 3 = .ok (.istore 4, 2) := by decide +kernel
theorem dX10_canRead_5 : decode cX10_canRead 5 = .ok (.iload 4, 2) := by decide +kernel
theorem dX10_canRead_7 : decode cX10_canRead 7 = .ok (.iload_n 1, 1) := by decide +kernel
theorem dX10_canRead_8 : decode cX10_canRead 8 = .ok (.iload_n 2, 1) := by decide +kernel
theorem dX10_canRead_9 : decode cX10_canRead 9 = .ok (.iadd, 1) := by decide +kernel
theorem dX10_canRead_10 : decode cX10_canRead 10 = .ok (.if_icmp .ge 37, 3) := by decide +kernel
theorem dX10_canRead_13 : decode cX10_canRead 13 = .ok (.iload_n 3, 1) := by decide +kernel
theorem dX10_canRead_14 : decode cX10_canRead 14 = .ok (.ifCond .eq 25, 3) := by decide +kernel
theorem dX10_canRead_17 : decode cX10_canRead 17 = .ok (.aload_n 0, 1) := by decide +kernel
theorem dX10_canRead_18 : decode cX10_canRead 18 = .ok (.getfield 7, 3) := by decide +kernel
theorem dX10_canRead_21 : decode cX10_canRead 21 = .ok (.sipush 199, 3) := by decide +kernel
theorem dX10_canRead_24 : decode cX10_canRead 24 = .ok (.aload_n 0, 1) := by decide +kernel
theorem dX10_canRead_25 : decode cX10_canRead 25 = .ok (.iload 4, 2) := by decide +kernel
theorem dX10_canRead_27 : decode cX10_canRead 27 = .ok (.invokevirtual 208, 3) := by decide +kernel
theorem dX10_canRead_30 : decode cX10_canRead 30 = .ok (.iadd, 1) := by decide +kernel
theorem dX10_canRead_31 : decode cX10_canRead 31 = .ok (.iaload, 1) := by decide +kernel
theorem dX10_canRead_32 : decode cX10_canRead 32 = .ok (.ifCond .ne 7, 3) := by decide +kernel
theorem dX10_canRead_35 : decode cX10_canRead 35 = .ok (.iconst 1, 1) := by decide +kernel
theorem dX10_canRead_36 : decode cX10_canRead 36 = .ok (.goto 4, 3) := by decide +kernel
theorem dX10_canRead_39 : decode cX10_canRead 39 = .ok (.iconst 0, 1) := by decide +kernel
theorem dX10_canRead_40 : decode cX10_canRead 40 = .ok (.istore_n 3, 1) := by decide +kernel
theorem dX10_canRead_41 : decode cX10_canRead 41 = .ok (.iinc 4 1, 3) := by decide +kernel
theorem dX10_canRead_44 : decode cX10_canRead 44 = .ok (.goto (-39), 3) := by decide +kernel
theorem dX10_canRead_47 : decode cX10_canRead 47 = .ok (.iload_n 3, 1) := by decide +kernel
theorem dX10_canRead_48 : decode cX10_canRead 48 = .ok (.ireturn, 1) := by decide +kernel
theorem dX10_lays_0 : decode cX10_lays 0 = .ok (.aload_n 0, 1) := by decide +kernel
theorem dX10_lays_1 : decode cX10_lays 1 = .ok (.getfield 7, 3) := by decide +kernel
theorem dX10_lays_4 : decode cX10_lays 4 = .ok (.bipush 7, 2) := by decide +kernel
theorem dX10_lays_6 : decode cX10_lays 6 = .ok (.iload_n 1, 1) := by decide +kernel
theorem dX10_lays_7 : decode cX10_lays 7 = .ok (.iadd, 1) := by decide +kernel
theorem dX10_lays_8 : decode cX10_lays 8 = .ok (.iload_n 2, 1) := by decide +kernel
theorem dX10_lays_9 : decode cX10_lays 9 = .ok (.iastore, 1) := by decide +kernel
theorem dX10_lays_10 : decode cX10_lays 10 = .ok (.aload_n 0, 1) := by decide +kernel
theorem dX10_lays_11 : decode cX10_lays 11 = .ok (.getfield 7, 3) := by decide +kernel
theorem dX10_lays_14 : decode cX10_lays 14 = .ok (.sipush 295, 3) := by decide +kernel
theorem dX10_lays_17 : decode cX10_lays 17 = .ok (.iload_n 1, 1) := by decide +kernel
theorem dX10_lays_18 : decode cX10_lays 18 = .ok (.iadd, 1) := by decide +kernel
theorem dX10_lays_19 : decode cX10_lays 19 = .ok (.iload_n 3, 1) := by decide +kernel
theorem dX10_lays_20 : decode cX10_lays 20 = .ok (.iconst 1, 1) := by decide +kernel
theorem dX10_lays_21 : decode cX10_lays 21 = .ok (.iadd, 1) := by decide +kernel
theorem dX10_lays_22 : decode cX10_lays 22 = .ok (.iastore, 1) := by decide +kernel
theorem dX10_lays_23 : decode cX10_lays 23 = .ok (.aload_n 0, 1) := by decide +kernel
theorem dX10_lays_24 : decode cX10_lays 24 = .ok (.getfield 7, 3) := by decide +kernel
theorem dX10_lays_27 : decode cX10_lays 27 = .ok (.sipush 391, 3) := by decide +kernel
theorem dX10_lays_30 : decode cX10_lays 30 = .ok (.iload_n 1, 1) := by decide +kernel
theorem dX10_lays_31 : decode cX10_lays 31 = .ok (.iadd, 1) := by decide +kernel
theorem dX10_lays_32 : decode cX10_lays 32 = .ok (.iload 4, 2) := by decide +kernel
theorem dX10_lays_34 : decode cX10_lays 34 = .ok (.iconst 1, 1) := by decide +kernel
theorem dX10_lays_35 : decode cX10_lays 35 = .ok (.iadd, 1) := by decide +kernel
theorem dX10_lays_36 : decode cX10_lays 36 = .ok (.iastore, 1) := by decide +kernel
theorem dX10_lays_37 : decode cX10_lays 37 = .ok (.aload_n 0, 1) := by decide +kernel
theorem dX10_lays_38 : decode cX10_lays 38 = .ok (.getfield 7, 3) := by decide +kernel
theorem dX10_lays_41 : decode cX10_lays 41 = .ok (.sipush 487, 3) := by decide +kernel
theorem dX10_lays_44 : decode cX10_lays 44 = .ok (.iload_n 1, 1) := by decide +kernel
theorem dX10_lays_45 : decode cX10_lays 45 = .ok (.iadd, 1) := by decide +kernel
theorem dX10_lays_46 : decode cX10_lays 46 = .ok (.iload 5, 2) := by decide +kernel
theorem dX10_lays_48 : decode cX10_lays 48 = .ok (.iconst 1, 1) := by decide +kernel
theorem dX10_lays_49 : decode cX10_lays 49 = .ok (.iadd, 1) := by decide +kernel
theorem dX10_lays_50 : decode cX10_lays 50 = .ok (.iastore, 1) := by decide +kernel
theorem dX10_lays_51 : decode cX10_lays 51 = .ok (.return_, 1) := by decide +kernel
theorem dX10_writesBlock_0 : decode cX10_writesBlock 0 = .ok (.aload_n 0, 1) := by decide +kernel
theorem dX10_writesBlock_1 : decode cX10_writesBlock 1 = .ok (.getfield 7, 3) := by decide +kernel
theorem dX10_writesBlock_4 : decode cX10_writesBlock 4 = .ok (.iconst 4, 1) := by decide +kernel
theorem dX10_writesBlock_5 : decode cX10_writesBlock 5 = .ok (.iaload, 1) := by decide +kernel
theorem dX10_writesBlock_6 : decode cX10_writesBlock 6 = .ok (.istore 5, 2) := by decide +kernel
theorem dX10_writesBlock_8 : decode cX10_writesBlock 8 = .ok (.aload_n 0, 1) := by decide +kernel
theorem dX10_writesBlock_9 : decode cX10_writesBlock 9 = .ok (.getfield 7, 3) := by decide +kernel
theorem dX10_writesBlock_12 : decode cX10_writesBlock 12 = .ok (.iconst 4, 1) := by decide +kernel
theorem dX10_writesBlock_13 : decode cX10_writesBlock 13 = .ok (.dup2, 1) := by decide +kernel
theorem dX10_writesBlock_14 : decode cX10_writesBlock 14 = .ok (.iaload, 1) := by decide +kernel
theorem dX10_writesBlock_15 : decode cX10_writesBlock 15 = .ok (.iconst 1, 1) := by decide +kernel
theorem dX10_writesBlock_16 : decode cX10_writesBlock 16 = .ok (.iadd, 1) := by decide +kernel
theorem dX10_writesBlock_17 : decode cX10_writesBlock 17 = .ok (.iastore, 1) := by decide +kernel
theorem dX10_writesBlock_18 : decode cX10_writesBlock 18 = .ok (.aload_n 0, 1) := by decide +kernel
theorem dX10_writesBlock_19 : decode cX10_writesBlock 19 = .ok (.getfield 7, 3) := by decide +kernel
theorem dX10_writesBlock_22 : decode cX10_writesBlock 22 = .ok (.bipush 103, 2) := by decide +kernel
theorem dX10_writesBlock_24 : decode cX10_writesBlock 24 = .ok (.iload 5, 2) := by decide +kernel
theorem dX10_writesBlock_26 : decode cX10_writesBlock 26 = .ok (.iadd, 1) := by decide +kernel
theorem dX10_writesBlock_27 : decode cX10_writesBlock 27 = .ok (.iaload, 1) := by decide +kernel
theorem dX10_writesBlock_28 : decode cX10_writesBlock 28 = .ok (.ifCond .ne 15, 3) := by decide +kernel
theorem dX10_writesBlock_31 : decode cX10_writesBlock 31 = .ok (.aload_n 0, 1) := by decide +kernel
theorem dX10_writesBlock_32 : decode cX10_writesBlock 32 = .ok (.iload 5, 2) := by decide +kernel
theorem dX10_writesBlock_34 : decode cX10_writesBlock 34 = .ok (.iload_n 1, 1) := by decide +kernel
theorem dX10_writesBlock_35 : decode cX10_writesBlock 35 = .ok (.iload_n 2, 1) := by decide +kernel
theorem dX10_writesBlock_36 : decode cX10_writesBlock 36 = .ok (.iload_n 3, 1) := by decide +kernel
theorem dX10_writesBlock_37 : decode cX10_writesBlock 37 = .ok (.iload 4, 2) := by decide +kernel
theorem dX10_writesBlock_39 : decode cX10_writesBlock 39 = .ok (.invokevirtual 211, 3) := by decide +kernel
theorem dX10_writesBlock_42 : decode cX10_writesBlock 42 = .ok (.return_, 1) := by decide +kernel
theorem dX10_writesBlock_43 : decode cX10_writesBlock 43 = .ok (.aload_n 0, 1) := by decide +kernel
theorem dX10_writesBlock_44 : decode cX10_writesBlock 44 = .ok (.iload 5, 2) := by decide +kernel
theorem dX10_writesBlock_46 : decode cX10_writesBlock 46 = .ok (.iconst 3, 1) := by decide +kernel
theorem dX10_writesBlock_47 : decode cX10_writesBlock 47 = .ok (.iload_n 2, 1) := by decide +kernel
theorem dX10_writesBlock_48 : decode cX10_writesBlock 48 = .ok (.iconst (-1), 1) := by decide +kernel
theorem dX10_writesBlock_49 : decode cX10_writesBlock 49 = .ok (.iconst (-1), 1) := by decide +kernel
theorem dX10_writesBlock_50 : decode cX10_writesBlock 50 = .ok (.invokevirtual 211, 3) := by decide +kernel
theorem dX10_writesBlock_53 : decode cX10_writesBlock 53 = .ok (.aload_n 0, 1) := by decide +kernel
theorem dX10_writesBlock_54 : decode cX10_writesBlock 54 = .ok (.invokevirtual 205, 3) := by decide +kernel
theorem dX10_writesBlock_57 : decode cX10_writesBlock 57 = .ok (.istore 6, 2) := by decide +kernel
theorem dX10_writesBlock_59 : decode cX10_writesBlock 59 = .ok (.aload_n 0, 1) := by decide +kernel
theorem dX10_writesBlock_60 : decode cX10_writesBlock 60 = .ok (.getfield 7, 3) := by decide +kernel
theorem dX10_writesBlock_63 : decode cX10_writesBlock 63 = .ok (.bipush 7, 2) := by decide +kernel
theorem dX10_writesBlock_65 : decode cX10_writesBlock 65 = .ok (.iload 6, 2) := by decide +kernel
theorem dX10_writesBlock_67 : decode cX10_writesBlock 67 = .ok (.iadd, 1) := by decide +kernel
theorem dX10_writesBlock_68 : decode cX10_writesBlock 68 = .ok (.iaload, 1) := by decide +kernel
theorem dX10_writesBlock_69 : decode cX10_writesBlock 69 = .ok (.ifCond .ne 17, 3) := by decide +kernel
theorem dX10_writesBlock_72 : decode cX10_writesBlock 72 = .ok (.aload_n 0, 1) := by decide +kernel
theorem dX10_writesBlock_73 : decode cX10_writesBlock 73 = .ok (.getfield 7, 3) := by decide +kernel
theorem dX10_writesBlock_76 : decode cX10_writesBlock 76 = .ok (.bipush 103, 2) := by decide +kernel
theorem dX10_writesBlock_78 : decode cX10_writesBlock 78 = .ok (.iload 6, 2) := by decide +kernel
theorem dX10_writesBlock_80 : decode cX10_writesBlock 80 = .ok (.iadd, 1) := by decide +kernel
theorem dX10_writesBlock_81 : decode cX10_writesBlock 81 = .ok (.iaload, 1) := by decide +kernel
theorem dX10_writesBlock_82 : decode cX10_writesBlock 82 = .ok (.iconst 1, 1) := by decide +kernel
theorem dX10_writesBlock_83 : decode cX10_writesBlock 83 = .ok (.if_icmp .ne 32, 3) := by decide +kernel
theorem dX10_writesBlock_86 : decode cX10_writesBlock 86 = .ok (.aload_n 0, 1) := by decide +kernel
theorem dX10_writesBlock_87 : decode cX10_writesBlock 87 = .ok (.getfield 7, 3) := by decide +kernel
theorem dX10_writesBlock_90 : decode cX10_writesBlock 90 = .ok (.bipush 7, 2) := by decide +kernel
theorem dX10_writesBlock_92 : decode cX10_writesBlock 92 = .ok (.iload 6, 2) := by decide +kernel
theorem dX10_writesBlock_94 : decode cX10_writesBlock 94 = .ok (.iadd, 1) := by decide +kernel
theorem dX10_writesBlock_95 : decode cX10_writesBlock 95 = .ok (.iaload, 1) := by decide +kernel
theorem dX10_writesBlock_96 : decode cX10_writesBlock 96 = .ok (.ifCond .ne 13, 3) := by decide +kernel
theorem dX10_writesBlock_99 : decode cX10_writesBlock 99 = .ok (.aload_n 0, 1) := by decide +kernel
theorem dX10_writesBlock_100 : decode cX10_writesBlock 100 = .ok (.iload 6, 2) := by decide +kernel
theorem dX10_writesBlock_102 : decode cX10_writesBlock 102 = .ok (.iconst 3, 1) := by decide +kernel
theorem dX10_writesBlock_103 : decode cX10_writesBlock 103 = .ok (.iload_n 2, 1) := by decide +kernel
theorem dX10_writesBlock_104 : decode cX10_writesBlock 104 = .ok (.iconst (-1), 1) := by decide +kernel
theorem dX10_writesBlock_105 : decode cX10_writesBlock 105 = .ok (.iconst (-1), 1) := by decide +kernel
theorem dX10_writesBlock_106 : decode cX10_writesBlock 106 = .ok (.invokevirtual 211, 3) := by decide +kernel
theorem dX10_writesBlock_109 : decode cX10_writesBlock 109 = .ok (.iinc 6 1, 3) := by decide +kernel
theorem dX10_writesBlock_112 : decode cX10_writesBlock 112 = .ok (.goto (-53), 3) := by decide +kernel
theorem dX10_writesBlock_115 : decode cX10_writesBlock 115 = .ok (.aload_n 0, 1) := by decide +kernel
theorem dX10_writesBlock_116 : decode cX10_writesBlock 116 = .ok (.iload 6, 2) := by decide +kernel
theorem dX10_writesBlock_118 : decode cX10_writesBlock 118 = .ok (.iload_n 1, 1) := by decide +kernel
theorem dX10_writesBlock_119 : decode cX10_writesBlock 119 = .ok (.iload_n 2, 1) := by decide +kernel
theorem dX10_writesBlock_120 : decode cX10_writesBlock 120 = .ok (.iload_n 3, 1) := by decide +kernel
theorem dX10_writesBlock_121 : decode cX10_writesBlock 121 = .ok (.iload 4, 2) := by decide +kernel
theorem dX10_writesBlock_123 : decode cX10_writesBlock 123 = .ok (.invokevirtual 211, 3) := by decide +kernel
theorem dX10_writesBlock_126 : decode cX10_writesBlock 126 = .ok (.aload_n 0, 1) := by decide +kernel
theorem dX10_writesBlock_127 : decode cX10_writesBlock 127 = .ok (.getfield 7, 3) := by decide +kernel
theorem dX10_writesBlock_130 : decode cX10_writesBlock 130 = .ok (.sipush 583, 3) := by decide +kernel
theorem dX10_writesBlock_133 : decode cX10_writesBlock 133 = .ok (.iload 6, 2) := by decide +kernel
theorem dX10_writesBlock_135 : decode cX10_writesBlock 135 = .ok (.iadd, 1) := by decide +kernel
theorem dX10_writesBlock_136 : decode cX10_writesBlock 136 = .ok (.iload 5, 2) := by decide +kernel
theorem dX10_writesBlock_138 : decode cX10_writesBlock 138 = .ok (.iconst 1, 1) := by decide +kernel
theorem dX10_writesBlock_139 : decode cX10_writesBlock 139 = .ok (.iadd, 1) := by decide +kernel
theorem dX10_writesBlock_140 : decode cX10_writesBlock 140 = .ok (.iastore, 1) := by decide +kernel
theorem dX10_writesBlock_141 : decode cX10_writesBlock 141 = .ok (.aload_n 0, 1) := by decide +kernel
theorem dX10_writesBlock_142 : decode cX10_writesBlock 142 = .ok (.getfield 7, 3) := by decide +kernel
theorem dX10_writesBlock_145 : decode cX10_writesBlock 145 = .ok (.sipush 679, 3) := by decide +kernel
theorem dX10_writesBlock_148 : decode cX10_writesBlock 148 = .ok (.iload 5, 2) := by decide +kernel
theorem dX10_writesBlock_150 : decode cX10_writesBlock 150 = .ok (.iadd, 1) := by decide +kernel
theorem dX10_writesBlock_151 : decode cX10_writesBlock 151 = .ok (.iload 6, 2) := by decide +kernel
theorem dX10_writesBlock_153 : decode cX10_writesBlock 153 = .ok (.iconst 1, 1) := by decide +kernel
theorem dX10_writesBlock_154 : decode cX10_writesBlock 154 = .ok (.iadd, 1) := by decide +kernel
theorem dX10_writesBlock_155 : decode cX10_writesBlock 155 = .ok (.iastore, 1) := by decide +kernel
theorem dX10_writesBlock_156 : decode cX10_writesBlock 156 = .ok (.return_, 1) := by decide +kernel
theorem dX10_hasSpare_0 : decode cX10_hasSpare 0 = .ok (.iconst 0, 1) := by decide +kernel
theorem dX10_hasSpare_1 : decode cX10_hasSpare 1 = .ok (.istore_n 2, 1) := by decide +kernel
theorem dX10_hasSpare_2 : decode cX10_hasSpare 2 = .ok (.aload_n 0, 1) := by decide +kernel
theorem dX10_hasSpare_3 : decode cX10_hasSpare 3 = .ok (.invokevirtual 205, 3) := by decide +kernel
theorem dX10_hasSpare_6 : decode cX10_hasSpare 6 = .ok (.istore_n 3, 1) := by decide +kernel
theorem dX10_hasSpare_7 : decode cX10_hasSpare 7 = .ok (.iload_n 3, 1) := by decide +kernel
theorem dX10_hasSpare_8 : decode cX10_hasSpare 8 = .ok (.aload_n 0, 1) := by decide +kernel
theorem dX10_hasSpare_9 : decode cX10_hasSpare 9 = .ok (.getfield 7, 3) := by decide +kernel
theorem dX10_hasSpare_12 : decode cX10_hasSpare 12 = .ok (.iconst 0, 1) := by decide +kernel
theorem dX10_hasSpare_13 : decode cX10_hasSpare 13 = .ok (.iaload, 1) := by decide +kernel
theorem dX10_hasSpare_14 : decode cX10_hasSpare 14 = .ok (.if_icmp .ge 41, 3) := by decide +kernel
theorem dX10_hasSpare_17 : decode cX10_hasSpare 17 = .ok (.iload_n 2, 1) := by decide +kernel
theorem dX10_hasSpare_18 : decode cX10_hasSpare 18 = .ok (.aload_n 0, 1) := by decide +kernel
theorem dX10_hasSpare_19 : decode cX10_hasSpare 19 = .ok (.getfield 7, 3) := by decide +kernel
theorem dX10_hasSpare_22 : decode cX10_hasSpare 22 = .ok (.bipush 7, 2) := by decide +kernel
theorem dX10_hasSpare_24 : decode cX10_hasSpare 24 = .ok (.iload_n 3, 1) := by decide +kernel
theorem dX10_hasSpare_25 : decode cX10_hasSpare 25 = .ok (.iadd, 1) := by decide +kernel
theorem dX10_hasSpare_26 : decode cX10_hasSpare 26 = .ok (.iaload, 1) := by decide +kernel
theorem dX10_hasSpare_27 : decode cX10_hasSpare 27 = .ok (.ifCond .ne 19, 3) := by decide +kernel
theorem dX10_hasSpare_30 : decode cX10_hasSpare 30 = .ok (.aload_n 0, 1) := by decide +kernel
theorem dX10_hasSpare_31 : decode cX10_hasSpare 31 = .ok (.getfield 7, 3) := by decide +kernel
theorem dX10_hasSpare_34 : decode cX10_hasSpare 34 = .ok (.bipush 103, 2) := by decide +kernel
theorem dX10_hasSpare_36 : decode cX10_hasSpare 36 = .ok (.iload_n 3, 1) := by decide +kernel
theorem dX10_hasSpare_37 : decode cX10_hasSpare 37 = .ok (.iadd, 1) := by decide +kernel
theorem dX10_hasSpare_38 : decode cX10_hasSpare 38 = .ok (.iaload, 1) := by decide +kernel
theorem dX10_hasSpare_39 : decode cX10_hasSpare 39 = .ok (.ifCond .ne 7, 3) := by decide +kernel
theorem dX10_hasSpare_42 : decode cX10_hasSpare 42 = .ok (.iconst 1, 1) := by decide +kernel
theorem dX10_hasSpare_43 : decode cX10_hasSpare 43 = .ok (.goto 4, 3) := by decide +kernel
theorem dX10_hasSpare_46 : decode cX10_hasSpare 46 = .ok (.iconst 0, 1) := by decide +kernel
theorem dX10_hasSpare_47 : decode cX10_hasSpare 47 = .ok (.iadd, 1) := by decide +kernel
theorem dX10_hasSpare_48 : decode cX10_hasSpare 48 = .ok (.istore_n 2, 1) := by decide +kernel
theorem dX10_hasSpare_49 : decode cX10_hasSpare 49 = .ok (.iinc 3 1, 3) := by decide +kernel
theorem dX10_hasSpare_52 : decode cX10_hasSpare 52 = .ok (.goto (-45), 3) := by decide +kernel
theorem dX10_hasSpare_55 : decode cX10_hasSpare 55 = .ok (.aload_n 0, 1) := by decide +kernel
theorem dX10_hasSpare_56 : decode cX10_hasSpare 56 = .ok (.getfield 7, 3) := by decide +kernel
theorem dX10_hasSpare_59 : decode cX10_hasSpare 59 = .ok (.iconst 4, 1) := by decide +kernel
theorem dX10_hasSpare_60 : decode cX10_hasSpare 60 = .ok (.iaload, 1) := by decide +kernel
theorem dX10_hasSpare_61 : decode cX10_hasSpare 61 = .ok (.istore_n 3, 1) := by decide +kernel
theorem dX10_hasSpare_62 : decode cX10_hasSpare 62 = .ok (.iload_n 3, 1) := by decide +kernel
theorem dX10_hasSpare_63 : decode cX10_hasSpare 63 = .ok (.aload_n 0, 1) := by decide +kernel
theorem dX10_hasSpare_64 : decode cX10_hasSpare 64 = .ok (.getfield 7, 3) := by decide +kernel
theorem dX10_hasSpare_67 : decode cX10_hasSpare 67 = .ok (.iconst 4, 1) := by decide +kernel
theorem dX10_hasSpare_68 : decode cX10_hasSpare 68 = .ok (.iaload, 1) := by decide +kernel
theorem dX10_hasSpare_69 : decode cX10_hasSpare 69 = .ok (.iload_n 1, 1) := by decide +kernel
theorem dX10_hasSpare_70 : decode cX10_hasSpare 70 = .ok (.iadd, 1) := by decide +kernel
theorem dX10_hasSpare_71 : decode cX10_hasSpare 71 = .ok (.if_icmp .ge 21, 3) := by decide +kernel
theorem dX10_hasSpare_74 : decode cX10_hasSpare 74 = .ok (.iload_n 2, 1) := by decide +kernel
theorem dX10_hasSpare_75 : decode cX10_hasSpare 75 = .ok (.aload_n 0, 1) := by decide +kernel
theorem dX10_hasSpare_76 : decode cX10_hasSpare 76 = .ok (.getfield 7, 3) := by decide +kernel
theorem dX10_hasSpare_79 : decode cX10_hasSpare 79 = .ok (.bipush 103, 2) := by decide +kernel
theorem dX10_hasSpare_81 : decode cX10_hasSpare 81 = .ok (.iload_n 3, 1) := by decide +kernel
theorem dX10_hasSpare_82 : decode cX10_hasSpare 82 = .ok (.iadd, 1) := by decide +kernel
theorem dX10_hasSpare_83 : decode cX10_hasSpare 83 = .ok (.iaload, 1) := by decide +kernel
theorem dX10_hasSpare_84 : decode cX10_hasSpare 84 = .ok (.isub, 1) := by decide +kernel
theorem dX10_hasSpare_85 : decode cX10_hasSpare 85 = .ok (.istore_n 2, 1) := by decide +kernel
theorem dX10_hasSpare_86 : decode cX10_hasSpare 86 = .ok (.iinc 3 1, 3) := by decide +kernel
theorem dX10_hasSpare_89 : decode cX10_hasSpare 89 = .ok (.goto (-27), 3) := by decide +kernel
theorem dX10_hasSpare_92 : decode cX10_hasSpare 92 = .ok (.iload_n 2, 1) := by decide +kernel
theorem dX10_hasSpare_93 : decode cX10_hasSpare 93 = .ok (.ifCond .lt 7, 3) := by decide +kernel
theorem dX10_hasSpare_96 : decode cX10_hasSpare 96 = .ok (.iconst 1, 1) := by decide +kernel
theorem dX10_hasSpare_97 : decode cX10_hasSpare 97 = .ok (.goto 4, 3) := by decide +kernel
theorem dX10_hasSpare_100 : decode cX10_hasSpare 100 = .ok (.iconst 0, 1) := by decide +kernel
theorem dX10_hasSpare_101 : decode cX10_hasSpare 101 = .ok (.ireturn, 1) := by decide +kernel
theorem dX10_hasRoom_0 : decode cX10_hasRoom 0 = .ok (.aload_n 0, 1) := by decide +kernel
theorem dX10_hasRoom_1 : decode cX10_hasRoom 1 = .ok (.getfield 7, 3) := by decide +kernel
theorem dX10_hasRoom_4 : decode cX10_hasRoom 4 = .ok (.iconst 4, 1) := by decide +kernel
theorem dX10_hasRoom_5 : decode cX10_hasRoom 5 = .ok (.iaload, 1) := by decide +kernel
theorem dX10_hasRoom_6 : decode cX10_hasRoom 6 = .ok (.iload_n 1, 1) := by decide +kernel
theorem dX10_hasRoom_7 : decode cX10_hasRoom 7 = .ok (.iadd, 1) := by decide +kernel
theorem dX10_hasRoom_8 : decode cX10_hasRoom 8 = .ok (.aload_n 0, 1) := by decide +kernel
theorem dX10_hasRoom_9 : decode cX10_hasRoom 9 = .ok (.invokevirtual 205, 3) := by decide +kernel
theorem dX10_hasRoom_12 : decode cX10_hasRoom 12 = .ok (.if_icmp .gt 7, 3) := by decide +kernel
theorem dX10_hasRoom_15 : decode cX10_hasRoom 15 = .ok (.iconst 1, 1) := by decide +kernel
theorem dX10_hasRoom_16 : decode cX10_hasRoom 16 = .ok (.goto 4, 3) := by decide +kernel
theorem dX10_hasRoom_19 : decode cX10_hasRoom 19 = .ok (.iconst 0, 1) := by decide +kernel
theorem dX10_hasRoom_20 : decode cX10_hasRoom 20 = .ok (.ireturn, 1) := by decide +kernel
theorem dX10_directoryLong_0 : decode cX10_directoryLong 0 = .ok (.iconst 1, 1) := by decide +kernel
theorem dX10_directoryLong_1 : decode cX10_directoryLong 1 = .ok (.iload_n 0, 1) := by decide +kernel
theorem dX10_directoryLong_2 : decode cX10_directoryLong 2 = .ok (.iconst 1, 1) := by decide +kernel
theorem dX10_directoryLong_3 : decode cX10_directoryLong 3 = .ok (.isub, 1) := by decide +kernel
theorem dX10_directoryLong_4 : decode cX10_directoryLong 4 = .ok (.iconst 4, 1) := by decide +kernel
theorem dX10_directoryLong_5 : decode cX10_directoryLong 5 = .ok (.idiv, 1) := by decide +kernel
theorem dX10_directoryLong_6 : decode cX10_directoryLong 6 = .ok (.iadd, 1) := by decide +kernel
theorem dX10_directoryLong_7 : decode cX10_directoryLong 7 = .ok (.ireturn, 1) := by decide +kernel
theorem dX10_of_0 : decode cX10_of 0 = .ok (.aload_n 0, 1) := by decide +kernel
theorem dX10_of_1 : decode cX10_of 1 = .ok (.getfield 7, 3) := by decide +kernel
theorem dX10_of_4 : decode cX10_of 4 = .ok (.sipush 1255, 3) := by decide +kernel
theorem dX10_of_7 : decode cX10_of 7 = .ok (.bipush 25, 2) := by decide +kernel
theorem dX10_of_9 : decode cX10_of 9 = .ok (.iload_n 1, 1) := by decide +kernel
theorem dX10_of_10 : decode cX10_of 10 = .ok (.imul, 1) := by decide +kernel
theorem dX10_of_11 : decode cX10_of 11 = .ok (.iadd, 1) := by decide +kernel
theorem dX10_of_12 : decode cX10_of 12 = .ok (.iload_n 2, 1) := by decide +kernel
theorem dX10_of_13 : decode cX10_of 13 = .ok (.iadd, 1) := by decide +kernel
theorem dX10_of_14 : decode cX10_of 14 = .ok (.iaload, 1) := by decide +kernel
theorem dX10_of_15 : decode cX10_of 15 = .ok (.ireturn, 1) := by decide +kernel
theorem dX10_sets_0 : decode cX10_sets 0 = .ok (.aload_n 0, 1) := by decide +kernel
theorem dX10_sets_1 : decode cX10_sets 1 = .ok (.getfield 7, 3) := by decide +kernel
theorem dX10_sets_4 : decode cX10_sets 4 = .ok (.sipush 1255, 3) := by decide +kernel
theorem dX10_sets_7 : decode cX10_sets 7 = .ok (.bipush 25, 2) := by decide +kernel
theorem dX10_sets_9 : decode cX10_sets 9 = .ok (.iload_n 1, 1) := by decide +kernel
theorem dX10_sets_10 : decode cX10_sets 10 = .ok (.imul, 1) := by decide +kernel
theorem dX10_sets_11 : decode cX10_sets 11 = .ok (.iadd, 1) := by decide +kernel
theorem dX10_sets_12 : decode cX10_sets 12 = .ok (.iload_n 2, 1) := by decide +kernel
theorem dX10_sets_13 : decode cX10_sets 13 = .ok (.iadd, 1) := by decide +kernel
theorem dX10_sets_14 : decode cX10_sets 14 = .ok (.iload_n 3, 1) := by decide +kernel
theorem dX10_sets_15 : decode cX10_sets 15 = .ok (.iastore, 1) := by decide +kernel
theorem dX10_sets_16 : decode cX10_sets 16 = .ok (.return_, 1) := by decide +kernel
theorem dX10_ofVersion_0 : decode cX10_ofVersion 0 = .ok (.aload_n 0, 1) := by decide +kernel
theorem dX10_ofVersion_1 : decode cX10_ofVersion 1 = .ok (.getfield 7, 3) := by decide +kernel
theorem dX10_ofVersion_4 : decode cX10_ofVersion 4 = .ok (.sipush 775, 3) := by decide +kernel
theorem dX10_ofVersion_7 : decode cX10_ofVersion 7 = .ok (.iconst 5, 1) := by decide +kernel
theorem dX10_ofVersion_8 : decode cX10_ofVersion 8 = .ok (.iload_n 1, 1) := by decide +kernel
theorem dX10_ofVersion_9 : decode cX10_ofVersion 9 = .ok (.imul, 1) := by decide +kernel
theorem dX10_ofVersion_10 : decode cX10_ofVersion 10 = .ok (.iadd, 1) := by decide +kernel
theorem dX10_ofVersion_11 : decode cX10_ofVersion 11 = .ok (.iload_n 2, 1) := by decide +kernel
theorem dX10_ofVersion_12 : decode cX10_ofVersion 12 = .ok (.iadd, 1) := by decide +kernel
theorem dX10_ofVersion_13 : decode cX10_ofVersion 13 = .ok (.iaload, 1) := by decide +kernel
theorem dX10_ofVersion_14 : decode cX10_ofVersion 14 = .ok (.ireturn, 1) := by decide +kernel
theorem dX10_latest_0 : decode cX10_latest 0 = .ok (.aload_n 0, 1) := by decide +kernel
theorem dX10_latest_1 : decode cX10_latest 1 = .ok (.getfield 7, 3) := by decide +kernel
theorem dX10_latest_4 : decode cX10_latest 4 = .ok (.iconst 3, 1) := by decide +kernel
theorem dX10_latest_5 : decode cX10_latest 5 = .ok (.iaload, 1) := by decide +kernel
theorem dX10_latest_6 : decode cX10_latest 6 = .ok (.iconst 1, 1) := by decide +kernel
theorem dX10_latest_7 : decode cX10_latest 7 = .ok (.isub, 1) := by decide +kernel
theorem dX10_latest_8 : decode cX10_latest 8 = .ok (.ireturn, 1) := by decide +kernel
theorem dX10_isOpen_0 : decode cX10_isOpen 0 = .ok (.aload_n 0, 1) := by decide +kernel
theorem dX10_isOpen_1 : decode cX10_isOpen 1 = .ok (.invokevirtual 215, 3) := by decide +kernel
theorem dX10_isOpen_4 : decode cX10_isOpen 4 = .ok (.ifCond .lt 19, 3) := by decide +kernel
theorem dX10_isOpen_7 : decode cX10_isOpen 7 = .ok (.aload_n 0, 1) := by decide +kernel
theorem dX10_isOpen_8 : decode cX10_isOpen 8 = .ok (.aload_n 0, 1) := by decide +kernel
theorem dX10_isOpen_9 : decode cX10_isOpen 9 = .ok (.invokevirtual 215, 3) := by decide +kernel
theorem dX10_isOpen_12 : decode cX10_isOpen 12 = .ok (.iconst 0, 1) := by decide +kernel
theorem dX10_isOpen_13 : decode cX10_isOpen 13 = .ok (.invokevirtual 218, 3) := by decide +kernel
theorem dX10_isOpen_16 : decode cX10_isOpen 16 = .ok (.ifCond .ne 7, 3) := by decide +kernel
theorem dX10_isOpen_19 : decode cX10_isOpen 19 = .ok (.iconst 1, 1) := by decide +kernel
theorem dX10_isOpen_20 : decode cX10_isOpen 20 = .ok (.goto 4, 3) := by decide +kernel
theorem dX10_isOpen_23 : decode cX10_isOpen 23 = .ok (.iconst 0, 1) := by decide +kernel
theorem dX10_isOpen_24 : decode cX10_isOpen 24 = .ok (.ireturn, 1) := by decide +kernel
theorem dX10_entryOf_0 : decode cX10_entryOf 0 = .ok (.iconst 0, 1) := by decide +kernel
theorem dX10_entryOf_1 : decode cX10_entryOf 1 = .ok (.istore_n 3, 1) := by decide +kernel
theorem dX10_entryOf_2 : decode cX10_entryOf 2 = .ok (.iload_n 3, 1) := by decide +kernel
theorem dX10_entryOf_3 : decode cX10_entryOf 3 = .ok (.aload_n 0, 1) := by decide +kernel
theorem dX10_entryOf_4 : decode cX10_entryOf 4 = .ok (.iload_n 1, 1) := by decide +kernel
theorem dX10_entryOf_5 : decode cX10_entryOf 5 = .ok (.iconst 2, 1) := by decide +kernel
theorem dX10_entryOf_6 : decode cX10_entryOf 6 = .ok (.invokevirtual 218, 3) := by decide +kernel
theorem dX10_entryOf_9 : decode cX10_entryOf 9 = .ok (.if_icmp .ge 25, 3) := by decide +kernel
theorem dX10_entryOf_12 : decode cX10_entryOf 12 = .ok (.aload_n 0, 1) := by decide +kernel
theorem dX10_entryOf_13 : decode cX10_entryOf 13 = .ok (.iload_n 1, 1) := by decide +kernel
theorem dX10_entryOf_14 : decode cX10_entryOf 14 = .ok (.iconst 5, 1) := by decide +kernel
theorem dX10_entryOf_15 : decode cX10_entryOf 15 = .ok (.iconst 2, 1) := by decide +kernel
theorem dX10_entryOf_16 : decode cX10_entryOf 16 = .ok (.iload_n 3, 1) := by decide +kernel
theorem dX10_entryOf_17 : decode cX10_entryOf 17 = .ok (.imul, 1) := by decide +kernel
theorem dX10_entryOf_18 : decode cX10_entryOf 18 = .ok (.iadd, 1) := by decide +kernel
theorem dX10_entryOf_19 : decode cX10_entryOf 19 = .ok (.invokevirtual 218, 3) := by decide +kernel
theorem dX10_entryOf_22 : decode cX10_entryOf 22 = .ok (.iload_n 2, 1) := by decide +kernel
theorem dX10_entryOf_23 : decode cX10_entryOf 23 = .ok (.if_icmp .ne 5, 3) := by decide +kernel
theorem dX10_entryOf_26 : decode cX10_entryOf 26 = .ok (.iload_n 3, 1) := by decide +kernel
theorem dX10_entryOf_27 : decode cX10_entryOf 27 = .ok (.ireturn, 1) := by decide +kernel
theorem dX10_entryOf_28 : decode cX10_entryOf 28 = .ok (.iinc 3 1, 3) := by decide +kernel
theorem dX10_entryOf_31 : decode cX10_entryOf 31 = .ok (.goto (-29), 3) := by decide +kernel
theorem dX10_entryOf_34 : decode cX10_entryOf 34 = .ok (.iconst (-1), 1) := by decide +kernel
theorem dX10_entryOf_35 : decode cX10_entryOf 35 = .ok (.ireturn, 1) := by decide +kernel
theorem dX10_canReadDirectory_0 : decode cX10_canReadDirectory 0 = .ok (.aload_n 0, 1) := by decide +kernel
theorem dX10_canReadDirectory_1 : decode cX10_canReadDirectory 1 = .ok (.iload_n 1, 1) := by decide +kernel
theorem dX10_canReadDirectory_2 : decode cX10_canReadDirectory 2 = .ok (.iconst 3, 1) := by decide +kernel
theorem dX10_canReadDirectory_3 : decode cX10_canReadDirectory 3 = .ok (.invokevirtual 218, 3) := by decide +kernel
theorem dX10_canReadDirectory_6 : decode cX10_canReadDirectory 6 = .ok (.ifCond .le 31, 3) := by decide +kernel
theorem dX10_canReadDirectory_9 : decode cX10_canReadDirectory 9 = .ok (.aload_n 0, 1) := by decide +kernel
theorem dX10_canReadDirectory_10 : decode cX10_canReadDirectory 10 = .ok (.aload_n 0, 1) := by decide +kernel
theorem dX10_canReadDirectory_11 : decode cX10_canReadDirectory 11 = .ok (.iload_n 1, 1) := by decide +kernel
theorem dX10_canReadDirectory_12 : decode cX10_canReadDirectory 12 = .ok (.iconst 3, 1) := by decide +kernel
theorem dX10_canReadDirectory_13 : decode cX10_canReadDirectory 13 = .ok (.invokevirtual 218, 3) := by decide +kernel
theorem dX10_canReadDirectory_16 : decode cX10_canReadDirectory 16 = .ok (.iconst 1, 1) := by decide +kernel
theorem dX10_canReadDirectory_17 : decode cX10_canReadDirectory 17 = .ok (.isub, 1) := by decide +kernel
theorem dX10_canReadDirectory_18 : decode cX10_canReadDirectory 18 = .ok (.aload_n 0, 1) := by decide +kernel
theorem dX10_canReadDirectory_19 : decode cX10_canReadDirectory 19 = .ok (.iload_n 1, 1) := by decide +kernel
theorem dX10_canReadDirectory_20 : decode cX10_canReadDirectory 20 = .ok (.iconst 2, 1) := by decide +kernel
theorem dX10_canReadDirectory_21 : decode cX10_canReadDirectory 21 = .ok (.invokevirtual 218, 3) := by decide +kernel
theorem dX10_canReadDirectory_24 : decode cX10_canReadDirectory 24 = .ok (.invokestatic 221, 3) := by decide +kernel
theorem dX10_canReadDirectory_27 : decode cX10_canReadDirectory 27 = .ok (.invokevirtual 224, 3) := by decide +kernel
theorem dX10_canReadDirectory_30 : decode cX10_canReadDirectory 30 = .ok (.ifCond .eq 7, 3) := by decide +kernel
theorem dX10_canReadDirectory_33 : decode cX10_canReadDirectory 33 = .ok (.iconst 1, 1) := by decide +kernel
theorem dX10_canReadDirectory_34 : decode cX10_canReadDirectory 34 = .ok (.goto 4, 3) := by decide +kernel
theorem dX10_canReadDirectory_37 : decode cX10_canReadDirectory 37 = .ok (.iconst 0, 1) := by decide +kernel
theorem dX10_canReadDirectory_38 : decode cX10_canReadDirectory 38 = .ok (.ireturn, 1) := by decide +kernel
theorem dX10_searches_0 : decode cX10_searches 0 = .ok (.aload_n 0, 1) := by decide +kernel
theorem dX10_searches_1 : decode cX10_searches 1 = .ok (.iconst 0, 1) := by decide +kernel
theorem dX10_searches_2 : decode cX10_searches 2 = .ok (.putfield 227, 3) := by decide +kernel
theorem dX10_searches_5 : decode cX10_searches 5 = .ok (.iconst 1, 1) := by decide +kernel
theorem dX10_searches_6 : decode cX10_searches 6 = .ok (.istore_n 1, 1) := by decide +kernel
theorem dX10_searches_7 : decode cX10_searches 7 = .ok (.aload_n 0, 1) := by decide +kernel
theorem dX10_searches_8 : decode cX10_searches 8 = .ok (.invokevirtual 215, 3) := by decide +kernel
theorem dX10_searches_11 : decode cX10_searches 11 = .ok (.istore_n 2, 1) := by decide +kernel
theorem dX10_searches_12 : decode cX10_searches 12 = .ok (.iload_n 2, 1) := by decide +kernel
theorem dX10_searches_13 : decode cX10_searches 13 = .ok (.ifCond .lt 100, 3) := by decide +kernel
theorem dX10_searches_16 : decode cX10_searches 16 = .ok (.iload_n 1, 1) := by decide +kernel
theorem dX10_searches_17 : decode cX10_searches 17 = .ok (.ifCond .eq 96, 3) := by decide +kernel
theorem dX10_searches_20 : decode cX10_searches 20 = .ok (.aload_n 0, 1) := by decide +kernel
theorem dX10_searches_21 : decode cX10_searches 21 = .ok (.iload_n 2, 1) := by decide +kernel
theorem dX10_searches_22 : decode cX10_searches 22 = .ok (.iconst 0, 1) := by decide +kernel
theorem dX10_searches_23 : decode cX10_searches 23 = .ok (.invokevirtual 218, 3) := by decide +kernel
theorem dX10_searches_26 : decode cX10_searches 26 = .ok (.ifCond .eq 21, 3) := by decide +kernel
theorem dX10_searches_29 : decode cX10_searches 29 = .ok (.aload_n 0, 1) := by decide +kernel
theorem dX10_searches_30 : decode cX10_searches 30 = .ok (.iload_n 2, 1) := by decide +kernel
theorem dX10_searches_31 : decode cX10_searches 31 = .ok (.iconst 0, 1) := by decide +kernel
theorem dX10_searches_32 : decode cX10_searches 32 = .ok (.invokevirtual 218, 3) := by decide +kernel
theorem dX10_searches_35 : decode cX10_searches 35 = .ok (.iconst 1, 1) := by decide +kernel
theorem dX10_searches_36 : decode cX10_searches 36 = .ok (.if_icmp .ne 15, 3) := by decide +kernel
theorem dX10_searches_39 : decode cX10_searches 39 = .ok (.aload_n 0, 1) := by decide +kernel
theorem dX10_searches_40 : decode cX10_searches 40 = .ok (.iload_n 2, 1) := by decide +kernel
theorem dX10_searches_41 : decode cX10_searches 41 = .ok (.invokevirtual 230, 3) := by decide +kernel
theorem dX10_searches_44 : decode cX10_searches 44 = .ok (.ifCond .eq 7, 3) := by decide +kernel
theorem dX10_searches_47 : decode cX10_searches 47 = .ok (.iconst 1, 1) := by decide +kernel
theorem dX10_searches_48 : decode cX10_searches 48 = .ok (.goto 4, 3) := by decide +kernel
theorem dX10_searches_51 : decode cX10_searches 51 = .ok (.iconst 0, 1) := by decide +kernel
theorem dX10_searches_52 : decode cX10_searches 52 = .ok (.istore_n 3, 1) := by decide +kernel
theorem dX10_searches_53 : decode cX10_searches 53 = .ok (.iload_n 3, 1) := by decide +kernel
theorem dX10_searches_54 : decode cX10_searches 54 = .ok (.ifCond .ne 23, 3) := by decide +kernel
theorem dX10_searches_57 : decode cX10_searches 57 = .ok (.aload_n 0, 1) := by decide +kernel
theorem dX10_searches_58 : decode cX10_searches 58 = .ok (.iload_n 2, 1) := by decide +kernel
theorem dX10_searches_59 : decode cX10_searches 59 = .ok (.iconst 0, 1) := by decide +kernel
theorem dX10_searches_60 : decode cX10_searches 60 = .ok (.invokevirtual 218, 3) := by decide +kernel
theorem dX10_searches_63 : decode cX10_searches 63 = .ok (.iconst 1, 1) := by decide +kernel
theorem dX10_searches_64 : decode cX10_searches 64 = .ok (.if_icmp .ne 13, 3) := by decide +kernel
theorem dX10_searches_67 : decode cX10_searches 67 = .ok (.aload_n 0, 1) := by decide +kernel
theorem dX10_searches_68 : decode cX10_searches 68 = .ok (.getfield 7, 3) := by decide +kernel
theorem dX10_searches_71 : decode cX10_searches 71 = .ok (.iconst 5, 1) := by decide +kernel
theorem dX10_searches_72 : decode cX10_searches 72 = .ok (.iaload, 1) := by decide +kernel
theorem dX10_searches_73 : decode cX10_searches 73 = .ok (.iconst 1, 1) := by decide +kernel
theorem dX10_searches_74 : decode cX10_searches 74 = .ok (.if_icmp .ne 7, 3) := by decide +kernel
theorem dX10_searches_77 : decode cX10_searches 77 = .ok (.iconst 1, 1) := by decide +kernel
theorem dX10_searches_78 : decode cX10_searches 78 = .ok (.goto 4, 3) := by decide +kernel
theorem dX10_searches_81 : decode cX10_searches 81 = .ok (.iconst 0, 1) := by decide +kernel
theorem dX10_searches_82 : decode cX10_searches 82 = .ok (.istore_n 1, 1) := by decide +kernel
theorem dX10_searches_83 : decode cX10_searches 83 = .ok (.iload_n 3, 1) := by decide +kernel
theorem dX10_searches_84 : decode cX10_searches 84 = .ok (.ifCond .eq 23, 3) := by decide +kernel
theorem dX10_searches_87 : decode cX10_searches 87 = .ok (.aload_n 0, 1) := by decide +kernel
theorem dX10_searches_88 : decode cX10_searches 88 = .ok (.getfield 31, 3) := by decide +kernel
theorem dX10_searches_91 : decode cX10_searches 91 = .ok (.aload_n 0, 1) := by decide +kernel
theorem dX10_searches_92 : decode cX10_searches 92 = .ok (.getfield 227, 3) := by decide +kernel
theorem dX10_searches_95 : decode cX10_searches 95 = .ok (.iload_n 2, 1) := by decide +kernel
theorem dX10_searches_96 : decode cX10_searches 96 = .ok (.iastore, 1) := by decide +kernel
theorem dX10_searches_97 : decode cX10_searches 97 = .ok (.aload_n 0, 1) := by decide +kernel
theorem dX10_searches_98 : decode cX10_searches 98 = .ok (.dup, 1) := by decide +kernel
theorem dX10_searches_99 : decode cX10_searches 99 = .ok (.getfield 227, 3) := by decide +kernel
theorem dX10_searches_102 : decode cX10_searches 102 = .ok (.iconst 1, 1) := by decide +kernel
theorem dX10_searches_103 : decode cX10_searches 103 = .ok (.iadd, 1) := by decide +kernel
theorem dX10_searches_104 : decode cX10_searches 104 = .ok (.putfield 227, 3) := by decide +kernel
theorem dX10_searches_107 : decode cX10_searches 107 = .ok (.iinc 2 (-1), 3) := by decide +kernel
theorem dX10_searches_110 : decode cX10_searches 110 = .ok (.goto (-98), 3) := by decide +kernel
theorem dX10_searches_113 : decode cX10_searches 113 = .ok (.return_, 1) := by decide +kernel
theorem dX10_isReached_0 : decode cX10_isReached 0 = .ok (.iconst 0, 1) := by decide +kernel
theorem dX10_isReached_1 : decode cX10_isReached 1 = .ok (.istore_n 2, 1) := by decide +kernel
theorem dX10_isReached_2 : decode cX10_isReached 2 = .ok (.iconst 0, 1) := by decide +kernel
theorem dX10_isReached_3 : decode cX10_isReached 3 = .ok (.istore_n 3, 1) := by decide +kernel
theorem dX10_isReached_4 : decode cX10_isReached 4 = .ok (.iload_n 3, 1) := by decide +kernel
theorem dX10_isReached_5 : decode cX10_isReached 5 = .ok (.aload_n 0, 1) := by decide +kernel
theorem dX10_isReached_6 : decode cX10_isReached 6 = .ok (.getfield 227, 3) := by decide +kernel
theorem dX10_isReached_9 : decode cX10_isReached 9 = .ok (.if_icmp .ge 29, 3) := by decide +kernel
theorem dX10_isReached_12 : decode cX10_isReached 12 = .ok (.iload_n 2, 1) := by decide +kernel
theorem dX10_isReached_13 : decode cX10_isReached 13 = .ok (.ifCond .ne 13, 3) := by decide +kernel
theorem dX10_isReached_16 : decode cX10_isReached 16 = .ok (.aload_n 0, 1) := by decide +kernel
theorem dX10_isReached_17 : decode cX10_isReached 17 = .ok (.getfield 31, 3) := by decide +kernel
theorem dX10_isReached_20 : decode cX10_isReached 20 = .ok (.iload_n 3, 1) := by decide +kernel
theorem dX10_isReached_21 : decode cX10_isReached 21 = .ok (.iaload, 1) := by decide +kernel
theorem dX10_isReached_22 : decode cX10_isReached 22 = .ok (.iload_n 1, 1) := by decide +kernel
theorem dX10_isReached_23 : decode cX10_isReached 23 = .ok (.if_icmp .ne 7, 3) := by decide +kernel
theorem dX10_isReached_26 : decode cX10_isReached 26 = .ok (.iconst 1, 1) := by decide +kernel
theorem dX10_isReached_27 : decode cX10_isReached 27 = .ok (.goto 4, 3) := by decide +kernel
theorem dX10_isReached_30 : decode cX10_isReached 30 = .ok (.iconst 0, 1) := by decide +kernel
theorem dX10_isReached_31 : decode cX10_isReached 31 = .ok (.istore_n 2, 1) := by decide +kernel
theorem dX10_isReached_32 : decode cX10_isReached 32 = .ok (.iinc 3 1, 3) := by decide +kernel
theorem dX10_isReached_35 : decode cX10_isReached 35 = .ok (.goto (-31), 3) := by decide +kernel
theorem dX10_isReached_38 : decode cX10_isReached 38 = .ok (.iload_n 2, 1) := by decide +kernel
theorem dX10_isReached_39 : decode cX10_isReached 39 = .ok (.ireturn, 1) := by decide +kernel
theorem dX10_seeks_0 : decode cX10_seeks 0 = .ok (.aload_n 0, 1) := by decide +kernel
theorem dX10_seeks_1 : decode cX10_seeks 1 = .ok (.iconst (-1), 1) := by decide +kernel
theorem dX10_seeks_2 : decode cX10_seeks 2 = .ok (.putfield 233, 3) := by decide +kernel
theorem dX10_seeks_5 : decode cX10_seeks 5 = .ok (.aload_n 0, 1) := by decide +kernel
theorem dX10_seeks_6 : decode cX10_seeks 6 = .ok (.iconst (-1), 1) := by decide +kernel
theorem dX10_seeks_7 : decode cX10_seeks 7 = .ok (.putfield 236, 3) := by decide +kernel
theorem dX10_seeks_10 : decode cX10_seeks 10 = .ok (.iconst 0, 1) := by decide +kernel
theorem dX10_seeks_11 : decode cX10_seeks 11 = .ok (.istore_n 3, 1) := by decide +kernel
theorem dX10_seeks_12 : decode cX10_seeks 12 = .ok (.iload_n 3, 1) := by decide +kernel
theorem dX10_seeks_13 : decode cX10_seeks 13 = .ok (.aload_n 0, 1) := by decide +kernel
theorem dX10_seeks_14 : decode cX10_seeks 14 = .ok (.getfield 227, 3) := by decide +kernel
theorem dX10_seeks_17 : decode cX10_seeks 17 = .ok (.if_icmp .ge 74, 3) := by decide +kernel
theorem dX10_seeks_20 : decode cX10_seeks 20 = .ok (.aload_n 0, 1) := by decide +kernel
theorem dX10_seeks_21 : decode cX10_seeks 21 = .ok (.getfield 233, 3) := by decide +kernel
theorem dX10_seeks_24 : decode cX10_seeks 24 = .ok (.iconst (-1), 1) := by decide +kernel
theorem dX10_seeks_25 : decode cX10_seeks 25 = .ok (.if_icmp .ne 66, 3) := by decide +kernel
theorem dX10_seeks_28 : decode cX10_seeks 28 = .ok (.aload_n 0, 1) := by decide +kernel
theorem dX10_seeks_29 : decode cX10_seeks 29 = .ok (.getfield 31, 3) := by decide +kernel
theorem dX10_seeks_32 : decode cX10_seeks 32 = .ok (.iload_n 3, 1) := by decide +kernel
theorem dX10_seeks_33 : decode cX10_seeks 33 = .ok (.iaload, 1) := by decide +kernel
theorem dX10_seeks_34 : decode cX10_seeks 34 = .ok (.istore 4, 2) := by decide +kernel
theorem dX10_seeks_36 : decode cX10_seeks 36 = .ok (.iload 4, 2) := by decide +kernel
theorem dX10_seeks_38 : decode cX10_seeks 38 = .ok (.iload_n 2, 1) := by decide +kernel
theorem dX10_seeks_39 : decode cX10_seeks 39 = .ok (.if_icmp .ge 13, 3) := by decide +kernel
theorem dX10_seeks_42 : decode cX10_seeks 42 = .ok (.aload_n 0, 1) := by decide +kernel
theorem dX10_seeks_43 : decode cX10_seeks 43 = .ok (.iload 4, 2) := by decide +kernel
theorem dX10_seeks_45 : decode cX10_seeks 45 = .ok (.iload_n 1, 1) := by decide +kernel
theorem dX10_seeks_46 : decode cX10_seeks 46 = .ok (.invokevirtual 239, 3) := by decide +kernel
theorem dX10_seeks_49 : decode cX10_seeks 49 = .ok (.goto 4, 3) := by decide +kernel
theorem dX10_seeks_52 : decode cX10_seeks 52 = .ok (.iconst (-1), 1) := by decide +kernel
theorem dX10_seeks_53 : decode cX10_seeks 53 = .ok (.istore 5, 2) := by decide +kernel
theorem dX10_seeks_55 : decode cX10_seeks 55 = .ok (.iload 5, 2) := by decide +kernel
theorem dX10_seeks_57 : decode cX10_seeks 57 = .ok (.iconst (-1), 1) := by decide +kernel
theorem dX10_seeks_58 : decode cX10_seeks 58 = .ok (.if_icmp .eq 27, 3) := by decide +kernel
theorem dX10_seeks_61 : decode cX10_seeks 61 = .ok (.aload_n 0, 1) := by decide +kernel
theorem dX10_seeks_62 : decode cX10_seeks 62 = .ok (.iload 4, 2) := by decide +kernel
theorem dX10_seeks_64 : decode cX10_seeks 64 = .ok (.putfield 233, 3) := by decide +kernel
theorem dX10_seeks_67 : decode cX10_seeks 67 = .ok (.aload_n 0, 1) := by decide +kernel
theorem dX10_seeks_68 : decode cX10_seeks 68 = .ok (.aload_n 0, 1) := by decide +kernel
theorem dX10_seeks_69 : decode cX10_seeks 69 = .ok (.iload 4, 2) := by decide +kernel
theorem dX10_seeks_71 : decode cX10_seeks 71 = .ok (.iconst 5, 1) := by decide +kernel
theorem dX10_seeks_72 : decode cX10_seeks 72 = .ok (.iconst 2, 1) := by decide +kernel
theorem dX10_seeks_73 : decode cX10_seeks 73 = .ok (.iload 5, 2) := by decide +kernel
theorem dX10_seeks_75 : decode cX10_seeks 75 = .ok (.imul, 1) := by decide +kernel
theorem dX10_seeks_76 : decode cX10_seeks 76 = .ok (.iadd, 1) := by decide +kernel
theorem dX10_seeks_77 : decode cX10_seeks 77 = .ok (.iconst 1, 1) := by decide +kernel
theorem dX10_seeks_78 : decode cX10_seeks 78 = .ok (.iadd, 1) := by decide +kernel
theorem dX10_seeks_79 : decode cX10_seeks 79 = .ok (.invokevirtual 218, 3) := by decide +kernel
theorem dX10_seeks_82 : decode cX10_seeks 82 = .ok (.putfield 236, 3) := by decide +kernel
theorem dX10_seeks_85 : decode cX10_seeks 85 = .ok (.iinc 3 1, 3) := by decide +kernel
theorem dX10_seeks_88 : decode cX10_seeks 88 = .ok (.goto (-76), 3) := by decide +kernel
theorem dX10_seeks_91 : decode cX10_seeks 91 = .ok (.return_, 1) := by decide +kernel
theorem dX10_finds_0 : decode cX10_finds 0 = .ok (.aload_n 0, 1) := by decide +kernel
theorem dX10_finds_1 : decode cX10_finds 1 = .ok (.invokevirtual 242, 3) := by decide +kernel
theorem dX10_finds_4 : decode cX10_finds 4 = .ok (.aload_n 0, 1) := by decide +kernel
theorem dX10_finds_5 : decode cX10_finds 5 = .ok (.iload_n 1, 1) := by decide +kernel
theorem dX10_finds_6 : decode cX10_finds 6 = .ok (.bipush 12, 2) := by decide +kernel
theorem dX10_finds_8 : decode cX10_finds 8 = .ok (.invokevirtual 245, 3) := by decide +kernel
theorem dX10_finds_11 : decode cX10_finds 11 = .ok (.return_, 1) := by decide +kernel
theorem dX10_isReadable_0 : decode cX10_isReadable 0 = .ok (.aload_n 0, 1) := by decide +kernel
theorem dX10_isReadable_1 : decode cX10_isReadable 1 = .ok (.aload_n 0, 1) := by decide +kernel
theorem dX10_isReadable_2 : decode cX10_isReadable 2 = .ok (.iload_n 1, 1) := by decide +kernel
theorem dX10_isReadable_3 : decode cX10_isReadable 3 = .ok (.iconst 1, 1) := by decide +kernel
theorem dX10_isReadable_4 : decode cX10_isReadable 4 = .ok (.invokevirtual 249, 3) := by decide +kernel
theorem dX10_isReadable_7 : decode cX10_isReadable 7 = .ok (.aload_n 0, 1) := by decide +kernel
theorem dX10_isReadable_8 : decode cX10_isReadable 8 = .ok (.iload_n 1, 1) := by decide +kernel
theorem dX10_isReadable_9 : decode cX10_isReadable 9 = .ok (.iconst 2, 1) := by decide +kernel
theorem dX10_isReadable_10 : decode cX10_isReadable 10 = .ok (.invokevirtual 249, 3) := by decide +kernel
theorem dX10_isReadable_13 : decode cX10_isReadable 13 = .ok (.invokevirtual 224, 3) := by decide +kernel
theorem dX10_isReadable_16 : decode cX10_isReadable 16 = .ok (.ireturn, 1) := by decide +kernel
theorem dX10_filesThere_0 : decode cX10_filesThere 0 = .ok (.aload_n 0, 1) := by decide +kernel
theorem dX10_filesThere_1 : decode cX10_filesThere 1 = .ok (.invokevirtual 242, 3) := by decide +kernel
theorem dX10_filesThere_4 : decode cX10_filesThere 4 = .ok (.iconst 0, 1) := by decide +kernel
theorem dX10_filesThere_5 : decode cX10_filesThere 5 = .ok (.istore_n 2, 1) := by decide +kernel
theorem dX10_filesThere_6 : decode cX10_filesThere 6 = .ok (.iconst 0, 1) := by decide +kernel
theorem dX10_filesThere_7 : decode cX10_filesThere 7 = .ok (.istore_n 3, 1) := by decide +kernel
theorem dX10_filesThere_8 : decode cX10_filesThere 8 = .ok (.iload_n 3, 1) := by decide +kernel
theorem dX10_filesThere_9 : decode cX10_filesThere 9 = .ok (.aload_n 0, 1) := by decide +kernel
theorem dX10_filesThere_10 : decode cX10_filesThere 10 = .ok (.getfield 7, 3) := by decide +kernel
theorem dX10_filesThere_13 : decode cX10_filesThere 13 = .ok (.iconst 2, 1) := by decide +kernel
theorem dX10_filesThere_14 : decode cX10_filesThere 14 = .ok (.iaload, 1) := by decide +kernel
theorem dX10_filesThere_15 : decode cX10_filesThere 15 = .ok (.if_icmp .ge 31, 3) := by decide +kernel
theorem dX10_filesThere_18 : decode cX10_filesThere 18 = .ok (.aload_n 0, 1) := by decide +kernel
theorem dX10_filesThere_19 : decode cX10_filesThere 19 = .ok (.iload_n 3, 1) := by decide +kernel
theorem dX10_filesThere_20 : decode cX10_filesThere 20 = .ok (.iload_n 1, 1) := by decide +kernel
theorem dX10_filesThere_21 : decode cX10_filesThere 21 = .ok (.invokevirtual 245, 3) := by decide +kernel
theorem dX10_filesThere_24 : decode cX10_filesThere 24 = .ok (.iload_n 2, 1) := by decide +kernel
theorem dX10_filesThere_25 : decode cX10_filesThere 25 = .ok (.aload_n 0, 1) := by decide +kernel
theorem dX10_filesThere_26 : decode cX10_filesThere 26 = .ok (.getfield 236, 3) := by decide +kernel
theorem dX10_filesThere_29 : decode cX10_filesThere 29 = .ok (.iconst (-1), 1) := by decide +kernel
theorem dX10_filesThere_30 : decode cX10_filesThere 30 = .ok (.if_icmp .eq 7, 3) := by decide +kernel
theorem dX10_filesThere_33 : decode cX10_filesThere 33 = .ok (.iconst 1, 1) := by decide +kernel
theorem dX10_filesThere_34 : decode cX10_filesThere 34 = .ok (.goto 4, 3) := by decide +kernel
theorem dX10_filesThere_37 : decode cX10_filesThere 37 = .ok (.iconst 0, 1) := by decide +kernel
theorem dX10_filesThere_38 : decode cX10_filesThere 38 = .ok (.iadd, 1) := by decide +kernel
theorem dX10_filesThere_39 : decode cX10_filesThere 39 = .ok (.istore_n 2, 1) := by decide +kernel
theorem dX10_filesThere_40 : decode cX10_filesThere 40 = .ok (.iinc 3 1, 3) := by decide +kernel
theorem dX10_filesThere_43 : decode cX10_filesThere 43 = .ok (.goto (-35), 3) := by decide +kernel
theorem dX10_filesThere_46 : decode cX10_filesThere 46 = .ok (.iload_n 2, 1) := by decide +kernel
theorem dX10_filesThere_47 : decode cX10_filesThere 47 = .ok (.ireturn, 1) := by decide +kernel
theorem dX10_goodFiles_0 : decode cX10_goodFiles 0 = .ok (.aload_n 0, 1) := by decide +kernel
theorem dX10_goodFiles_1 : decode cX10_goodFiles 1 = .ok (.invokevirtual 242, 3) := by decide +kernel
theorem dX10_goodFiles_4 : decode cX10_goodFiles 4 = .ok (.iconst 0, 1) := by decide +kernel
theorem dX10_goodFiles_5 : decode cX10_goodFiles 5 = .ok (.istore_n 1, 1) := by decide +kernel
theorem dX10_goodFiles_6 : decode cX10_goodFiles 6 = .ok (.iconst 0, 1) := by decide +kernel
theorem dX10_goodFiles_7 : decode cX10_goodFiles 7 = .ok (.istore_n 2, 1) := by decide +kernel
theorem dX10_goodFiles_8 : decode cX10_goodFiles 8 = .ok (.iload_n 2, 1) := by decide +kernel
theorem dX10_goodFiles_9 : decode cX10_goodFiles 9 = .ok (.aload_n 0, 1) := by decide +kernel
theorem dX10_goodFiles_10 : decode cX10_goodFiles 10 = .ok (.getfield 7, 3) := by decide +kernel
theorem dX10_goodFiles_13 : decode cX10_goodFiles 13 = .ok (.iconst 2, 1) := by decide +kernel
theorem dX10_goodFiles_14 : decode cX10_goodFiles 14 = .ok (.iaload, 1) := by decide +kernel
theorem dX10_goodFiles_15 : decode cX10_goodFiles 15 = .ok (.if_icmp .ge 45, 3) := by decide +kernel
theorem dX10_goodFiles_18 : decode cX10_goodFiles 18 = .ok (.aload_n 0, 1) := by decide +kernel
theorem dX10_goodFiles_19 : decode cX10_goodFiles 19 = .ok (.iload_n 2, 1) := by decide +kernel
theorem dX10_goodFiles_20 : decode cX10_goodFiles 20 = .ok (.bipush 12, 2) := by decide +kernel
theorem dX10_goodFiles_22 : decode cX10_goodFiles 22 = .ok (.invokevirtual 245, 3) := by decide +kernel
theorem dX10_goodFiles_25 : decode cX10_goodFiles 25 = .ok (.iload_n 1, 1) := by decide +kernel
theorem dX10_goodFiles_26 : decode cX10_goodFiles 26 = .ok (.aload_n 0, 1) := by decide +kernel
theorem dX10_goodFiles_27 : decode cX10_goodFiles 27 = .ok (.getfield 236, 3) := by decide +kernel
theorem dX10_goodFiles_30 : decode cX10_goodFiles 30 = .ok (.iconst (-1), 1) := by decide +kernel
theorem dX10_goodFiles_31 : decode cX10_goodFiles 31 = .ok (.if_icmp .eq 20, 3) := by decide +kernel
theorem dX10_goodFiles_34 : decode cX10_goodFiles 34 = .ok (.aload_n 0, 1) := by decide +kernel
theorem dX10_goodFiles_35 : decode cX10_goodFiles 35 = .ok (.aload_n 0, 1) := by decide +kernel
theorem dX10_goodFiles_36 : decode cX10_goodFiles 36 = .ok (.getfield 236, 3) := by decide +kernel
theorem dX10_goodFiles_39 : decode cX10_goodFiles 39 = .ok (.invokevirtual 252, 3) := by decide +kernel
theorem dX10_goodFiles_42 : decode cX10_goodFiles 42 = .ok (.ifCond .eq 9, 3) := by decide +kernel
theorem dX10_goodFiles_45 : decode cX10_goodFiles 45 = .ok (.iconst 1, 1) := by decide +kernel
theorem dX10_goodFiles_46 : decode cX10_goodFiles 46 = .ok (.iload_n 2, 1) := by decide +kernel
theorem dX10_goodFiles_47 : decode cX10_goodFiles 47 = .ok (.ishl, 1) := by decide +kernel
theorem dX10_goodFiles_48 : decode cX10_goodFiles 48 = .ok (.goto 4, 3) := by decide +kernel
theorem dX10_goodFiles_51 : decode cX10_goodFiles 51 = .ok (.iconst 0, 1) := by decide +kernel
theorem dX10_goodFiles_52 : decode cX10_goodFiles 52 = .ok (.ior, 1) := by decide +kernel
theorem dX10_goodFiles_53 : decode cX10_goodFiles 53 = .ok (.istore_n 1, 1) := by decide +kernel
theorem dX10_goodFiles_54 : decode cX10_goodFiles 54 = .ok (.iinc 2 1, 3) := by decide +kernel
theorem dX10_goodFiles_57 : decode cX10_goodFiles 57 = .ok (.goto (-49), 3) := by decide +kernel
theorem dX10_goodFiles_60 : decode cX10_goodFiles 60 = .ok (.iload_n 1, 1) := by decide +kernel
theorem dX10_goodFiles_61 : decode cX10_goodFiles 61 = .ok (.ireturn, 1) := by decide +kernel
theorem dX10_ones_0 : decode cX10_ones 0 = .ok (.iconst 0, 1) := by decide +kernel
theorem dX10_ones_1 : decode cX10_ones 1 = .ok (.istore_n 1, 1) := by decide +kernel
theorem dX10_ones_2 : decode cX10_ones 2 = .ok (.iload_n 0, 1) := by decide +kernel
theorem dX10_ones_3 : decode cX10_ones 3 = .ok (.istore_n 2, 1) := by decide +kernel
theorem dX10_ones_4 : decode cX10_ones 4 = .ok (.iload_n 2, 1) := by decide +kernel
theorem dX10_ones_5 : decode cX10_ones 5 = .ok (.ifCond .eq 15, 3) := by decide +kernel
theorem dX10_ones_8 : decode cX10_ones 8 = .ok (.iinc 1 1, 3) := by decide +kernel
theorem dX10_ones_11 : decode cX10_ones 11 = .ok (.iload_n 2, 1) := by decide +kernel
theorem dX10_ones_12 : decode cX10_ones 12 = .ok (.iload_n 2, 1) := by decide +kernel
theorem dX10_ones_13 : decode cX10_ones 13 = .ok (.iconst 1, 1) := by decide +kernel
theorem dX10_ones_14 : decode cX10_ones 14 = .ok (.isub, 1) := by decide +kernel
theorem dX10_ones_15 : decode cX10_ones 15 = .ok (.iand, 1) := by decide +kernel
theorem dX10_ones_16 : decode cX10_ones 16 = .ok (.istore_n 2, 1) := by decide +kernel
theorem dX10_ones_17 : decode cX10_ones 17 = .ok (.goto (-13), 3) := by decide +kernel
theorem dX10_ones_20 : decode cX10_ones 20 = .ok (.iload_n 1, 1) := by decide +kernel
theorem dX10_ones_21 : decode cX10_ones 21 = .ok (.ireturn, 1) := by decide +kernel
theorem dX10_entriesWith_0 : decode cX10_entriesWith 0 = .ok (.aload_n 0, 1) := by decide +kernel
theorem dX10_entriesWith_1 : decode cX10_entriesWith 1 = .ok (.invokevirtual 255, 3) := by decide +kernel
theorem dX10_entriesWith_4 : decode cX10_entriesWith 4 = .ok (.ifCond .ne 5, 3) := by decide +kernel
theorem dX10_entriesWith_7 : decode cX10_entriesWith 7 = .ok (.iconst 1, 1) := by decide +kernel
theorem dX10_entriesWith_8 : decode cX10_entriesWith 8 = .ok (.ireturn, 1) := by decide +kernel
theorem dX10_entriesWith_9 : decode cX10_entriesWith 9 = .ok (.aload_n 0, 1) := by decide +kernel
theorem dX10_entriesWith_10 : decode cX10_entriesWith 10 = .ok (.aload_n 0, 1) := by decide +kernel
theorem dX10_entriesWith_11 : decode cX10_entriesWith 11 = .ok (.invokevirtual 215, 3) := by decide +kernel
theorem dX10_entriesWith_14 : decode cX10_entriesWith 14 = .ok (.iconst 2, 1) := by decide +kernel
theorem dX10_entriesWith_15 : decode cX10_entriesWith 15 = .ok (.invokevirtual 218, 3) := by decide +kernel
theorem dX10_entriesWith_18 : decode cX10_entriesWith 18 = .ok (.aload_n 0, 1) := by decide +kernel
theorem dX10_entriesWith_19 : decode cX10_entriesWith 19 = .ok (.aload_n 0, 1) := by decide +kernel
theorem dX10_entriesWith_20 : decode cX10_entriesWith 20 = .ok (.invokevirtual 215, 3) := by decide +kernel
theorem dX10_entriesWith_23 : decode cX10_entriesWith 23 = .ok (.iload_n 1, 1) := by decide +kernel
theorem dX10_entriesWith_24 : decode cX10_entriesWith 24 = .ok (.invokevirtual 239, 3) := by decide +kernel
theorem dX10_entriesWith_27 : decode cX10_entriesWith 27 = .ok (.iconst (-1), 1) := by decide +kernel
theorem dX10_entriesWith_28 : decode cX10_entriesWith 28 = .ok (.if_icmp .ne 7, 3) := by decide +kernel
theorem dX10_entriesWith_31 : decode cX10_entriesWith 31 = .ok (.iconst 1, 1) := by decide +kernel
theorem dX10_entriesWith_32 : decode cX10_entriesWith 32 = .ok (.goto 4, 3) := by decide +kernel
theorem dX10_entriesWith_35 : decode cX10_entriesWith 35 = .ok (.iconst 0, 1) := by decide +kernel
theorem dX10_entriesWith_36 : decode cX10_entriesWith 36 = .ok (.iadd, 1) := by decide +kernel
theorem dX10_entriesWith_37 : decode cX10_entriesWith 37 = .ok (.ireturn, 1) := by decide +kernel
theorem dX10_whyWrite_0 : decode cX10_whyWrite 0 = .ok (.aload_n 0, 1) := by decide +kernel
theorem dX10_whyWrite_1 : decode cX10_whyWrite 1 = .ok (.invokevirtual 255, 3) := by decide +kernel
theorem dX10_whyWrite_4 : decode cX10_whyWrite 4 = .ok (.ifCond .ne 16, 3) := by decide +kernel
theorem dX10_whyWrite_7 : decode cX10_whyWrite 7 = .ok (.aload_n 0, 1) := by decide +kernel
theorem dX10_whyWrite_8 : decode cX10_whyWrite 8 = .ok (.getfield 7, 3) := by decide +kernel
theorem dX10_whyWrite_11 : decode cX10_whyWrite 11 = .ok (.iconst 3, 1) := by decide +kernel
theorem dX10_whyWrite_12 : decode cX10_whyWrite 12 = .ok (.iaload, 1) := by decide +kernel
theorem dX10_whyWrite_13 : decode cX10_whyWrite 13 = .ok (.bipush 12, 2) := by decide +kernel
theorem dX10_whyWrite_15 : decode cX10_whyWrite 15 = .ok (.if_icmp .ne 5, 3) := by decide +kernel
theorem dX10_whyWrite_18 : decode cX10_whyWrite 18 = .ok (.iconst 3, 1) := by decide +kernel
theorem dX10_whyWrite_19 : decode cX10_whyWrite 19 = .ok (.ireturn, 1) := by decide +kernel
theorem dX10_whyWrite_20 : decode cX10_whyWrite 20 = .ok (.aload_n 0, 1) := by decide +kernel
theorem dX10_whyWrite_21 : decode cX10_whyWrite 21 = .ok (.iload_n 2, 1) := by decide +kernel
theorem dX10_whyWrite_22 : decode cX10_whyWrite 22 = .ok (.aload_n 0, 1) := by decide +kernel
theorem dX10_whyWrite_23 : decode cX10_whyWrite 23 = .ok (.iload_n 1, 1) := by decide +kernel
theorem dX10_whyWrite_24 : decode cX10_whyWrite 24 = .ok (.invokevirtual 258, 3) := by decide +kernel
theorem dX10_whyWrite_27 : decode cX10_whyWrite 27 = .ok (.invokestatic 221, 3) := by decide +kernel
theorem dX10_whyWrite_30 : decode cX10_whyWrite 30 = .ok (.iadd, 1) := by decide +kernel
theorem dX10_whyWrite_31 : decode cX10_whyWrite 31 = .ok (.invokevirtual 261, 3) := by decide +kernel
theorem dX10_whyWrite_34 : decode cX10_whyWrite 34 = .ok (.ifCond .ne 7, 3) := by decide +kernel
theorem dX10_whyWrite_37 : decode cX10_whyWrite 37 = .ok (.iconst 4, 1) := by decide +kernel
theorem dX10_whyWrite_38 : decode cX10_whyWrite 38 = .ok (.goto 16, 3) := by decide +kernel
theorem dX10_whyWrite_41 : decode cX10_whyWrite 41 = .ok (.aload_n 0, 1) := by decide +kernel
theorem dX10_whyWrite_42 : decode cX10_whyWrite 42 = .ok (.iload_n 2, 1) := by decide +kernel
theorem dX10_whyWrite_43 : decode cX10_whyWrite 43 = .ok (.invokevirtual 264, 3) := by decide +kernel
theorem dX10_whyWrite_46 : decode cX10_whyWrite 46 = .ok (.ifCond .eq 7, 3) := by decide +kernel
theorem dX10_whyWrite_49 : decode cX10_whyWrite 49 = .ok (.iconst 0, 1) := by decide +kernel
theorem dX10_whyWrite_50 : decode cX10_whyWrite 50 = .ok (.goto 4, 3) := by decide +kernel
theorem dX10_whyWrite_53 : decode cX10_whyWrite 53 = .ok (.iconst 5, 1) := by decide +kernel
theorem dX10_whyWrite_54 : decode cX10_whyWrite 54 = .ok (.ireturn, 1) := by decide +kernel
theorem dX10_whyErase_0 : decode cX10_whyErase 0 = .ok (.aload_n 0, 1) := by decide +kernel
theorem dX10_whyErase_1 : decode cX10_whyErase 1 = .ok (.iload_n 1, 1) := by decide +kernel
theorem dX10_whyErase_2 : decode cX10_whyErase 2 = .ok (.invokevirtual 267, 3) := by decide +kernel
theorem dX10_whyErase_5 : decode cX10_whyErase 5 = .ok (.aload_n 0, 1) := by decide +kernel
theorem dX10_whyErase_6 : decode cX10_whyErase 6 = .ok (.getfield 236, 3) := by decide +kernel
theorem dX10_whyErase_9 : decode cX10_whyErase 9 = .ok (.iconst (-1), 1) := by decide +kernel
theorem dX10_whyErase_10 : decode cX10_whyErase 10 = .ok (.if_icmp .ne 5, 3) := by decide +kernel
theorem dX10_whyErase_13 : decode cX10_whyErase 13 = .ok (.iconst 2, 1) := by decide +kernel
theorem dX10_whyErase_14 : decode cX10_whyErase 14 = .ok (.ireturn, 1) := by decide +kernel
theorem dX10_whyErase_15 : decode cX10_whyErase 15 = .ok (.aload_n 0, 1) := by decide +kernel
theorem dX10_whyErase_16 : decode cX10_whyErase 16 = .ok (.invokevirtual 255, 3) := by decide +kernel
theorem dX10_whyErase_19 : decode cX10_whyErase 19 = .ok (.ifCond .ne 16, 3) := by decide +kernel
theorem dX10_whyErase_22 : decode cX10_whyErase 22 = .ok (.aload_n 0, 1) := by decide +kernel
theorem dX10_whyErase_23 : decode cX10_whyErase 23 = .ok (.getfield 7, 3) := by decide +kernel
theorem dX10_whyErase_26 : decode cX10_whyErase 26 = .ok (.iconst 3, 1) := by decide +kernel
theorem dX10_whyErase_27 : decode cX10_whyErase 27 = .ok (.iaload, 1) := by decide +kernel
theorem dX10_whyErase_28 : decode cX10_whyErase 28 = .ok (.bipush 12, 2) := by decide +kernel
theorem dX10_whyErase_30 : decode cX10_whyErase 30 = .ok (.if_icmp .ne 5, 3) := by decide +kernel
theorem dX10_whyErase_33 : decode cX10_whyErase 33 = .ok (.iconst 3, 1) := by decide +kernel
theorem dX10_whyErase_34 : decode cX10_whyErase 34 = .ok (.ireturn, 1) := by decide +kernel
theorem dX10_whyErase_35 : decode cX10_whyErase 35 = .ok (.aload_n 0, 1) := by decide +kernel
theorem dX10_whyErase_36 : decode cX10_whyErase 36 = .ok (.aload_n 0, 1) := by decide +kernel
theorem dX10_whyErase_37 : decode cX10_whyErase 37 = .ok (.iload_n 1, 1) := by decide +kernel
theorem dX10_whyErase_38 : decode cX10_whyErase 38 = .ok (.invokevirtual 258, 3) := by decide +kernel
theorem dX10_whyErase_41 : decode cX10_whyErase 41 = .ok (.invokestatic 221, 3) := by decide +kernel
theorem dX10_whyErase_44 : decode cX10_whyErase 44 = .ok (.invokevirtual 261, 3) := by decide +kernel
theorem dX10_whyErase_47 : decode cX10_whyErase 47 = .ok (.ifCond .eq 7, 3) := by decide +kernel
theorem dX10_whyErase_50 : decode cX10_whyErase 50 = .ok (.iconst 0, 1) := by decide +kernel
theorem dX10_whyErase_51 : decode cX10_whyErase 51 = .ok (.goto 4, 3) := by decide +kernel
theorem dX10_whyErase_54 : decode cX10_whyErase 54 = .ok (.iconst 4, 1) := by decide +kernel
theorem dX10_whyErase_55 : decode cX10_whyErase 55 = .ok (.ireturn, 1) := by decide +kernel
theorem dX10_whyClose_0 : decode cX10_whyClose 0 = .ok (.aload_n 0, 1) := by decide +kernel
theorem dX10_whyClose_1 : decode cX10_whyClose 1 = .ok (.invokevirtual 255, 3) := by decide +kernel
theorem dX10_whyClose_4 : decode cX10_whyClose 4 = .ok (.ifCond .ne 5, 3) := by decide +kernel
theorem dX10_whyClose_7 : decode cX10_whyClose 7 = .ok (.iconst 1, 1) := by decide +kernel
theorem dX10_whyClose_8 : decode cX10_whyClose 8 = .ok (.ireturn, 1) := by decide +kernel
theorem dX10_whyClose_9 : decode cX10_whyClose 9 = .ok (.aload_n 0, 1) := by decide +kernel
theorem dX10_whyClose_10 : decode cX10_whyClose 10 = .ok (.aload_n 0, 1) := by decide +kernel
theorem dX10_whyClose_11 : decode cX10_whyClose 11 = .ok (.invokevirtual 215, 3) := by decide +kernel
theorem dX10_whyClose_14 : decode cX10_whyClose 14 = .ok (.iconst 2, 1) := by decide +kernel
theorem dX10_whyClose_15 : decode cX10_whyClose 15 = .ok (.invokevirtual 218, 3) := by decide +kernel
theorem dX10_whyClose_18 : decode cX10_whyClose 18 = .ok (.invokestatic 221, 3) := by decide +kernel
theorem dX10_whyClose_21 : decode cX10_whyClose 21 = .ok (.istore_n 1, 1) := by decide +kernel
theorem dX10_whyClose_22 : decode cX10_whyClose 22 = .ok (.aload_n 0, 1) := by decide +kernel
theorem dX10_whyClose_23 : decode cX10_whyClose 23 = .ok (.iload_n 1, 1) := by decide +kernel
theorem dX10_whyClose_24 : decode cX10_whyClose 24 = .ok (.invokevirtual 261, 3) := by decide +kernel
theorem dX10_whyClose_27 : decode cX10_whyClose 27 = .ok (.ifCond .ne 7, 3) := by decide +kernel
theorem dX10_whyClose_30 : decode cX10_whyClose 30 = .ok (.iconst 4, 1) := by decide +kernel
theorem dX10_whyClose_31 : decode cX10_whyClose 31 = .ok (.goto 16, 3) := by decide +kernel
theorem dX10_whyClose_34 : decode cX10_whyClose 34 = .ok (.aload_n 0, 1) := by decide +kernel
theorem dX10_whyClose_35 : decode cX10_whyClose 35 = .ok (.iload_n 1, 1) := by decide +kernel
theorem dX10_whyClose_36 : decode cX10_whyClose 36 = .ok (.invokevirtual 264, 3) := by decide +kernel
theorem dX10_whyClose_39 : decode cX10_whyClose 39 = .ok (.ifCond .eq 7, 3) := by decide +kernel
theorem dX10_whyClose_42 : decode cX10_whyClose 42 = .ok (.iconst 0, 1) := by decide +kernel
theorem dX10_whyClose_43 : decode cX10_whyClose 43 = .ok (.goto 4, 3) := by decide +kernel
theorem dX10_whyClose_46 : decode cX10_whyClose 46 = .ok (.iconst 5, 1) := by decide +kernel
theorem dX10_whyClose_47 : decode cX10_whyClose 47 = .ok (.ireturn, 1) := by decide +kernel
theorem dX10_begins_0 : decode cX10_begins 0 = .ok (.aload_n 0, 1) := by decide +kernel
theorem dX10_begins_1 : decode cX10_begins 1 = .ok (.getfield 7, 3) := by decide +kernel
theorem dX10_begins_4 : decode cX10_begins 4 = .ok (.iconst 3, 1) := by decide +kernel
theorem dX10_begins_5 : decode cX10_begins 5 = .ok (.iaload, 1) := by decide +kernel
theorem dX10_begins_6 : decode cX10_begins 6 = .ok (.istore_n 1, 1) := by decide +kernel
theorem dX10_begins_7 : decode cX10_begins 7 = .ok (.aload_n 0, 1) := by decide +kernel
theorem dX10_begins_8 : decode cX10_begins 8 = .ok (.getfield 7, 3) := by decide +kernel
theorem dX10_begins_11 : decode cX10_begins 11 = .ok (.iconst 3, 1) := by decide +kernel
theorem dX10_begins_12 : decode cX10_begins 12 = .ok (.dup2, 1) := by decide +kernel
theorem dX10_begins_13 : decode cX10_begins 13 = .ok (.iaload, 1) := by decide +kernel
theorem dX10_begins_14 : decode cX10_begins 14 = .ok (.iconst 1, 1) := by decide +kernel
theorem dX10_begins_15 : decode cX10_begins 15 = .ok (.iadd, 1) := by decide +kernel
theorem dX10_begins_16 : decode cX10_begins 16 = .ok (.iastore, 1) := by decide +kernel
theorem dX10_begins_17 : decode cX10_begins 17 = .ok (.iconst 0, 1) := by decide +kernel
theorem dX10_begins_18 : decode cX10_begins 18 = .ok (.istore_n 2, 1) := by decide +kernel
theorem dX10_begins_19 : decode cX10_begins 19 = .ok (.iload_n 2, 1) := by decide +kernel
theorem dX10_begins_20 : decode cX10_begins 20 = .ok (.bipush 25, 2) := by decide +kernel
theorem dX10_begins_22 : decode cX10_begins 22 = .ok (.if_icmp .ge 16, 3) := by decide +kernel
theorem dX10_begins_25 : decode cX10_begins 25 = .ok (.aload_n 0, 1) := by decide +kernel
theorem dX10_begins_26 : decode cX10_begins 26 = .ok (.iload_n 1, 1) := by decide +kernel
theorem dX10_begins_27 : decode cX10_begins 27 = .ok (.iload_n 2, 1) := by decide +kernel
theorem dX10_begins_28 : decode cX10_begins 28 = .ok (.iconst 0, 1) := by decide +kernel
theorem dX10_begins_29 : decode cX10_begins 29 = .ok (.invokevirtual 270, 3) := by decide +kernel
theorem dX10_begins_32 : decode cX10_begins 32 = .ok (.iinc 2 1, 3) := by decide +kernel
theorem dX10_begins_35 : decode cX10_begins 35 = .ok (.goto (-16), 3) := by decide +kernel
theorem dX10_begins_38 : decode cX10_begins 38 = .ok (.aload_n 0, 1) := by decide +kernel
theorem dX10_begins_39 : decode cX10_begins 39 = .ok (.iload_n 1, 1) := by decide +kernel
theorem dX10_begins_40 : decode cX10_begins 40 = .ok (.iconst 1, 1) := by decide +kernel
theorem dX10_begins_41 : decode cX10_begins 41 = .ok (.aload_n 0, 1) := by decide +kernel
theorem dX10_begins_42 : decode cX10_begins 42 = .ok (.getfield 7, 3) := by decide +kernel
theorem dX10_begins_45 : decode cX10_begins 45 = .ok (.iconst 4, 1) := by decide +kernel
theorem dX10_begins_46 : decode cX10_begins 46 = .ok (.iaload, 1) := by decide +kernel
theorem dX10_begins_47 : decode cX10_begins 47 = .ok (.invokevirtual 270, 3) := by decide +kernel
theorem dX10_begins_50 : decode cX10_begins 50 = .ok (.iload_n 1, 1) := by decide +kernel
theorem dX10_begins_51 : decode cX10_begins 51 = .ok (.ireturn, 1) := by decide +kernel
theorem dX10_enters_0 : decode cX10_enters 0 = .ok (.aload_n 0, 1) := by decide +kernel
theorem dX10_enters_1 : decode cX10_enters 1 = .ok (.invokevirtual 255, 3) := by decide +kernel
theorem dX10_enters_4 : decode cX10_enters 4 = .ok (.ifCond .eq 10, 3) := by decide +kernel
theorem dX10_enters_7 : decode cX10_enters 7 = .ok (.aload_n 0, 1) := by decide +kernel
theorem dX10_enters_8 : decode cX10_enters 8 = .ok (.invokevirtual 215, 3) := by decide +kernel
theorem dX10_enters_11 : decode cX10_enters 11 = .ok (.goto 7, 3) := by decide +kernel
theorem dX10_enters_14 : decode cX10_enters 14 = .ok (.aload_n 0, 1) := by decide +kernel
theorem dX10_enters_15 : decode cX10_enters 15 = .ok (.invokevirtual 274, 3) := by decide +kernel
theorem dX10_enters_18 : decode cX10_enters 18 = .ok (.istore_n 3, 1) := by decide +kernel
theorem dX10_enters_19 : decode cX10_enters 19 = .ok (.aload_n 0, 1) := by decide +kernel
theorem dX10_enters_20 : decode cX10_enters 20 = .ok (.iload_n 3, 1) := by decide +kernel
theorem dX10_enters_21 : decode cX10_enters 21 = .ok (.iload_n 1, 1) := by decide +kernel
theorem dX10_enters_22 : decode cX10_enters 22 = .ok (.invokevirtual 239, 3) := by decide +kernel
theorem dX10_enters_25 : decode cX10_enters 25 = .ok (.istore 4, 2) := by decide +kernel
theorem dX10_enters_27 : decode cX10_enters 27 = .ok (.iload 4, 2) := by decide +kernel
theorem dX10_enters_29 : decode cX10_enters 29 = .ok (.iconst (-1), 1) := by decide +kernel
theorem dX10_enters_30 : decode cX10_enters 30 = .ok (.if_icmp .ne 21, 3) := by decide +kernel
theorem dX10_enters_33 : decode cX10_enters 33 = .ok (.aload_n 0, 1) := by decide +kernel
theorem dX10_enters_34 : decode cX10_enters 34 = .ok (.iload_n 3, 1) := by decide +kernel
theorem dX10_enters_35 : decode cX10_enters 35 = .ok (.iconst 2, 1) := by decide +kernel
theorem dX10_enters_36 : decode cX10_enters 36 = .ok (.invokevirtual 218, 3) := by decide +kernel
theorem dX10_enters_39 : decode cX10_enters 39 = .ok (.istore 4, 2) := by decide +kernel
theorem dX10_enters_41 : decode cX10_enters 41 = .ok (.aload_n 0, 1) := by decide +kernel
theorem dX10_enters_42 : decode cX10_enters 42 = .ok (.iload_n 3, 1) := by decide +kernel
theorem dX10_enters_43 : decode cX10_enters 43 = .ok (.iconst 2, 1) := by decide +kernel
theorem dX10_enters_44 : decode cX10_enters 44 = .ok (.iload 4, 2) := by decide +kernel
theorem dX10_enters_46 : decode cX10_enters 46 = .ok (.iconst 1, 1) := by decide +kernel
theorem dX10_enters_47 : decode cX10_enters 47 = .ok (.iadd, 1) := by decide +kernel
theorem dX10_enters_48 : decode cX10_enters 48 = .ok (.invokevirtual 270, 3) := by decide +kernel
theorem dX10_enters_51 : decode cX10_enters 51 = .ok (.aload_n 0, 1) := by decide +kernel
theorem dX10_enters_52 : decode cX10_enters 52 = .ok (.iload_n 3, 1) := by decide +kernel
theorem dX10_enters_53 : decode cX10_enters 53 = .ok (.iconst 5, 1) := by decide +kernel
theorem dX10_enters_54 : decode cX10_enters 54 = .ok (.iconst 2, 1) := by decide +kernel
theorem dX10_enters_55 : decode cX10_enters 55 = .ok (.iload 4, 2) := by decide +kernel
theorem dX10_enters_57 : decode cX10_enters 57 = .ok (.imul, 1) := by decide +kernel
theorem dX10_enters_58 : decode cX10_enters 58 = .ok (.iadd, 1) := by decide +kernel
theorem dX10_enters_59 : decode cX10_enters 59 = .ok (.iload_n 1, 1) := by decide +kernel
theorem dX10_enters_60 : decode cX10_enters 60 = .ok (.invokevirtual 270, 3) := by decide +kernel
theorem dX10_enters_63 : decode cX10_enters 63 = .ok (.aload_n 0, 1) := by decide +kernel
theorem dX10_enters_64 : decode cX10_enters 64 = .ok (.iload_n 3, 1) := by decide +kernel
theorem dX10_enters_65 : decode cX10_enters 65 = .ok (.iconst 5, 1) := by decide +kernel
theorem dX10_enters_66 : decode cX10_enters 66 = .ok (.iconst 2, 1) := by decide +kernel
theorem dX10_enters_67 : decode cX10_enters 67 = .ok (.iload 4, 2) := by decide +kernel
theorem dX10_enters_69 : decode cX10_enters 69 = .ok (.imul, 1) := by decide +kernel
theorem dX10_enters_70 : decode cX10_enters 70 = .ok (.iadd, 1) := by decide +kernel
theorem dX10_enters_71 : decode cX10_enters 71 = .ok (.iconst 1, 1) := by decide +kernel
theorem dX10_enters_72 : decode cX10_enters 72 = .ok (.iadd, 1) := by decide +kernel
theorem dX10_enters_73 : decode cX10_enters 73 = .ok (.iload_n 2, 1) := by decide +kernel
theorem dX10_enters_74 : decode cX10_enters 74 = .ok (.invokevirtual 270, 3) := by decide +kernel
theorem dX10_enters_77 : decode cX10_enters 77 = .ok (.return_, 1) := by decide +kernel
theorem dX10_writes_0 : decode cX10_writes 0 = .ok (.aload_n 0, 1) := by decide +kernel
theorem dX10_writes_1 : decode cX10_writes 1 = .ok (.getfield 7, 3) := by decide +kernel
theorem dX10_writes_4 : decode cX10_writes 4 = .ok (.bipush 6, 2) := by decide +kernel
theorem dX10_writes_6 : decode cX10_writes 6 = .ok (.iaload, 1) := by decide +kernel
theorem dX10_writes_7 : decode cX10_writes 7 = .ok (.istore 4, 2) := by decide +kernel
theorem dX10_writes_9 : decode cX10_writes 9 = .ok (.aload_n 0, 1) := by decide +kernel
theorem dX10_writes_10 : decode cX10_writes 10 = .ok (.getfield 7, 3) := by decide +kernel
theorem dX10_writes_13 : decode cX10_writes 13 = .ok (.bipush 6, 2) := by decide +kernel
theorem dX10_writes_15 : decode cX10_writes 15 = .ok (.dup2, 1) := by decide +kernel
theorem dX10_writes_16 : decode cX10_writes 16 = .ok (.iaload, 1) := by decide +kernel
theorem dX10_writes_17 : decode cX10_writes 17 = .ok (.iconst 1, 1) := by decide +kernel
theorem dX10_writes_18 : decode cX10_writes 18 = .ok (.iadd, 1) := by decide +kernel
theorem dX10_writes_19 : decode cX10_writes 19 = .ok (.iastore, 1) := by decide +kernel
theorem dX10_writes_20 : decode cX10_writes 20 = .ok (.aload_n 0, 1) := by decide +kernel
theorem dX10_writes_21 : decode cX10_writes 21 = .ok (.iload_n 1, 1) := by decide +kernel
theorem dX10_writes_22 : decode cX10_writes 22 = .ok (.iload 4, 2) := by decide +kernel
theorem dX10_writes_24 : decode cX10_writes 24 = .ok (.invokevirtual 277, 3) := by decide +kernel
theorem dX10_writes_27 : decode cX10_writes 27 = .ok (.sipush 775, 3) := by decide +kernel
theorem dX10_writes_30 : decode cX10_writes 30 = .ok (.iconst 5, 1) := by decide +kernel
theorem dX10_writes_31 : decode cX10_writes 31 = .ok (.iload 4, 2) := by decide +kernel
theorem dX10_writes_33 : decode cX10_writes 33 = .ok (.imul, 1) := by decide +kernel
theorem dX10_writes_34 : decode cX10_writes 34 = .ok (.iadd, 1) := by decide +kernel
theorem dX10_writes_35 : decode cX10_writes 35 = .ok (.istore 5, 2) := by decide +kernel
theorem dX10_writes_37 : decode cX10_writes 37 = .ok (.aload_n 0, 1) := by decide +kernel
theorem dX10_writes_38 : decode cX10_writes 38 = .ok (.getfield 7, 3) := by decide +kernel
theorem dX10_writes_41 : decode cX10_writes 41 = .ok (.iload 5, 2) := by decide +kernel
theorem dX10_writes_43 : decode cX10_writes 43 = .ok (.iload_n 1, 1) := by decide +kernel
theorem dX10_writes_44 : decode cX10_writes 44 = .ok (.iastore, 1) := by decide +kernel
theorem dX10_writes_45 : decode cX10_writes 45 = .ok (.aload_n 0, 1) := by decide +kernel
theorem dX10_writes_46 : decode cX10_writes 46 = .ok (.getfield 7, 3) := by decide +kernel
theorem dX10_writes_49 : decode cX10_writes 49 = .ok (.iload 5, 2) := by decide +kernel
theorem dX10_writes_51 : decode cX10_writes 51 = .ok (.iconst 1, 1) := by decide +kernel
theorem dX10_writes_52 : decode cX10_writes 52 = .ok (.iadd, 1) := by decide +kernel
theorem dX10_writes_53 : decode cX10_writes 53 = .ok (.aload_n 0, 1) := by decide +kernel
theorem dX10_writes_54 : decode cX10_writes 54 = .ok (.getfield 7, 3) := by decide +kernel
theorem dX10_writes_57 : decode cX10_writes 57 = .ok (.iconst 4, 1) := by decide +kernel
theorem dX10_writes_58 : decode cX10_writes 58 = .ok (.iaload, 1) := by decide +kernel
theorem dX10_writes_59 : decode cX10_writes 59 = .ok (.iastore, 1) := by decide +kernel
theorem dX10_writes_60 : decode cX10_writes 60 = .ok (.aload_n 0, 1) := by decide +kernel
theorem dX10_writes_61 : decode cX10_writes 61 = .ok (.getfield 7, 3) := by decide +kernel
theorem dX10_writes_64 : decode cX10_writes 64 = .ok (.iload 5, 2) := by decide +kernel
theorem dX10_writes_66 : decode cX10_writes 66 = .ok (.iconst 2, 1) := by decide +kernel
theorem dX10_writes_67 : decode cX10_writes 67 = .ok (.iadd, 1) := by decide +kernel
theorem dX10_writes_68 : decode cX10_writes 68 = .ok (.iload_n 2, 1) := by decide +kernel
theorem dX10_writes_69 : decode cX10_writes 69 = .ok (.iastore, 1) := by decide +kernel
theorem dX10_writes_70 : decode cX10_writes 70 = .ok (.aload_n 0, 1) := by decide +kernel
theorem dX10_writes_71 : decode cX10_writes 71 = .ok (.getfield 7, 3) := by decide +kernel
theorem dX10_writes_74 : decode cX10_writes 74 = .ok (.iload 5, 2) := by decide +kernel
theorem dX10_writes_76 : decode cX10_writes 76 = .ok (.iconst 3, 1) := by decide +kernel
theorem dX10_writes_77 : decode cX10_writes 77 = .ok (.iadd, 1) := by decide +kernel
theorem dX10_writes_78 : decode cX10_writes 78 = .ok (.iload_n 3, 1) := by decide +kernel
theorem dX10_writes_79 : decode cX10_writes 79 = .ok (.iastore, 1) := by decide +kernel
theorem dX10_writes_80 : decode cX10_writes 80 = .ok (.aload_n 0, 1) := by decide +kernel
theorem dX10_writes_81 : decode cX10_writes 81 = .ok (.getfield 7, 3) := by decide +kernel
theorem dX10_writes_84 : decode cX10_writes 84 = .ok (.iload 5, 2) := by decide +kernel
theorem dX10_writes_86 : decode cX10_writes 86 = .ok (.iconst 4, 1) := by decide +kernel
theorem dX10_writes_87 : decode cX10_writes 87 = .ok (.iadd, 1) := by decide +kernel
theorem dX10_writes_88 : decode cX10_writes 88 = .ok (.aload_n 0, 1) := by decide +kernel
theorem dX10_writes_89 : decode cX10_writes 89 = .ok (.invokevirtual 215, 3) := by decide +kernel
theorem dX10_writes_92 : decode cX10_writes 92 = .ok (.iastore, 1) := by decide +kernel
theorem dX10_writes_93 : decode cX10_writes 93 = .ok (.iconst 0, 1) := by decide +kernel
theorem dX10_writes_94 : decode cX10_writes 94 = .ok (.istore 6, 2) := by decide +kernel
theorem dX10_writes_96 : decode cX10_writes 96 = .ok (.iload 6, 2) := by decide +kernel
theorem dX10_writes_98 : decode cX10_writes 98 = .ok (.iload_n 2, 1) := by decide +kernel
theorem dX10_writes_99 : decode cX10_writes 99 = .ok (.if_icmp .ge 22, 3) := by decide +kernel
theorem dX10_writes_102 : decode cX10_writes 102 = .ok (.aload_n 0, 1) := by decide +kernel
theorem dX10_writes_103 : decode cX10_writes 103 = .ok (.iconst 1, 1) := by decide +kernel
