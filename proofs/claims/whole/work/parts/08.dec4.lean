theorem dX10_writes_104 : decode cX10_writes 104 = .ok (.aload_n 0, 1) := by decide +kernel
theorem dX10_writes_105 : decode cX10_writes 105 = .ok (.invokevirtual 215, 3) := by decide +kernel
theorem dX10_writes_108 : decode cX10_writes 108 = .ok (.iload 4, 2) := by decide +kernel
theorem dX10_writes_110 : decode cX10_writes 110 = .ok (.iload 6, 2) := by decide +kernel
theorem dX10_writes_112 : decode cX10_writes 112 = .ok (.invokevirtual 280, 3) := by decide +kernel
theorem dX10_writes_115 : decode cX10_writes 115 = .ok (.iinc 6 1, 3) := by decide +kernel
theorem dX10_writes_118 : decode cX10_writes 118 = .ok (.goto (-22), 3) := by decide +kernel
theorem dX10_writes_121 : decode cX10_writes 121 = .ok (.iload 4, 2) := by decide +kernel
theorem dX10_writes_123 : decode cX10_writes 123 = .ok (.ireturn, 1) := by decide +kernel
theorem dX10_erases_0 : decode cX10_erases 0 = .ok (.aload_n 0, 1) := by decide +kernel
theorem dX10_erases_1 : decode cX10_erases 1 = .ok (.iload_n 1, 1) := by decide +kernel
theorem dX10_erases_2 : decode cX10_erases 2 = .ok (.iconst (-1), 1) := by decide +kernel
theorem dX10_erases_3 : decode cX10_erases 3 = .ok (.invokevirtual 277, 3) := by decide +kernel
theorem dX10_erases_6 : decode cX10_erases 6 = .ok (.return_, 1) := by decide +kernel
theorem dX10_closedBefore_0 : decode cX10_closedBefore 0 = .ok (.iload_n 1, 1) := by decide +kernel
theorem dX10_closedBefore_1 : decode cX10_closedBefore 1 = .ok (.iconst 1, 1) := by decide +kernel
theorem dX10_closedBefore_2 : decode cX10_closedBefore 2 = .ok (.isub, 1) := by decide +kernel
theorem dX10_closedBefore_3 : decode cX10_closedBefore 3 = .ok (.istore_n 2, 1) := by decide +kernel
theorem dX10_closedBefore_4 : decode cX10_closedBefore 4 = .ok (.iload_n 2, 1) := by decide +kernel
theorem dX10_closedBefore_5 : decode cX10_closedBefore 5 = .ok (.ifCond .lt 19, 3) := by decide +kernel
theorem dX10_closedBefore_8 : decode cX10_closedBefore 8 = .ok (.aload_n 0, 1) := by decide +kernel
theorem dX10_closedBefore_9 : decode cX10_closedBefore 9 = .ok (.iload_n 2, 1) := by decide +kernel
theorem dX10_closedBefore_10 : decode cX10_closedBefore 10 = .ok (.iconst 0, 1) := by decide +kernel
theorem dX10_closedBefore_11 : decode cX10_closedBefore 11 = .ok (.invokevirtual 218, 3) := by decide +kernel
theorem dX10_closedBefore_14 : decode cX10_closedBefore 14 = .ok (.iconst 1, 1) := by decide +kernel
theorem dX10_closedBefore_15 : decode cX10_closedBefore 15 = .ok (.if_icmp .eq 9, 3) := by decide +kernel
theorem dX10_closedBefore_18 : decode cX10_closedBefore 18 = .ok (.iinc 2 (-1), 3) := by decide +kernel
theorem dX10_closedBefore_21 : decode cX10_closedBefore 21 = .ok (.goto (-17), 3) := by decide +kernel
theorem dX10_closedBefore_24 : decode cX10_closedBefore 24 = .ok (.iload_n 2, 1) := by decide +kernel
theorem dX10_closedBefore_25 : decode cX10_closedBefore 25 = .ok (.ireturn, 1) := by decide +kernel
theorem dX10_closesOpen_0 : decode cX10_closesOpen 0 = .ok (.aload_n 0, 1) := by decide +kernel
theorem dX10_closesOpen_1 : decode cX10_closesOpen 1 = .ok (.invokevirtual 215, 3) := by decide +kernel
theorem dX10_closesOpen_4 : decode cX10_closesOpen 4 = .ok (.istore_n 1, 1) := by decide +kernel
theorem dX10_closesOpen_5 : decode cX10_closesOpen 5 = .ok (.aload_n 0, 1) := by decide +kernel
theorem dX10_closesOpen_6 : decode cX10_closesOpen 6 = .ok (.iload_n 1, 1) := by decide +kernel
theorem dX10_closesOpen_7 : decode cX10_closesOpen 7 = .ok (.iconst 2, 1) := by decide +kernel
theorem dX10_closesOpen_8 : decode cX10_closesOpen 8 = .ok (.invokevirtual 218, 3) := by decide +kernel
theorem dX10_closesOpen_11 : decode cX10_closesOpen 11 = .ok (.invokestatic 221, 3) := by decide +kernel
theorem dX10_closesOpen_14 : decode cX10_closesOpen 14 = .ok (.istore_n 2, 1) := by decide +kernel
theorem dX10_closesOpen_15 : decode cX10_closesOpen 15 = .ok (.aload_n 0, 1) := by decide +kernel
theorem dX10_closesOpen_16 : decode cX10_closesOpen 16 = .ok (.iload_n 1, 1) := by decide +kernel
theorem dX10_closesOpen_17 : decode cX10_closesOpen 17 = .ok (.iconst 3, 1) := by decide +kernel
theorem dX10_closesOpen_18 : decode cX10_closesOpen 18 = .ok (.aload_n 0, 1) := by decide +kernel
theorem dX10_closesOpen_19 : decode cX10_closesOpen 19 = .ok (.getfield 7, 3) := by decide +kernel
theorem dX10_closesOpen_22 : decode cX10_closesOpen 22 = .ok (.iconst 4, 1) := by decide +kernel
theorem dX10_closesOpen_23 : decode cX10_closesOpen 23 = .ok (.iaload, 1) := by decide +kernel
theorem dX10_closesOpen_24 : decode cX10_closesOpen 24 = .ok (.iconst 1, 1) := by decide +kernel
theorem dX10_closesOpen_25 : decode cX10_closesOpen 25 = .ok (.iadd, 1) := by decide +kernel
theorem dX10_closesOpen_26 : decode cX10_closesOpen 26 = .ok (.invokevirtual 270, 3) := by decide +kernel
theorem dX10_closesOpen_29 : decode cX10_closesOpen 29 = .ok (.aload_n 0, 1) := by decide +kernel
theorem dX10_closesOpen_30 : decode cX10_closesOpen 30 = .ok (.iload_n 1, 1) := by decide +kernel
theorem dX10_closesOpen_31 : decode cX10_closesOpen 31 = .ok (.iconst 4, 1) := by decide +kernel
theorem dX10_closesOpen_32 : decode cX10_closesOpen 32 = .ok (.aload_n 0, 1) := by decide +kernel
theorem dX10_closesOpen_33 : decode cX10_closesOpen 33 = .ok (.iload_n 1, 1) := by decide +kernel
theorem dX10_closesOpen_34 : decode cX10_closesOpen 34 = .ok (.invokevirtual 284, 3) := by decide +kernel
theorem dX10_closesOpen_37 : decode cX10_closesOpen 37 = .ok (.iconst 1, 1) := by decide +kernel
theorem dX10_closesOpen_38 : decode cX10_closesOpen 38 = .ok (.iadd, 1) := by decide +kernel
theorem dX10_closesOpen_39 : decode cX10_closesOpen 39 = .ok (.invokevirtual 270, 3) := by decide +kernel
theorem dX10_closesOpen_42 : decode cX10_closesOpen 42 = .ok (.iconst 0, 1) := by decide +kernel
theorem dX10_closesOpen_43 : decode cX10_closesOpen 43 = .ok (.istore_n 3, 1) := by decide +kernel
theorem dX10_closesOpen_44 : decode cX10_closesOpen 44 = .ok (.iload_n 3, 1) := by decide +kernel
theorem dX10_closesOpen_45 : decode cX10_closesOpen 45 = .ok (.iload_n 2, 1) := by decide +kernel
theorem dX10_closesOpen_46 : decode cX10_closesOpen 46 = .ok (.if_icmp .ge 17, 3) := by decide +kernel
theorem dX10_closesOpen_49 : decode cX10_closesOpen 49 = .ok (.aload_n 0, 1) := by decide +kernel
theorem dX10_closesOpen_50 : decode cX10_closesOpen 50 = .ok (.iconst 2, 1) := by decide +kernel
theorem dX10_closesOpen_51 : decode cX10_closesOpen 51 = .ok (.iload_n 1, 1) := by decide +kernel
theorem dX10_closesOpen_52 : decode cX10_closesOpen 52 = .ok (.iconst (-1), 1) := by decide +kernel
theorem dX10_closesOpen_53 : decode cX10_closesOpen 53 = .ok (.iload_n 3, 1) := by decide +kernel
theorem dX10_closesOpen_54 : decode cX10_closesOpen 54 = .ok (.invokevirtual 280, 3) := by decide +kernel
theorem dX10_closesOpen_57 : decode cX10_closesOpen 57 = .ok (.iinc 3 1, 3) := by decide +kernel
theorem dX10_closesOpen_60 : decode cX10_closesOpen 60 = .ok (.goto (-16), 3) := by decide +kernel
theorem dX10_closesOpen_63 : decode cX10_closesOpen 63 = .ok (.aload_n 0, 1) := by decide +kernel
theorem dX10_closesOpen_64 : decode cX10_closesOpen 64 = .ok (.iload_n 1, 1) := by decide +kernel
theorem dX10_closesOpen_65 : decode cX10_closesOpen 65 = .ok (.iconst 0, 1) := by decide +kernel
theorem dX10_closesOpen_66 : decode cX10_closesOpen 66 = .ok (.iconst 1, 1) := by decide +kernel
theorem dX10_closesOpen_67 : decode cX10_closesOpen 67 = .ok (.invokevirtual 270, 3) := by decide +kernel
theorem dX10_closesOpen_70 : decode cX10_closesOpen 70 = .ok (.return_, 1) := by decide +kernel
theorem dX10_findsLost_0 : decode cX10_findsLost 0 = .ok (.aload_n 0, 1) := by decide +kernel
theorem dX10_findsLost_1 : decode cX10_findsLost 1 = .ok (.iconst 0, 1) := by decide +kernel
theorem dX10_findsLost_2 : decode cX10_findsLost 2 = .ok (.putfield 287, 3) := by decide +kernel
theorem dX10_findsLost_5 : decode cX10_findsLost 5 = .ok (.aload_n 0, 1) := by decide +kernel
theorem dX10_findsLost_6 : decode cX10_findsLost 6 = .ok (.invokevirtual 215, 3) := by decide +kernel
theorem dX10_findsLost_9 : decode cX10_findsLost 9 = .ok (.ifCond .lt 16, 3) := by decide +kernel
theorem dX10_findsLost_12 : decode cX10_findsLost 12 = .ok (.aload_n 0, 1) := by decide +kernel
theorem dX10_findsLost_13 : decode cX10_findsLost 13 = .ok (.aload_n 0, 1) := by decide +kernel
theorem dX10_findsLost_14 : decode cX10_findsLost 14 = .ok (.invokevirtual 215, 3) := by decide +kernel
theorem dX10_findsLost_17 : decode cX10_findsLost 17 = .ok (.iconst 0, 1) := by decide +kernel
theorem dX10_findsLost_18 : decode cX10_findsLost 18 = .ok (.invokevirtual 218, 3) := by decide +kernel
theorem dX10_findsLost_21 : decode cX10_findsLost 21 = .ok (.iconst 2, 1) := by decide +kernel
theorem dX10_findsLost_22 : decode cX10_findsLost 22 = .ok (.if_icmp .eq 4, 3) := by decide +kernel
theorem dX10_findsLost_25 : decode cX10_findsLost 25 = .ok (.return_, 1) := by decide +kernel
theorem dX10_findsLost_26 : decode cX10_findsLost 26 = .ok (.iconst 0, 1) := by decide +kernel
theorem dX10_findsLost_27 : decode cX10_findsLost 27 = .ok (.istore_n 1, 1) := by decide +kernel
theorem dX10_findsLost_28 : decode cX10_findsLost 28 = .ok (.iload_n 1, 1) := by decide +kernel
theorem dX10_findsLost_29 : decode cX10_findsLost 29 = .ok (.aload_n 0, 1) := by decide +kernel
theorem dX10_findsLost_30 : decode cX10_findsLost 30 = .ok (.getfield 7, 3) := by decide +kernel
theorem dX10_findsLost_33 : decode cX10_findsLost 33 = .ok (.bipush 6, 2) := by decide +kernel
theorem dX10_findsLost_35 : decode cX10_findsLost 35 = .ok (.iaload, 1) := by decide +kernel
theorem dX10_findsLost_36 : decode cX10_findsLost 36 = .ok (.if_icmp .ge 58, 3) := by decide +kernel
theorem dX10_findsLost_39 : decode cX10_findsLost 39 = .ok (.aload_n 0, 1) := by decide +kernel
theorem dX10_findsLost_40 : decode cX10_findsLost 40 = .ok (.iload_n 1, 1) := by decide +kernel
theorem dX10_findsLost_41 : decode cX10_findsLost 41 = .ok (.iconst 4, 1) := by decide +kernel
theorem dX10_findsLost_42 : decode cX10_findsLost 42 = .ok (.invokevirtual 249, 3) := by decide +kernel
theorem dX10_findsLost_45 : decode cX10_findsLost 45 = .ok (.aload_n 0, 1) := by decide +kernel
theorem dX10_findsLost_46 : decode cX10_findsLost 46 = .ok (.invokevirtual 215, 3) := by decide +kernel
theorem dX10_findsLost_49 : decode cX10_findsLost 49 = .ok (.if_icmp .ne 39, 3) := by decide +kernel
theorem dX10_findsLost_52 : decode cX10_findsLost 52 = .ok (.aload_n 0, 1) := by decide +kernel
theorem dX10_findsLost_53 : decode cX10_findsLost 53 = .ok (.iload_n 1, 1) := by decide +kernel
theorem dX10_findsLost_54 : decode cX10_findsLost 54 = .ok (.invokevirtual 252, 3) := by decide +kernel
theorem dX10_findsLost_57 : decode cX10_findsLost 57 = .ok (.ifCond .eq 31, 3) := by decide +kernel
theorem dX10_findsLost_60 : decode cX10_findsLost 60 = .ok (.aload_n 0, 1) := by decide +kernel
theorem dX10_findsLost_61 : decode cX10_findsLost 61 = .ok (.iload_n 1, 1) := by decide +kernel
theorem dX10_findsLost_62 : decode cX10_findsLost 62 = .ok (.invokevirtual 290, 3) := by decide +kernel
theorem dX10_findsLost_65 : decode cX10_findsLost 65 = .ok (.ifCond .ne 23, 3) := by decide +kernel
theorem dX10_findsLost_68 : decode cX10_findsLost 68 = .ok (.aload_n 0, 1) := by decide +kernel
theorem dX10_findsLost_69 : decode cX10_findsLost 69 = .ok (.getfield 34, 3) := by decide +kernel
theorem dX10_findsLost_72 : decode cX10_findsLost 72 = .ok (.aload_n 0, 1) := by decide +kernel
theorem dX10_findsLost_73 : decode cX10_findsLost 73 = .ok (.getfield 287, 3) := by decide +kernel
theorem dX10_findsLost_76 : decode cX10_findsLost 76 = .ok (.iload_n 1, 1) := by decide +kernel
theorem dX10_findsLost_77 : decode cX10_findsLost 77 = .ok (.iastore, 1) := by decide +kernel
theorem dX10_findsLost_78 : decode cX10_findsLost 78 = .ok (.aload_n 0, 1) := by decide +kernel
theorem dX10_findsLost_79 : decode cX10_findsLost 79 = .ok (.dup, 1) := by decide +kernel
theorem dX10_findsLost_80 : decode cX10_findsLost 80 = .ok (.getfield 287, 3) := by decide +kernel
theorem dX10_findsLost_83 : decode cX10_findsLost 83 = .ok (.iconst 1, 1) := by decide +kernel
theorem dX10_findsLost_84 : decode cX10_findsLost 84 = .ok (.iadd, 1) := by decide +kernel
theorem dX10_findsLost_85 : decode cX10_findsLost 85 = .ok (.putfield 287, 3) := by decide +kernel
theorem dX10_findsLost_88 : decode cX10_findsLost 88 = .ok (.iinc 1 1, 3) := by decide +kernel
theorem dX10_findsLost_91 : decode cX10_findsLost 91 = .ok (.goto (-63), 3) := by decide +kernel
theorem dX10_findsLost_94 : decode cX10_findsLost 94 = .ok (.return_, 1) := by decide +kernel
theorem dX10_isOutdone_0 : decode cX10_isOutdone 0 = .ok (.iconst 0, 1) := by decide +kernel
theorem dX10_isOutdone_1 : decode cX10_isOutdone 1 = .ok (.istore_n 2, 1) := by decide +kernel
theorem dX10_isOutdone_2 : decode cX10_isOutdone 2 = .ok (.iload_n 1, 1) := by decide +kernel
theorem dX10_isOutdone_3 : decode cX10_isOutdone 3 = .ok (.iconst 1, 1) := by decide +kernel
theorem dX10_isOutdone_4 : decode cX10_isOutdone 4 = .ok (.iadd, 1) := by decide +kernel
theorem dX10_isOutdone_5 : decode cX10_isOutdone 5 = .ok (.istore_n 3, 1) := by decide +kernel
theorem dX10_isOutdone_6 : decode cX10_isOutdone 6 = .ok (.iload_n 3, 1) := by decide +kernel
theorem dX10_isOutdone_7 : decode cX10_isOutdone 7 = .ok (.aload_n 0, 1) := by decide +kernel
theorem dX10_isOutdone_8 : decode cX10_isOutdone 8 = .ok (.getfield 7, 3) := by decide +kernel
theorem dX10_isOutdone_11 : decode cX10_isOutdone 11 = .ok (.bipush 6, 2) := by decide +kernel
theorem dX10_isOutdone_13 : decode cX10_isOutdone 13 = .ok (.iaload, 1) := by decide +kernel
theorem dX10_isOutdone_14 : decode cX10_isOutdone 14 = .ok (.if_icmp .ge 55, 3) := by decide +kernel
theorem dX10_isOutdone_17 : decode cX10_isOutdone 17 = .ok (.iload_n 2, 1) := by decide +kernel
theorem dX10_isOutdone_18 : decode cX10_isOutdone 18 = .ok (.ifCond .ne 39, 3) := by decide +kernel
theorem dX10_isOutdone_21 : decode cX10_isOutdone 21 = .ok (.aload_n 0, 1) := by decide +kernel
theorem dX10_isOutdone_22 : decode cX10_isOutdone 22 = .ok (.iload_n 3, 1) := by decide +kernel
theorem dX10_isOutdone_23 : decode cX10_isOutdone 23 = .ok (.iconst 4, 1) := by decide +kernel
theorem dX10_isOutdone_24 : decode cX10_isOutdone 24 = .ok (.invokevirtual 249, 3) := by decide +kernel
theorem dX10_isOutdone_27 : decode cX10_isOutdone 27 = .ok (.aload_n 0, 1) := by decide +kernel
theorem dX10_isOutdone_28 : decode cX10_isOutdone 28 = .ok (.invokevirtual 215, 3) := by decide +kernel
theorem dX10_isOutdone_31 : decode cX10_isOutdone 31 = .ok (.if_icmp .ne 30, 3) := by decide +kernel
theorem dX10_isOutdone_34 : decode cX10_isOutdone 34 = .ok (.aload_n 0, 1) := by decide +kernel
theorem dX10_isOutdone_35 : decode cX10_isOutdone 35 = .ok (.iload_n 3, 1) := by decide +kernel
theorem dX10_isOutdone_36 : decode cX10_isOutdone 36 = .ok (.iconst 0, 1) := by decide +kernel
theorem dX10_isOutdone_37 : decode cX10_isOutdone 37 = .ok (.invokevirtual 249, 3) := by decide +kernel
theorem dX10_isOutdone_40 : decode cX10_isOutdone 40 = .ok (.aload_n 0, 1) := by decide +kernel
theorem dX10_isOutdone_41 : decode cX10_isOutdone 41 = .ok (.iload_n 1, 1) := by decide +kernel
theorem dX10_isOutdone_42 : decode cX10_isOutdone 42 = .ok (.iconst 0, 1) := by decide +kernel
theorem dX10_isOutdone_43 : decode cX10_isOutdone 43 = .ok (.invokevirtual 249, 3) := by decide +kernel
theorem dX10_isOutdone_46 : decode cX10_isOutdone 46 = .ok (.if_icmp .ne 15, 3) := by decide +kernel
theorem dX10_isOutdone_49 : decode cX10_isOutdone 49 = .ok (.aload_n 0, 1) := by decide +kernel
theorem dX10_isOutdone_50 : decode cX10_isOutdone 50 = .ok (.iload_n 3, 1) := by decide +kernel
theorem dX10_isOutdone_51 : decode cX10_isOutdone 51 = .ok (.invokevirtual 252, 3) := by decide +kernel
theorem dX10_isOutdone_54 : decode cX10_isOutdone 54 = .ok (.ifCond .eq 7, 3) := by decide +kernel
theorem dX10_isOutdone_57 : decode cX10_isOutdone 57 = .ok (.iconst 1, 1) := by decide +kernel
theorem dX10_isOutdone_58 : decode cX10_isOutdone 58 = .ok (.goto 4, 3) := by decide +kernel
theorem dX10_isOutdone_61 : decode cX10_isOutdone 61 = .ok (.iconst 0, 1) := by decide +kernel
theorem dX10_isOutdone_62 : decode cX10_isOutdone 62 = .ok (.istore_n 2, 1) := by decide +kernel
theorem dX10_isOutdone_63 : decode cX10_isOutdone 63 = .ok (.iinc 3 1, 3) := by decide +kernel
theorem dX10_isOutdone_66 : decode cX10_isOutdone 66 = .ok (.goto (-60), 3) := by decide +kernel
theorem dX10_isOutdone_69 : decode cX10_isOutdone 69 = .ok (.iload_n 2, 1) := by decide +kernel
theorem dX10_isOutdone_70 : decode cX10_isOutdone 70 = .ok (.ireturn, 1) := by decide +kernel
theorem dX10_whyRecover_0 : decode cX10_whyRecover 0 = .ok (.aload_n 0, 1) := by decide +kernel
theorem dX10_whyRecover_1 : decode cX10_whyRecover 1 = .ok (.invokevirtual 293, 3) := by decide +kernel
theorem dX10_whyRecover_4 : decode cX10_whyRecover 4 = .ok (.aload_n 0, 1) := by decide +kernel
theorem dX10_whyRecover_5 : decode cX10_whyRecover 5 = .ok (.getfield 287, 3) := by decide +kernel
theorem dX10_whyRecover_8 : decode cX10_whyRecover 8 = .ok (.ifCond .ne 5, 3) := by decide +kernel
theorem dX10_whyRecover_11 : decode cX10_whyRecover 11 = .ok (.iconst 2, 1) := by decide +kernel
theorem dX10_whyRecover_12 : decode cX10_whyRecover 12 = .ok (.ireturn, 1) := by decide +kernel
theorem dX10_whyRecover_13 : decode cX10_whyRecover 13 = .ok (.aload_n 0, 1) := by decide +kernel
theorem dX10_whyRecover_14 : decode cX10_whyRecover 14 = .ok (.getfield 7, 3) := by decide +kernel
theorem dX10_whyRecover_17 : decode cX10_whyRecover 17 = .ok (.iconst 3, 1) := by decide +kernel
theorem dX10_whyRecover_18 : decode cX10_whyRecover 18 = .ok (.iaload, 1) := by decide +kernel
theorem dX10_whyRecover_19 : decode cX10_whyRecover 19 = .ok (.bipush 12, 2) := by decide +kernel
theorem dX10_whyRecover_21 : decode cX10_whyRecover 21 = .ok (.if_icmp .ne 5, 3) := by decide +kernel
theorem dX10_whyRecover_24 : decode cX10_whyRecover 24 = .ok (.iconst 3, 1) := by decide +kernel
theorem dX10_whyRecover_25 : decode cX10_whyRecover 25 = .ok (.ireturn, 1) := by decide +kernel
theorem dX10_whyRecover_26 : decode cX10_whyRecover 26 = .ok (.aload_n 0, 1) := by decide +kernel
theorem dX10_whyRecover_27 : decode cX10_whyRecover 27 = .ok (.getfield 287, 3) := by decide +kernel
theorem dX10_whyRecover_30 : decode cX10_whyRecover 30 = .ok (.invokestatic 221, 3) := by decide +kernel
theorem dX10_whyRecover_33 : decode cX10_whyRecover 33 = .ok (.istore_n 1, 1) := by decide +kernel
theorem dX10_whyRecover_34 : decode cX10_whyRecover 34 = .ok (.aload_n 0, 1) := by decide +kernel
theorem dX10_whyRecover_35 : decode cX10_whyRecover 35 = .ok (.iload_n 1, 1) := by decide +kernel
theorem dX10_whyRecover_36 : decode cX10_whyRecover 36 = .ok (.invokevirtual 261, 3) := by decide +kernel
theorem dX10_whyRecover_39 : decode cX10_whyRecover 39 = .ok (.ifCond .ne 7, 3) := by decide +kernel
theorem dX10_whyRecover_42 : decode cX10_whyRecover 42 = .ok (.iconst 4, 1) := by decide +kernel
theorem dX10_whyRecover_43 : decode cX10_whyRecover 43 = .ok (.goto 16, 3) := by decide +kernel
theorem dX10_whyRecover_46 : decode cX10_whyRecover 46 = .ok (.aload_n 0, 1) := by decide +kernel
theorem dX10_whyRecover_47 : decode cX10_whyRecover 47 = .ok (.iload_n 1, 1) := by decide +kernel
theorem dX10_whyRecover_48 : decode cX10_whyRecover 48 = .ok (.invokevirtual 264, 3) := by decide +kernel
theorem dX10_whyRecover_51 : decode cX10_whyRecover 51 = .ok (.ifCond .eq 7, 3) := by decide +kernel
theorem dX10_whyRecover_54 : decode cX10_whyRecover 54 = .ok (.iconst 0, 1) := by decide +kernel
theorem dX10_whyRecover_55 : decode cX10_whyRecover 55 = .ok (.goto 4, 3) := by decide +kernel
theorem dX10_whyRecover_58 : decode cX10_whyRecover 58 = .ok (.iconst 5, 1) := by decide +kernel
theorem dX10_whyRecover_59 : decode cX10_whyRecover 59 = .ok (.ireturn, 1) := by decide +kernel
theorem dX10_badMany_0 : decode cX10_badMany 0 = .ok (.iconst 0, 1) := by decide +kernel
theorem dX10_badMany_1 : decode cX10_badMany 1 = .ok (.istore_n 1, 1) := by decide +kernel
theorem dX10_badMany_2 : decode cX10_badMany 2 = .ok (.iconst 0, 1) := by decide +kernel
theorem dX10_badMany_3 : decode cX10_badMany 3 = .ok (.istore_n 2, 1) := by decide +kernel
theorem dX10_badMany_4 : decode cX10_badMany 4 = .ok (.iload_n 2, 1) := by decide +kernel
theorem dX10_badMany_5 : decode cX10_badMany 5 = .ok (.aload_n 0, 1) := by decide +kernel
theorem dX10_badMany_6 : decode cX10_badMany 6 = .ok (.getfield 7, 3) := by decide +kernel
theorem dX10_badMany_9 : decode cX10_badMany 9 = .ok (.iconst 0, 1) := by decide +kernel
theorem dX10_badMany_10 : decode cX10_badMany 10 = .ok (.iaload, 1) := by decide +kernel
theorem dX10_badMany_11 : decode cX10_badMany 11 = .ok (.if_icmp .ge 21, 3) := by decide +kernel
theorem dX10_badMany_14 : decode cX10_badMany 14 = .ok (.iload_n 1, 1) := by decide +kernel
theorem dX10_badMany_15 : decode cX10_badMany 15 = .ok (.aload_n 0, 1) := by decide +kernel
theorem dX10_badMany_16 : decode cX10_badMany 16 = .ok (.getfield 7, 3) := by decide +kernel
theorem dX10_badMany_19 : decode cX10_badMany 19 = .ok (.bipush 103, 2) := by decide +kernel
theorem dX10_badMany_21 : decode cX10_badMany 21 = .ok (.iload_n 2, 1) := by decide +kernel
theorem dX10_badMany_22 : decode cX10_badMany 22 = .ok (.iadd, 1) := by decide +kernel
theorem dX10_badMany_23 : decode cX10_badMany 23 = .ok (.iaload, 1) := by decide +kernel
theorem dX10_badMany_24 : decode cX10_badMany 24 = .ok (.iadd, 1) := by decide +kernel
theorem dX10_badMany_25 : decode cX10_badMany 25 = .ok (.istore_n 1, 1) := by decide +kernel
theorem dX10_badMany_26 : decode cX10_badMany 26 = .ok (.iinc 2 1, 3) := by decide +kernel
theorem dX10_badMany_29 : decode cX10_badMany 29 = .ok (.goto (-25), 3) := by decide +kernel
theorem dX10_badMany_32 : decode cX10_badMany 32 = .ok (.iload_n 1, 1) := by decide +kernel
theorem dX10_badMany_33 : decode cX10_badMany 33 = .ok (.ireturn, 1) := by decide +kernel
theorem dX10_emptySpares_0 : decode cX10_emptySpares 0 = .ok (.iconst 0, 1) := by decide +kernel
theorem dX10_emptySpares_1 : decode cX10_emptySpares 1 = .ok (.istore_n 1, 1) := by decide +kernel
theorem dX10_emptySpares_2 : decode cX10_emptySpares 2 = .ok (.aload_n 0, 1) := by decide +kernel
theorem dX10_emptySpares_3 : decode cX10_emptySpares 3 = .ok (.invokevirtual 205, 3) := by decide +kernel
theorem dX10_emptySpares_6 : decode cX10_emptySpares 6 = .ok (.istore_n 2, 1) := by decide +kernel
theorem dX10_emptySpares_7 : decode cX10_emptySpares 7 = .ok (.iload_n 2, 1) := by decide +kernel
theorem dX10_emptySpares_8 : decode cX10_emptySpares 8 = .ok (.aload_n 0, 1) := by decide +kernel
theorem dX10_emptySpares_9 : decode cX10_emptySpares 9 = .ok (.getfield 7, 3) := by decide +kernel
theorem dX10_emptySpares_12 : decode cX10_emptySpares 12 = .ok (.iconst 0, 1) := by decide +kernel
theorem dX10_emptySpares_13 : decode cX10_emptySpares 13 = .ok (.iaload, 1) := by decide +kernel
theorem dX10_emptySpares_14 : decode cX10_emptySpares 14 = .ok (.if_icmp .ge 29, 3) := by decide +kernel
theorem dX10_emptySpares_17 : decode cX10_emptySpares 17 = .ok (.iload_n 1, 1) := by decide +kernel
theorem dX10_emptySpares_18 : decode cX10_emptySpares 18 = .ok (.aload_n 0, 1) := by decide +kernel
theorem dX10_emptySpares_19 : decode cX10_emptySpares 19 = .ok (.getfield 7, 3) := by decide +kernel
theorem dX10_emptySpares_22 : decode cX10_emptySpares 22 = .ok (.bipush 7, 2) := by decide +kernel
theorem dX10_emptySpares_24 : decode cX10_emptySpares 24 = .ok (.iload_n 2, 1) := by decide +kernel
theorem dX10_emptySpares_25 : decode cX10_emptySpares 25 = .ok (.iadd, 1) := by decide +kernel
theorem dX10_emptySpares_26 : decode cX10_emptySpares 26 = .ok (.iaload, 1) := by decide +kernel
theorem dX10_emptySpares_27 : decode cX10_emptySpares 27 = .ok (.ifCond .ne 7, 3) := by decide +kernel
theorem dX10_emptySpares_30 : decode cX10_emptySpares 30 = .ok (.iconst 1, 1) := by decide +kernel
theorem dX10_emptySpares_31 : decode cX10_emptySpares 31 = .ok (.goto 4, 3) := by decide +kernel
theorem dX10_emptySpares_34 : decode cX10_emptySpares 34 = .ok (.iconst 0, 1) := by decide +kernel
theorem dX10_emptySpares_35 : decode cX10_emptySpares 35 = .ok (.iadd, 1) := by decide +kernel
theorem dX10_emptySpares_36 : decode cX10_emptySpares 36 = .ok (.istore_n 1, 1) := by decide +kernel
theorem dX10_emptySpares_37 : decode cX10_emptySpares 37 = .ok (.iinc 2 1, 3) := by decide +kernel
theorem dX10_emptySpares_40 : decode cX10_emptySpares 40 = .ok (.goto (-33), 3) := by decide +kernel
theorem dX10_emptySpares_43 : decode cX10_emptySpares 43 = .ok (.iload_n 1, 1) := by decide +kernel
theorem dX10_emptySpares_44 : decode cX10_emptySpares 44 = .ok (.ireturn, 1) := by decide +kernel
theorem dX10_size_0 : decode cX10_size 0 = .ok (.aload_n 0, 1) := by decide +kernel
theorem dX10_size_1 : decode cX10_size 1 = .ok (.iconst 0, 1) := by decide +kernel
theorem dX10_size_2 : decode cX10_size 2 = .ok (.putfield 50, 3) := by decide +kernel
theorem dX10_size_5 : decode cX10_size 5 = .ok (.aload_n 0, 1) := by decide +kernel
theorem dX10_size_6 : decode cX10_size 6 = .ok (.iload_n 1, 1) := by decide +kernel
theorem dX10_size_7 : decode cX10_size 7 = .ok (.iconst 0, 1) := by decide +kernel
theorem dX10_size_8 : decode cX10_size 8 = .ok (.bipush 12, 2) := by decide +kernel
theorem dX10_size_10 : decode cX10_size 10 = .ok (.invokestatic 74, 3) := by decide +kernel
theorem dX10_size_13 : decode cX10_size 13 = .ok (.ifCond .ne 7, 3) := by decide +kernel
theorem dX10_size_16 : decode cX10_size 16 = .ok (.iconst 1, 1) := by decide +kernel
theorem dX10_size_17 : decode cX10_size 17 = .ok (.goto 4, 3) := by decide +kernel
theorem dX10_size_20 : decode cX10_size 20 = .ok (.iconst 0, 1) := by decide +kernel
theorem dX10_size_21 : decode cX10_size 21 = .ok (.iconst 1, 1) := by decide +kernel
theorem dX10_size_22 : decode cX10_size 22 = .ok (.invokevirtual 188, 3) := by decide +kernel
theorem dX10_size_25 : decode cX10_size 25 = .ok (.ifCond .eq 5, 3) := by decide +kernel
theorem dX10_size_28 : decode cX10_size 28 = .ok (.iconst 0, 1) := by decide +kernel
theorem dX10_size_29 : decode cX10_size 29 = .ok (.ireturn, 1) := by decide +kernel
theorem dX10_size_30 : decode cX10_size 30 = .ok (.iload_n 1, 1) := by decide +kernel
theorem dX10_size_31 : decode cX10_size 31 = .ok (.tableswitch 103 5 12 #[45, 50, 55, 62, 70, 83, 90, 95], 45) := by decide +kernel
theorem dX10_size_76 : decode cX10_size 76 = .ok (.aload_n 0, 1) := by decide +kernel
theorem dX10_size_77 : decode cX10_size 77 = .ok (.invokevirtual 296, 3) := by decide +kernel
theorem dX10_size_80 : decode cX10_size 80 = .ok (.ireturn, 1) := by decide +kernel
theorem dX10_size_81 : decode cX10_size 81 = .ok (.aload_n 0, 1) := by decide +kernel
theorem dX10_size_82 : decode cX10_size 82 = .ok (.invokevirtual 299, 3) := by decide +kernel
theorem dX10_size_85 : decode cX10_size 85 = .ok (.ireturn, 1) := by decide +kernel
theorem dX10_size_86 : decode cX10_size 86 = .ok (.aload_n 0, 1) := by decide +kernel
theorem dX10_size_87 : decode cX10_size 87 = .ok (.bipush 12, 2) := by decide +kernel
theorem dX10_size_89 : decode cX10_size 89 = .ok (.invokevirtual 302, 3) := by decide +kernel
theorem dX10_size_92 : decode cX10_size 92 = .ok (.ireturn, 1) := by decide +kernel
theorem dX10_size_93 : decode cX10_size 93 = .ok (.aload_n 0, 1) := by decide +kernel
theorem dX10_size_94 : decode cX10_size 94 = .ok (.invokevirtual 305, 3) := by decide +kernel
theorem dX10_size_97 : decode cX10_size 97 = .ok (.invokestatic 308, 3) := by decide +kernel
theorem dX10_size_100 : decode cX10_size 100 = .ok (.ireturn, 1) := by decide +kernel
theorem dX10_size_101 : decode cX10_size 101 = .ok (.aload_n 0, 1) := by decide +kernel
theorem dX10_size_102 : decode cX10_size 102 = .ok (.invokevirtual 255, 3) := by decide +kernel
theorem dX10_size_105 : decode cX10_size 105 = .ok (.ifCond .eq 7, 3) := by decide +kernel
theorem dX10_size_108 : decode cX10_size 108 = .ok (.iconst 1, 1) := by decide +kernel
theorem dX10_size_109 : decode cX10_size 109 = .ok (.goto 4, 3) := by decide +kernel
theorem dX10_size_112 : decode cX10_size 112 = .ok (.iconst 0, 1) := by decide +kernel
theorem dX10_size_113 : decode cX10_size 113 = .ok (.ireturn, 1) := by decide +kernel
theorem dX10_size_114 : decode cX10_size 114 = .ok (.aload_n 0, 1) := by decide +kernel
theorem dX10_size_115 : decode cX10_size 115 = .ok (.getfield 7, 3) := by decide +kernel
theorem dX10_size_118 : decode cX10_size 118 = .ok (.iconst 5, 1) := by decide +kernel
theorem dX10_size_119 : decode cX10_size 119 = .ok (.iaload, 1) := by decide +kernel
theorem dX10_size_120 : decode cX10_size 120 = .ok (.ireturn, 1) := by decide +kernel
theorem dX10_size_121 : decode cX10_size 121 = .ok (.aload_n 0, 1) := by decide +kernel
theorem dX10_size_122 : decode cX10_size 122 = .ok (.getfield 202, 3) := by decide +kernel
theorem dX10_size_125 : decode cX10_size 125 = .ok (.ireturn, 1) := by decide +kernel
theorem dX10_size_126 : decode cX10_size 126 = .ok (.aload_n 0, 1) := by decide +kernel
theorem dX10_size_127 : decode cX10_size 127 = .ok (.getfield 7, 3) := by decide +kernel
theorem dX10_size_130 : decode cX10_size 130 = .ok (.bipush 6, 2) := by decide +kernel
theorem dX10_size_132 : decode cX10_size 132 = .ok (.iaload, 1) := by decide +kernel
theorem dX10_size_133 : decode cX10_size 133 = .ok (.ireturn, 1) := by decide +kernel
theorem dX10_size_134 : decode cX10_size 134 = .ok (.aload_n 0, 1) := by decide +kernel
theorem dX10_size_135 : decode cX10_size 135 = .ok (.getfield 7, 3) := by decide +kernel
theorem dX10_size_138 : decode cX10_size 138 = .ok (.iload_n 1, 1) := by decide +kernel
theorem dX10_size_139 : decode cX10_size 139 = .ok (.iaload, 1) := by decide +kernel
theorem dX10_size_140 : decode cX10_size 140 = .ok (.ireturn, 1) := by decide +kernel
theorem dX10_no_0 : decode cX10_no 0 = .ok (.aload_n 0, 1) := by decide +kernel
theorem dX10_no_1 : decode cX10_no 1 = .ok (.iconst 0, 1) := by decide +kernel
theorem dX10_no_2 : decode cX10_no 2 = .ok (.putfield 50, 3) := by decide +kernel
theorem dX10_no_5 : decode cX10_no 5 = .ok (.aload_n 0, 1) := by decide +kernel
theorem dX10_no_6 : decode cX10_no 6 = .ok (.iload_n 1, 1) := by decide +kernel
theorem dX10_no_7 : decode cX10_no 7 = .ok (.iconst 0, 1) := by decide +kernel
theorem dX10_no_8 : decode cX10_no 8 = .ok (.iload_n 2, 1) := by decide +kernel
theorem dX10_no_9 : decode cX10_no 9 = .ok (.iconst 1, 1) := by decide +kernel
theorem dX10_no_10 : decode cX10_no 10 = .ok (.isub, 1) := by decide +kernel
theorem dX10_no_11 : decode cX10_no 11 = .ok (.invokestatic 74, 3) := by decide +kernel
theorem dX10_no_14 : decode cX10_no 14 = .ok (.ifCond .ne 7, 3) := by decide +kernel
theorem dX10_no_17 : decode cX10_no 17 = .ok (.iconst 1, 1) := by decide +kernel
theorem dX10_no_18 : decode cX10_no 18 = .ok (.goto 4, 3) := by decide +kernel
theorem dX10_no_21 : decode cX10_no 21 = .ok (.iconst 0, 1) := by decide +kernel
theorem dX10_no_22 : decode cX10_no 22 = .ok (.iconst 1, 1) := by decide +kernel
theorem dX10_no_23 : decode cX10_no 23 = .ok (.invokevirtual 188, 3) := by decide +kernel
theorem dX10_no_26 : decode cX10_no 26 = .ok (.ireturn, 1) := by decide +kernel
theorem dX10_noBlock_0 : decode cX10_noBlock 0 = .ok (.aload_n 0, 1) := by decide +kernel
theorem dX10_noBlock_1 : decode cX10_noBlock 1 = .ok (.iload_n 1, 1) := by decide +kernel
theorem dX10_noBlock_2 : decode cX10_noBlock 2 = .ok (.aload_n 0, 1) := by decide +kernel
theorem dX10_noBlock_3 : decode cX10_noBlock 3 = .ok (.getfield 7, 3) := by decide +kernel
theorem dX10_noBlock_6 : decode cX10_noBlock 6 = .ok (.iconst 0, 1) := by decide +kernel
theorem dX10_noBlock_7 : decode cX10_noBlock 7 = .ok (.iaload, 1) := by decide +kernel
theorem dX10_noBlock_8 : decode cX10_noBlock 8 = .ok (.invokevirtual 311, 3) := by decide +kernel
theorem dX10_noBlock_11 : decode cX10_noBlock 11 = .ok (.ireturn, 1) := by decide +kernel
theorem dX10_noSession_0 : decode cX10_noSession 0 = .ok (.aload_n 0, 1) := by decide +kernel
theorem dX10_noSession_1 : decode cX10_noSession 1 = .ok (.iload_n 1, 1) := by decide +kernel
theorem dX10_noSession_2 : decode cX10_noSession 2 = .ok (.aload_n 0, 1) := by decide +kernel
theorem dX10_noSession_3 : decode cX10_noSession 3 = .ok (.getfield 7, 3) := by decide +kernel
theorem dX10_noSession_6 : decode cX10_noSession 6 = .ok (.iconst 3, 1) := by decide +kernel
theorem dX10_noSession_7 : decode cX10_noSession 7 = .ok (.iaload, 1) := by decide +kernel
theorem dX10_noSession_8 : decode cX10_noSession 8 = .ok (.invokevirtual 311, 3) := by decide +kernel
theorem dX10_noSession_11 : decode cX10_noSession 11 = .ok (.ireturn, 1) := by decide +kernel
theorem dX10_noFile_0 : decode cX10_noFile 0 = .ok (.aload_n 0, 1) := by decide +kernel
theorem dX10_noFile_1 : decode cX10_noFile 1 = .ok (.iload_n 1, 1) := by decide +kernel
theorem dX10_noFile_2 : decode cX10_noFile 2 = .ok (.aload_n 0, 1) := by decide +kernel
theorem dX10_noFile_3 : decode cX10_noFile 3 = .ok (.getfield 7, 3) := by decide +kernel
theorem dX10_noFile_6 : decode cX10_noFile 6 = .ok (.iconst 2, 1) := by decide +kernel
theorem dX10_noFile_7 : decode cX10_noFile 7 = .ok (.iaload, 1) := by decide +kernel
theorem dX10_noFile_8 : decode cX10_noFile 8 = .ok (.invokevirtual 311, 3) := by decide +kernel
theorem dX10_noFile_11 : decode cX10_noFile 11 = .ok (.ireturn, 1) := by decide +kernel
theorem dX10_block_0 : decode cX10_block 0 = .ok (.aload_n 0, 1) := by decide +kernel
theorem dX10_block_1 : decode cX10_block 1 = .ok (.iload_n 1, 1) := by decide +kernel
theorem dX10_block_2 : decode cX10_block 2 = .ok (.invokevirtual 314, 3) := by decide +kernel
theorem dX10_block_5 : decode cX10_block 5 = .ok (.ifCond .ne 26, 3) := by decide +kernel
theorem dX10_block_8 : decode cX10_block 8 = .ok (.aload_n 0, 1) := by decide +kernel
theorem dX10_block_9 : decode cX10_block 9 = .ok (.iload_n 2, 1) := by decide +kernel
theorem dX10_block_10 : decode cX10_block 10 = .ok (.iconst 0, 1) := by decide +kernel
theorem dX10_block_11 : decode cX10_block 11 = .ok (.bipush 6, 2) := by decide +kernel
theorem dX10_block_13 : decode cX10_block 13 = .ok (.invokestatic 74, 3) := by decide +kernel
theorem dX10_block_16 : decode cX10_block 16 = .ok (.ifCond .ne 7, 3) := by decide +kernel
theorem dX10_block_19 : decode cX10_block 19 = .ok (.iconst 1, 1) := by decide +kernel
theorem dX10_block_20 : decode cX10_block 20 = .ok (.goto 4, 3) := by decide +kernel
theorem dX10_block_23 : decode cX10_block 23 = .ok (.iconst 0, 1) := by decide +kernel
theorem dX10_block_24 : decode cX10_block 24 = .ok (.iconst 2, 1) := by decide +kernel
theorem dX10_block_25 : decode cX10_block 25 = .ok (.invokevirtual 188, 3) := by decide +kernel
theorem dX10_block_28 : decode cX10_block 28 = .ok (.ifCond .eq 5, 3) := by decide +kernel
theorem dX10_block_31 : decode cX10_block 31 = .ok (.iconst 0, 1) := by decide +kernel
theorem dX10_block_32 : decode cX10_block 32 = .ok (.ireturn, 1) := by decide +kernel
theorem dX10_block_33 : decode cX10_block 33 = .ok (.iload_n 2, 1) := by decide +kernel
theorem dX10_block_34 : decode cX10_block 34 = .ok (.tableswitch 108 0 5 #[38, 48, 58, 69, 82, 95], 38) := by decide +kernel
theorem dX10_block_72 : decode cX10_block 72 = .ok (.aload_n 0, 1) := by decide +kernel
theorem dX10_block_73 : decode cX10_block 73 = .ok (.getfield 7, 3) := by decide +kernel
theorem dX10_block_76 : decode cX10_block 76 = .ok (.bipush 7, 2) := by decide +kernel
theorem dX10_block_78 : decode cX10_block 78 = .ok (.iload_n 1, 1) := by decide +kernel
theorem dX10_block_79 : decode cX10_block 79 = .ok (.iadd, 1) := by decide +kernel
theorem dX10_block_80 : decode cX10_block 80 = .ok (.iaload, 1) := by decide +kernel
theorem dX10_block_81 : decode cX10_block 81 = .ok (.ireturn, 1) := by decide +kernel
theorem dX10_block_82 : decode cX10_block 82 = .ok (.aload_n 0, 1) := by decide +kernel
theorem dX10_block_83 : decode cX10_block 83 = .ok (.getfield 7, 3) := by decide +kernel
theorem dX10_block_86 : decode cX10_block 86 = .ok (.bipush 103, 2) := by decide +kernel
theorem dX10_block_88 : decode cX10_block 88 = .ok (.iload_n 1, 1) := by decide +kernel
theorem dX10_block_89 : decode cX10_block 89 = .ok (.iadd, 1) := by decide +kernel
theorem dX10_block_90 : decode cX10_block 90 = .ok (.iaload, 1) := by decide +kernel
theorem dX10_block_91 : decode cX10_block 91 = .ok (.ireturn, 1) := by decide +kernel
theorem dX10_block_92 : decode cX10_block 92 = .ok (.aload_n 0, 1) := by decide +kernel
theorem dX10_block_93 : decode cX10_block 93 = .ok (.getfield 7, 3) := by decide +kernel
theorem dX10_block_96 : decode cX10_block 96 = .ok (.sipush 199, 3) := by decide +kernel
theorem dX10_block_99 : decode cX10_block 99 = .ok (.iload_n 1, 1) := by decide +kernel
theorem dX10_block_100 : decode cX10_block 100 = .ok (.iadd, 1) := by decide +kernel
theorem dX10_block_101 : decode cX10_block 101 = .ok (.iaload, 1) := by decide +kernel
theorem dX10_block_102 : decode cX10_block 102 = .ok (.ireturn, 1) := by decide +kernel
theorem dX10_block_103 : decode cX10_block 103 = .ok (.aload_n 0, 1) := by decide +kernel
theorem dX10_block_104 : decode cX10_block 104 = .ok (.getfield 7, 3) := by decide +kernel
theorem dX10_block_107 : decode cX10_block 107 = .ok (.sipush 295, 3) := by decide +kernel
theorem dX10_block_110 : decode cX10_block 110 = .ok (.iload_n 1, 1) := by decide +kernel
theorem dX10_block_111 : decode cX10_block 111 = .ok (.iadd, 1) := by decide +kernel
theorem dX10_block_112 : decode cX10_block 112 = .ok (.iaload, 1) := by decide +kernel
theorem dX10_block_113 : decode cX10_block 113 = .ok (.iconst 1, 1) := by decide +kernel
theorem dX10_block_114 : decode cX10_block 114 = .ok (.isub, 1) := by decide +kernel
theorem dX10_block_115 : decode cX10_block 115 = .ok (.ireturn, 1) := by decide +kernel
theorem dX10_block_116 : decode cX10_block 116 = .ok (.aload_n 0, 1) := by decide +kernel
theorem dX10_block_117 : decode cX10_block 117 = .ok (.getfield 7, 3) := by decide +kernel
theorem dX10_block_120 : decode cX10_block 120 = .ok (.sipush 391, 3) := by decide +kernel
theorem dX10_block_123 : decode cX10_block 123 = .ok (.iload_n 1, 1) := by decide +kernel
theorem dX10_block_124 : decode cX10_block 124 = .ok (.iadd, 1) := by decide +kernel
theorem dX10_block_125 : decode cX10_block 125 = .ok (.iaload, 1) := by decide +kernel
theorem dX10_block_126 : decode cX10_block 126 = .ok (.iconst 1, 1) := by decide +kernel
theorem dX10_block_127 : decode cX10_block 127 = .ok (.isub, 1) := by decide +kernel
theorem dX10_block_128 : decode cX10_block 128 = .ok (.ireturn, 1) := by decide +kernel
theorem dX10_block_129 : decode cX10_block 129 = .ok (.aload_n 0, 1) := by decide +kernel
theorem dX10_block_130 : decode cX10_block 130 = .ok (.getfield 7, 3) := by decide +kernel
theorem dX10_block_133 : decode cX10_block 133 = .ok (.sipush 487, 3) := by decide +kernel
theorem dX10_block_136 : decode cX10_block 136 = .ok (.iload_n 1, 1) := by decide +kernel
theorem dX10_block_137 : decode cX10_block 137 = .ok (.iadd, 1) := by decide +kernel
theorem dX10_block_138 : decode cX10_block 138 = .ok (.iaload, 1) := by decide +kernel
theorem dX10_block_139 : decode cX10_block 139 = .ok (.iconst 1, 1) := by decide +kernel
theorem dX10_block_140 : decode cX10_block 140 = .ok (.isub, 1) := by decide +kernel
theorem dX10_block_141 : decode cX10_block 141 = .ok (.ireturn, 1) := by decide +kernel
theorem dX10_block_142 : decode cX10_block 142 = .ok (.aload_n 0, 1) := by decide +kernel
theorem dX10_block_143 : decode cX10_block 143 = .ok (.getfield 7, 3) := by decide +kernel
theorem dX10_block_146 : decode cX10_block 146 = .ok (.sipush 583, 3) := by decide +kernel
theorem dX10_block_149 : decode cX10_block 149 = .ok (.iload_n 1, 1) := by decide +kernel
theorem dX10_block_150 : decode cX10_block 150 = .ok (.iadd, 1) := by decide +kernel
theorem dX10_block_151 : decode cX10_block 151 = .ok (.iaload, 1) := by decide +kernel
theorem dX10_block_152 : decode cX10_block 152 = .ok (.iconst 1, 1) := by decide +kernel
theorem dX10_block_153 : decode cX10_block 153 = .ok (.isub, 1) := by decide +kernel
theorem dX10_block_154 : decode cX10_block 154 = .ok (.ireturn, 1) := by decide +kernel
theorem dX10_place_0 : decode cX10_place 0 = .ok (.aload_n 0, 1) := by decide +kernel
theorem dX10_place_1 : decode cX10_place 1 = .ok (.iload_n 1, 1) := by decide +kernel
theorem dX10_place_2 : decode cX10_place 2 = .ok (.invokevirtual 314, 3) := by decide +kernel
theorem dX10_place_5 : decode cX10_place 5 = .ok (.ifCond .eq 5, 3) := by decide +kernel
theorem dX10_place_8 : decode cX10_place 8 = .ok (.iconst 0, 1) := by decide +kernel
theorem dX10_place_9 : decode cX10_place 9 = .ok (.ireturn, 1) := by decide +kernel
theorem dX10_place_10 : decode cX10_place 10 = .ok (.aload_n 0, 1) := by decide +kernel
theorem dX10_place_11 : decode cX10_place 11 = .ok (.iload_n 1, 1) := by decide +kernel
theorem dX10_place_12 : decode cX10_place 12 = .ok (.invokevirtual 317, 3) := by decide +kernel
theorem dX10_place_15 : decode cX10_place 15 = .ok (.ifCond .eq 15, 3) := by decide +kernel
theorem dX10_place_18 : decode cX10_place 18 = .ok (.aload_n 0, 1) := by decide +kernel
theorem dX10_place_19 : decode cX10_place 19 = .ok (.getfield 7, 3) := by decide +kernel
theorem dX10_place_22 : decode cX10_place 22 = .ok (.bipush 7, 2) := by decide +kernel
theorem dX10_place_24 : decode cX10_place 24 = .ok (.iload_n 1, 1) := by decide +kernel
theorem dX10_place_25 : decode cX10_place 25 = .ok (.iadd, 1) := by decide +kernel
theorem dX10_place_26 : decode cX10_place 26 = .ok (.iaload, 1) := by decide +kernel
theorem dX10_place_27 : decode cX10_place 27 = .ok (.ifCond .ne 7, 3) := by decide +kernel
theorem dX10_place_30 : decode cX10_place 30 = .ok (.iconst (-1), 1) := by decide +kernel
theorem dX10_place_31 : decode cX10_place 31 = .ok (.goto 8, 3) := by decide +kernel
theorem dX10_place_34 : decode cX10_place 34 = .ok (.aload_n 0, 1) := by decide +kernel
theorem dX10_place_35 : decode cX10_place 35 = .ok (.iload_n 1, 1) := by decide +kernel
theorem dX10_place_36 : decode cX10_place 36 = .ok (.invokevirtual 208, 3) := by decide +kernel
theorem dX10_place_39 : decode cX10_place 39 = .ok (.ireturn, 1) := by decide +kernel
theorem dX10_writtenBy_0 : decode cX10_writtenBy 0 = .ok (.iconst 0, 1) := by decide +kernel
theorem dX10_writtenBy_1 : decode cX10_writtenBy 1 = .ok (.istore_n 3, 1) := by decide +kernel
theorem dX10_writtenBy_2 : decode cX10_writtenBy 2 = .ok (.iconst 0, 1) := by decide +kernel
theorem dX10_writtenBy_3 : decode cX10_writtenBy 3 = .ok (.istore 4, 2) := by decide +kernel
theorem dX10_writtenBy_5 : decode cX10_writtenBy 5 = .ok (.iload 4, 2) := by decide +kernel
theorem dX10_writtenBy_7 : decode cX10_writtenBy 7 = .ok (.aload_n 0, 1) := by decide +kernel
theorem dX10_writtenBy_8 : decode cX10_writtenBy 8 = .ok (.getfield 7, 3) := by decide +kernel
theorem dX10_writtenBy_11 : decode cX10_writtenBy 11 = .ok (.iconst 0, 1) := by decide +kernel
theorem dX10_writtenBy_12 : decode cX10_writtenBy 12 = .ok (.iaload, 1) := by decide +kernel
theorem dX10_writtenBy_13 : decode cX10_writtenBy 13 = .ok (.if_icmp .ge 44, 3) := by decide +kernel
theorem dX10_writtenBy_16 : decode cX10_writtenBy 16 = .ok (.iload_n 3, 1) := by decide +kernel
theorem dX10_writtenBy_17 : decode cX10_writtenBy 17 = .ok (.aload_n 0, 1) := by decide +kernel
theorem dX10_writtenBy_18 : decode cX10_writtenBy 18 = .ok (.iload 4, 2) := by decide +kernel
theorem dX10_writtenBy_20 : decode cX10_writtenBy 20 = .ok (.invokevirtual 317, 3) := by decide +kernel
theorem dX10_writtenBy_23 : decode cX10_writtenBy 23 = .ok (.iload_n 2, 1) := by decide +kernel
theorem dX10_writtenBy_24 : decode cX10_writtenBy 24 = .ok (.if_icmp .ne 24, 3) := by decide +kernel
theorem dX10_writtenBy_27 : decode cX10_writtenBy 27 = .ok (.aload_n 0, 1) := by decide +kernel
theorem dX10_writtenBy_28 : decode cX10_writtenBy 28 = .ok (.getfield 7, 3) := by decide +kernel
theorem dX10_writtenBy_31 : decode cX10_writtenBy 31 = .ok (.sipush 295, 3) := by decide +kernel
theorem dX10_writtenBy_34 : decode cX10_writtenBy 34 = .ok (.iload 4, 2) := by decide +kernel
theorem dX10_writtenBy_36 : decode cX10_writtenBy 36 = .ok (.iadd, 1) := by decide +kernel
theorem dX10_writtenBy_37 : decode cX10_writtenBy 37 = .ok (.iaload, 1) := by decide +kernel
theorem dX10_writtenBy_38 : decode cX10_writtenBy 38 = .ok (.iload_n 1, 1) := by decide +kernel
theorem dX10_writtenBy_39 : decode cX10_writtenBy 39 = .ok (.iconst 1, 1) := by decide +kernel
theorem dX10_writtenBy_40 : decode cX10_writtenBy 40 = .ok (.iadd, 1) := by decide +kernel
theorem dX10_writtenBy_41 : decode cX10_writtenBy 41 = .ok (.if_icmp .ne 7, 3) := by decide +kernel
theorem dX10_writtenBy_44 : decode cX10_writtenBy 44 = .ok (.iconst 1, 1) := by decide +kernel
theorem dX10_writtenBy_45 : decode cX10_writtenBy 45 = .ok (.goto 4, 3) := by decide +kernel
theorem dX10_writtenBy_48 : decode cX10_writtenBy 48 = .ok (.iconst 0, 1) := by decide +kernel
theorem dX10_writtenBy_49 : decode cX10_writtenBy 49 = .ok (.iadd, 1) := by decide +kernel
theorem dX10_writtenBy_50 : decode cX10_writtenBy 50 = .ok (.istore_n 3, 1) := by decide +kernel
theorem dX10_writtenBy_51 : decode cX10_writtenBy 51 = .ok (.iinc 4 1, 3) := by decide +kernel
theorem dX10_writtenBy_54 : decode cX10_writtenBy 54 = .ok (.goto (-49), 3) := by decide +kernel
theorem dX10_writtenBy_57 : decode cX10_writtenBy 57 = .ok (.iload_n 3, 1) := by decide +kernel
theorem dX10_writtenBy_58 : decode cX10_writtenBy 58 = .ok (.ireturn, 1) := by decide +kernel
theorem dX10_session_0 : decode cX10_session 0 = .ok (.aload_n 0, 1) := by decide +kernel
theorem dX10_session_1 : decode cX10_session 1 = .ok (.iload_n 1, 1) := by decide +kernel
theorem dX10_session_2 : decode cX10_session 2 = .ok (.invokevirtual 320, 3) := by decide +kernel
theorem dX10_session_5 : decode cX10_session 5 = .ok (.ifCond .ne 26, 3) := by decide +kernel
theorem dX10_session_8 : decode cX10_session 8 = .ok (.aload_n 0, 1) := by decide +kernel
theorem dX10_session_9 : decode cX10_session 9 = .ok (.iload_n 2, 1) := by decide +kernel
theorem dX10_session_10 : decode cX10_session 10 = .ok (.iconst 0, 1) := by decide +kernel
theorem dX10_session_11 : decode cX10_session 11 = .ok (.bipush 8, 2) := by decide +kernel
theorem dX10_session_13 : decode cX10_session 13 = .ok (.invokestatic 74, 3) := by decide +kernel
theorem dX10_session_16 : decode cX10_session 16 = .ok (.ifCond .ne 7, 3) := by decide +kernel
theorem dX10_session_19 : decode cX10_session 19 = .ok (.iconst 1, 1) := by decide +kernel
theorem dX10_session_20 : decode cX10_session 20 = .ok (.goto 4, 3) := by decide +kernel
theorem dX10_session_23 : decode cX10_session 23 = .ok (.iconst 0, 1) := by decide +kernel
theorem dX10_session_24 : decode cX10_session 24 = .ok (.iconst 2, 1) := by decide +kernel
theorem dX10_session_25 : decode cX10_session 25 = .ok (.invokevirtual 188, 3) := by decide +kernel
theorem dX10_session_28 : decode cX10_session 28 = .ok (.ifCond .eq 5, 3) := by decide +kernel
theorem dX10_session_31 : decode cX10_session 31 = .ok (.iconst 0, 1) := by decide +kernel
theorem dX10_session_32 : decode cX10_session 32 = .ok (.ireturn, 1) := by decide +kernel
theorem dX10_session_33 : decode cX10_session 33 = .ok (.aload_n 0, 1) := by decide +kernel
theorem dX10_session_34 : decode cX10_session 34 = .ok (.invokevirtual 242, 3) := by decide +kernel
theorem dX10_session_37 : decode cX10_session 37 = .ok (.iload_n 2, 1) := by decide +kernel
theorem dX10_session_38 : decode cX10_session 38 = .ok (.tableswitch 120 0 7 #[46, 53, 60, 67, 74, 83, 97, 106], 46) := by decide +kernel
theorem dX10_session_84 : decode cX10_session 84 = .ok (.aload_n 0, 1) := by decide +kernel
theorem dX10_session_85 : decode cX10_session 85 = .ok (.iload_n 1, 1) := by decide +kernel
theorem dX10_session_86 : decode cX10_session 86 = .ok (.iconst 0, 1) := by decide +kernel
theorem dX10_session_87 : decode cX10_session 87 = .ok (.invokevirtual 218, 3) := by decide +kernel
theorem dX10_session_90 : decode cX10_session 90 = .ok (.ireturn, 1) := by decide +kernel
theorem dX10_session_91 : decode cX10_session 91 = .ok (.aload_n 0, 1) := by decide +kernel
theorem dX10_session_92 : decode cX10_session 92 = .ok (.iload_n 1, 1) := by decide +kernel
theorem dX10_session_93 : decode cX10_session 93 = .ok (.iconst 1, 1) := by decide +kernel
theorem dX10_session_94 : decode cX10_session 94 = .ok (.invokevirtual 218, 3) := by decide +kernel
theorem dX10_session_97 : decode cX10_session 97 = .ok (.ireturn, 1) := by decide +kernel
theorem dX10_session_98 : decode cX10_session 98 = .ok (.aload_n 0, 1) := by decide +kernel
theorem dX10_session_99 : decode cX10_session 99 = .ok (.iload_n 1, 1) := by decide +kernel
theorem dX10_session_100 : decode cX10_session 100 = .ok (.iconst 1, 1) := by decide +kernel
theorem dX10_session_101 : decode cX10_session 101 = .ok (.invokevirtual 323, 3) := by decide +kernel
theorem dX10_session_104 : decode cX10_session 104 = .ok (.ireturn, 1) := by decide +kernel
theorem dX10_session_105 : decode cX10_session 105 = .ok (.aload_n 0, 1) := by decide +kernel
theorem dX10_session_106 : decode cX10_session 106 = .ok (.iload_n 1, 1) := by decide +kernel
theorem dX10_session_107 : decode cX10_session 107 = .ok (.iconst 2, 1) := by decide +kernel
theorem dX10_session_108 : decode cX10_session 108 = .ok (.invokevirtual 218, 3) := by decide +kernel
theorem dX10_session_111 : decode cX10_session 111 = .ok (.ireturn, 1) := by decide +kernel
theorem dX10_session_112 : decode cX10_session 112 = .ok (.aload_n 0, 1) := by decide +kernel
theorem dX10_session_113 : decode cX10_session 113 = .ok (.iload_n 1, 1) := by decide +kernel
theorem dX10_session_114 : decode cX10_session 114 = .ok (.iconst 3, 1) := by decide +kernel
theorem dX10_session_115 : decode cX10_session 115 = .ok (.invokevirtual 218, 3) := by decide +kernel
theorem dX10_session_118 : decode cX10_session 118 = .ok (.iconst 1, 1) := by decide +kernel
theorem dX10_session_119 : decode cX10_session 119 = .ok (.isub, 1) := by decide +kernel
theorem dX10_session_120 : decode cX10_session 120 = .ok (.ireturn, 1) := by decide +kernel
theorem dX10_session_121 : decode cX10_session 121 = .ok (.aload_n 0, 1) := by decide +kernel
theorem dX10_session_122 : decode cX10_session 122 = .ok (.iload_n 1, 1) := by decide +kernel
theorem dX10_session_123 : decode cX10_session 123 = .ok (.invokevirtual 230, 3) := by decide +kernel
theorem dX10_session_126 : decode cX10_session 126 = .ok (.ifCond .eq 7, 3) := by decide +kernel
theorem dX10_session_129 : decode cX10_session 129 = .ok (.iconst 1, 1) := by decide +kernel
theorem dX10_session_130 : decode cX10_session 130 = .ok (.goto 4, 3) := by decide +kernel
theorem dX10_session_133 : decode cX10_session 133 = .ok (.iconst 0, 1) := by decide +kernel
theorem dX10_session_134 : decode cX10_session 134 = .ok (.ireturn, 1) := by decide +kernel
theorem dX10_session_135 : decode cX10_session 135 = .ok (.aload_n 0, 1) := by decide +kernel
theorem dX10_session_136 : decode cX10_session 136 = .ok (.iload_n 1, 1) := by decide +kernel
theorem dX10_session_137 : decode cX10_session 137 = .ok (.iconst 4, 1) := by decide +kernel
theorem dX10_session_138 : decode cX10_session 138 = .ok (.invokevirtual 218, 3) := by decide +kernel
theorem dX10_session_141 : decode cX10_session 141 = .ok (.iconst 1, 1) := by decide +kernel
theorem dX10_session_142 : decode cX10_session 142 = .ok (.isub, 1) := by decide +kernel
theorem dX10_session_143 : decode cX10_session 143 = .ok (.ireturn, 1) := by decide +kernel
theorem dX10_session_144 : decode cX10_session 144 = .ok (.aload_n 0, 1) := by decide +kernel
theorem dX10_session_145 : decode cX10_session 145 = .ok (.iload_n 1, 1) := by decide +kernel
theorem dX10_session_146 : decode cX10_session 146 = .ok (.invokevirtual 327, 3) := by decide +kernel
theorem dX10_session_149 : decode cX10_session 149 = .ok (.ifCond .eq 7, 3) := by decide +kernel
theorem dX10_session_152 : decode cX10_session 152 = .ok (.iconst 1, 1) := by decide +kernel
theorem dX10_session_153 : decode cX10_session 153 = .ok (.goto 4, 3) := by decide +kernel
theorem dX10_session_156 : decode cX10_session 156 = .ok (.iconst 0, 1) := by decide +kernel
theorem dX10_session_157 : decode cX10_session 157 = .ok (.ireturn, 1) := by decide +kernel
theorem dX10_session_158 : decode cX10_session 158 = .ok (.aload_n 0, 1) := by decide +kernel
theorem dX10_session_159 : decode cX10_session 159 = .ok (.iload_n 1, 1) := by decide +kernel
theorem dX10_session_160 : decode cX10_session 160 = .ok (.iconst 0, 1) := by decide +kernel
theorem dX10_session_161 : decode cX10_session 161 = .ok (.invokevirtual 323, 3) := by decide +kernel
theorem dX10_session_164 : decode cX10_session 164 = .ok (.ireturn, 1) := by decide +kernel
theorem dX10_entry_0 : decode cX10_entry 0 = .ok (.aload_n 0, 1) := by decide +kernel
theorem dX10_entry_1 : decode cX10_entry 1 = .ok (.iload_n 1, 1) := by decide +kernel
theorem dX10_entry_2 : decode cX10_entry 2 = .ok (.invokevirtual 320, 3) := by decide +kernel
theorem dX10_entry_5 : decode cX10_entry 5 = .ok (.ifCond .ne 25, 3) := by decide +kernel
theorem dX10_entry_8 : decode cX10_entry 8 = .ok (.aload_n 0, 1) := by decide +kernel
theorem dX10_entry_9 : decode cX10_entry 9 = .ok (.iload_n 3, 1) := by decide +kernel
theorem dX10_entry_10 : decode cX10_entry 10 = .ok (.iconst 0, 1) := by decide +kernel
theorem dX10_entry_11 : decode cX10_entry 11 = .ok (.iconst 4, 1) := by decide +kernel
theorem dX10_entry_12 : decode cX10_entry 12 = .ok (.invokestatic 74, 3) := by decide +kernel
theorem dX10_entry_15 : decode cX10_entry 15 = .ok (.ifCond .ne 7, 3) := by decide +kernel
theorem dX10_entry_18 : decode cX10_entry 18 = .ok (.iconst 1, 1) := by decide +kernel
theorem dX10_entry_19 : decode cX10_entry 19 = .ok (.goto 4, 3) := by decide +kernel
theorem dX10_entry_22 : decode cX10_entry 22 = .ok (.iconst 0, 1) := by decide +kernel
theorem dX10_entry_23 : decode cX10_entry 23 = .ok (.iconst 2, 1) := by decide +kernel
theorem dX10_entry_24 : decode cX10_entry 24 = .ok (.invokevirtual 188, 3) := by decide +kernel
theorem dX10_entry_27 : decode cX10_entry 27 = .ok (.ifCond .eq 5, 3) := by decide +kernel
theorem dX10_entry_30 : decode cX10_entry 30 = .ok (.iconst 0, 1) := by decide +kernel
theorem dX10_entry_31 : decode cX10_entry 31 = .ok (.ireturn, 1) := by decide +kernel
theorem dX10_entry_32 : decode cX10_entry 32 = .ok (.iload_n 2, 1) := by decide +kernel
theorem dX10_entry_33 : decode cX10_entry 33 = .ok (.iconst 0, 1) := by decide +kernel
theorem dX10_entry_34 : decode cX10_entry 34 = .ok (.aload_n 0, 1) := by decide +kernel
theorem dX10_entry_35 : decode cX10_entry 35 = .ok (.iload_n 1, 1) := by decide +kernel
theorem dX10_entry_36 : decode cX10_entry 36 = .ok (.iconst 2, 1) := by decide +kernel
theorem dX10_entry_37 : decode cX10_entry 37 = .ok (.invokevirtual 218, 3) := by decide +kernel
theorem dX10_entry_40 : decode cX10_entry 40 = .ok (.iconst 1, 1) := by decide +kernel
theorem dX10_entry_41 : decode cX10_entry 41 = .ok (.isub, 1) := by decide +kernel
theorem dX10_entry_42 : decode cX10_entry 42 = .ok (.invokestatic 74, 3) := by decide +kernel
theorem dX10_entry_45 : decode cX10_entry 45 = .ok (.ifCond .ne 5, 3) := by decide +kernel
theorem dX10_entry_48 : decode cX10_entry 48 = .ok (.iconst (-1), 1) := by decide +kernel
theorem dX10_entry_49 : decode cX10_entry 49 = .ok (.ireturn, 1) := by decide +kernel
theorem dX10_entry_50 : decode cX10_entry 50 = .ok (.aload_n 0, 1) := by decide +kernel
theorem dX10_entry_51 : decode cX10_entry 51 = .ok (.iload_n 1, 1) := by decide +kernel
theorem dX10_entry_52 : decode cX10_entry 52 = .ok (.iconst 5, 1) := by decide +kernel
theorem dX10_entry_53 : decode cX10_entry 53 = .ok (.iconst 2, 1) := by decide +kernel
theorem dX10_entry_54 : decode cX10_entry 54 = .ok (.iload_n 2, 1) := by decide +kernel
theorem dX10_entry_55 : decode cX10_entry 55 = .ok (.imul, 1) := by decide +kernel
theorem dX10_entry_56 : decode cX10_entry 56 = .ok (.iadd, 1) := by decide +kernel
theorem dX10_entry_57 : decode cX10_entry 57 = .ok (.iconst 1, 1) := by decide +kernel
theorem dX10_entry_58 : decode cX10_entry 58 = .ok (.iadd, 1) := by decide +kernel
theorem dX10_entry_59 : decode cX10_entry 59 = .ok (.invokevirtual 218, 3) := by decide +kernel
theorem dX10_entry_62 : decode cX10_entry 62 = .ok (.istore 4, 2) := by decide +kernel
theorem dX10_entry_64 : decode cX10_entry 64 = .ok (.iload_n 3, 1) := by decide +kernel
theorem dX10_entry_65 : decode cX10_entry 65 = .ok (.iconst 2, 1) := by decide +kernel
theorem dX10_entry_66 : decode cX10_entry 66 = .ok (.if_icmp .ge 23, 3) := by decide +kernel
theorem dX10_entry_69 : decode cX10_entry 69 = .ok (.iload_n 3, 1) := by decide +kernel
theorem dX10_entry_70 : decode cX10_entry 70 = .ok (.ifCond .ne 16, 3) := by decide +kernel
theorem dX10_entry_73 : decode cX10_entry 73 = .ok (.aload_n 0, 1) := by decide +kernel
theorem dX10_entry_74 : decode cX10_entry 74 = .ok (.iload_n 1, 1) := by decide +kernel
theorem dX10_entry_75 : decode cX10_entry 75 = .ok (.iconst 5, 1) := by decide +kernel
theorem dX10_entry_76 : decode cX10_entry 76 = .ok (.iconst 2, 1) := by decide +kernel
theorem dX10_entry_77 : decode cX10_entry 77 = .ok (.iload_n 2, 1) := by decide +kernel
theorem dX10_entry_78 : decode cX10_entry 78 = .ok (.imul, 1) := by decide +kernel
theorem dX10_entry_79 : decode cX10_entry 79 = .ok (.iadd, 1) := by decide +kernel
theorem dX10_entry_80 : decode cX10_entry 80 = .ok (.invokevirtual 218, 3) := by decide +kernel
theorem dX10_entry_83 : decode cX10_entry 83 = .ok (.goto 5, 3) := by decide +kernel
theorem dX10_entry_86 : decode cX10_entry 86 = .ok (.iload 4, 2) := by decide +kernel
theorem dX10_entry_88 : decode cX10_entry 88 = .ok (.ireturn, 1) := by decide +kernel
theorem dX10_entry_89 : decode cX10_entry 89 = .ok (.iload 4, 2) := by decide +kernel
theorem dX10_entry_91 : decode cX10_entry 91 = .ok (.iconst (-1), 1) := by decide +kernel
theorem dX10_entry_92 : decode cX10_entry 92 = .ok (.if_icmp .ne 16, 3) := by decide +kernel
theorem dX10_entry_95 : decode cX10_entry 95 = .ok (.iload_n 3, 1) := by decide +kernel
theorem dX10_entry_96 : decode cX10_entry 96 = .ok (.iconst 3, 1) := by decide +kernel
theorem dX10_entry_97 : decode cX10_entry 97 = .ok (.if_icmp .ne 7, 3) := by decide +kernel
theorem dX10_entry_100 : decode cX10_entry 100 = .ok (.iconst 0, 1) := by decide +kernel
theorem dX10_entry_101 : decode cX10_entry 101 = .ok (.goto 16, 3) := by decide +kernel
theorem dX10_entry_104 : decode cX10_entry 104 = .ok (.iconst (-1), 1) := by decide +kernel
theorem dX10_entry_105 : decode cX10_entry 105 = .ok (.goto 12, 3) := by decide +kernel
theorem dX10_entry_108 : decode cX10_entry 108 = .ok (.aload_n 0, 1) := by decide +kernel
theorem dX10_entry_109 : decode cX10_entry 109 = .ok (.iload 4, 2) := by decide +kernel
theorem dX10_entry_111 : decode cX10_entry 111 = .ok (.iload_n 3, 1) := by decide +kernel
theorem dX10_entry_112 : decode cX10_entry 112 = .ok (.iconst 1, 1) := by decide +kernel
theorem dX10_entry_113 : decode cX10_entry 113 = .ok (.isub, 1) := by decide +kernel
theorem dX10_entry_114 : decode cX10_entry 114 = .ok (.invokevirtual 249, 3) := by decide +kernel
theorem dX10_entry_117 : decode cX10_entry 117 = .ok (.ireturn, 1) := by decide +kernel
theorem dX10_versionsOf_0 : decode cX10_versionsOf 0 = .ok (.iconst 0, 1) := by decide +kernel
theorem dX10_versionsOf_1 : decode cX10_versionsOf 1 = .ok (.istore_n 2, 1) := by decide +kernel
theorem dX10_versionsOf_2 : decode cX10_versionsOf 2 = .ok (.iconst 0, 1) := by decide +kernel
theorem dX10_versionsOf_3 : decode cX10_versionsOf 3 = .ok (.istore_n 3, 1) := by decide +kernel
theorem dX10_versionsOf_4 : decode cX10_versionsOf 4 = .ok (.iload_n 3, 1) := by decide +kernel
theorem dX10_versionsOf_5 : decode cX10_versionsOf 5 = .ok (.aload_n 0, 1) := by decide +kernel
theorem dX10_versionsOf_6 : decode cX10_versionsOf 6 = .ok (.getfield 7, 3) := by decide +kernel
theorem dX10_versionsOf_9 : decode cX10_versionsOf 9 = .ok (.bipush 6, 2) := by decide +kernel
theorem dX10_versionsOf_11 : decode cX10_versionsOf 11 = .ok (.iaload, 1) := by decide +kernel
theorem dX10_versionsOf_12 : decode cX10_versionsOf 12 = .ok (.if_icmp .ge 27, 3) := by decide +kernel
theorem dX10_versionsOf_15 : decode cX10_versionsOf 15 = .ok (.iload_n 2, 1) := by decide +kernel
theorem dX10_versionsOf_16 : decode cX10_versionsOf 16 = .ok (.aload_n 0, 1) := by decide +kernel
theorem dX10_versionsOf_17 : decode cX10_versionsOf 17 = .ok (.iload_n 3, 1) := by decide +kernel
theorem dX10_versionsOf_18 : decode cX10_versionsOf 18 = .ok (.iconst 0, 1) := by decide +kernel
theorem dX10_versionsOf_19 : decode cX10_versionsOf 19 = .ok (.invokevirtual 249, 3) := by decide +kernel
theorem dX10_versionsOf_22 : decode cX10_versionsOf 22 = .ok (.iload_n 1, 1) := by decide +kernel
theorem dX10_versionsOf_23 : decode cX10_versionsOf 23 = .ok (.if_icmp .ne 7, 3) := by decide +kernel
theorem dX10_versionsOf_26 : decode cX10_versionsOf 26 = .ok (.iconst 1, 1) := by decide +kernel
theorem dX10_versionsOf_27 : decode cX10_versionsOf 27 = .ok (.goto 4, 3) := by decide +kernel
theorem dX10_versionsOf_30 : decode cX10_versionsOf 30 = .ok (.iconst 0, 1) := by decide +kernel
theorem dX10_versionsOf_31 : decode cX10_versionsOf 31 = .ok (.iadd, 1) := by decide +kernel
theorem dX10_versionsOf_32 : decode cX10_versionsOf 32 = .ok (.istore_n 2, 1) := by decide +kernel
theorem dX10_versionsOf_33 : decode cX10_versionsOf 33 = .ok (.iinc 3 1, 3) := by decide +kernel
theorem dX10_versionsOf_36 : decode cX10_versionsOf 36 = .ok (.goto (-32), 3) := by decide +kernel
theorem dX10_versionsOf_39 : decode cX10_versionsOf 39 = .ok (.iload_n 2, 1) := by decide +kernel
theorem dX10_versionsOf_40 : decode cX10_versionsOf 40 = .ok (.ireturn, 1) := by decide +kernel
theorem dX10_file_0 : decode cX10_file 0 = .ok (.aload_n 0, 1) := by decide +kernel
theorem dX10_file_1 : decode cX10_file 1 = .ok (.iload_n 1, 1) := by decide +kernel
theorem dX10_file_2 : decode cX10_file 2 = .ok (.invokevirtual 330, 3) := by decide +kernel
theorem dX10_file_5 : decode cX10_file 5 = .ok (.ifCond .ne 26, 3) := by decide +kernel
theorem dX10_file_8 : decode cX10_file 8 = .ok (.aload_n 0, 1) := by decide +kernel
theorem dX10_file_9 : decode cX10_file 9 = .ok (.iload_n 2, 1) := by decide +kernel
theorem dX10_file_10 : decode cX10_file 10 = .ok (.iconst 0, 1) := by decide +kernel
theorem dX10_file_11 : decode cX10_file 11 = .ok (.bipush 6, 2) := by decide +kernel
theorem dX10_file_13 : decode cX10_file 13 = .ok (.invokestatic 74, 3) := by decide +kernel
theorem dX10_file_16 : decode cX10_file 16 = .ok (.ifCond .ne 7, 3) := by decide +kernel
theorem dX10_file_19 : decode cX10_file 19 = .ok (.iconst 1, 1) := by decide +kernel
theorem dX10_file_20 : decode cX10_file 20 = .ok (.goto 4, 3) := by decide +kernel
theorem dX10_file_23 : decode cX10_file 23 = .ok (.iconst 0, 1) := by decide +kernel
theorem dX10_file_24 : decode cX10_file 24 = .ok (.iconst 2, 1) := by decide +kernel
theorem dX10_file_25 : decode cX10_file 25 = .ok (.invokevirtual 188, 3) := by decide +kernel
theorem dX10_file_28 : decode cX10_file 28 = .ok (.ifCond .eq 5, 3) := by decide +kernel
theorem dX10_file_31 : decode cX10_file 31 = .ok (.iconst 0, 1) := by decide +kernel
theorem dX10_file_32 : decode cX10_file 32 = .ok (.ireturn, 1) := by decide +kernel
theorem dX10_file_33 : decode cX10_file 33 = .ok (.aload_n 0, 1) := by decide +kernel
theorem dX10_file_34 : decode cX10_file 34 = .ok (.iload_n 1, 1) := by decide +kernel
theorem dX10_file_35 : decode cX10_file 35 = .ok (.invokevirtual 267, 3) := by decide +kernel
theorem dX10_file_38 : decode cX10_file 38 = .ok (.aload_n 0, 1) := by decide +kernel
theorem dX10_file_39 : decode cX10_file 39 = .ok (.getfield 236, 3) := by decide +kernel
theorem dX10_file_42 : decode cX10_file 42 = .ok (.iconst (-1), 1) := by decide +kernel
theorem dX10_file_43 : decode cX10_file 43 = .ok (.if_icmp .eq 7, 3) := by decide +kernel
theorem dX10_file_46 : decode cX10_file 46 = .ok (.iconst 1, 1) := by decide +kernel
theorem dX10_file_47 : decode cX10_file 47 = .ok (.goto 4, 3) := by decide +kernel
theorem dX10_file_50 : decode cX10_file 50 = .ok (.iconst 0, 1) := by decide +kernel
theorem dX10_file_51 : decode cX10_file 51 = .ok (.istore_n 3, 1) := by decide +kernel
theorem dX10_file_52 : decode cX10_file 52 = .ok (.iload_n 2, 1) := by decide +kernel
theorem dX10_file_53 : decode cX10_file 53 = .ok (.tableswitch 116 0 5 #[39, 49, 70, 75, 93, 111], 39) := by decide +kernel
theorem dX10_file_92 : decode cX10_file 92 = .ok (.iload_n 3, 1) := by decide +kernel
theorem dX10_file_93 : decode cX10_file 93 = .ok (.ifCond .eq 7, 3) := by decide +kernel
theorem dX10_file_96 : decode cX10_file 96 = .ok (.iconst 1, 1) := by decide +kernel
theorem dX10_file_97 : decode cX10_file 97 = .ok (.goto 4, 3) := by decide +kernel
theorem dX10_file_100 : decode cX10_file 100 = .ok (.iconst 0, 1) := by decide +kernel
theorem dX10_file_101 : decode cX10_file 101 = .ok (.ireturn, 1) := by decide +kernel
theorem dX10_file_102 : decode cX10_file 102 = .ok (.iload_n 3, 1) := by decide +kernel
theorem dX10_file_103 : decode cX10_file 103 = .ok (.ifCond .eq 18, 3) := by decide +kernel
theorem dX10_file_106 : decode cX10_file 106 = .ok (.aload_n 0, 1) := by decide +kernel
theorem dX10_file_107 : decode cX10_file 107 = .ok (.aload_n 0, 1) := by decide +kernel
theorem dX10_file_108 : decode cX10_file 108 = .ok (.getfield 236, 3) := by decide +kernel
theorem dX10_file_111 : decode cX10_file 111 = .ok (.invokevirtual 252, 3) := by decide +kernel
theorem dX10_file_114 : decode cX10_file 114 = .ok (.ifCond .eq 7, 3) := by decide +kernel
theorem dX10_file_117 : decode cX10_file 117 = .ok (.iconst 1, 1) := by decide +kernel
theorem dX10_file_118 : decode cX10_file 118 = .ok (.goto 4, 3) := by decide +kernel
theorem dX10_file_121 : decode cX10_file 121 = .ok (.iconst 0, 1) := by decide +kernel
theorem dX10_file_122 : decode cX10_file 122 = .ok (.ireturn, 1) := by decide +kernel
theorem dX10_file_123 : decode cX10_file 123 = .ok (.aload_n 0, 1) := by decide +kernel
theorem dX10_file_124 : decode cX10_file 124 = .ok (.getfield 236, 3) := by decide +kernel
theorem dX10_file_127 : decode cX10_file 127 = .ok (.ireturn, 1) := by decide +kernel
theorem dX10_file_128 : decode cX10_file 128 = .ok (.iload_n 3, 1) := by decide +kernel
theorem dX10_file_129 : decode cX10_file 129 = .ok (.ifCond .eq 15, 3) := by decide +kernel
theorem dX10_file_132 : decode cX10_file 132 = .ok (.aload_n 0, 1) := by decide +kernel
theorem dX10_file_133 : decode cX10_file 133 = .ok (.aload_n 0, 1) := by decide +kernel
theorem dX10_file_134 : decode cX10_file 134 = .ok (.getfield 236, 3) := by decide +kernel
theorem dX10_file_137 : decode cX10_file 137 = .ok (.iconst 2, 1) := by decide +kernel
theorem dX10_file_138 : decode cX10_file 138 = .ok (.invokevirtual 249, 3) := by decide +kernel
theorem dX10_file_141 : decode cX10_file 141 = .ok (.goto 4, 3) := by decide +kernel
theorem dX10_file_144 : decode cX10_file 144 = .ok (.iconst 0, 1) := by decide +kernel
theorem dX10_file_145 : decode cX10_file 145 = .ok (.ireturn, 1) := by decide +kernel
theorem dX10_file_146 : decode cX10_file 146 = .ok (.iload_n 3, 1) := by decide +kernel
theorem dX10_file_147 : decode cX10_file 147 = .ok (.ifCond .eq 15, 3) := by decide +kernel
theorem dX10_file_150 : decode cX10_file 150 = .ok (.aload_n 0, 1) := by decide +kernel
theorem dX10_file_151 : decode cX10_file 151 = .ok (.aload_n 0, 1) := by decide +kernel
theorem dX10_file_152 : decode cX10_file 152 = .ok (.getfield 236, 3) := by decide +kernel
theorem dX10_file_155 : decode cX10_file 155 = .ok (.iconst 3, 1) := by decide +kernel
theorem dX10_file_156 : decode cX10_file 156 = .ok (.invokevirtual 249, 3) := by decide +kernel
theorem dX10_file_159 : decode cX10_file 159 = .ok (.goto 4, 3) := by decide +kernel
theorem dX10_file_162 : decode cX10_file 162 = .ok (.iconst (-1), 1) := by decide +kernel
theorem dX10_file_163 : decode cX10_file 163 = .ok (.ireturn, 1) := by decide +kernel
theorem dX10_file_164 : decode cX10_file 164 = .ok (.aload_n 0, 1) := by decide +kernel
theorem dX10_file_165 : decode cX10_file 165 = .ok (.getfield 233, 3) := by decide +kernel
theorem dX10_file_168 : decode cX10_file 168 = .ok (.ireturn, 1) := by decide +kernel
theorem dX10_file_169 : decode cX10_file 169 = .ok (.aload_n 0, 1) := by decide +kernel
theorem dX10_file_170 : decode cX10_file 170 = .ok (.iload_n 1, 1) := by decide +kernel
theorem dX10_file_171 : decode cX10_file 171 = .ok (.invokevirtual 333, 3) := by decide +kernel
theorem dX10_file_174 : decode cX10_file 174 = .ok (.ireturn, 1) := by decide +kernel
theorem dX10_where_0 : decode cX10_where 0 = .ok (.aload_n 0, 1) := by decide +kernel
theorem dX10_where_1 : decode cX10_where 1 = .ok (.iload_n 1, 1) := by decide +kernel
theorem dX10_where_2 : decode cX10_where 2 = .ok (.invokevirtual 330, 3) := by decide +kernel
theorem dX10_where_5 : decode cX10_where 5 = .ok (.ifCond .eq 5, 3) := by decide +kernel
theorem dX10_where_8 : decode cX10_where 8 = .ok (.iconst 0, 1) := by decide +kernel
theorem dX10_where_9 : decode cX10_where 9 = .ok (.ireturn, 1) := by decide +kernel
theorem dX10_where_10 : decode cX10_where 10 = .ok (.aload_n 0, 1) := by decide +kernel
theorem dX10_where_11 : decode cX10_where 11 = .ok (.iload_n 1, 1) := by decide +kernel
theorem dX10_where_12 : decode cX10_where 12 = .ok (.invokevirtual 267, 3) := by decide +kernel
theorem dX10_where_15 : decode cX10_where 15 = .ok (.aload_n 0, 1) := by decide +kernel
theorem dX10_where_16 : decode cX10_where 16 = .ok (.getfield 236, 3) := by decide +kernel
theorem dX10_where_19 : decode cX10_where 19 = .ok (.iconst (-1), 1) := by decide +kernel
theorem dX10_where_20 : decode cX10_where 20 = .ok (.if_icmp .eq 26, 3) := by decide +kernel
theorem dX10_where_23 : decode cX10_where 23 = .ok (.iload_n 2, 1) := by decide +kernel
theorem dX10_where_24 : decode cX10_where 24 = .ok (.iconst 0, 1) := by decide +kernel
theorem dX10_where_25 : decode cX10_where 25 = .ok (.aload_n 0, 1) := by decide +kernel
theorem dX10_where_26 : decode cX10_where 26 = .ok (.aload_n 0, 1) := by decide +kernel
theorem dX10_where_27 : decode cX10_where 27 = .ok (.getfield 236, 3) := by decide +kernel
theorem dX10_where_30 : decode cX10_where 30 = .ok (.iconst 2, 1) := by decide +kernel
theorem dX10_where_31 : decode cX10_where 31 = .ok (.invokevirtual 249, 3) := by decide +kernel
theorem dX10_where_34 : decode cX10_where 34 = .ok (.iconst 1, 1) := by decide +kernel
theorem dX10_where_35 : decode cX10_where 35 = .ok (.isub, 1) := by decide +kernel
theorem dX10_where_36 : decode cX10_where 36 = .ok (.invokestatic 74, 3) := by decide +kernel
theorem dX10_where_39 : decode cX10_where 39 = .ok (.ifCond .eq 7, 3) := by decide +kernel
theorem dX10_where_42 : decode cX10_where 42 = .ok (.iconst 1, 1) := by decide +kernel
theorem dX10_where_43 : decode cX10_where 43 = .ok (.goto 4, 3) := by decide +kernel
theorem dX10_where_46 : decode cX10_where 46 = .ok (.iconst 0, 1) := by decide +kernel
theorem dX10_where_47 : decode cX10_where 47 = .ok (.istore_n 3, 1) := by decide +kernel
theorem dX10_where_48 : decode cX10_where 48 = .ok (.iload_n 3, 1) := by decide +kernel
theorem dX10_where_49 : decode cX10_where 49 = .ok (.ifCond .eq 21, 3) := by decide +kernel
theorem dX10_where_52 : decode cX10_where 52 = .ok (.aload_n 0, 1) := by decide +kernel
theorem dX10_where_53 : decode cX10_where 53 = .ok (.aload_n 0, 1) := by decide +kernel
theorem dX10_where_54 : decode cX10_where 54 = .ok (.aload_n 0, 1) := by decide +kernel
theorem dX10_where_55 : decode cX10_where 55 = .ok (.getfield 236, 3) := by decide +kernel
theorem dX10_where_58 : decode cX10_where 58 = .ok (.iconst 1, 1) := by decide +kernel
theorem dX10_where_59 : decode cX10_where 59 = .ok (.invokevirtual 249, 3) := by decide +kernel
theorem dX10_where_62 : decode cX10_where 62 = .ok (.iload_n 2, 1) := by decide +kernel
theorem dX10_where_63 : decode cX10_where 63 = .ok (.iadd, 1) := by decide +kernel
theorem dX10_where_64 : decode cX10_where 64 = .ok (.invokevirtual 208, 3) := by decide +kernel
theorem dX10_where_67 : decode cX10_where 67 = .ok (.goto 4, 3) := by decide +kernel
theorem dX10_where_70 : decode cX10_where 70 = .ok (.iconst (-1), 1) := by decide +kernel
theorem dX10_where_71 : decode cX10_where 71 = .ok (.ireturn, 1) := by decide +kernel
theorem dX10_defect_0 : decode cX10_defect 0 = .ok (.aload_n 0, 1) := by decide +kernel
theorem dX10_defect_1 : decode cX10_defect 1 = .ok (.iconst 0, 1) := by decide +kernel
theorem dX10_defect_2 : decode cX10_defect 2 = .ok (.putfield 50, 3) := by decide +kernel
theorem dX10_defect_5 : decode cX10_defect 5 = .ok (.iload_n 1, 1) := by decide +kernel
theorem dX10_defect_6 : decode cX10_defect 6 = .ok (.istore_n 3, 1) := by decide +kernel
theorem dX10_defect_7 : decode cX10_defect 7 = .ok (.iconst 0, 1) := by decide +kernel
theorem dX10_defect_8 : decode cX10_defect 8 = .ok (.istore 4, 2) := by decide +kernel
theorem dX10_defect_10 : decode cX10_defect 10 = .ok (.iload 4, 2) := by decide +kernel
theorem dX10_defect_12 : decode cX10_defect 12 = .ok (.aload_n 0, 1) := by decide +kernel
theorem dX10_defect_13 : decode cX10_defect 13 = .ok (.invokevirtual 205, 3) := by decide +kernel
theorem dX10_defect_16 : decode cX10_defect 16 = .ok (.if_icmp .ge 75, 3) := by decide +kernel
theorem dX10_defect_19 : decode cX10_defect 19 = .ok (.iload_n 3, 1) := by decide +kernel
theorem dX10_defect_20 : decode cX10_defect 20 = .ok (.ifCond .lt 71, 3) := by decide +kernel
theorem dX10_defect_23 : decode cX10_defect 23 = .ok (.aload_n 0, 1) := by decide +kernel
theorem dX10_defect_24 : decode cX10_defect 24 = .ok (.getfield 7, 3) := by decide +kernel
theorem dX10_defect_27 : decode cX10_defect 27 = .ok (.sipush 679, 3) := by decide +kernel
theorem dX10_defect_30 : decode cX10_defect 30 = .ok (.iload 4, 2) := by decide +kernel
theorem dX10_defect_32 : decode cX10_defect 32 = .ok (.iadd, 1) := by decide +kernel
theorem dX10_defect_33 : decode cX10_defect 33 = .ok (.iaload, 1) := by decide +kernel
theorem dX10_defect_34 : decode cX10_defect 34 = .ok (.ifCond .eq 51, 3) := by decide +kernel
theorem dX10_defect_37 : decode cX10_defect 37 = .ok (.aload_n 0, 1) := by decide +kernel
theorem dX10_defect_38 : decode cX10_defect 38 = .ok (.aload_n 0, 1) := by decide +kernel
theorem dX10_defect_39 : decode cX10_defect 39 = .ok (.getfield 7, 3) := by decide +kernel
theorem dX10_defect_42 : decode cX10_defect 42 = .ok (.sipush 295, 3) := by decide +kernel
theorem dX10_defect_45 : decode cX10_defect 45 = .ok (.iload 4, 2) := by decide +kernel
theorem dX10_defect_47 : decode cX10_defect 47 = .ok (.iadd, 1) := by decide +kernel
theorem dX10_defect_48 : decode cX10_defect 48 = .ok (.iaload, 1) := by decide +kernel
theorem dX10_defect_49 : decode cX10_defect 49 = .ok (.iconst 1, 1) := by decide +kernel
theorem dX10_defect_50 : decode cX10_defect 50 = .ok (.isub, 1) := by decide +kernel
theorem dX10_defect_51 : decode cX10_defect 51 = .ok (.iconst 0, 1) := by decide +kernel
theorem dX10_defect_52 : decode cX10_defect 52 = .ok (.invokevirtual 218, 3) := by decide +kernel
theorem dX10_defect_55 : decode cX10_defect 55 = .ok (.iconst 2, 1) := by decide +kernel
theorem dX10_defect_56 : decode cX10_defect 56 = .ok (.if_icmp .ne 6, 3) := by decide +kernel
theorem dX10_defect_59 : decode cX10_defect 59 = .ok (.goto 26, 3) := by decide +kernel
theorem dX10_defect_62 : decode cX10_defect 62 = .ok (.iload_n 3, 1) := by decide +kernel
theorem dX10_defect_63 : decode cX10_defect 63 = .ok (.ifCond .ne 19, 3) := by decide +kernel
theorem dX10_defect_66 : decode cX10_defect 66 = .ok (.iload_n 2, 1) := by decide +kernel
theorem dX10_defect_67 : decode cX10_defect 67 = .ok (.ifCond .eq 12, 3) := by decide +kernel
theorem dX10_defect_70 : decode cX10_defect 70 = .ok (.aload_n 0, 1) := by decide +kernel
theorem dX10_defect_71 : decode cX10_defect 71 = .ok (.iload 4, 2) := by decide +kernel
theorem dX10_defect_73 : decode cX10_defect 73 = .ok (.invokevirtual 208, 3) := by decide +kernel
theorem dX10_defect_76 : decode cX10_defect 76 = .ok (.goto 5, 3) := by decide +kernel
theorem dX10_defect_79 : decode cX10_defect 79 = .ok (.iload 4, 2) := by decide +kernel
theorem dX10_defect_81 : decode cX10_defect 81 = .ok (.ireturn, 1) := by decide +kernel
theorem dX10_defect_82 : decode cX10_defect 82 = .ok (.iinc 3 (-1), 3) := by decide +kernel
theorem dX10_defect_85 : decode cX10_defect 85 = .ok (.iinc 4 1, 3) := by decide +kernel
theorem dX10_defect_88 : decode cX10_defect 88 = .ok (.goto (-78), 3) := by decide +kernel
theorem dX10_defect_91 : decode cX10_defect 91 = .ok (.iconst (-1), 1) := by decide +kernel
theorem dX10_defect_92 : decode cX10_defect 92 = .ok (.ireturn, 1) := by decide +kernel
theorem dX10_whyNotWrite_0 : decode cX10_whyNotWrite 0 = .ok (.aload_n 0, 1) := by decide +kernel
theorem dX10_whyNotWrite_1 : decode cX10_whyNotWrite 1 = .ok (.iload_n 1, 1) := by decide +kernel
theorem dX10_whyNotWrite_2 : decode cX10_whyNotWrite 2 = .ok (.invokevirtual 330, 3) := by decide +kernel
theorem dX10_whyNotWrite_5 : decode cX10_whyNotWrite 5 = .ok (.ifCond .ne 26, 3) := by decide +kernel
theorem dX10_whyNotWrite_8 : decode cX10_whyNotWrite 8 = .ok (.aload_n 0, 1) := by decide +kernel
theorem dX10_whyNotWrite_9 : decode cX10_whyNotWrite 9 = .ok (.iload_n 2, 1) := by decide +kernel
theorem dX10_whyNotWrite_10 : decode cX10_whyNotWrite 10 = .ok (.iconst 1, 1) := by decide +kernel
theorem dX10_whyNotWrite_11 : decode cX10_whyNotWrite 11 = .ok (.bipush 8, 2) := by decide +kernel
theorem dX10_whyNotWrite_13 : decode cX10_whyNotWrite 13 = .ok (.invokestatic 74, 3) := by decide +kernel
theorem dX10_whyNotWrite_16 : decode cX10_whyNotWrite 16 = .ok (.ifCond .ne 7, 3) := by decide +kernel
theorem dX10_whyNotWrite_19 : decode cX10_whyNotWrite 19 = .ok (.iconst 1, 1) := by decide +kernel
theorem dX10_whyNotWrite_20 : decode cX10_whyNotWrite 20 = .ok (.goto 4, 3) := by decide +kernel
theorem dX10_whyNotWrite_23 : decode cX10_whyNotWrite 23 = .ok (.iconst 0, 1) := by decide +kernel
theorem dX10_whyNotWrite_24 : decode cX10_whyNotWrite 24 = .ok (.iconst 2, 1) := by decide +kernel
theorem dX10_whyNotWrite_25 : decode cX10_whyNotWrite 25 = .ok (.invokevirtual 188, 3) := by decide +kernel
theorem dX10_whyNotWrite_28 : decode cX10_whyNotWrite 28 = .ok (.ifCond .eq 5, 3) := by decide +kernel
theorem dX10_whyNotWrite_31 : decode cX10_whyNotWrite 31 = .ok (.iconst 0, 1) := by decide +kernel
theorem dX10_whyNotWrite_32 : decode cX10_whyNotWrite 32 = .ok (.ireturn, 1) := by decide +kernel
theorem dX10_whyNotWrite_33 : decode cX10_whyNotWrite 33 = .ok (.aload_n 0, 1) := by decide +kernel
theorem dX10_whyNotWrite_34 : decode cX10_whyNotWrite 34 = .ok (.iload_n 1, 1) := by decide +kernel
theorem dX10_whyNotWrite_35 : decode cX10_whyNotWrite 35 = .ok (.iload_n 2, 1) := by decide +kernel
theorem dX10_whyNotWrite_36 : decode cX10_whyNotWrite 36 = .ok (.invokevirtual 134, 3) := by decide +kernel
theorem dX10_whyNotWrite_39 : decode cX10_whyNotWrite 39 = .ok (.ireturn, 1) := by decide +kernel
theorem dX10_whyNot_0 : decode cX10_whyNot 0 = .ok (.aload_n 0, 1) := by decide +kernel
theorem dX10_whyNot_1 : decode cX10_whyNot 1 = .ok (.iconst 0, 1) := by decide +kernel
theorem dX10_whyNot_2 : decode cX10_whyNot 2 = .ok (.putfield 50, 3) := by decide +kernel
theorem dX10_whyNot_5 : decode cX10_whyNot 5 = .ok (.aload_n 0, 1) := by decide +kernel
theorem dX10_whyNot_6 : decode cX10_whyNot 6 = .ok (.iload_n 1, 1) := by decide +kernel
theorem dX10_whyNot_7 : decode cX10_whyNot 7 = .ok (.iconst 0, 1) := by decide +kernel
theorem dX10_whyNot_8 : decode cX10_whyNot 8 = .ok (.iconst 2, 1) := by decide +kernel
theorem dX10_whyNot_9 : decode cX10_whyNot 9 = .ok (.invokestatic 74, 3) := by decide +kernel
theorem dX10_whyNot_12 : decode cX10_whyNot 12 = .ok (.ifCond .ne 7, 3) := by decide +kernel
theorem dX10_whyNot_15 : decode cX10_whyNot 15 = .ok (.iconst 1, 1) := by decide +kernel
theorem dX10_whyNot_16 : decode cX10_whyNot 16 = .ok (.goto 4, 3) := by decide +kernel
theorem dX10_whyNot_19 : decode cX10_whyNot 19 = .ok (.iconst 0, 1) := by decide +kernel
theorem dX10_whyNot_20 : decode cX10_whyNot 20 = .ok (.iconst 1, 1) := by decide +kernel
theorem dX10_whyNot_21 : decode cX10_whyNot 21 = .ok (.invokevirtual 188, 3) := by decide +kernel
theorem dX10_whyNot_24 : decode cX10_whyNot 24 = .ok (.ifCond .eq 5, 3) := by decide +kernel
theorem dX10_whyNot_27 : decode cX10_whyNot 27 = .ok (.iconst 0, 1) := by decide +kernel
theorem dX10_whyNot_28 : decode cX10_whyNot 28 = .ok (.ireturn, 1) := by decide +kernel
theorem dX10_whyNot_29 : decode cX10_whyNot 29 = .ok (.iload_n 1, 1) := by decide +kernel
theorem dX10_whyNot_30 : decode cX10_whyNot 30 = .ok (.ifCond .ne 10, 3) := by decide +kernel
theorem dX10_whyNot_33 : decode cX10_whyNot 33 = .ok (.aload_n 0, 1) := by decide +kernel
theorem dX10_whyNot_34 : decode cX10_whyNot 34 = .ok (.invokevirtual 148, 3) := by decide +kernel
theorem dX10_whyNot_37 : decode cX10_whyNot 37 = .ok (.goto 27, 3) := by decide +kernel
theorem dX10_whyNot_40 : decode cX10_whyNot 40 = .ok (.iload_n 1, 1) := by decide +kernel
theorem dX10_whyNot_41 : decode cX10_whyNot 41 = .ok (.iconst 1, 1) := by decide +kernel
theorem dX10_whyNot_42 : decode cX10_whyNot 42 = .ok (.if_icmp .ne 18, 3) := by decide +kernel
theorem dX10_whyNot_45 : decode cX10_whyNot 45 = .ok (.aload_n 0, 1) := by decide +kernel
theorem dX10_whyNot_46 : decode cX10_whyNot 46 = .ok (.invokevirtual 255, 3) := by decide +kernel
theorem dX10_whyNot_49 : decode cX10_whyNot 49 = .ok (.ifCond .eq 7, 3) := by decide +kernel
theorem dX10_whyNot_52 : decode cX10_whyNot 52 = .ok (.iconst 0, 1) := by decide +kernel
theorem dX10_whyNot_53 : decode cX10_whyNot 53 = .ok (.goto 11, 3) := by decide +kernel
theorem dX10_whyNot_56 : decode cX10_whyNot 56 = .ok (.iconst 1, 1) := by decide +kernel
theorem dX10_whyNot_57 : decode cX10_whyNot 57 = .ok (.goto 7, 3) := by decide +kernel
theorem dX10_whyNot_60 : decode cX10_whyNot 60 = .ok (.aload_n 0, 1) := by decide +kernel
theorem dX10_whyNot_61 : decode cX10_whyNot 61 = .ok (.invokevirtual 336, 3) := by decide +kernel
theorem dX10_whyNot_64 : decode cX10_whyNot 64 = .ok (.ireturn, 1) := by decide +kernel
theorem dX10_couldRecover_0 : decode cX10_couldRecover 0 = .ok (.aload_n 0, 1) := by decide +kernel
theorem dX10_couldRecover_1 : decode cX10_couldRecover 1 = .ok (.iconst 0, 1) := by decide +kernel
theorem dX10_couldRecover_2 : decode cX10_couldRecover 2 = .ok (.putfield 50, 3) := by decide +kernel
theorem dX10_couldRecover_5 : decode cX10_couldRecover 5 = .ok (.aload_n 0, 1) := by decide +kernel
theorem dX10_couldRecover_6 : decode cX10_couldRecover 6 = .ok (.invokevirtual 293, 3) := by decide +kernel
theorem dX10_couldRecover_9 : decode cX10_couldRecover 9 = .ok (.aload_n 0, 1) := by decide +kernel
theorem dX10_couldRecover_10 : decode cX10_couldRecover 10 = .ok (.getfield 287, 3) := by decide +kernel
theorem dX10_couldRecover_13 : decode cX10_couldRecover 13 = .ok (.ireturn, 1) := by decide +kernel
theorem dX10_riskOf_0 : decode cX10_riskOf 0 = .ok (.aload_n 0, 1) := by decide +kernel
theorem dX10_riskOf_1 : decode cX10_riskOf 1 = .ok (.getfield 7, 3) := by decide +kernel
theorem dX10_riskOf_4 : decode cX10_riskOf 4 = .ok (.bipush 7, 2) := by decide +kernel
theorem dX10_riskOf_6 : decode cX10_riskOf 6 = .ok (.iload_n 1, 1) := by decide +kernel
theorem dX10_riskOf_7 : decode cX10_riskOf 7 = .ok (.iadd, 1) := by decide +kernel
theorem dX10_riskOf_8 : decode cX10_riskOf 8 = .ok (.iaload, 1) := by decide +kernel
theorem dX10_riskOf_9 : decode cX10_riskOf 9 = .ok (.ifCond .eq 17, 3) := by decide +kernel
theorem dX10_riskOf_12 : decode cX10_riskOf 12 = .ok (.aload_n 0, 1) := by decide +kernel
theorem dX10_riskOf_13 : decode cX10_riskOf 13 = .ok (.getfield 7, 3) := by decide +kernel
theorem dX10_riskOf_16 : decode cX10_riskOf 16 = .ok (.sipush 199, 3) := by decide +kernel
theorem dX10_riskOf_19 : decode cX10_riskOf 19 = .ok (.iload_n 1, 1) := by decide +kernel
theorem dX10_riskOf_20 : decode cX10_riskOf 20 = .ok (.iadd, 1) := by decide +kernel
theorem dX10_riskOf_21 : decode cX10_riskOf 21 = .ok (.iaload, 1) := by decide +kernel
theorem dX10_riskOf_22 : decode cX10_riskOf 22 = .ok (.iconst 1, 1) := by decide +kernel
theorem dX10_riskOf_23 : decode cX10_riskOf 23 = .ok (.if_icmp .ne 5, 3) := by decide +kernel
theorem dX10_riskOf_26 : decode cX10_riskOf 26 = .ok (.iconst 0, 1) := by decide +kernel
theorem dX10_riskOf_27 : decode cX10_riskOf 27 = .ok (.ireturn, 1) := by decide +kernel
theorem dX10_riskOf_28 : decode cX10_riskOf 28 = .ok (.aload_n 0, 1) := by decide +kernel
theorem dX10_riskOf_29 : decode cX10_riskOf 29 = .ok (.invokevirtual 305, 3) := by decide +kernel
theorem dX10_riskOf_32 : decode cX10_riskOf 32 = .ok (.istore_n 2, 1) := by decide +kernel
theorem dX10_riskOf_33 : decode cX10_riskOf 33 = .ok (.aload_n 0, 1) := by decide +kernel
theorem dX10_riskOf_34 : decode cX10_riskOf 34 = .ok (.getfield 7, 3) := by decide +kernel
theorem dX10_riskOf_37 : decode cX10_riskOf 37 = .ok (.sipush 199, 3) := by decide +kernel
theorem dX10_riskOf_40 : decode cX10_riskOf 40 = .ok (.iload_n 1, 1) := by decide +kernel
theorem dX10_riskOf_41 : decode cX10_riskOf 41 = .ok (.iadd, 1) := by decide +kernel
theorem dX10_riskOf_42 : decode cX10_riskOf 42 = .ok (.iconst 1, 1) := by decide +kernel
theorem dX10_riskOf_43 : decode cX10_riskOf 43 = .ok (.iastore, 1) := by decide +kernel
theorem dX10_riskOf_44 : decode cX10_riskOf 44 = .ok (.aload_n 0, 1) := by decide +kernel
theorem dX10_riskOf_45 : decode cX10_riskOf 45 = .ok (.invokevirtual 305, 3) := by decide +kernel
theorem dX10_riskOf_48 : decode cX10_riskOf 48 = .ok (.istore_n 3, 1) := by decide +kernel
theorem dX10_riskOf_49 : decode cX10_riskOf 49 = .ok (.aload_n 0, 1) := by decide +kernel
theorem dX10_riskOf_50 : decode cX10_riskOf 50 = .ok (.getfield 7, 3) := by decide +kernel
theorem dX10_riskOf_53 : decode cX10_riskOf 53 = .ok (.sipush 199, 3) := by decide +kernel
theorem dX10_riskOf_56 : decode cX10_riskOf 56 = .ok (.iload_n 1, 1) := by decide +kernel
theorem dX10_riskOf_57 : decode cX10_riskOf 57 = .ok (.iadd, 1) := by decide +kernel
theorem dX10_riskOf_58 : decode cX10_riskOf 58 = .ok (.iconst 0, 1) := by decide +kernel
theorem dX10_riskOf_59 : decode cX10_riskOf 59 = .ok (.iastore, 1) := by decide +kernel
theorem dX10_riskOf_60 : decode cX10_riskOf 60 = .ok (.iload_n 2, 1) := by decide +kernel
theorem dX10_riskOf_61 : decode cX10_riskOf 61 = .ok (.iload_n 3, 1) := by decide +kernel
theorem dX10_riskOf_62 : decode cX10_riskOf 62 = .ok (.iconst (-1), 1) := by decide +kernel
theorem dX10_riskOf_63 : decode cX10_riskOf 63 = .ok (.ixor, 1) := by decide +kernel
theorem dX10_riskOf_64 : decode cX10_riskOf 64 = .ok (.iand, 1) := by decide +kernel
theorem dX10_riskOf_65 : decode cX10_riskOf 65 = .ok (.invokestatic 308, 3) := by decide +kernel
theorem dX10_riskOf_68 : decode cX10_riskOf 68 = .ok (.ireturn, 1) := by decide +kernel
theorem dX10_risk_0 : decode cX10_risk 0 = .ok (.aload_n 0, 1) := by decide +kernel
theorem dX10_risk_1 : decode cX10_risk 1 = .ok (.iload_n 1, 1) := by decide +kernel
theorem dX10_risk_2 : decode cX10_risk 2 = .ok (.invokevirtual 314, 3) := by decide +kernel
theorem dX10_risk_5 : decode cX10_risk 5 = .ok (.ifCond .eq 7, 3) := by decide +kernel
theorem dX10_risk_8 : decode cX10_risk 8 = .ok (.iconst 0, 1) := by decide +kernel
theorem dX10_risk_9 : decode cX10_risk 9 = .ok (.goto 8, 3) := by decide +kernel
theorem dX10_risk_12 : decode cX10_risk 12 = .ok (.aload_n 0, 1) := by decide +kernel
theorem dX10_risk_13 : decode cX10_risk 13 = .ok (.iload_n 1, 1) := by decide +kernel
theorem dX10_risk_14 : decode cX10_risk 14 = .ok (.invokevirtual 339, 3) := by decide +kernel
theorem dX10_risk_17 : decode cX10_risk 17 = .ok (.ireturn, 1) := by decide +kernel
theorem dX10_weakest_0 : decode cX10_weakest 0 = .ok (.aload_n 0, 1) := by decide +kernel
theorem dX10_weakest_1 : decode cX10_weakest 1 = .ok (.iconst 0, 1) := by decide +kernel
theorem dX10_weakest_2 : decode cX10_weakest 2 = .ok (.putfield 50, 3) := by decide +kernel
theorem dX10_weakest_5 : decode cX10_weakest 5 = .ok (.iconst 0, 1) := by decide +kernel
theorem dX10_weakest_6 : decode cX10_weakest 6 = .ok (.istore_n 1, 1) := by decide +kernel
theorem dX10_weakest_7 : decode cX10_weakest 7 = .ok (.iconst 0, 1) := by decide +kernel
theorem dX10_weakest_8 : decode cX10_weakest 8 = .ok (.istore_n 2, 1) := by decide +kernel
theorem dX10_weakest_9 : decode cX10_weakest 9 = .ok (.iconst 0, 1) := by decide +kernel
theorem dX10_weakest_10 : decode cX10_weakest 10 = .ok (.istore_n 3, 1) := by decide +kernel
theorem dX10_weakest_11 : decode cX10_weakest 11 = .ok (.iload_n 3, 1) := by decide +kernel
theorem dX10_weakest_12 : decode cX10_weakest 12 = .ok (.aload_n 0, 1) := by decide +kernel
theorem dX10_weakest_13 : decode cX10_weakest 13 = .ok (.getfield 7, 3) := by decide +kernel
theorem dX10_weakest_16 : decode cX10_weakest 16 = .ok (.iconst 0, 1) := by decide +kernel
theorem dX10_weakest_17 : decode cX10_weakest 17 = .ok (.iaload, 1) := by decide +kernel
theorem dX10_weakest_18 : decode cX10_weakest 18 = .ok (.if_icmp .ge 41, 3) := by decide +kernel
theorem dX10_weakest_21 : decode cX10_weakest 21 = .ok (.aload_n 0, 1) := by decide +kernel
theorem dX10_weakest_22 : decode cX10_weakest 22 = .ok (.iload_n 3, 1) := by decide +kernel
theorem dX10_weakest_23 : decode cX10_weakest 23 = .ok (.invokevirtual 339, 3) := by decide +kernel
theorem dX10_weakest_26 : decode cX10_weakest 26 = .ok (.istore 4, 2) := by decide +kernel
theorem dX10_weakest_28 : decode cX10_weakest 28 = .ok (.iload 4, 2) := by decide +kernel
theorem dX10_weakest_30 : decode cX10_weakest 30 = .ok (.iload_n 2, 1) := by decide +kernel
theorem dX10_weakest_31 : decode cX10_weakest 31 = .ok (.if_icmp .le 7, 3) := by decide +kernel
theorem dX10_weakest_34 : decode cX10_weakest 34 = .ok (.iload_n 3, 1) := by decide +kernel
theorem dX10_weakest_35 : decode cX10_weakest 35 = .ok (.goto 4, 3) := by decide +kernel
theorem dX10_weakest_38 : decode cX10_weakest 38 = .ok (.iload_n 1, 1) := by decide +kernel
theorem dX10_weakest_39 : decode cX10_weakest 39 = .ok (.istore_n 1, 1) := by decide +kernel
theorem dX10_weakest_40 : decode cX10_weakest 40 = .ok (.iload 4, 2) := by decide +kernel
theorem dX10_weakest_42 : decode cX10_weakest 42 = .ok (.iload_n 2, 1) := by decide +kernel
theorem dX10_weakest_43 : decode cX10_weakest 43 = .ok (.if_icmp .le 8, 3) := by decide +kernel
theorem dX10_weakest_46 : decode cX10_weakest 46 = .ok (.iload 4, 2) := by decide +kernel
theorem dX10_weakest_48 : decode cX10_weakest 48 = .ok (.goto 4, 3) := by decide +kernel
theorem dX10_weakest_51 : decode cX10_weakest 51 = .ok (.iload_n 2, 1) := by decide +kernel
theorem dX10_weakest_52 : decode cX10_weakest 52 = .ok (.istore_n 2, 1) := by decide +kernel
theorem dX10_weakest_53 : decode cX10_weakest 53 = .ok (.iinc 3 1, 3) := by decide +kernel
theorem dX10_weakest_56 : decode cX10_weakest 56 = .ok (.goto (-45), 3) := by decide +kernel
theorem dX10_weakest_59 : decode cX10_weakest 59 = .ok (.iload_n 1, 1) := by decide +kernel
theorem dX10_weakest_60 : decode cX10_weakest 60 = .ok (.ireturn, 1) := by decide +kernel
theorem dX10_filesBefore_0 : decode cX10_filesBefore 0 = .ok (.aload_n 0, 1) := by decide +kernel
theorem dX10_filesBefore_1 : decode cX10_filesBefore 1 = .ok (.iload_n 1, 1) := by decide +kernel
theorem dX10_filesBefore_2 : decode cX10_filesBefore 2 = .ok (.invokevirtual 320, 3) := by decide +kernel
theorem dX10_filesBefore_5 : decode cX10_filesBefore 5 = .ok (.ifCond .eq 7, 3) := by decide +kernel
theorem dX10_filesBefore_8 : decode cX10_filesBefore 8 = .ok (.iconst 0, 1) := by decide +kernel
theorem dX10_filesBefore_9 : decode cX10_filesBefore 9 = .ok (.goto 8, 3) := by decide +kernel
theorem dX10_filesBefore_12 : decode cX10_filesBefore 12 = .ok (.aload_n 0, 1) := by decide +kernel
theorem dX10_filesBefore_13 : decode cX10_filesBefore 13 = .ok (.iload_n 1, 1) := by decide +kernel
theorem dX10_filesBefore_14 : decode cX10_filesBefore 14 = .ok (.invokevirtual 302, 3) := by decide +kernel
theorem dX10_filesBefore_17 : decode cX10_filesBefore 17 = .ok (.ireturn, 1) := by decide +kernel
theorem dX10_findsCounting_0 : decode cX10_findsCounting 0 = .ok (.iconst 0, 1) := by decide +kernel
theorem dX10_findsCounting_1 : decode cX10_findsCounting 1 = .ok (.istore_n 1, 1) := by decide +kernel
theorem dX10_findsCounting_2 : decode cX10_findsCounting 2 = .ok (.iload_n 1, 1) := by decide +kernel
theorem dX10_findsCounting_3 : decode cX10_findsCounting 3 = .ok (.aload_n 0, 1) := by decide +kernel
theorem dX10_findsCounting_4 : decode cX10_findsCounting 4 = .ok (.getfield 7, 3) := by decide +kernel
theorem dX10_findsCounting_7 : decode cX10_findsCounting 7 = .ok (.bipush 6, 2) := by decide +kernel
theorem dX10_findsCounting_9 : decode cX10_findsCounting 9 = .ok (.iaload, 1) := by decide +kernel
theorem dX10_findsCounting_10 : decode cX10_findsCounting 10 = .ok (.if_icmp .ge 16, 3) := by decide +kernel
theorem dX10_findsCounting_13 : decode cX10_findsCounting 13 = .ok (.aload_n 0, 1) := by decide +kernel
theorem dX10_findsCounting_14 : decode cX10_findsCounting 14 = .ok (.getfield 37, 3) := by decide +kernel
theorem dX10_findsCounting_17 : decode cX10_findsCounting 17 = .ok (.iload_n 1, 1) := by decide +kernel
theorem dX10_findsCounting_18 : decode cX10_findsCounting 18 = .ok (.iconst 0, 1) := by decide +kernel
theorem dX10_findsCounting_19 : decode cX10_findsCounting 19 = .ok (.bastore, 1) := by decide +kernel
theorem dX10_findsCounting_20 : decode cX10_findsCounting 20 = .ok (.iinc 1 1, 3) := by decide +kernel
theorem dX10_findsCounting_23 : decode cX10_findsCounting 23 = .ok (.goto (-21), 3) := by decide +kernel
theorem dX10_findsCounting_26 : decode cX10_findsCounting 26 = .ok (.aload_n 0, 1) := by decide +kernel
theorem dX10_findsCounting_27 : decode cX10_findsCounting 27 = .ok (.invokevirtual 242, 3) := by decide +kernel
theorem dX10_findsCounting_30 : decode cX10_findsCounting 30 = .ok (.iconst 0, 1) := by decide +kernel
theorem dX10_findsCounting_31 : decode cX10_findsCounting 31 = .ok (.istore_n 1, 1) := by decide +kernel
theorem dX10_findsCounting_32 : decode cX10_findsCounting 32 = .ok (.iload_n 1, 1) := by decide +kernel
theorem dX10_findsCounting_33 : decode cX10_findsCounting 33 = .ok (.aload_n 0, 1) := by decide +kernel
theorem dX10_findsCounting_34 : decode cX10_findsCounting 34 = .ok (.getfield 7, 3) := by decide +kernel
theorem dX10_findsCounting_37 : decode cX10_findsCounting 37 = .ok (.iconst 2, 1) := by decide +kernel
theorem dX10_findsCounting_38 : decode cX10_findsCounting 38 = .ok (.iaload, 1) := by decide +kernel
theorem dX10_findsCounting_39 : decode cX10_findsCounting 39 = .ok (.if_icmp .ge 34, 3) := by decide +kernel
theorem dX10_findsCounting_42 : decode cX10_findsCounting 42 = .ok (.aload_n 0, 1) := by decide +kernel
theorem dX10_findsCounting_43 : decode cX10_findsCounting 43 = .ok (.iload_n 1, 1) := by decide +kernel
theorem dX10_findsCounting_44 : decode cX10_findsCounting 44 = .ok (.bipush 12, 2) := by decide +kernel
theorem dX10_findsCounting_46 : decode cX10_findsCounting 46 = .ok (.invokevirtual 245, 3) := by decide +kernel
theorem dX10_findsCounting_49 : decode cX10_findsCounting 49 = .ok (.aload_n 0, 1) := by decide +kernel
theorem dX10_findsCounting_50 : decode cX10_findsCounting 50 = .ok (.getfield 236, 3) := by decide +kernel
theorem dX10_findsCounting_53 : decode cX10_findsCounting 53 = .ok (.iconst (-1), 1) := by decide +kernel
theorem dX10_findsCounting_54 : decode cX10_findsCounting 54 = .ok (.if_icmp .eq 13, 3) := by decide +kernel
theorem dX10_findsCounting_57 : decode cX10_findsCounting 57 = .ok (.aload_n 0, 1) := by decide +kernel
theorem dX10_findsCounting_58 : decode cX10_findsCounting 58 = .ok (.getfield 37, 3) := by decide +kernel
theorem dX10_findsCounting_61 : decode cX10_findsCounting 61 = .ok (.aload_n 0, 1) := by decide +kernel
theorem dX10_findsCounting_62 : decode cX10_findsCounting 62 = .ok (.getfield 236, 3) := by decide +kernel
theorem dX10_findsCounting_65 : decode cX10_findsCounting 65 = .ok (.iconst 1, 1) := by decide +kernel
theorem dX10_findsCounting_66 : decode cX10_findsCounting 66 = .ok (.bastore, 1) := by decide +kernel
theorem dX10_findsCounting_67 : decode cX10_findsCounting 67 = .ok (.iinc 1 1, 3) := by decide +kernel
theorem dX10_findsCounting_70 : decode cX10_findsCounting 70 = .ok (.goto (-38), 3) := by decide +kernel
theorem dX10_findsCounting_73 : decode cX10_findsCounting 73 = .ok (.return_, 1) := by decide +kernel
theorem dX10_useOf_0 : decode cX10_useOf 0 = .ok (.aload_n 0, 1) := by decide +kernel
theorem dX10_useOf_1 : decode cX10_useOf 1 = .ok (.getfield 7, 3) := by decide +kernel
theorem dX10_useOf_4 : decode cX10_useOf 4 = .ok (.bipush 7, 2) := by decide +kernel
theorem dX10_useOf_6 : decode cX10_useOf 6 = .ok (.iload_n 1, 1) := by decide +kernel
theorem dX10_useOf_7 : decode cX10_useOf 7 = .ok (.iadd, 1) := by decide +kernel
theorem dX10_useOf_8 : decode cX10_useOf 8 = .ok (.iaload, 1) := by decide +kernel
theorem dX10_useOf_9 : decode cX10_useOf 9 = .ok (.tableswitch 57 0 2 #[27, 29, 55], 27) := by decide +kernel
theorem dX10_useOf_36 : decode cX10_useOf 36 = .ok (.iconst 0, 1) := by decide +kernel
theorem dX10_useOf_37 : decode cX10_useOf 37 = .ok (.ireturn, 1) := by decide +kernel
theorem dX10_useOf_38 : decode cX10_useOf 38 = .ok (.aload_n 0, 1) := by decide +kernel
theorem dX10_useOf_39 : decode cX10_useOf 39 = .ok (.getfield 37, 3) := by decide +kernel
theorem dX10_useOf_42 : decode cX10_useOf 42 = .ok (.aload_n 0, 1) := by decide +kernel
theorem dX10_useOf_43 : decode cX10_useOf 43 = .ok (.getfield 7, 3) := by decide +kernel
theorem dX10_useOf_46 : decode cX10_useOf 46 = .ok (.sipush 391, 3) := by decide +kernel
theorem dX10_useOf_49 : decode cX10_useOf 49 = .ok (.iload_n 1, 1) := by decide +kernel
theorem dX10_useOf_50 : decode cX10_useOf 50 = .ok (.iadd, 1) := by decide +kernel
theorem dX10_useOf_51 : decode cX10_useOf 51 = .ok (.iaload, 1) := by decide +kernel
theorem dX10_useOf_52 : decode cX10_useOf 52 = .ok (.iconst 1, 1) := by decide +kernel
theorem dX10_useOf_53 : decode cX10_useOf 53 = .ok (.isub, 1) := by decide +kernel
theorem dX10_useOf_54 : decode cX10_useOf 54 = .ok (.baload, 1) := by decide +kernel
theorem dX10_useOf_55 : decode cX10_useOf 55 = .ok (.ifCond .eq 7, 3) := by decide +kernel
theorem dX10_useOf_58 : decode cX10_useOf 58 = .ok (.iconst 1, 1) := by decide +kernel
theorem dX10_useOf_59 : decode cX10_useOf 59 = .ok (.goto 4, 3) := by decide +kernel
theorem dX10_useOf_62 : decode cX10_useOf 62 = .ok (.iconst 2, 1) := by decide +kernel
theorem dX10_useOf_63 : decode cX10_useOf 63 = .ok (.ireturn, 1) := by decide +kernel
theorem dX10_useOf_64 : decode cX10_useOf 64 = .ok (.iconst 3, 1) := by decide +kernel
theorem dX10_useOf_65 : decode cX10_useOf 65 = .ok (.ireturn, 1) := by decide +kernel
theorem dX10_useOf_66 : decode cX10_useOf 66 = .ok (.iconst 4, 1) := by decide +kernel
theorem dX10_useOf_67 : decode cX10_useOf 67 = .ok (.ireturn, 1) := by decide +kernel
theorem dX10_spaceBy_0 : decode cX10_spaceBy 0 = .ok (.aload_n 0, 1) := by decide +kernel
theorem dX10_spaceBy_1 : decode cX10_spaceBy 1 = .ok (.invokevirtual 342, 3) := by decide +kernel
theorem dX10_spaceBy_4 : decode cX10_spaceBy 4 = .ok (.iconst 0, 1) := by decide +kernel
theorem dX10_spaceBy_5 : decode cX10_spaceBy 5 = .ok (.istore_n 3, 1) := by decide +kernel
theorem dX10_spaceBy_6 : decode cX10_spaceBy 6 = .ok (.iconst 0, 1) := by decide +kernel
theorem dX10_spaceBy_7 : decode cX10_spaceBy 7 = .ok (.istore 4, 2) := by decide +kernel
theorem dX10_spaceBy_9 : decode cX10_spaceBy 9 = .ok (.iload 4, 2) := by decide +kernel
theorem dX10_spaceBy_11 : decode cX10_spaceBy 11 = .ok (.aload_n 0, 1) := by decide +kernel
theorem dX10_spaceBy_12 : decode cX10_spaceBy 12 = .ok (.getfield 7, 3) := by decide +kernel
theorem dX10_spaceBy_15 : decode cX10_spaceBy 15 = .ok (.iconst 0, 1) := by decide +kernel
theorem dX10_spaceBy_16 : decode cX10_spaceBy 16 = .ok (.iaload, 1) := by decide +kernel
theorem dX10_spaceBy_17 : decode cX10_spaceBy 17 = .ok (.if_icmp .ge 49, 3) := by decide +kernel
theorem dX10_spaceBy_20 : decode cX10_spaceBy 20 = .ok (.iload_n 3, 1) := by decide +kernel
theorem dX10_spaceBy_21 : decode cX10_spaceBy 21 = .ok (.aload_n 0, 1) := by decide +kernel
theorem dX10_spaceBy_22 : decode cX10_spaceBy 22 = .ok (.iload 4, 2) := by decide +kernel
theorem dX10_spaceBy_24 : decode cX10_spaceBy 24 = .ok (.invokevirtual 345, 3) := by decide +kernel
theorem dX10_spaceBy_27 : decode cX10_spaceBy 27 = .ok (.iload_n 2, 1) := by decide +kernel
theorem dX10_spaceBy_28 : decode cX10_spaceBy 28 = .ok (.if_icmp .ne 29, 3) := by decide +kernel
theorem dX10_spaceBy_31 : decode cX10_spaceBy 31 = .ok (.iload_n 1, 1) := by decide +kernel
theorem dX10_spaceBy_32 : decode cX10_spaceBy 32 = .ok (.iconst (-1), 1) := by decide +kernel
theorem dX10_spaceBy_33 : decode cX10_spaceBy 33 = .ok (.if_icmp .eq 20, 3) := by decide +kernel
theorem dX10_spaceBy_36 : decode cX10_spaceBy 36 = .ok (.aload_n 0, 1) := by decide +kernel
theorem dX10_spaceBy_37 : decode cX10_spaceBy 37 = .ok (.getfield 7, 3) := by decide +kernel
theorem dX10_spaceBy_40 : decode cX10_spaceBy 40 = .ok (.sipush 295, 3) := by decide +kernel
theorem dX10_spaceBy_43 : decode cX10_spaceBy 43 = .ok (.iload 4, 2) := by decide +kernel
theorem dX10_spaceBy_45 : decode cX10_spaceBy 45 = .ok (.iadd, 1) := by decide +kernel
theorem dX10_spaceBy_46 : decode cX10_spaceBy 46 = .ok (.iaload, 1) := by decide +kernel
theorem dX10_spaceBy_47 : decode cX10_spaceBy 47 = .ok (.iload_n 1, 1) := by decide +kernel
theorem dX10_spaceBy_48 : decode cX10_spaceBy 48 = .ok (.iconst 1, 1) := by decide +kernel
theorem dX10_spaceBy_49 : decode cX10_spaceBy 49 = .ok (.iadd, 1) := by decide +kernel
theorem dX10_spaceBy_50 : decode cX10_spaceBy 50 = .ok (.if_icmp .ne 7, 3) := by decide +kernel
theorem dX10_spaceBy_53 : decode cX10_spaceBy 53 = .ok (.iconst 1, 1) := by decide +kernel
theorem dX10_spaceBy_54 : decode cX10_spaceBy 54 = .ok (.goto 4, 3) := by decide +kernel
theorem dX10_spaceBy_57 : decode cX10_spaceBy 57 = .ok (.iconst 0, 1) := by decide +kernel
theorem dX10_spaceBy_58 : decode cX10_spaceBy 58 = .ok (.iadd, 1) := by decide +kernel
theorem dX10_spaceBy_59 : decode cX10_spaceBy 59 = .ok (.istore_n 3, 1) := by decide +kernel
theorem dX10_spaceBy_60 : decode cX10_spaceBy 60 = .ok (.iinc 4 1, 3) := by decide +kernel
theorem dX10_spaceBy_63 : decode cX10_spaceBy 63 = .ok (.goto (-54), 3) := by decide +kernel
theorem dX10_spaceBy_66 : decode cX10_spaceBy 66 = .ok (.iload_n 3, 1) := by decide +kernel
theorem dX10_spaceBy_67 : decode cX10_spaceBy 67 = .ok (.ireturn, 1) := by decide +kernel
theorem dX10_space_0 : decode cX10_space 0 = .ok (.aload_n 0, 1) := by decide +kernel
theorem dX10_space_1 : decode cX10_space 1 = .ok (.iconst 0, 1) := by decide +kernel
theorem dX10_space_2 : decode cX10_space 2 = .ok (.putfield 50, 3) := by decide +kernel
theorem dX10_space_5 : decode cX10_space 5 = .ok (.aload_n 0, 1) := by decide +kernel
theorem dX10_space_6 : decode cX10_space 6 = .ok (.iload_n 1, 1) := by decide +kernel
theorem dX10_space_7 : decode cX10_space 7 = .ok (.iconst 0, 1) := by decide +kernel
theorem dX10_space_8 : decode cX10_space 8 = .ok (.iconst 4, 1) := by decide +kernel
theorem dX10_space_9 : decode cX10_space 9 = .ok (.invokestatic 74, 3) := by decide +kernel
theorem dX10_space_12 : decode cX10_space 12 = .ok (.ifCond .ne 7, 3) := by decide +kernel
theorem dX10_space_15 : decode cX10_space 15 = .ok (.iconst 1, 1) := by decide +kernel
theorem dX10_space_16 : decode cX10_space 16 = .ok (.goto 4, 3) := by decide +kernel
theorem dX10_space_19 : decode cX10_space 19 = .ok (.iconst 0, 1) := by decide +kernel
theorem dX10_space_20 : decode cX10_space 20 = .ok (.iconst 1, 1) := by decide +kernel
theorem dX10_space_21 : decode cX10_space 21 = .ok (.invokevirtual 188, 3) := by decide +kernel
theorem dX10_space_24 : decode cX10_space 24 = .ok (.ifCond .eq 7, 3) := by decide +kernel
theorem dX10_space_27 : decode cX10_space 27 = .ok (.iconst 0, 1) := by decide +kernel
theorem dX10_space_28 : decode cX10_space 28 = .ok (.goto 9, 3) := by decide +kernel
theorem dX10_space_31 : decode cX10_space 31 = .ok (.aload_n 0, 1) := by decide +kernel
theorem dX10_space_32 : decode cX10_space 32 = .ok (.iconst (-1), 1) := by decide +kernel
theorem dX10_space_33 : decode cX10_space 33 = .ok (.iload_n 1, 1) := by decide +kernel
theorem dX10_space_34 : decode cX10_space 34 = .ok (.invokevirtual 348, 3) := by decide +kernel
theorem dX10_space_37 : decode cX10_space 37 = .ok (.ireturn, 1) := by decide +kernel
theorem dX10_spaceOf_0 : decode cX10_spaceOf 0 = .ok (.aload_n 0, 1) := by decide +kernel
theorem dX10_spaceOf_1 : decode cX10_spaceOf 1 = .ok (.iload_n 1, 1) := by decide +kernel
theorem dX10_spaceOf_2 : decode cX10_spaceOf 2 = .ok (.invokevirtual 320, 3) := by decide +kernel
theorem dX10_spaceOf_5 : decode cX10_spaceOf 5 = .ok (.ifCond .ne 25, 3) := by decide +kernel
theorem dX10_spaceOf_8 : decode cX10_spaceOf 8 = .ok (.aload_n 0, 1) := by decide +kernel
theorem dX10_spaceOf_9 : decode cX10_spaceOf 9 = .ok (.iload_n 2, 1) := by decide +kernel
theorem dX10_spaceOf_10 : decode cX10_spaceOf 10 = .ok (.iconst 1, 1) := by decide +kernel
theorem dX10_spaceOf_11 : decode cX10_spaceOf 11 = .ok (.iconst 4, 1) := by decide +kernel
theorem dX10_spaceOf_12 : decode cX10_spaceOf 12 = .ok (.invokestatic 74, 3) := by decide +kernel
theorem dX10_spaceOf_15 : decode cX10_spaceOf 15 = .ok (.ifCond .ne 7, 3) := by decide +kernel
theorem dX10_spaceOf_18 : decode cX10_spaceOf 18 = .ok (.iconst 1, 1) := by decide +kernel
theorem dX10_spaceOf_19 : decode cX10_spaceOf 19 = .ok (.goto 4, 3) := by decide +kernel
theorem dX10_spaceOf_22 : decode cX10_spaceOf 22 = .ok (.iconst 0, 1) := by decide +kernel
theorem dX10_spaceOf_23 : decode cX10_spaceOf 23 = .ok (.iconst 2, 1) := by decide +kernel
theorem dX10_spaceOf_24 : decode cX10_spaceOf 24 = .ok (.invokevirtual 188, 3) := by decide +kernel
theorem dX10_spaceOf_27 : decode cX10_spaceOf 27 = .ok (.ifCond .eq 7, 3) := by decide +kernel
theorem dX10_spaceOf_30 : decode cX10_spaceOf 30 = .ok (.iconst 0, 1) := by decide +kernel
theorem dX10_spaceOf_31 : decode cX10_spaceOf 31 = .ok (.goto 9, 3) := by decide +kernel
theorem dX10_spaceOf_34 : decode cX10_spaceOf 34 = .ok (.aload_n 0, 1) := by decide +kernel
theorem dX10_spaceOf_35 : decode cX10_spaceOf 35 = .ok (.iload_n 1, 1) := by decide +kernel
theorem dX10_spaceOf_36 : decode cX10_spaceOf 36 = .ok (.iload_n 2, 1) := by decide +kernel
theorem dX10_spaceOf_37 : decode cX10_spaceOf 37 = .ok (.invokevirtual 348, 3) := by decide +kernel
theorem dX10_spaceOf_40 : decode cX10_spaceOf 40 = .ok (.ireturn, 1) := by decide +kernel
theorem dX10_share_0 : decode cX10_share 0 = .ok (.aload_n 0, 1) := by decide +kernel
theorem dX10_share_1 : decode cX10_share 1 = .ok (.iconst 0, 1) := by decide +kernel
theorem dX10_share_2 : decode cX10_share 2 = .ok (.putfield 50, 3) := by decide +kernel
theorem dX10_share_5 : decode cX10_share 5 = .ok (.aload_n 0, 1) := by decide +kernel
theorem dX10_share_6 : decode cX10_share 6 = .ok (.getfield 7, 3) := by decide +kernel
theorem dX10_share_9 : decode cX10_share 9 = .ok (.iconst 0, 1) := by decide +kernel
theorem dX10_share_10 : decode cX10_share 10 = .ok (.iaload, 1) := by decide +kernel
theorem dX10_share_11 : decode cX10_share 11 = .ok (.aload_n 0, 1) := by decide +kernel
theorem dX10_share_12 : decode cX10_share 12 = .ok (.iconst (-1), 1) := by decide +kernel
theorem dX10_share_13 : decode cX10_share 13 = .ok (.iconst 0, 1) := by decide +kernel
theorem dX10_share_14 : decode cX10_share 14 = .ok (.invokevirtual 348, 3) := by decide +kernel
theorem dX10_share_17 : decode cX10_share 17 = .ok (.isub, 1) := by decide +kernel
theorem dX10_share_18 : decode cX10_share 18 = .ok (.istore_n 1, 1) := by decide +kernel
theorem dX10_share_19 : decode cX10_share 19 = .ok (.iload_n 1, 1) := by decide +kernel
theorem dX10_share_20 : decode cX10_share 20 = .ok (.ifCond .ne 7, 3) := by decide +kernel
theorem dX10_share_23 : decode cX10_share 23 = .ok (.dconst 1, 1) := by decide +kernel
theorem dX10_share_24 : decode cX10_share 24 = .ok (.goto 13, 3) := by decide +kernel
theorem dX10_share_27 : decode cX10_share 27 = .ok (.aload_n 0, 1) := by decide +kernel
theorem dX10_share_28 : decode cX10_share 28 = .ok (.iconst (-1), 1) := by decide +kernel
theorem dX10_share_29 : decode cX10_share 29 = .ok (.iconst 1, 1) := by decide +kernel
theorem dX10_share_30 : decode cX10_share 30 = .ok (.invokevirtual 348, 3) := by decide +kernel
theorem dX10_share_33 : decode cX10_share 33 = .ok (.i2d, 1) := by decide +kernel
theorem dX10_share_34 : decode cX10_share 34 = .ok (.iload_n 1, 1) := by decide +kernel
theorem dX10_share_35 : decode cX10_share 35 = .ok (.i2d, 1) := by decide +kernel
theorem dX10_share_36 : decode cX10_share 36 = .ok (.ddiv, 1) := by decide +kernel
theorem dX10_share_37 : decode cX10_share 37 = .ok (.dreturn, 1) := by decide +kernel
theorem dX10_write_0 : decode cX10_write 0 = .ok (.aload_n 0, 1) := by decide +kernel
theorem dX10_write_1 : decode cX10_write 1 = .ok (.iload_n 1, 1) := by decide +kernel
theorem dX10_write_2 : decode cX10_write 2 = .ok (.invokevirtual 330, 3) := by decide +kernel
theorem dX10_write_5 : decode cX10_write 5 = .ok (.ifCond .ne 59, 3) := by decide +kernel
theorem dX10_write_8 : decode cX10_write 8 = .ok (.aload_n 0, 1) := by decide +kernel
theorem dX10_write_9 : decode cX10_write 9 = .ok (.iload_n 2, 1) := by decide +kernel
theorem dX10_write_10 : decode cX10_write 10 = .ok (.iconst 1, 1) := by decide +kernel
theorem dX10_write_11 : decode cX10_write 11 = .ok (.bipush 8, 2) := by decide +kernel
theorem dX10_write_13 : decode cX10_write 13 = .ok (.invokestatic 74, 3) := by decide +kernel
theorem dX10_write_16 : decode cX10_write 16 = .ok (.ifCond .eq 14, 3) := by decide +kernel
theorem dX10_write_19 : decode cX10_write 19 = .ok (.iload_n 3, 1) := by decide +kernel
theorem dX10_write_20 : decode cX10_write 20 = .ok (.iconst 0, 1) := by decide +kernel
theorem dX10_write_21 : decode cX10_write 21 = .ok (.sipush 999, 3) := by decide +kernel
theorem dX10_write_24 : decode cX10_write 24 = .ok (.invokestatic 74, 3) := by decide +kernel
theorem dX10_write_27 : decode cX10_write 27 = .ok (.ifCond .ne 7, 3) := by decide +kernel
theorem dX10_write_30 : decode cX10_write 30 = .ok (.iconst 1, 1) := by decide +kernel
theorem dX10_write_31 : decode cX10_write 31 = .ok (.goto 4, 3) := by decide +kernel
theorem dX10_write_34 : decode cX10_write 34 = .ok (.iconst 0, 1) := by decide +kernel
theorem dX10_write_35 : decode cX10_write 35 = .ok (.iconst 2, 1) := by decide +kernel
theorem dX10_write_36 : decode cX10_write 36 = .ok (.invokevirtual 188, 3) := by decide +kernel
theorem dX10_write_39 : decode cX10_write 39 = .ok (.ifCond .ne 25, 3) := by decide +kernel
theorem dX10_write_42 : decode cX10_write 42 = .ok (.aload_n 0, 1) := by decide +kernel
theorem dX10_write_43 : decode cX10_write 43 = .ok (.aload_n 0, 1) := by decide +kernel
theorem dX10_write_44 : decode cX10_write 44 = .ok (.iload_n 1, 1) := by decide +kernel
theorem dX10_write_45 : decode cX10_write 45 = .ok (.iload_n 2, 1) := by decide +kernel
theorem dX10_write_46 : decode cX10_write 46 = .ok (.invokevirtual 134, 3) := by decide +kernel
theorem dX10_write_49 : decode cX10_write 49 = .ok (.ifCond .le 7, 3) := by decide +kernel
theorem dX10_write_52 : decode cX10_write 52 = .ok (.iconst 1, 1) := by decide +kernel
theorem dX10_write_53 : decode cX10_write 53 = .ok (.goto 4, 3) := by decide +kernel
theorem dX10_write_56 : decode cX10_write 56 = .ok (.iconst 0, 1) := by decide +kernel
theorem dX10_write_57 : decode cX10_write 57 = .ok (.iconst 3, 1) := by decide +kernel
theorem dX10_write_58 : decode cX10_write 58 = .ok (.invokevirtual 188, 3) := by decide +kernel
theorem dX10_write_61 : decode cX10_write 61 = .ok (.ifCond .eq 5, 3) := by decide +kernel
theorem dX10_write_64 : decode cX10_write 64 = .ok (.iconst 0, 1) := by decide +kernel
theorem dX10_write_65 : decode cX10_write 65 = .ok (.ireturn, 1) := by decide +kernel
theorem dX10_write_66 : decode cX10_write 66 = .ok (.aload_n 0, 1) := by decide +kernel
theorem dX10_write_67 : decode cX10_write 67 = .ok (.invokevirtual 351, 3) := by decide +kernel
theorem dX10_write_70 : decode cX10_write 70 = .ok (.aload_n 0, 1) := by decide +kernel
theorem dX10_write_71 : decode cX10_write 71 = .ok (.iload_n 1, 1) := by decide +kernel
theorem dX10_write_72 : decode cX10_write 72 = .ok (.iload_n 2, 1) := by decide +kernel
theorem dX10_write_73 : decode cX10_write 73 = .ok (.iload_n 3, 1) := by decide +kernel
theorem dX10_write_74 : decode cX10_write 74 = .ok (.invokevirtual 138, 3) := by decide +kernel
theorem dX10_write_77 : decode cX10_write 77 = .ok (.ireturn, 1) := by decide +kernel
theorem dX10_erase_0 : decode cX10_erase 0 = .ok (.aload_n 0, 1) := by decide +kernel
theorem dX10_erase_1 : decode cX10_erase 1 = .ok (.iload_n 1, 1) := by decide +kernel
theorem dX10_erase_2 : decode cX10_erase 2 = .ok (.invokevirtual 330, 3) := by decide +kernel
theorem dX10_erase_5 : decode cX10_erase 5 = .ok (.ifCond .ne 24, 3) := by decide +kernel
theorem dX10_erase_8 : decode cX10_erase 8 = .ok (.aload_n 0, 1) := by decide +kernel
theorem dX10_erase_9 : decode cX10_erase 9 = .ok (.aload_n 0, 1) := by decide +kernel
theorem dX10_erase_10 : decode cX10_erase 10 = .ok (.iload_n 1, 1) := by decide +kernel
theorem dX10_erase_11 : decode cX10_erase 11 = .ok (.invokevirtual 142, 3) := by decide +kernel
theorem dX10_erase_14 : decode cX10_erase 14 = .ok (.ifCond .le 7, 3) := by decide +kernel
theorem dX10_erase_17 : decode cX10_erase 17 = .ok (.iconst 1, 1) := by decide +kernel
theorem dX10_erase_18 : decode cX10_erase 18 = .ok (.goto 4, 3) := by decide +kernel
theorem dX10_erase_21 : decode cX10_erase 21 = .ok (.iconst 0, 1) := by decide +kernel
theorem dX10_erase_22 : decode cX10_erase 22 = .ok (.iconst 2, 1) := by decide +kernel
theorem dX10_erase_23 : decode cX10_erase 23 = .ok (.invokevirtual 188, 3) := by decide +kernel
theorem dX10_erase_26 : decode cX10_erase 26 = .ok (.ifCond .eq 5, 3) := by decide +kernel
theorem dX10_erase_29 : decode cX10_erase 29 = .ok (.iconst 0, 1) := by decide +kernel
theorem dX10_erase_30 : decode cX10_erase 30 = .ok (.ireturn, 1) := by decide +kernel
theorem dX10_erase_31 : decode cX10_erase 31 = .ok (.aload_n 0, 1) := by decide +kernel
theorem dX10_erase_32 : decode cX10_erase 32 = .ok (.invokevirtual 351, 3) := by decide +kernel
theorem dX10_erase_35 : decode cX10_erase 35 = .ok (.aload_n 0, 1) := by decide +kernel
theorem dX10_erase_36 : decode cX10_erase 36 = .ok (.iload_n 1, 1) := by decide +kernel
theorem dX10_erase_37 : decode cX10_erase 37 = .ok (.invokevirtual 145, 3) := by decide +kernel
theorem dX10_erase_40 : decode cX10_erase 40 = .ok (.aload_n 0, 1) := by decide +kernel
theorem dX10_erase_41 : decode cX10_erase 41 = .ok (.bipush 12, 2) := by decide +kernel
theorem dX10_erase_43 : decode cX10_erase 43 = .ok (.invokevirtual 302, 3) := by decide +kernel
theorem dX10_erase_46 : decode cX10_erase 46 = .ok (.ireturn, 1) := by decide +kernel
theorem dX10_close_0 : decode cX10_close 0 = .ok (.aload_n 0, 1) := by decide +kernel
theorem dX10_close_1 : decode cX10_close 1 = .ok (.iconst 0, 1) := by decide +kernel
theorem dX10_close_2 : decode cX10_close 2 = .ok (.putfield 50, 3) := by decide +kernel
theorem dX10_close_5 : decode cX10_close 5 = .ok (.aload_n 0, 1) := by decide +kernel
theorem dX10_close_6 : decode cX10_close 6 = .ok (.aload_n 0, 1) := by decide +kernel
theorem dX10_close_7 : decode cX10_close 7 = .ok (.invokevirtual 148, 3) := by decide +kernel
theorem dX10_close_10 : decode cX10_close 10 = .ok (.ifCond .le 7, 3) := by decide +kernel
theorem dX10_close_13 : decode cX10_close 13 = .ok (.iconst 1, 1) := by decide +kernel
theorem dX10_close_14 : decode cX10_close 14 = .ok (.goto 4, 3) := by decide +kernel
theorem dX10_close_17 : decode cX10_close 17 = .ok (.iconst 0, 1) := by decide +kernel
theorem dX10_close_18 : decode cX10_close 18 = .ok (.iconst 1, 1) := by decide +kernel
theorem dX10_close_19 : decode cX10_close 19 = .ok (.invokevirtual 188, 3) := by decide +kernel
theorem dX10_close_22 : decode cX10_close 22 = .ok (.ifCond .eq 5, 3) := by decide +kernel
theorem dX10_close_25 : decode cX10_close 25 = .ok (.iconst 0, 1) := by decide +kernel
theorem dX10_close_26 : decode cX10_close 26 = .ok (.ireturn, 1) := by decide +kernel
theorem dX10_close_27 : decode cX10_close 27 = .ok (.aload_n 0, 1) := by decide +kernel
theorem dX10_close_28 : decode cX10_close 28 = .ok (.invokevirtual 351, 3) := by decide +kernel
theorem dX10_close_31 : decode cX10_close 31 = .ok (.aload_n 0, 1) := by decide +kernel
theorem dX10_close_32 : decode cX10_close 32 = .ok (.invokevirtual 151, 3) := by decide +kernel
theorem dX10_close_35 : decode cX10_close 35 = .ok (.aload_n 0, 1) := by decide +kernel
theorem dX10_close_36 : decode cX10_close 36 = .ok (.invokevirtual 215, 3) := by decide +kernel
theorem dX10_close_39 : decode cX10_close 39 = .ok (.ireturn, 1) := by decide +kernel
theorem dX10_crash_0 : decode cX10_crash 0 = .ok (.aload_n 0, 1) := by decide +kernel
theorem dX10_crash_1 : decode cX10_crash 1 = .ok (.iconst 0, 1) := by decide +kernel
theorem dX10_crash_2 : decode cX10_crash 2 = .ok (.putfield 50, 3) := by decide +kernel
theorem dX10_crash_5 : decode cX10_crash 5 = .ok (.aload_n 0, 1) := by decide +kernel
theorem dX10_crash_6 : decode cX10_crash 6 = .ok (.aload_n 0, 1) := by decide +kernel
theorem dX10_crash_7 : decode cX10_crash 7 = .ok (.invokevirtual 255, 3) := by decide +kernel
theorem dX10_crash_10 : decode cX10_crash 10 = .ok (.ifCond .ne 7, 3) := by decide +kernel
theorem dX10_crash_13 : decode cX10_crash 13 = .ok (.iconst 1, 1) := by decide +kernel
theorem dX10_crash_14 : decode cX10_crash 14 = .ok (.goto 4, 3) := by decide +kernel
theorem dX10_crash_17 : decode cX10_crash 17 = .ok (.iconst 0, 1) := by decide +kernel
theorem dX10_crash_18 : decode cX10_crash 18 = .ok (.iconst 1, 1) := by decide +kernel
theorem dX10_crash_19 : decode cX10_crash 19 = .ok (.invokevirtual 188, 3) := by decide +kernel
theorem dX10_crash_22 : decode cX10_crash 22 = .ok (.ifCond .eq 5, 3) := by decide +kernel
theorem dX10_crash_25 : decode cX10_crash 25 = .ok (.iconst 0, 1) := by decide +kernel
theorem dX10_crash_26 : decode cX10_crash 26 = .ok (.ireturn, 1) := by decide +kernel
theorem dX10_crash_27 : decode cX10_crash 27 = .ok (.aload_n 0, 1) := by decide +kernel
theorem dX10_crash_28 : decode cX10_crash 28 = .ok (.invokevirtual 351, 3) := by decide +kernel
theorem dX10_crash_31 : decode cX10_crash 31 = .ok (.aload_n 0, 1) := by decide +kernel
theorem dX10_crash_32 : decode cX10_crash 32 = .ok (.aload_n 0, 1) := by decide +kernel
theorem dX10_crash_33 : decode cX10_crash 33 = .ok (.invokevirtual 215, 3) := by decide +kernel
theorem dX10_crash_36 : decode cX10_crash 36 = .ok (.iconst 0, 1) := by decide +kernel
theorem dX10_crash_37 : decode cX10_crash 37 = .ok (.iconst 2, 1) := by decide +kernel
theorem dX10_crash_38 : decode cX10_crash 38 = .ok (.invokevirtual 270, 3) := by decide +kernel
theorem dX10_crash_41 : decode cX10_crash 41 = .ok (.aload_n 0, 1) := by decide +kernel
theorem dX10_crash_42 : decode cX10_crash 42 = .ok (.aload_n 0, 1) := by decide +kernel
theorem dX10_crash_43 : decode cX10_crash 43 = .ok (.invokevirtual 215, 3) := by decide +kernel
theorem dX10_crash_46 : decode cX10_crash 46 = .ok (.iconst 2, 1) := by decide +kernel
theorem dX10_crash_47 : decode cX10_crash 47 = .ok (.iconst 0, 1) := by decide +kernel
theorem dX10_crash_48 : decode cX10_crash 48 = .ok (.invokevirtual 270, 3) := by decide +kernel
theorem dX10_crash_51 : decode cX10_crash 51 = .ok (.aload_n 0, 1) := by decide +kernel
theorem dX10_crash_52 : decode cX10_crash 52 = .ok (.aload_n 0, 1) := by decide +kernel
theorem dX10_crash_53 : decode cX10_crash 53 = .ok (.invokevirtual 215, 3) := by decide +kernel
theorem dX10_crash_56 : decode cX10_crash 56 = .ok (.iconst 1, 1) := by decide +kernel
theorem dX10_crash_57 : decode cX10_crash 57 = .ok (.invokevirtual 323, 3) := by decide +kernel
theorem dX10_crash_60 : decode cX10_crash 60 = .ok (.ireturn, 1) := by decide +kernel
theorem dX10_recover_0 : decode cX10_recover 0 = .ok (.aload_n 0, 1) := by decide +kernel
theorem dX10_recover_1 : decode cX10_recover 1 = .ok (.iconst 0, 1) := by decide +kernel
theorem dX10_recover_2 : decode cX10_recover 2 = .ok (.putfield 50, 3) := by decide +kernel
theorem dX10_recover_5 : decode cX10_recover 5 = .ok (.aload_n 0, 1) := by decide +kernel
theorem dX10_recover_6 : decode cX10_recover 6 = .ok (.aload_n 0, 1) := by decide +kernel
theorem dX10_recover_7 : decode cX10_recover 7 = .ok (.invokevirtual 336, 3) := by decide +kernel
theorem dX10_recover_10 : decode cX10_recover 10 = .ok (.ifCond .le 7, 3) := by decide +kernel
theorem dX10_recover_13 : decode cX10_recover 13 = .ok (.iconst 1, 1) := by decide +kernel
theorem dX10_recover_14 : decode cX10_recover 14 = .ok (.goto 4, 3) := by decide +kernel
theorem dX10_recover_17 : decode cX10_recover 17 = .ok (.iconst 0, 1) := by decide +kernel
theorem dX10_recover_18 : decode cX10_recover 18 = .ok (.iconst 1, 1) := by decide +kernel
theorem dX10_recover_19 : decode cX10_recover 19 = .ok (.invokevirtual 188, 3) := by decide +kernel
theorem dX10_recover_22 : decode cX10_recover 22 = .ok (.ifCond .eq 5, 3) := by decide +kernel
theorem dX10_recover_25 : decode cX10_recover 25 = .ok (.iconst 0, 1) := by decide +kernel
theorem dX10_recover_26 : decode cX10_recover 26 = .ok (.ireturn, 1) := by decide +kernel
theorem dX10_recover_27 : decode cX10_recover 27 = .ok (.aload_n 0, 1) := by decide +kernel
theorem dX10_recover_28 : decode cX10_recover 28 = .ok (.invokevirtual 351, 3) := by decide +kernel
theorem dX10_recover_31 : decode cX10_recover 31 = .ok (.aload_n 0, 1) := by decide +kernel
theorem dX10_recover_32 : decode cX10_recover 32 = .ok (.aload_n 0, 1) := by decide +kernel
theorem dX10_recover_33 : decode cX10_recover 33 = .ok (.invokevirtual 215, 3) := by decide +kernel
theorem dX10_recover_36 : decode cX10_recover 36 = .ok (.iconst 0, 1) := by decide +kernel
theorem dX10_recover_37 : decode cX10_recover 37 = .ok (.iconst 3, 1) := by decide +kernel
theorem dX10_recover_38 : decode cX10_recover 38 = .ok (.invokevirtual 270, 3) := by decide +kernel
theorem dX10_recover_41 : decode cX10_recover 41 = .ok (.iconst 0, 1) := by decide +kernel
theorem dX10_recover_42 : decode cX10_recover 42 = .ok (.istore_n 1, 1) := by decide +kernel
theorem dX10_recover_43 : decode cX10_recover 43 = .ok (.iload_n 1, 1) := by decide +kernel
theorem dX10_recover_44 : decode cX10_recover 44 = .ok (.aload_n 0, 1) := by decide +kernel
theorem dX10_recover_45 : decode cX10_recover 45 = .ok (.getfield 287, 3) := by decide +kernel
theorem dX10_recover_48 : decode cX10_recover 48 = .ok (.if_icmp .ge 30, 3) := by decide +kernel
theorem dX10_recover_51 : decode cX10_recover 51 = .ok (.aload_n 0, 1) := by decide +kernel
theorem dX10_recover_52 : decode cX10_recover 52 = .ok (.aload_n 0, 1) := by decide +kernel
theorem dX10_recover_53 : decode cX10_recover 53 = .ok (.aload_n 0, 1) := by decide +kernel
theorem dX10_recover_54 : decode cX10_recover 54 = .ok (.getfield 34, 3) := by decide +kernel
theorem dX10_recover_57 : decode cX10_recover 57 = .ok (.iload_n 1, 1) := by decide +kernel
theorem dX10_recover_58 : decode cX10_recover 58 = .ok (.iaload, 1) := by decide +kernel
theorem dX10_recover_59 : decode cX10_recover 59 = .ok (.iconst 0, 1) := by decide +kernel
theorem dX10_recover_60 : decode cX10_recover 60 = .ok (.invokevirtual 249, 3) := by decide +kernel
theorem dX10_recover_63 : decode cX10_recover 63 = .ok (.aload_n 0, 1) := by decide +kernel
theorem dX10_recover_64 : decode cX10_recover 64 = .ok (.getfield 34, 3) := by decide +kernel
theorem dX10_recover_67 : decode cX10_recover 67 = .ok (.iload_n 1, 1) := by decide +kernel
theorem dX10_recover_68 : decode cX10_recover 68 = .ok (.iaload, 1) := by decide +kernel
theorem dX10_recover_69 : decode cX10_recover 69 = .ok (.invokevirtual 277, 3) := by decide +kernel
theorem dX10_recover_72 : decode cX10_recover 72 = .ok (.iinc 1 1, 3) := by decide +kernel
theorem dX10_recover_75 : decode cX10_recover 75 = .ok (.goto (-32), 3) := by decide +kernel
theorem dX10_recover_78 : decode cX10_recover 78 = .ok (.aload_n 0, 1) := by decide +kernel
theorem dX10_recover_79 : decode cX10_recover 79 = .ok (.invokevirtual 151, 3) := by decide +kernel
theorem dX10_recover_82 : decode cX10_recover 82 = .ok (.aload_n 0, 1) := by decide +kernel
theorem dX10_recover_83 : decode cX10_recover 83 = .ok (.getfield 287, 3) := by decide +kernel
theorem dX10_recover_86 : decode cX10_recover 86 = .ok (.ireturn, 1) := by decide +kernel
theorem dX10_scratch_0 : decode cX10_scratch 0 = .ok (.aload_n 0, 1) := by decide +kernel
theorem dX10_scratch_1 : decode cX10_scratch 1 = .ok (.iload_n 1, 1) := by decide +kernel
theorem dX10_scratch_2 : decode cX10_scratch 2 = .ok (.invokevirtual 314, 3) := by decide +kernel
theorem dX10_scratch_5 : decode cX10_scratch 5 = .ok (.ifCond .eq 5, 3) := by decide +kernel
theorem dX10_scratch_8 : decode cX10_scratch 8 = .ok (.iconst 0, 1) := by decide +kernel
theorem dX10_scratch_9 : decode cX10_scratch 9 = .ok (.ireturn, 1) := by decide +kernel
theorem dX10_scratch_10 : decode cX10_scratch 10 = .ok (.aload_n 0, 1) := by decide +kernel
theorem dX10_scratch_11 : decode cX10_scratch 11 = .ok (.invokevirtual 351, 3) := by decide +kernel
theorem dX10_scratch_14 : decode cX10_scratch 14 = .ok (.aload_n 0, 1) := by decide +kernel
theorem dX10_scratch_15 : decode cX10_scratch 15 = .ok (.getfield 7, 3) := by decide +kernel
theorem dX10_scratch_18 : decode cX10_scratch 18 = .ok (.bipush 7, 2) := by decide +kernel
theorem dX10_scratch_20 : decode cX10_scratch 20 = .ok (.iload_n 1, 1) := by decide +kernel
theorem dX10_scratch_21 : decode cX10_scratch 21 = .ok (.iadd, 1) := by decide +kernel
theorem dX10_scratch_22 : decode cX10_scratch 22 = .ok (.iaload, 1) := by decide +kernel
theorem dX10_scratch_23 : decode cX10_scratch 23 = .ok (.ifCond .ne 10, 3) := by decide +kernel
theorem dX10_scratch_26 : decode cX10_scratch 26 = .ok (.bipush 103, 2) := by decide +kernel
theorem dX10_scratch_28 : decode cX10_scratch 28 = .ok (.iload_n 1, 1) := by decide +kernel
theorem dX10_scratch_29 : decode cX10_scratch 29 = .ok (.iadd, 1) := by decide +kernel
theorem dX10_scratch_30 : decode cX10_scratch 30 = .ok (.goto 8, 3) := by decide +kernel
theorem dX10_scratch_33 : decode cX10_scratch 33 = .ok (.sipush 199, 3) := by decide +kernel
theorem dX10_scratch_36 : decode cX10_scratch 36 = .ok (.iload_n 1, 1) := by decide +kernel
theorem dX10_scratch_37 : decode cX10_scratch 37 = .ok (.iadd, 1) := by decide +kernel
theorem dX10_scratch_38 : decode cX10_scratch 38 = .ok (.istore_n 2, 1) := by decide +kernel
theorem dX10_scratch_39 : decode cX10_scratch 39 = .ok (.aload_n 0, 1) := by decide +kernel
theorem dX10_scratch_40 : decode cX10_scratch 40 = .ok (.getfield 7, 3) := by decide +kernel
theorem dX10_scratch_43 : decode cX10_scratch 43 = .ok (.iload_n 2, 1) := by decide +kernel
theorem dX10_scratch_44 : decode cX10_scratch 44 = .ok (.iaload, 1) := by decide +kernel
theorem dX10_scratch_45 : decode cX10_scratch 45 = .ok (.iconst 1, 1) := by decide +kernel
theorem dX10_scratch_46 : decode cX10_scratch 46 = .ok (.if_icmp .ne 7, 3) := by decide +kernel
theorem dX10_scratch_49 : decode cX10_scratch 49 = .ok (.iconst 1, 1) := by decide +kernel
theorem dX10_scratch_50 : decode cX10_scratch 50 = .ok (.goto 4, 3) := by decide +kernel
theorem dX10_scratch_53 : decode cX10_scratch 53 = .ok (.iconst 0, 1) := by decide +kernel
theorem dX10_scratch_54 : decode cX10_scratch 54 = .ok (.istore_n 3, 1) := by decide +kernel
theorem dX10_scratch_55 : decode cX10_scratch 55 = .ok (.aload_n 0, 1) := by decide +kernel
theorem dX10_scratch_56 : decode cX10_scratch 56 = .ok (.getfield 7, 3) := by decide +kernel
theorem dX10_scratch_59 : decode cX10_scratch 59 = .ok (.iload_n 2, 1) := by decide +kernel
theorem dX10_scratch_60 : decode cX10_scratch 60 = .ok (.iconst 1, 1) := by decide +kernel
theorem dX10_scratch_61 : decode cX10_scratch 61 = .ok (.iastore, 1) := by decide +kernel
theorem dX10_scratch_62 : decode cX10_scratch 62 = .ok (.iload_n 3, 1) := by decide +kernel
theorem dX10_scratch_63 : decode cX10_scratch 63 = .ok (.ifCond .ne 7, 3) := by decide +kernel
theorem dX10_scratch_66 : decode cX10_scratch 66 = .ok (.iconst 1, 1) := by decide +kernel
theorem dX10_scratch_67 : decode cX10_scratch 67 = .ok (.goto 4, 3) := by decide +kernel
theorem dX10_scratch_70 : decode cX10_scratch 70 = .ok (.iconst 0, 1) := by decide +kernel
theorem dX10_scratch_71 : decode cX10_scratch 71 = .ok (.ireturn, 1) := by decide +kernel
theorem dX10_setScan_0 : decode cX10_setScan 0 = .ok (.aload_n 0, 1) := by decide +kernel
theorem dX10_setScan_1 : decode cX10_setScan 1 = .ok (.iconst 0, 1) := by decide +kernel
theorem dX10_setScan_2 : decode cX10_setScan 2 = .ok (.putfield 50, 3) := by decide +kernel
theorem dX10_setScan_5 : decode cX10_setScan 5 = .ok (.aload_n 0, 1) := by decide +kernel
theorem dX10_setScan_6 : decode cX10_setScan 6 = .ok (.invokevirtual 351, 3) := by decide +kernel
theorem dX10_setScan_9 : decode cX10_setScan 9 = .ok (.aload_n 0, 1) := by decide +kernel
theorem dX10_setScan_10 : decode cX10_setScan 10 = .ok (.getfield 7, 3) := by decide +kernel
theorem dX10_setScan_13 : decode cX10_setScan 13 = .ok (.iconst 5, 1) := by decide +kernel
theorem dX10_setScan_14 : decode cX10_setScan 14 = .ok (.iaload, 1) := by decide +kernel
theorem dX10_setScan_15 : decode cX10_setScan 15 = .ok (.iconst 1, 1) := by decide +kernel
theorem dX10_setScan_16 : decode cX10_setScan 16 = .ok (.if_icmp .ne 7, 3) := by decide +kernel
theorem dX10_setScan_19 : decode cX10_setScan 19 = .ok (.iconst 1, 1) := by decide +kernel
theorem dX10_setScan_20 : decode cX10_setScan 20 = .ok (.goto 4, 3) := by decide +kernel
theorem dX10_setScan_23 : decode cX10_setScan 23 = .ok (.iconst 0, 1) := by decide +kernel
theorem dX10_setScan_24 : decode cX10_setScan 24 = .ok (.istore_n 2, 1) := by decide +kernel
theorem dX10_setScan_25 : decode cX10_setScan 25 = .ok (.aload_n 0, 1) := by decide +kernel
theorem dX10_setScan_26 : decode cX10_setScan 26 = .ok (.getfield 7, 3) := by decide +kernel
theorem dX10_setScan_29 : decode cX10_setScan 29 = .ok (.iconst 5, 1) := by decide +kernel
theorem dX10_setScan_30 : decode cX10_setScan 30 = .ok (.iload_n 1, 1) := by decide +kernel
theorem dX10_setScan_31 : decode cX10_setScan 31 = .ok (.ifCond .eq 7, 3) := by decide +kernel
theorem dX10_setScan_34 : decode cX10_setScan 34 = .ok (.iconst 1, 1) := by decide +kernel
theorem dX10_setScan_35 : decode cX10_setScan 35 = .ok (.goto 4, 3) := by decide +kernel
theorem dX10_setScan_38 : decode cX10_setScan 38 = .ok (.iconst 0, 1) := by decide +kernel
theorem dX10_setScan_39 : decode cX10_setScan 39 = .ok (.iastore, 1) := by decide +kernel
theorem dX10_setScan_40 : decode cX10_setScan 40 = .ok (.iload_n 2, 1) := by decide +kernel
theorem dX10_setScan_41 : decode cX10_setScan 41 = .ok (.ireturn, 1) := by decide +kernel
theorem dX10_copies_0 : decode cX10_copies 0 = .ok (.iconst 0, 1) := by decide +kernel
theorem dX10_copies_1 : decode cX10_copies 1 = .ok (.istore 4, 2) := by decide +kernel
theorem dX10_copies_3 : decode cX10_copies 3 = .ok (.iload 4, 2) := by decide +kernel
theorem dX10_copies_5 : decode cX10_copies 5 = .ok (.sipush 1555, 3) := by decide +kernel
theorem dX10_copies_8 : decode cX10_copies 8 = .ok (.if_icmp .ge 21, 3) := by decide +kernel
theorem dX10_copies_11 : decode cX10_copies 11 = .ok (.aload_n 2, 1) := by decide +kernel
theorem dX10_copies_12 : decode cX10_copies 12 = .ok (.iload_n 3, 1) := by decide +kernel
theorem dX10_copies_13 : decode cX10_copies 13 = .ok (.iload 4, 2) := by decide +kernel
theorem dX10_copies_15 : decode cX10_copies 15 = .ok (.iadd, 1) := by decide +kernel
theorem dX10_copies_16 : decode cX10_copies 16 = .ok (.aload_n 0, 1) := by decide +kernel
theorem dX10_copies_17 : decode cX10_copies 17 = .ok (.iload_n 1, 1) := by decide +kernel
theorem dX10_copies_18 : decode cX10_copies 18 = .ok (.iload 4, 2) := by decide +kernel
theorem dX10_copies_20 : decode cX10_copies 20 = .ok (.iadd, 1) := by decide +kernel
theorem dX10_copies_21 : decode cX10_copies 21 = .ok (.iaload, 1) := by decide +kernel
theorem dX10_copies_22 : decode cX10_copies 22 = .ok (.iastore, 1) := by decide +kernel
theorem dX10_copies_23 : decode cX10_copies 23 = .ok (.iinc 4 1, 3) := by decide +kernel
theorem dX10_copies_26 : decode cX10_copies 26 = .ok (.goto (-23), 3) := by decide +kernel
theorem dX10_copies_29 : decode cX10_copies 29 = .ok (.return_, 1) := by decide +kernel
theorem dX10_keeps_0 : decode cX10_keeps 0 = .ok (.aload_n 0, 1) := by decide +kernel
theorem dX10_keeps_1 : decode cX10_keeps 1 = .ok (.getfield 202, 3) := by decide +kernel
theorem dX10_keeps_4 : decode cX10_keeps 4 = .ok (.bipush 10, 2) := by decide +kernel
theorem dX10_keeps_6 : decode cX10_keeps 6 = .ok (.if_icmp .ne 52, 3) := by decide +kernel
theorem dX10_keeps_9 : decode cX10_keeps 9 = .ok (.aload_n 0, 1) := by decide +kernel
theorem dX10_keeps_10 : decode cX10_keeps 10 = .ok (.dup, 1) := by decide +kernel
theorem dX10_keeps_11 : decode cX10_keeps 11 = .ok (.getfield 202, 3) := by decide +kernel
theorem dX10_keeps_14 : decode cX10_keeps 14 = .ok (.iconst 1, 1) := by decide +kernel
theorem dX10_keeps_15 : decode cX10_keeps 15 = .ok (.isub, 1) := by decide +kernel
theorem dX10_keeps_16 : decode cX10_keeps 16 = .ok (.putfield 202, 3) := by decide +kernel
theorem dX10_keeps_19 : decode cX10_keeps 19 = .ok (.iconst 0, 1) := by decide +kernel
theorem dX10_keeps_20 : decode cX10_keeps 20 = .ok (.istore_n 1, 1) := by decide +kernel
theorem dX10_keeps_21 : decode cX10_keeps 21 = .ok (.iload_n 1, 1) := by decide +kernel
theorem dX10_keeps_22 : decode cX10_keeps 22 = .ok (.aload_n 0, 1) := by decide +kernel
theorem dX10_keeps_23 : decode cX10_keeps 23 = .ok (.getfield 202, 3) := by decide +kernel
theorem dX10_keeps_26 : decode cX10_keeps 26 = .ok (.if_icmp .ge 32, 3) := by decide +kernel
theorem dX10_keeps_29 : decode cX10_keeps 29 = .ok (.aload_n 0, 1) := by decide +kernel
theorem dX10_keeps_30 : decode cX10_keeps 30 = .ok (.getfield 41, 3) := by decide +kernel
theorem dX10_keeps_33 : decode cX10_keeps 33 = .ok (.sipush 1555, 3) := by decide +kernel
theorem dX10_keeps_36 : decode cX10_keeps 36 = .ok (.iload_n 1, 1) := by decide +kernel
theorem dX10_keeps_37 : decode cX10_keeps 37 = .ok (.iconst 1, 1) := by decide +kernel
theorem dX10_keeps_38 : decode cX10_keeps 38 = .ok (.iadd, 1) := by decide +kernel
theorem dX10_keeps_39 : decode cX10_keeps 39 = .ok (.imul, 1) := by decide +kernel
theorem dX10_keeps_40 : decode cX10_keeps 40 = .ok (.aload_n 0, 1) := by decide +kernel
theorem dX10_keeps_41 : decode cX10_keeps 41 = .ok (.getfield 41, 3) := by decide +kernel
theorem dX10_keeps_44 : decode cX10_keeps 44 = .ok (.sipush 1555, 3) := by decide +kernel
theorem dX10_keeps_47 : decode cX10_keeps 47 = .ok (.iload_n 1, 1) := by decide +kernel
theorem dX10_keeps_48 : decode cX10_keeps 48 = .ok (.imul, 1) := by decide +kernel
theorem dX10_keeps_49 : decode cX10_keeps 49 = .ok (.invokestatic 192, 3) := by decide +kernel
theorem dX10_keeps_52 : decode cX10_keeps 52 = .ok (.iinc 1 1, 3) := by decide +kernel
theorem dX10_keeps_55 : decode cX10_keeps 55 = .ok (.goto (-34), 3) := by decide +kernel
theorem dX10_keeps_58 : decode cX10_keeps 58 = .ok (.aload_n 0, 1) := by decide +kernel
theorem dX10_keeps_59 : decode cX10_keeps 59 = .ok (.getfield 7, 3) := by decide +kernel
theorem dX10_keeps_62 : decode cX10_keeps 62 = .ok (.iconst 0, 1) := by decide +kernel
theorem dX10_keeps_63 : decode cX10_keeps 63 = .ok (.aload_n 0, 1) := by decide +kernel
theorem dX10_keeps_64 : decode cX10_keeps 64 = .ok (.getfield 41, 3) := by decide +kernel
theorem dX10_keeps_67 : decode cX10_keeps 67 = .ok (.sipush 1555, 3) := by decide +kernel
theorem dX10_keeps_70 : decode cX10_keeps 70 = .ok (.aload_n 0, 1) := by decide +kernel
theorem dX10_keeps_71 : decode cX10_keeps 71 = .ok (.getfield 202, 3) := by decide +kernel
theorem dX10_keeps_74 : decode cX10_keeps 74 = .ok (.imul, 1) := by decide +kernel
theorem dX10_keeps_75 : decode cX10_keeps 75 = .ok (.invokestatic 192, 3) := by decide +kernel
theorem dX10_keeps_78 : decode cX10_keeps 78 = .ok (.aload_n 0, 1) := by decide +kernel
theorem dX10_keeps_79 : decode cX10_keeps 79 = .ok (.dup, 1) := by decide +kernel
theorem dX10_keeps_80 : decode cX10_keeps 80 = .ok (.getfield 202, 3) := by decide +kernel
theorem dX10_keeps_83 : decode cX10_keeps 83 = .ok (.iconst 1, 1) := by decide +kernel
theorem dX10_keeps_84 : decode cX10_keeps 84 = .ok (.iadd, 1) := by decide +kernel
theorem dX10_keeps_85 : decode cX10_keeps 85 = .ok (.putfield 202, 3) := by decide +kernel
theorem dX10_keeps_88 : decode cX10_keeps 88 = .ok (.return_, 1) := by decide +kernel
theorem dX10_undo_0 : decode cX10_undo 0 = .ok (.aload_n 0, 1) := by decide +kernel
theorem dX10_undo_1 : decode cX10_undo 1 = .ok (.iconst 0, 1) := by decide +kernel
theorem dX10_undo_2 : decode cX10_undo 2 = .ok (.putfield 50, 3) := by decide +kernel
theorem dX10_undo_5 : decode cX10_undo 5 = .ok (.aload_n 0, 1) := by decide +kernel
theorem dX10_undo_6 : decode cX10_undo 6 = .ok (.getfield 202, 3) := by decide +kernel
