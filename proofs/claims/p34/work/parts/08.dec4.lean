theorem dX10_version_1 : decode cX10_version 1 = .ok (.iload_n 1, 1) := by decide +kernel
theorem dX10_version_2 : decode cX10_version 2 = .ok (.iload_n 2, 1) := by decide +kernel
theorem dX10_version_3 : decode cX10_version 3 = .ok (.invokevirtual 93, 3) := by decide +kernel
theorem dX10_version_6 : decode cX10_version 6 = .ok (.astore_n 3, 1) := by decide +kernel
theorem dX10_version_7 : decode cX10_version 7 = .ok (.aload_n 3, 1) := by decide +kernel
theorem dX10_version_8 : decode cX10_version 8 = .ok (.ifnonnull 7, 3) := by decide +kernel
theorem dX10_version_11 : decode cX10_version 11 = .ok (.aconst_null, 1) := by decide +kernel
theorem dX10_version_12 : decode cX10_version 12 = .ok (.goto 13, 3) := by decide +kernel
theorem dX10_version_15 : decode cX10_version 15 = .ok (.aload_n 3, 1) := by decide +kernel
theorem dX10_version_16 : decode cX10_version 16 = .ok (.getfield 97, 3) := by decide +kernel
theorem dX10_version_19 : decode cX10_version 19 = .ok (.aload_n 3, 1) := by decide +kernel
theorem dX10_version_20 : decode cX10_version 20 = .ok (.iload_n 1, 1) := by decide +kernel
theorem dX10_version_21 : decode cX10_version 21 = .ok (.invokevirtual 82, 3) := by decide +kernel
theorem dX10_version_24 : decode cX10_version 24 = .ok (.aaload, 1) := by decide +kernel
theorem dX10_version_25 : decode cX10_version 25 = .ok (.areturn, 1) := by decide +kernel
theorem dX10_there_0 : decode cX10_there 0 = .ok (.iconst 0, 1) := by decide +kernel
theorem dX10_there_1 : decode cX10_there 1 = .ok (.istore_n 2, 1) := by decide +kernel
theorem dX10_there_2 : decode cX10_there 2 = .ok (.iconst 0, 1) := by decide +kernel
theorem dX10_there_3 : decode cX10_there 3 = .ok (.istore_n 3, 1) := by decide +kernel
theorem dX10_there_4 : decode cX10_there 4 = .ok (.iload_n 3, 1) := by decide +kernel
theorem dX10_there_5 : decode cX10_there 5 = .ok (.aload_n 0, 1) := by decide +kernel
theorem dX10_there_6 : decode cX10_there 6 = .ok (.getfield 160, 3) := by decide +kernel
theorem dX10_there_9 : decode cX10_there 9 = .ok (.if_icmp .ge 26, 3) := by decide +kernel
theorem dX10_there_12 : decode cX10_there 12 = .ok (.iload_n 2, 1) := by decide +kernel
theorem dX10_there_13 : decode cX10_there 13 = .ok (.aload_n 0, 1) := by decide +kernel
theorem dX10_there_14 : decode cX10_there 14 = .ok (.iload_n 3, 1) := by decide +kernel
theorem dX10_there_15 : decode cX10_there 15 = .ok (.iload_n 1, 1) := by decide +kernel
theorem dX10_there_16 : decode cX10_there 16 = .ok (.invokevirtual 163, 3) := by decide +kernel
theorem dX10_there_19 : decode cX10_there 19 = .ok (.ifnonnull 7, 3) := by decide +kernel
theorem dX10_there_22 : decode cX10_there 22 = .ok (.iconst 0, 1) := by decide +kernel
theorem dX10_there_23 : decode cX10_there 23 = .ok (.goto 4, 3) := by decide +kernel
theorem dX10_there_26 : decode cX10_there 26 = .ok (.iconst 1, 1) := by decide +kernel
theorem dX10_there_27 : decode cX10_there 27 = .ok (.iadd, 1) := by decide +kernel
theorem dX10_there_28 : decode cX10_there 28 = .ok (.istore_n 2, 1) := by decide +kernel
theorem dX10_there_29 : decode cX10_there 29 = .ok (.iinc 3 1, 3) := by decide +kernel
theorem dX10_there_32 : decode cX10_there 32 = .ok (.goto (-28), 3) := by decide +kernel
theorem dX10_there_35 : decode cX10_there 35 = .ok (.iload_n 2, 1) := by decide +kernel
theorem dX10_there_36 : decode cX10_there 36 = .ok (.ireturn, 1) := by decide +kernel
theorem dX10_good_0 : decode cX10_good 0 = .ok (.iconst 0, 1) := by decide +kernel
theorem dX10_good_1 : decode cX10_good 1 = .ok (.istore_n 1, 1) := by decide +kernel
theorem dX10_good_2 : decode cX10_good 2 = .ok (.iconst 0, 1) := by decide +kernel
theorem dX10_good_3 : decode cX10_good 3 = .ok (.istore_n 2, 1) := by decide +kernel
theorem dX10_good_4 : decode cX10_good 4 = .ok (.iload_n 2, 1) := by decide +kernel
theorem dX10_good_5 : decode cX10_good 5 = .ok (.aload_n 0, 1) := by decide +kernel
theorem dX10_good_6 : decode cX10_good 6 = .ok (.getfield 160, 3) := by decide +kernel
theorem dX10_good_9 : decode cX10_good 9 = .ok (.if_icmp .ge 35, 3) := by decide +kernel
theorem dX10_good_12 : decode cX10_good 12 = .ok (.aload_n 0, 1) := by decide +kernel
theorem dX10_good_13 : decode cX10_good 13 = .ok (.iload_n 2, 1) := by decide +kernel
theorem dX10_good_14 : decode cX10_good 14 = .ok (.bipush 12, 2) := by decide +kernel
theorem dX10_good_16 : decode cX10_good 16 = .ok (.invokevirtual 163, 3) := by decide +kernel
theorem dX10_good_19 : decode cX10_good 19 = .ok (.astore_n 3, 1) := by decide +kernel
theorem dX10_good_20 : decode cX10_good 20 = .ok (.aload_n 3, 1) := by decide +kernel
theorem dX10_good_21 : decode cX10_good 21 = .ok (.ifnull 17, 3) := by decide +kernel
theorem dX10_good_24 : decode cX10_good 24 = .ok (.aload_n 0, 1) := by decide +kernel
theorem dX10_good_25 : decode cX10_good 25 = .ok (.aload_n 3, 1) := by decide +kernel
theorem dX10_good_26 : decode cX10_good 26 = .ok (.invokevirtual 166, 3) := by decide +kernel
theorem dX10_good_29 : decode cX10_good 29 = .ok (.ifCond .eq 9, 3) := by decide +kernel
theorem dX10_good_32 : decode cX10_good 32 = .ok (.iload_n 1, 1) := by decide +kernel
theorem dX10_good_33 : decode cX10_good 33 = .ok (.iconst 1, 1) := by decide +kernel
theorem dX10_good_34 : decode cX10_good 34 = .ok (.iload_n 2, 1) := by decide +kernel
theorem dX10_good_35 : decode cX10_good 35 = .ok (.ishl, 1) := by decide +kernel
theorem dX10_good_36 : decode cX10_good 36 = .ok (.ior, 1) := by decide +kernel
theorem dX10_good_37 : decode cX10_good 37 = .ok (.istore_n 1, 1) := by decide +kernel
theorem dX10_good_38 : decode cX10_good 38 = .ok (.iinc 2 1, 3) := by decide +kernel
theorem dX10_good_41 : decode cX10_good 41 = .ok (.goto (-37), 3) := by decide +kernel
theorem dX10_good_44 : decode cX10_good 44 = .ok (.iload_n 1, 1) := by decide +kernel
theorem dX10_good_45 : decode cX10_good 45 = .ok (.ireturn, 1) := by decide +kernel
theorem dX10_lost_0 : decode cX10_lost 0 = .ok (.iconst 0, 1) := by decide +kernel
theorem dX10_lost_1 : decode cX10_lost 1 = .ok (.istore_n 2, 1) := by decide +kernel
theorem dX10_lost_2 : decode cX10_lost 2 = .ok (.aload_n 0, 1) := by decide +kernel
theorem dX10_lost_3 : decode cX10_lost 3 = .ok (.getfield 54, 3) := by decide +kernel
theorem dX10_lost_6 : decode cX10_lost 6 = .ok (.ifCond .eq 21, 3) := by decide +kernel
theorem dX10_lost_9 : decode cX10_lost 9 = .ok (.aload_n 0, 1) := by decide +kernel
theorem dX10_lost_10 : decode cX10_lost 10 = .ok (.getfield 43, 3) := by decide +kernel
theorem dX10_lost_13 : decode cX10_lost 13 = .ok (.aload_n 0, 1) := by decide +kernel
theorem dX10_lost_14 : decode cX10_lost 14 = .ok (.getfield 54, 3) := by decide +kernel
theorem dX10_lost_17 : decode cX10_lost 17 = .ok (.iconst 1, 1) := by decide +kernel
theorem dX10_lost_18 : decode cX10_lost 18 = .ok (.isub, 1) := by decide +kernel
theorem dX10_lost_19 : decode cX10_lost 19 = .ok (.aaload, 1) := by decide +kernel
theorem dX10_lost_20 : decode cX10_lost 20 = .ok (.getfield 57, 3) := by decide +kernel
theorem dX10_lost_23 : decode cX10_lost 23 = .ok (.iconst 2, 1) := by decide +kernel
theorem dX10_lost_24 : decode cX10_lost 24 = .ok (.if_icmp .eq 5, 3) := by decide +kernel
theorem dX10_lost_27 : decode cX10_lost 27 = .ok (.iconst 0, 1) := by decide +kernel
theorem dX10_lost_28 : decode cX10_lost 28 = .ok (.ireturn, 1) := by decide +kernel
theorem dX10_lost_29 : decode cX10_lost 29 = .ok (.iconst 0, 1) := by decide +kernel
theorem dX10_lost_30 : decode cX10_lost 30 = .ok (.istore_n 3, 1) := by decide +kernel
theorem dX10_lost_31 : decode cX10_lost 31 = .ok (.iload_n 3, 1) := by decide +kernel
theorem dX10_lost_32 : decode cX10_lost 32 = .ok (.aload_n 0, 1) := by decide +kernel
theorem dX10_lost_33 : decode cX10_lost 33 = .ok (.getfield 114, 3) := by decide +kernel
theorem dX10_lost_36 : decode cX10_lost 36 = .ok (.if_icmp .ge 150, 3) := by decide +kernel
theorem dX10_lost_39 : decode cX10_lost 39 = .ok (.aload_n 0, 1) := by decide +kernel
theorem dX10_lost_40 : decode cX10_lost 40 = .ok (.getfield 38, 3) := by decide +kernel
theorem dX10_lost_43 : decode cX10_lost 43 = .ok (.iload_n 3, 1) := by decide +kernel
theorem dX10_lost_44 : decode cX10_lost 44 = .ok (.aaload, 1) := by decide +kernel
theorem dX10_lost_45 : decode cX10_lost 45 = .ok (.getfield 126, 3) := by decide +kernel
theorem dX10_lost_48 : decode cX10_lost 48 = .ok (.aload_n 0, 1) := by decide +kernel
theorem dX10_lost_49 : decode cX10_lost 49 = .ok (.getfield 54, 3) := by decide +kernel
theorem dX10_lost_52 : decode cX10_lost 52 = .ok (.iconst 1, 1) := by decide +kernel
theorem dX10_lost_53 : decode cX10_lost 53 = .ok (.isub, 1) := by decide +kernel
theorem dX10_lost_54 : decode cX10_lost 54 = .ok (.if_icmp .ne 126, 3) := by decide +kernel
theorem dX10_lost_57 : decode cX10_lost 57 = .ok (.aload_n 0, 1) := by decide +kernel
theorem dX10_lost_58 : decode cX10_lost 58 = .ok (.aload_n 0, 1) := by decide +kernel
theorem dX10_lost_59 : decode cX10_lost 59 = .ok (.getfield 38, 3) := by decide +kernel
theorem dX10_lost_62 : decode cX10_lost 62 = .ok (.iload_n 3, 1) := by decide +kernel
theorem dX10_lost_63 : decode cX10_lost 63 = .ok (.aaload, 1) := by decide +kernel
theorem dX10_lost_64 : decode cX10_lost 64 = .ok (.invokevirtual 166, 3) := by decide +kernel
theorem dX10_lost_67 : decode cX10_lost 67 = .ok (.ifCond .ne 6, 3) := by decide +kernel
theorem dX10_lost_70 : decode cX10_lost 70 = .ok (.goto 110, 3) := by decide +kernel
theorem dX10_lost_73 : decode cX10_lost 73 = .ok (.iconst 0, 1) := by decide +kernel
theorem dX10_lost_74 : decode cX10_lost 74 = .ok (.istore 4, 2) := by decide +kernel
theorem dX10_lost_76 : decode cX10_lost 76 = .ok (.iload_n 3, 1) := by decide +kernel
theorem dX10_lost_77 : decode cX10_lost 77 = .ok (.iconst 1, 1) := by decide +kernel
theorem dX10_lost_78 : decode cX10_lost 78 = .ok (.iadd, 1) := by decide +kernel
theorem dX10_lost_79 : decode cX10_lost 79 = .ok (.istore 5, 2) := by decide +kernel
theorem dX10_lost_81 : decode cX10_lost 81 = .ok (.iload 5, 2) := by decide +kernel
theorem dX10_lost_83 : decode cX10_lost 83 = .ok (.aload_n 0, 1) := by decide +kernel
theorem dX10_lost_84 : decode cX10_lost 84 = .ok (.getfield 114, 3) := by decide +kernel
theorem dX10_lost_87 : decode cX10_lost 87 = .ok (.if_icmp .ge 76, 3) := by decide +kernel
theorem dX10_lost_90 : decode cX10_lost 90 = .ok (.iload 4, 2) := by decide +kernel
theorem dX10_lost_92 : decode cX10_lost 92 = .ok (.ifCond .ne 58, 3) := by decide +kernel
theorem dX10_lost_95 : decode cX10_lost 95 = .ok (.aload_n 0, 1) := by decide +kernel
theorem dX10_lost_96 : decode cX10_lost 96 = .ok (.getfield 38, 3) := by decide +kernel
theorem dX10_lost_99 : decode cX10_lost 99 = .ok (.iload 5, 2) := by decide +kernel
theorem dX10_lost_101 : decode cX10_lost 101 = .ok (.aaload, 1) := by decide +kernel
theorem dX10_lost_102 : decode cX10_lost 102 = .ok (.getfield 126, 3) := by decide +kernel
theorem dX10_lost_105 : decode cX10_lost 105 = .ok (.aload_n 0, 1) := by decide +kernel
theorem dX10_lost_106 : decode cX10_lost 106 = .ok (.getfield 54, 3) := by decide +kernel
theorem dX10_lost_109 : decode cX10_lost 109 = .ok (.iconst 1, 1) := by decide +kernel
theorem dX10_lost_110 : decode cX10_lost 110 = .ok (.isub, 1) := by decide +kernel
theorem dX10_lost_111 : decode cX10_lost 111 = .ok (.if_icmp .ne 43, 3) := by decide +kernel
theorem dX10_lost_114 : decode cX10_lost 114 = .ok (.aload_n 0, 1) := by decide +kernel
theorem dX10_lost_115 : decode cX10_lost 115 = .ok (.getfield 38, 3) := by decide +kernel
theorem dX10_lost_118 : decode cX10_lost 118 = .ok (.iload 5, 2) := by decide +kernel
theorem dX10_lost_120 : decode cX10_lost 120 = .ok (.aaload, 1) := by decide +kernel
theorem dX10_lost_121 : decode cX10_lost 121 = .ok (.getfield 111, 3) := by decide +kernel
theorem dX10_lost_124 : decode cX10_lost 124 = .ok (.aload_n 0, 1) := by decide +kernel
theorem dX10_lost_125 : decode cX10_lost 125 = .ok (.getfield 38, 3) := by decide +kernel
theorem dX10_lost_128 : decode cX10_lost 128 = .ok (.iload_n 3, 1) := by decide +kernel
theorem dX10_lost_129 : decode cX10_lost 129 = .ok (.aaload, 1) := by decide +kernel
theorem dX10_lost_130 : decode cX10_lost 130 = .ok (.getfield 111, 3) := by decide +kernel
theorem dX10_lost_133 : decode cX10_lost 133 = .ok (.if_icmp .ne 21, 3) := by decide +kernel
theorem dX10_lost_136 : decode cX10_lost 136 = .ok (.aload_n 0, 1) := by decide +kernel
theorem dX10_lost_137 : decode cX10_lost 137 = .ok (.aload_n 0, 1) := by decide +kernel
theorem dX10_lost_138 : decode cX10_lost 138 = .ok (.getfield 38, 3) := by decide +kernel
theorem dX10_lost_141 : decode cX10_lost 141 = .ok (.iload 5, 2) := by decide +kernel
theorem dX10_lost_143 : decode cX10_lost 143 = .ok (.aaload, 1) := by decide +kernel
theorem dX10_lost_144 : decode cX10_lost 144 = .ok (.invokevirtual 166, 3) := by decide +kernel
theorem dX10_lost_147 : decode cX10_lost 147 = .ok (.ifCond .eq 7, 3) := by decide +kernel
theorem dX10_lost_150 : decode cX10_lost 150 = .ok (.iconst 1, 1) := by decide +kernel
theorem dX10_lost_151 : decode cX10_lost 151 = .ok (.goto 4, 3) := by decide +kernel
theorem dX10_lost_154 : decode cX10_lost 154 = .ok (.iconst 0, 1) := by decide +kernel
theorem dX10_lost_155 : decode cX10_lost 155 = .ok (.istore 4, 2) := by decide +kernel
theorem dX10_lost_157 : decode cX10_lost 157 = .ok (.iinc 5 1, 3) := by decide +kernel
theorem dX10_lost_160 : decode cX10_lost 160 = .ok (.goto (-79), 3) := by decide +kernel
theorem dX10_lost_163 : decode cX10_lost 163 = .ok (.iload 4, 2) := by decide +kernel
theorem dX10_lost_165 : decode cX10_lost 165 = .ok (.ifCond .ne 15, 3) := by decide +kernel
theorem dX10_lost_168 : decode cX10_lost 168 = .ok (.aload_n 1, 1) := by decide +kernel
theorem dX10_lost_169 : decode cX10_lost 169 = .ok (.iload_n 2, 1) := by decide +kernel
theorem dX10_lost_170 : decode cX10_lost 170 = .ok (.iinc 2 1, 3) := by decide +kernel
theorem dX10_lost_173 : decode cX10_lost 173 = .ok (.aload_n 0, 1) := by decide +kernel
theorem dX10_lost_174 : decode cX10_lost 174 = .ok (.getfield 38, 3) := by decide +kernel
theorem dX10_lost_177 : decode cX10_lost 177 = .ok (.iload_n 3, 1) := by decide +kernel
theorem dX10_lost_178 : decode cX10_lost 178 = .ok (.aaload, 1) := by decide +kernel
theorem dX10_lost_179 : decode cX10_lost 179 = .ok (.aastore, 1) := by decide +kernel
theorem dX10_lost_180 : decode cX10_lost 180 = .ok (.iinc 3 1, 3) := by decide +kernel
theorem dX10_lost_183 : decode cX10_lost 183 = .ok (.goto (-152), 3) := by decide +kernel
theorem dX10_lost_186 : decode cX10_lost 186 = .ok (.iload_n 2, 1) := by decide +kernel
theorem dX10_lost_187 : decode cX10_lost 187 = .ok (.ireturn, 1) := by decide +kernel
theorem dX10_whyRecover_0 : decode cX10_whyRecover 0 = .ok (.iload_n 1, 1) := by decide +kernel
theorem dX10_whyRecover_1 : decode cX10_whyRecover 1 = .ok (.ifCond .ne 5, 3) := by decide +kernel
theorem dX10_whyRecover_4 : decode cX10_whyRecover 4 = .ok (.iconst 2, 1) := by decide +kernel
theorem dX10_whyRecover_5 : decode cX10_whyRecover 5 = .ok (.ireturn, 1) := by decide +kernel
theorem dX10_whyRecover_6 : decode cX10_whyRecover 6 = .ok (.aload_n 0, 1) := by decide +kernel
theorem dX10_whyRecover_7 : decode cX10_whyRecover 7 = .ok (.getfield 54, 3) := by decide +kernel
theorem dX10_whyRecover_10 : decode cX10_whyRecover 10 = .ok (.bipush 12, 2) := by decide +kernel
theorem dX10_whyRecover_12 : decode cX10_whyRecover 12 = .ok (.if_icmp .ne 5, 3) := by decide +kernel
theorem dX10_whyRecover_15 : decode cX10_whyRecover 15 = .ok (.iconst 3, 1) := by decide +kernel
theorem dX10_whyRecover_16 : decode cX10_whyRecover 16 = .ok (.ireturn, 1) := by decide +kernel
theorem dX10_whyRecover_17 : decode cX10_whyRecover 17 = .ok (.iload_n 1, 1) := by decide +kernel
theorem dX10_whyRecover_18 : decode cX10_whyRecover 18 = .ok (.iconst 3, 1) := by decide +kernel
theorem dX10_whyRecover_19 : decode cX10_whyRecover 19 = .ok (.iadd, 1) := by decide +kernel
theorem dX10_whyRecover_20 : decode cX10_whyRecover 20 = .ok (.iconst 4, 1) := by decide +kernel
theorem dX10_whyRecover_21 : decode cX10_whyRecover 21 = .ok (.idiv, 1) := by decide +kernel
theorem dX10_whyRecover_22 : decode cX10_whyRecover 22 = .ok (.istore_n 2, 1) := by decide +kernel
theorem dX10_whyRecover_23 : decode cX10_whyRecover 23 = .ok (.aload_n 0, 1) := by decide +kernel
theorem dX10_whyRecover_24 : decode cX10_whyRecover 24 = .ok (.getfield 60, 3) := by decide +kernel
theorem dX10_whyRecover_27 : decode cX10_whyRecover 27 = .ok (.iload_n 2, 1) := by decide +kernel
theorem dX10_whyRecover_28 : decode cX10_whyRecover 28 = .ok (.iadd, 1) := by decide +kernel
theorem dX10_whyRecover_29 : decode cX10_whyRecover 29 = .ok (.aload_n 0, 1) := by decide +kernel
theorem dX10_whyRecover_30 : decode cX10_whyRecover 30 = .ok (.invokevirtual 67, 3) := by decide +kernel
theorem dX10_whyRecover_33 : decode cX10_whyRecover 33 = .ok (.if_icmp .le 7, 3) := by decide +kernel
theorem dX10_whyRecover_36 : decode cX10_whyRecover 36 = .ok (.iconst 4, 1) := by decide +kernel
theorem dX10_whyRecover_37 : decode cX10_whyRecover 37 = .ok (.goto 16, 3) := by decide +kernel
theorem dX10_whyRecover_40 : decode cX10_whyRecover 40 = .ok (.aload_n 0, 1) := by decide +kernel
theorem dX10_whyRecover_41 : decode cX10_whyRecover 41 = .ok (.iload_n 2, 1) := by decide +kernel
theorem dX10_whyRecover_42 : decode cX10_whyRecover 42 = .ok (.invokevirtual 71, 3) := by decide +kernel
theorem dX10_whyRecover_45 : decode cX10_whyRecover 45 = .ok (.ifCond .eq 7, 3) := by decide +kernel
theorem dX10_whyRecover_48 : decode cX10_whyRecover 48 = .ok (.iconst 0, 1) := by decide +kernel
theorem dX10_whyRecover_49 : decode cX10_whyRecover 49 = .ok (.goto 4, 3) := by decide +kernel
theorem dX10_whyRecover_52 : decode cX10_whyRecover 52 = .ok (.iconst 5, 1) := by decide +kernel
theorem dX10_whyRecover_53 : decode cX10_whyRecover 53 = .ok (.ireturn, 1) := by decide +kernel
theorem dX10_use_0 : decode cX10_use 0 = .ok (.aload_n 0, 1) := by decide +kernel
theorem dX10_use_1 : decode cX10_use 1 = .ok (.getfield 7, 3) := by decide +kernel
theorem dX10_use_4 : decode cX10_use 4 = .ok (.iload_n 1, 1) := by decide +kernel
theorem dX10_use_5 : decode cX10_use 5 = .ok (.iaload, 1) := by decide +kernel
theorem dX10_use_6 : decode cX10_use 6 = .ok (.ifCond .eq 13, 3) := by decide +kernel
theorem dX10_use_9 : decode cX10_use 9 = .ok (.aload_n 0, 1) := by decide +kernel
theorem dX10_use_10 : decode cX10_use 10 = .ok (.getfield 7, 3) := by decide +kernel
theorem dX10_use_13 : decode cX10_use 13 = .ok (.iload_n 1, 1) := by decide +kernel
theorem dX10_use_14 : decode cX10_use 14 = .ok (.iaload, 1) := by decide +kernel
theorem dX10_use_15 : decode cX10_use 15 = .ok (.iconst 1, 1) := by decide +kernel
theorem dX10_use_16 : decode cX10_use 16 = .ok (.if_icmp .le 25, 3) := by decide +kernel
theorem dX10_use_19 : decode cX10_use 19 = .ok (.aload_n 0, 1) := by decide +kernel
theorem dX10_use_20 : decode cX10_use 20 = .ok (.getfield 7, 3) := by decide +kernel
theorem dX10_use_23 : decode cX10_use 23 = .ok (.iload_n 1, 1) := by decide +kernel
theorem dX10_use_24 : decode cX10_use 24 = .ok (.iaload, 1) := by decide +kernel
theorem dX10_use_25 : decode cX10_use 25 = .ok (.ifCond .ne 7, 3) := by decide +kernel
theorem dX10_use_28 : decode cX10_use 28 = .ok (.iconst 0, 1) := by decide +kernel
theorem dX10_use_29 : decode cX10_use 29 = .ok (.goto 11, 3) := by decide +kernel
theorem dX10_use_32 : decode cX10_use 32 = .ok (.aload_n 0, 1) := by decide +kernel
theorem dX10_use_33 : decode cX10_use 33 = .ok (.getfield 7, 3) := by decide +kernel
theorem dX10_use_36 : decode cX10_use 36 = .ok (.iload_n 1, 1) := by decide +kernel
theorem dX10_use_37 : decode cX10_use 37 = .ok (.iaload, 1) := by decide +kernel
theorem dX10_use_38 : decode cX10_use 38 = .ok (.iconst 1, 1) := by decide +kernel
theorem dX10_use_39 : decode cX10_use 39 = .ok (.iadd, 1) := by decide +kernel
theorem dX10_use_40 : decode cX10_use 40 = .ok (.ireturn, 1) := by decide +kernel
theorem dX10_use_41 : decode cX10_use 41 = .ok (.aload_n 0, 1) := by decide +kernel
theorem dX10_use_42 : decode cX10_use 42 = .ok (.aload_n 0, 1) := by decide +kernel
theorem dX10_use_43 : decode cX10_use 43 = .ok (.getfield 34, 3) := by decide +kernel
theorem dX10_use_46 : decode cX10_use 46 = .ok (.iload_n 1, 1) := by decide +kernel
theorem dX10_use_47 : decode cX10_use 47 = .ok (.aaload, 1) := by decide +kernel
theorem dX10_use_48 : decode cX10_use 48 = .ok (.getfield 111, 3) := by decide +kernel
theorem dX10_use_51 : decode cX10_use 51 = .ok (.bipush 12, 2) := by decide +kernel
theorem dX10_use_53 : decode cX10_use 53 = .ok (.invokevirtual 163, 3) := by decide +kernel
theorem dX10_use_56 : decode cX10_use 56 = .ok (.aload_n 0, 1) := by decide +kernel
theorem dX10_use_57 : decode cX10_use 57 = .ok (.getfield 34, 3) := by decide +kernel
theorem dX10_use_60 : decode cX10_use 60 = .ok (.iload_n 1, 1) := by decide +kernel
theorem dX10_use_61 : decode cX10_use 61 = .ok (.aaload, 1) := by decide +kernel
theorem dX10_use_62 : decode cX10_use 62 = .ok (.if_acmp .ne 7, 3) := by decide +kernel
theorem dX10_use_65 : decode cX10_use 65 = .ok (.iconst 1, 1) := by decide +kernel
theorem dX10_use_66 : decode cX10_use 66 = .ok (.goto 4, 3) := by decide +kernel
theorem dX10_use_69 : decode cX10_use 69 = .ok (.iconst 2, 1) := by decide +kernel
theorem dX10_use_70 : decode cX10_use 70 = .ok (.ireturn, 1) := by decide +kernel
theorem dX11_init_0 : decode cX11_init 0 = .ok (.aload_n 0, 1) := by decide +kernel
theorem dX11_init_1 : decode cX11_init 1 = .ok (.invokespecial 3, 3) := by decide +kernel
theorem dX11_init_4 : decode cX11_init 4 = .ok (.aload_n 0, 1) := by decide +kernel
theorem dX11_init_5 : decode cX11_init 5 = .ok (.iconst 0, 1) := by decide +kernel
theorem dX11_init_6 : decode cX11_init 6 = .ok (.putfield 9, 3) := by decide +kernel
theorem dX11_init_9 : decode cX11_init 9 = .ok (.aload_n 0, 1) := by decide +kernel
theorem dX11_init_10 : decode cX11_init 10 = .ok (.iconst 0, 1) := by decide +kernel
theorem dX11_init_11 : decode cX11_init 11 = .ok (.putfield 15, 3) := by decide +kernel
theorem dX11_init_14 : decode cX11_init 14 = .ok (.aload_n 0, 1) := by decide +kernel
theorem dX11_init_15 : decode cX11_init 15 = .ok (.sipush 600, 3) := by decide +kernel
theorem dX11_init_18 : decode cX11_init 18 = .ok (.newarray .int, 2) := by decide +kernel
theorem dX11_init_20 : decode cX11_init 20 = .ok (.putfield 18, 3) := by decide +kernel
theorem dX11_init_23 : decode cX11_init 23 = .ok (.aload_n 0, 1) := by decide +kernel
theorem dX11_init_24 : decode cX11_init 24 = .ok (.sipush 600, 3) := by decide +kernel
theorem dX11_init_27 : decode cX11_init 27 = .ok (.newarray .int, 2) := by decide +kernel
theorem dX11_init_29 : decode cX11_init 29 = .ok (.putfield 22, 3) := by decide +kernel
theorem dX11_init_32 : decode cX11_init 32 = .ok (.aload_n 0, 1) := by decide +kernel
theorem dX11_init_33 : decode cX11_init 33 = .ok (.sipush 600, 3) := by decide +kernel
theorem dX11_init_36 : decode cX11_init 36 = .ok (.newarray .long, 2) := by decide +kernel
theorem dX11_init_38 : decode cX11_init 38 = .ok (.putfield 25, 3) := by decide +kernel
theorem dX11_init_41 : decode cX11_init 41 = .ok (.return_, 1) := by decide +kernel
theorem dX11_read_0 : decode cX11_read 0 = .ok (.aload_n 0, 1) := by decide +kernel
theorem dX11_read_1 : decode cX11_read 1 = .ok (.iload_n 2, 1) := by decide +kernel
theorem dX11_read_2 : decode cX11_read 2 = .ok (.putfield 15, 3) := by decide +kernel
theorem dX11_read_5 : decode cX11_read 5 = .ok (.aload_n 0, 1) := by decide +kernel
theorem dX11_read_6 : decode cX11_read 6 = .ok (.iconst 0, 1) := by decide +kernel
theorem dX11_read_7 : decode cX11_read 7 = .ok (.putfield 9, 3) := by decide +kernel
theorem dX11_read_10 : decode cX11_read 10 = .ok (.iconst 0, 1) := by decide +kernel
theorem dX11_read_11 : decode cX11_read 11 = .ok (.istore_n 3, 1) := by decide +kernel
theorem dX11_read_12 : decode cX11_read 12 = .ok (.iconst 0, 1) := by decide +kernel
theorem dX11_read_13 : decode cX11_read 13 = .ok (.istore 4, 2) := by decide +kernel
theorem dX11_read_15 : decode cX11_read 15 = .ok (.iload 4, 2) := by decide +kernel
theorem dX11_read_17 : decode cX11_read 17 = .ok (.aload_n 0, 1) := by decide +kernel
theorem dX11_read_18 : decode cX11_read 18 = .ok (.getfield 15, 3) := by decide +kernel
theorem dX11_read_21 : decode cX11_read 21 = .ok (.if_icmp .ge 102, 3) := by decide +kernel
theorem dX11_read_24 : decode cX11_read 24 = .ok (.aload_n 1, 1) := by decide +kernel
theorem dX11_read_25 : decode cX11_read 25 = .ok (.iload 4, 2) := by decide +kernel
theorem dX11_read_27 : decode cX11_read 27 = .ok (.invokevirtual 29, 3) := by decide +kernel
theorem dX11_read_30 : decode cX11_read 30 = .ok (.istore 5, 2) := by decide +kernel
theorem dX11_read_32 : decode cX11_read 32 = .ok (.iload 5, 2) := by decide +kernel
theorem dX11_read_34 : decode cX11_read 34 = .ok (.iload_n 3, 1) := by decide +kernel
theorem dX11_read_35 : decode cX11_read 35 = .ok (.if_icmp .ne 19, 3) := by decide +kernel
theorem dX11_read_38 : decode cX11_read 38 = .ok (.iload 5, 2) := by decide +kernel
theorem dX11_read_40 : decode cX11_read 40 = .ok (.iconst 1, 1) := by decide +kernel
theorem dX11_read_41 : decode cX11_read 41 = .ok (.if_icmp .eq 9, 3) := by decide +kernel
theorem dX11_read_44 : decode cX11_read 44 = .ok (.iload 5, 2) := by decide +kernel
theorem dX11_read_46 : decode cX11_read 46 = .ok (.iconst 2, 1) := by decide +kernel
theorem dX11_read_47 : decode cX11_read 47 = .ok (.if_icmp .ne 7, 3) := by decide +kernel
theorem dX11_read_50 : decode cX11_read 50 = .ok (.iconst 1, 1) := by decide +kernel
theorem dX11_read_51 : decode cX11_read 51 = .ok (.goto 4, 3) := by decide +kernel
theorem dX11_read_54 : decode cX11_read 54 = .ok (.iconst 0, 1) := by decide +kernel
theorem dX11_read_55 : decode cX11_read 55 = .ok (.istore 6, 2) := by decide +kernel
theorem dX11_read_57 : decode cX11_read 57 = .ok (.iload 5, 2) := by decide +kernel
theorem dX11_read_59 : decode cX11_read 59 = .ok (.ifCond .eq 16, 3) := by decide +kernel
theorem dX11_read_62 : decode cX11_read 62 = .ok (.iload 6, 2) := by decide +kernel
theorem dX11_read_64 : decode cX11_read 64 = .ok (.ifCond .ne 11, 3) := by decide +kernel
theorem dX11_read_67 : decode cX11_read 67 = .ok (.aload_n 0, 1) := by decide +kernel
theorem dX11_read_68 : decode cX11_read 68 = .ok (.iload 5, 2) := by decide +kernel
theorem dX11_read_70 : decode cX11_read 70 = .ok (.iload 4, 2) := by decide +kernel
theorem dX11_read_72 : decode cX11_read 72 = .ok (.invokevirtual 35, 3) := by decide +kernel
theorem dX11_read_75 : decode cX11_read 75 = .ok (.iload 5, 2) := by decide +kernel
theorem dX11_read_77 : decode cX11_read 77 = .ok (.iconst 1, 1) := by decide +kernel
theorem dX11_read_78 : decode cX11_read 78 = .ok (.if_icmp .ne 18, 3) := by decide +kernel
theorem dX11_read_81 : decode cX11_read 81 = .ok (.aload_n 0, 1) := by decide +kernel
theorem dX11_read_82 : decode cX11_read 82 = .ok (.aload_n 1, 1) := by decide +kernel
theorem dX11_read_83 : decode cX11_read 83 = .ok (.iload 4, 2) := by decide +kernel
theorem dX11_read_85 : decode cX11_read 85 = .ok (.invokevirtual 39, 3) := by decide +kernel
theorem dX11_read_88 : decode cX11_read 88 = .ok (.iload 4, 2) := by decide +kernel
theorem dX11_read_90 : decode cX11_read 90 = .ok (.invokevirtual 42, 3) := by decide +kernel
theorem dX11_read_93 : decode cX11_read 93 = .ok (.goto 21, 3) := by decide +kernel
theorem dX11_read_96 : decode cX11_read 96 = .ok (.iload 5, 2) := by decide +kernel
theorem dX11_read_98 : decode cX11_read 98 = .ok (.iconst 2, 1) := by decide +kernel
theorem dX11_read_99 : decode cX11_read 99 = .ok (.if_icmp .ne 15, 3) := by decide +kernel
theorem dX11_read_102 : decode cX11_read 102 = .ok (.aload_n 0, 1) := by decide +kernel
theorem dX11_read_103 : decode cX11_read 103 = .ok (.aload_n 1, 1) := by decide +kernel
theorem dX11_read_104 : decode cX11_read 104 = .ok (.iload 4, 2) := by decide +kernel
theorem dX11_read_106 : decode cX11_read 106 = .ok (.invokevirtual 39, 3) := by decide +kernel
theorem dX11_read_109 : decode cX11_read 109 = .ok (.iload 4, 2) := by decide +kernel
theorem dX11_read_111 : decode cX11_read 111 = .ok (.invokevirtual 45, 3) := by decide +kernel
theorem dX11_read_114 : decode cX11_read 114 = .ok (.iload 5, 2) := by decide +kernel
theorem dX11_read_116 : decode cX11_read 116 = .ok (.istore_n 3, 1) := by decide +kernel
theorem dX11_read_117 : decode cX11_read 117 = .ok (.iinc 4 1, 3) := by decide +kernel
theorem dX11_read_120 : decode cX11_read 120 = .ok (.goto (-105), 3) := by decide +kernel
theorem dX11_read_123 : decode cX11_read 123 = .ok (.return_, 1) := by decide +kernel
theorem dX11_kindOf_0 : decode cX11_kindOf 0 = .ok (.iload_n 1, 1) := by decide +kernel
theorem dX11_kindOf_1 : decode cX11_kindOf 1 = .ok (.aload_n 0, 1) := by decide +kernel
theorem dX11_kindOf_2 : decode cX11_kindOf 2 = .ok (.getfield 9, 3) := by decide +kernel
theorem dX11_kindOf_5 : decode cX11_kindOf 5 = .ok (.if_icmp .ge 15, 3) := by decide +kernel
theorem dX11_kindOf_8 : decode cX11_kindOf 8 = .ok (.aload_n 0, 1) := by decide +kernel
theorem dX11_kindOf_9 : decode cX11_kindOf 9 = .ok (.getfield 18, 3) := by decide +kernel
theorem dX11_kindOf_12 : decode cX11_kindOf 12 = .ok (.iload_n 1, 1) := by decide +kernel
theorem dX11_kindOf_13 : decode cX11_kindOf 13 = .ok (.iconst 0, 1) := by decide +kernel
theorem dX11_kindOf_14 : decode cX11_kindOf 14 = .ok (.invokestatic 48, 3) := by decide +kernel
theorem dX11_kindOf_17 : decode cX11_kindOf 17 = .ok (.goto 4, 3) := by decide +kernel
theorem dX11_kindOf_20 : decode cX11_kindOf 20 = .ok (.iconst 0, 1) := by decide +kernel
theorem dX11_kindOf_21 : decode cX11_kindOf 21 = .ok (.ireturn, 1) := by decide +kernel
theorem dX11_startOf_0 : decode cX11_startOf 0 = .ok (.iload_n 1, 1) := by decide +kernel
theorem dX11_startOf_1 : decode cX11_startOf 1 = .ok (.aload_n 0, 1) := by decide +kernel
theorem dX11_startOf_2 : decode cX11_startOf 2 = .ok (.getfield 9, 3) := by decide +kernel
theorem dX11_startOf_5 : decode cX11_startOf 5 = .ok (.if_icmp .ge 18, 3) := by decide +kernel
theorem dX11_startOf_8 : decode cX11_startOf 8 = .ok (.aload_n 0, 1) := by decide +kernel
theorem dX11_startOf_9 : decode cX11_startOf 9 = .ok (.getfield 22, 3) := by decide +kernel
theorem dX11_startOf_12 : decode cX11_startOf 12 = .ok (.iload_n 1, 1) := by decide +kernel
theorem dX11_startOf_13 : decode cX11_startOf 13 = .ok (.aload_n 0, 1) := by decide +kernel
theorem dX11_startOf_14 : decode cX11_startOf 14 = .ok (.getfield 15, 3) := by decide +kernel
theorem dX11_startOf_17 : decode cX11_startOf 17 = .ok (.invokestatic 48, 3) := by decide +kernel
theorem dX11_startOf_20 : decode cX11_startOf 20 = .ok (.goto 7, 3) := by decide +kernel
theorem dX11_startOf_23 : decode cX11_startOf 23 = .ok (.aload_n 0, 1) := by decide +kernel
theorem dX11_startOf_24 : decode cX11_startOf 24 = .ok (.getfield 15, 3) := by decide +kernel
theorem dX11_startOf_27 : decode cX11_startOf 27 = .ok (.ireturn, 1) := by decide +kernel
theorem dX11_numberOf_0 : decode cX11_numberOf 0 = .ok (.aload_n 0, 1) := by decide +kernel
theorem dX11_numberOf_1 : decode cX11_numberOf 1 = .ok (.getfield 25, 3) := by decide +kernel
theorem dX11_numberOf_4 : decode cX11_numberOf 4 = .ok (.iload_n 1, 1) := by decide +kernel
theorem dX11_numberOf_5 : decode cX11_numberOf 5 = .ok (.ldc2_w 52, 3) := by decide +kernel
theorem dX11_numberOf_8 : decode cX11_numberOf 8 = .ok (.invokestatic 54, 3) := by decide +kernel
theorem dX11_numberOf_11 : decode cX11_numberOf 11 = .ok (.l2i, 1) := by decide +kernel
theorem dX11_numberOf_12 : decode cX11_numberOf 12 = .ok (.ireturn, 1) := by decide +kernel
theorem dX11_valueOf_0 : decode cX11_valueOf 0 = .ok (.aload_n 0, 1) := by decide +kernel
theorem dX11_valueOf_1 : decode cX11_valueOf 1 = .ok (.getfield 25, 3) := by decide +kernel
theorem dX11_valueOf_4 : decode cX11_valueOf 4 = .ok (.iload_n 1, 1) := by decide +kernel
theorem dX11_valueOf_5 : decode cX11_valueOf 5 = .ok (.ldc2_w 52, 3) := by decide +kernel
theorem dX11_valueOf_8 : decode cX11_valueOf 8 = .ok (.invokestatic 54, 3) := by decide +kernel
theorem dX11_valueOf_11 : decode cX11_valueOf 11 = .ok (.lreturn, 1) := by decide +kernel
theorem dX11_begin_0 : decode cX11_begin 0 = .ok (.aload_n 0, 1) := by decide +kernel
theorem dX11_begin_1 : decode cX11_begin 1 = .ok (.getfield 18, 3) := by decide +kernel
theorem dX11_begin_4 : decode cX11_begin 4 = .ok (.aload_n 0, 1) := by decide +kernel
theorem dX11_begin_5 : decode cX11_begin 5 = .ok (.getfield 9, 3) := by decide +kernel
theorem dX11_begin_8 : decode cX11_begin 8 = .ok (.iload_n 1, 1) := by decide +kernel
theorem dX11_begin_9 : decode cX11_begin 9 = .ok (.invokestatic 57, 3) := by decide +kernel
theorem dX11_begin_12 : decode cX11_begin 12 = .ok (.aload_n 0, 1) := by decide +kernel
theorem dX11_begin_13 : decode cX11_begin 13 = .ok (.getfield 22, 3) := by decide +kernel
theorem dX11_begin_16 : decode cX11_begin 16 = .ok (.aload_n 0, 1) := by decide +kernel
theorem dX11_begin_17 : decode cX11_begin 17 = .ok (.getfield 9, 3) := by decide +kernel
theorem dX11_begin_20 : decode cX11_begin 20 = .ok (.iload_n 2, 1) := by decide +kernel
theorem dX11_begin_21 : decode cX11_begin 21 = .ok (.invokestatic 57, 3) := by decide +kernel
theorem dX11_begin_24 : decode cX11_begin 24 = .ok (.aload_n 0, 1) := by decide +kernel
theorem dX11_begin_25 : decode cX11_begin 25 = .ok (.getfield 25, 3) := by decide +kernel
theorem dX11_begin_28 : decode cX11_begin 28 = .ok (.aload_n 0, 1) := by decide +kernel
theorem dX11_begin_29 : decode cX11_begin 29 = .ok (.getfield 9, 3) := by decide +kernel
theorem dX11_begin_32 : decode cX11_begin 32 = .ok (.lconst 0, 1) := by decide +kernel
theorem dX11_begin_33 : decode cX11_begin 33 = .ok (.invokestatic 61, 3) := by decide +kernel
theorem dX11_begin_36 : decode cX11_begin 36 = .ok (.aload_n 0, 1) := by decide +kernel
theorem dX11_begin_37 : decode cX11_begin 37 = .ok (.dup, 1) := by decide +kernel
theorem dX11_begin_38 : decode cX11_begin 38 = .ok (.getfield 9, 3) := by decide +kernel
theorem dX11_begin_41 : decode cX11_begin 41 = .ok (.iconst 1, 1) := by decide +kernel
theorem dX11_begin_42 : decode cX11_begin 42 = .ok (.iadd, 1) := by decide +kernel
theorem dX11_begin_43 : decode cX11_begin 43 = .ok (.putfield 9, 3) := by decide +kernel
theorem dX11_begin_46 : decode cX11_begin 46 = .ok (.return_, 1) := by decide +kernel
theorem dX11_takeLetter_0 : decode cX11_takeLetter 0 = .ok (.aload_n 0, 1) := by decide +kernel
theorem dX11_takeLetter_1 : decode cX11_takeLetter 1 = .ok (.getfield 9, 3) := by decide +kernel
theorem dX11_takeLetter_4 : decode cX11_takeLetter 4 = .ok (.iconst 1, 1) := by decide +kernel
theorem dX11_takeLetter_5 : decode cX11_takeLetter 5 = .ok (.isub, 1) := by decide +kernel
theorem dX11_takeLetter_6 : decode cX11_takeLetter 6 = .ok (.istore_n 3, 1) := by decide +kernel
theorem dX11_takeLetter_7 : decode cX11_takeLetter 7 = .ok (.aload_n 0, 1) := by decide +kernel
theorem dX11_takeLetter_8 : decode cX11_takeLetter 8 = .ok (.getfield 25, 3) := by decide +kernel
theorem dX11_takeLetter_11 : decode cX11_takeLetter 11 = .ok (.iload_n 3, 1) := by decide +kernel
theorem dX11_takeLetter_12 : decode cX11_takeLetter 12 = .ok (.aload_n 0, 1) := by decide +kernel
theorem dX11_takeLetter_13 : decode cX11_takeLetter 13 = .ok (.iload_n 3, 1) := by decide +kernel
theorem dX11_takeLetter_14 : decode cX11_takeLetter 14 = .ok (.invokevirtual 64, 3) := by decide +kernel
theorem dX11_takeLetter_17 : decode cX11_takeLetter 17 = .ok (.iload_n 1, 1) := by decide +kernel
theorem dX11_takeLetter_18 : decode cX11_takeLetter 18 = .ok (.invokestatic 68, 3) := by decide +kernel
theorem dX11_takeLetter_21 : decode cX11_takeLetter 21 = .ok (.invokestatic 61, 3) := by decide +kernel
theorem dX11_takeLetter_24 : decode cX11_takeLetter 24 = .ok (.iload_n 2, 1) := by decide +kernel
theorem dX11_takeLetter_25 : decode cX11_takeLetter 25 = .ok (.aload_n 0, 1) := by decide +kernel
theorem dX11_takeLetter_26 : decode cX11_takeLetter 26 = .ok (.iload_n 3, 1) := by decide +kernel
theorem dX11_takeLetter_27 : decode cX11_takeLetter 27 = .ok (.invokevirtual 72, 3) := by decide +kernel
theorem dX11_takeLetter_30 : decode cX11_takeLetter 30 = .ok (.isub, 1) := by decide +kernel
theorem dX11_takeLetter_31 : decode cX11_takeLetter 31 = .ok (.bipush 8, 2) := by decide +kernel
theorem dX11_takeLetter_33 : decode cX11_takeLetter 33 = .ok (.if_icmp .lt 12, 3) := by decide +kernel
theorem dX11_takeLetter_36 : decode cX11_takeLetter 36 = .ok (.aload_n 0, 1) := by decide +kernel
theorem dX11_takeLetter_37 : decode cX11_takeLetter 37 = .ok (.getfield 18, 3) := by decide +kernel
theorem dX11_takeLetter_40 : decode cX11_takeLetter 40 = .ok (.iload_n 3, 1) := by decide +kernel
theorem dX11_takeLetter_41 : decode cX11_takeLetter 41 = .ok (.iconst 4, 1) := by decide +kernel
theorem dX11_takeLetter_42 : decode cX11_takeLetter 42 = .ok (.invokestatic 57, 3) := by decide +kernel
theorem dX11_takeLetter_45 : decode cX11_takeLetter 45 = .ok (.return_, 1) := by decide +kernel
theorem dX11_takeDigit_0 : decode cX11_takeDigit 0 = .ok (.aload_n 0, 1) := by decide +kernel
theorem dX11_takeDigit_1 : decode cX11_takeDigit 1 = .ok (.getfield 9, 3) := by decide +kernel
theorem dX11_takeDigit_4 : decode cX11_takeDigit 4 = .ok (.iconst 1, 1) := by decide +kernel
theorem dX11_takeDigit_5 : decode cX11_takeDigit 5 = .ok (.isub, 1) := by decide +kernel
theorem dX11_takeDigit_6 : decode cX11_takeDigit 6 = .ok (.istore_n 3, 1) := by decide +kernel
theorem dX11_takeDigit_7 : decode cX11_takeDigit 7 = .ok (.aload_n 0, 1) := by decide +kernel
theorem dX11_takeDigit_8 : decode cX11_takeDigit 8 = .ok (.getfield 25, 3) := by decide +kernel
theorem dX11_takeDigit_11 : decode cX11_takeDigit 11 = .ok (.iload_n 3, 1) := by decide +kernel
theorem dX11_takeDigit_12 : decode cX11_takeDigit 12 = .ok (.aload_n 0, 1) := by decide +kernel
theorem dX11_takeDigit_13 : decode cX11_takeDigit 13 = .ok (.iload_n 3, 1) := by decide +kernel
theorem dX11_takeDigit_14 : decode cX11_takeDigit 14 = .ok (.invokevirtual 64, 3) := by decide +kernel
theorem dX11_takeDigit_17 : decode cX11_takeDigit 17 = .ok (.ldc2_w 75, 3) := by decide +kernel
theorem dX11_takeDigit_20 : decode cX11_takeDigit 20 = .ok (.lmul, 1) := by decide +kernel
theorem dX11_takeDigit_21 : decode cX11_takeDigit 21 = .ok (.iload_n 1, 1) := by decide +kernel
theorem dX11_takeDigit_22 : decode cX11_takeDigit 22 = .ok (.bipush 48, 2) := by decide +kernel
theorem dX11_takeDigit_24 : decode cX11_takeDigit 24 = .ok (.isub, 1) := by decide +kernel
theorem dX11_takeDigit_25 : decode cX11_takeDigit 25 = .ok (.i2l, 1) := by decide +kernel
theorem dX11_takeDigit_26 : decode cX11_takeDigit 26 = .ok (.ladd, 1) := by decide +kernel
theorem dX11_takeDigit_27 : decode cX11_takeDigit 27 = .ok (.invokestatic 61, 3) := by decide +kernel
theorem dX11_takeDigit_30 : decode cX11_takeDigit 30 = .ok (.iload_n 2, 1) := by decide +kernel
theorem dX11_takeDigit_31 : decode cX11_takeDigit 31 = .ok (.aload_n 0, 1) := by decide +kernel
theorem dX11_takeDigit_32 : decode cX11_takeDigit 32 = .ok (.iload_n 3, 1) := by decide +kernel
theorem dX11_takeDigit_33 : decode cX11_takeDigit 33 = .ok (.invokevirtual 72, 3) := by decide +kernel
theorem dX11_takeDigit_36 : decode cX11_takeDigit 36 = .ok (.isub, 1) := by decide +kernel
theorem dX11_takeDigit_37 : decode cX11_takeDigit 37 = .ok (.iconst 3, 1) := by decide +kernel
theorem dX11_takeDigit_38 : decode cX11_takeDigit 38 = .ok (.if_icmp .lt 12, 3) := by decide +kernel
theorem dX11_takeDigit_41 : decode cX11_takeDigit 41 = .ok (.aload_n 0, 1) := by decide +kernel
theorem dX11_takeDigit_42 : decode cX11_takeDigit 42 = .ok (.getfield 18, 3) := by decide +kernel
theorem dX11_takeDigit_45 : decode cX11_takeDigit 45 = .ok (.iload_n 3, 1) := by decide +kernel
theorem dX11_takeDigit_46 : decode cX11_takeDigit 46 = .ok (.iconst 4, 1) := by decide +kernel
theorem dX11_takeDigit_47 : decode cX11_takeDigit 47 = .ok (.invokestatic 57, 3) := by decide +kernel
theorem dX11_takeDigit_50 : decode cX11_takeDigit 50 = .ok (.return_, 1) := by decide +kernel
theorem dX12_init_0 : decode cX12_init 0 = .ok (.aload_n 0, 1) := by decide +kernel
theorem dX12_init_1 : decode cX12_init 1 = .ok (.invokespecial 1, 3) := by decide +kernel
theorem dX12_init_4 : decode cX12_init 4 = .ok (.aload_n 0, 1) := by decide +kernel
theorem dX12_init_5 : decode cX12_init 5 = .ok (.iconst (-1), 1) := by decide +kernel
theorem dX12_init_6 : decode cX12_init 6 = .ok (.putfield 7, 3) := by decide +kernel
theorem dX12_init_9 : decode cX12_init 9 = .ok (.aload_n 0, 1) := by decide +kernel
theorem dX12_init_10 : decode cX12_init 10 = .ok (.iconst (-1), 1) := by decide +kernel
theorem dX12_init_11 : decode cX12_init 11 = .ok (.putfield 13, 3) := by decide +kernel
theorem dX12_init_14 : decode cX12_init 14 = .ok (.aload_n 0, 1) := by decide +kernel
theorem dX12_init_15 : decode cX12_init 15 = .ok (.bipush 10, 2) := by decide +kernel
theorem dX12_init_17 : decode cX12_init 17 = .ok (.newarray .int, 2) := by decide +kernel
theorem dX12_init_19 : decode cX12_init 19 = .ok (.putfield 16, 3) := by decide +kernel
theorem dX12_init_22 : decode cX12_init 22 = .ok (.aload_n 0, 1) := by decide +kernel
theorem dX12_init_23 : decode cX12_init 23 = .ok (.iconst 3, 1) := by decide +kernel
theorem dX12_init_24 : decode cX12_init 24 = .ok (.newarray .int, 2) := by decide +kernel
theorem dX12_init_26 : decode cX12_init 26 = .ok (.putfield 20, 3) := by decide +kernel
theorem dX12_init_29 : decode cX12_init 29 = .ok (.aload_n 0, 1) := by decide +kernel
theorem dX12_init_30 : decode cX12_init 30 = .ok (.bipush 10, 2) := by decide +kernel
theorem dX12_init_32 : decode cX12_init 32 = .ok (.anewarray 23, 3) := by decide +kernel
theorem dX12_init_35 : decode cX12_init 35 = .ok (.putfield 25, 3) := by decide +kernel
theorem dX12_init_38 : decode cX12_init 38 = .ok (.return_, 1) := by decide +kernel
theorem dX12_find_0 : decode cX12_find 0 = .ok (.iconst 0, 1) := by decide +kernel
theorem dX12_find_1 : decode cX12_find 1 = .ok (.istore_n 2, 1) := by decide +kernel
theorem dX12_find_2 : decode cX12_find 2 = .ok (.iload_n 2, 1) := by decide +kernel
theorem dX12_find_3 : decode cX12_find 3 = .ok (.aload_n 0, 1) := by decide +kernel
theorem dX12_find_4 : decode cX12_find 4 = .ok (.getfield 29, 3) := by decide +kernel
theorem dX12_find_7 : decode cX12_find 7 = .ok (.if_icmp .ge 21, 3) := by decide +kernel
theorem dX12_find_10 : decode cX12_find 10 = .ok (.aload_n 0, 1) := by decide +kernel
theorem dX12_find_11 : decode cX12_find 11 = .ok (.getfield 16, 3) := by decide +kernel
theorem dX12_find_14 : decode cX12_find 14 = .ok (.iload_n 2, 1) := by decide +kernel
theorem dX12_find_15 : decode cX12_find 15 = .ok (.iaload, 1) := by decide +kernel
theorem dX12_find_16 : decode cX12_find 16 = .ok (.iload_n 1, 1) := by decide +kernel
theorem dX12_find_17 : decode cX12_find 17 = .ok (.if_icmp .ne 5, 3) := by decide +kernel
theorem dX12_find_20 : decode cX12_find 20 = .ok (.iload_n 2, 1) := by decide +kernel
theorem dX12_find_21 : decode cX12_find 21 = .ok (.ireturn, 1) := by decide +kernel
theorem dX12_find_22 : decode cX12_find 22 = .ok (.iinc 2 1, 3) := by decide +kernel
theorem dX12_find_25 : decode cX12_find 25 = .ok (.goto (-23), 3) := by decide +kernel
theorem dX12_find_28 : decode cX12_find 28 = .ok (.iconst (-1), 1) := by decide +kernel
theorem dX12_find_29 : decode cX12_find 29 = .ok (.ireturn, 1) := by decide +kernel
theorem dX12_enter_0 : decode cX12_enter 0 = .ok (.aload_n 0, 1) := by decide +kernel
theorem dX12_enter_1 : decode cX12_enter 1 = .ok (.iload_n 1, 1) := by decide +kernel
theorem dX12_enter_2 : decode cX12_enter 2 = .ok (.invokevirtual 32, 3) := by decide +kernel
theorem dX12_enter_5 : decode cX12_enter 5 = .ok (.istore_n 3, 1) := by decide +kernel
theorem dX12_enter_6 : decode cX12_enter 6 = .ok (.iload_n 3, 1) := by decide +kernel
theorem dX12_enter_7 : decode cX12_enter 7 = .ok (.ifCond .ge 15, 3) := by decide +kernel
theorem dX12_enter_10 : decode cX12_enter 10 = .ok (.aload_n 0, 1) := by decide +kernel
theorem dX12_enter_11 : decode cX12_enter 11 = .ok (.dup, 1) := by decide +kernel
theorem dX12_enter_12 : decode cX12_enter 12 = .ok (.getfield 29, 3) := by decide +kernel
theorem dX12_enter_15 : decode cX12_enter 15 = .ok (.dup_x1, 1) := by decide +kernel
theorem dX12_enter_16 : decode cX12_enter 16 = .ok (.iconst 1, 1) := by decide +kernel
theorem dX12_enter_17 : decode cX12_enter 17 = .ok (.iadd, 1) := by decide +kernel
theorem dX12_enter_18 : decode cX12_enter 18 = .ok (.putfield 29, 3) := by decide +kernel
theorem dX12_enter_21 : decode cX12_enter 21 = .ok (.istore_n 3, 1) := by decide +kernel
theorem dX12_enter_22 : decode cX12_enter 22 = .ok (.aload_n 0, 1) := by decide +kernel
theorem dX12_enter_23 : decode cX12_enter 23 = .ok (.getfield 16, 3) := by decide +kernel
theorem dX12_enter_26 : decode cX12_enter 26 = .ok (.iload_n 3, 1) := by decide +kernel
theorem dX12_enter_27 : decode cX12_enter 27 = .ok (.iload_n 1, 1) := by decide +kernel
theorem dX12_enter_28 : decode cX12_enter 28 = .ok (.iastore, 1) := by decide +kernel
theorem dX12_enter_29 : decode cX12_enter 29 = .ok (.aload_n 0, 1) := by decide +kernel
theorem dX12_enter_30 : decode cX12_enter 30 = .ok (.getfield 25, 3) := by decide +kernel
theorem dX12_enter_33 : decode cX12_enter 33 = .ok (.iload_n 3, 1) := by decide +kernel
theorem dX12_enter_34 : decode cX12_enter 34 = .ok (.aload_n 2, 1) := by decide +kernel
theorem dX12_enter_35 : decode cX12_enter 35 = .ok (.aastore, 1) := by decide +kernel
theorem dX12_enter_36 : decode cX12_enter 36 = .ok (.return_, 1) := by decide +kernel
theorem dX12_size_0 : decode cX12_size 0 = .ok (.aload_n 0, 1) := by decide +kernel
theorem dX12_size_1 : decode cX12_size 1 = .ok (.getfield 29, 3) := by decide +kernel
theorem dX12_size_4 : decode cX12_size 4 = .ok (.iconst 3, 1) := by decide +kernel
theorem dX12_size_5 : decode cX12_size 5 = .ok (.iadd, 1) := by decide +kernel
theorem dX12_size_6 : decode cX12_size 6 = .ok (.iconst 4, 1) := by decide +kernel
theorem dX12_size_7 : decode cX12_size 7 = .ok (.idiv, 1) := by decide +kernel
theorem dX12_size_8 : decode cX12_size 8 = .ok (.ireturn, 1) := by decide +kernel
theorem dX13_init_0 : decode cX13_init 0 = .ok (.aload_n 0, 1) := by decide +kernel
theorem dX13_init_1 : decode cX13_init 1 = .ok (.invokespecial 1, 3) := by decide +kernel
theorem dX13_init_4 : decode cX13_init 4 = .ok (.aload_n 0, 1) := by decide +kernel
theorem dX13_init_5 : decode cX13_init 5 = .ok (.bipush 8, 2) := by decide +kernel
theorem dX13_init_7 : decode cX13_init 7 = .ok (.newarray .int, 2) := by decide +kernel
theorem dX13_init_9 : decode cX13_init 9 = .ok (.putfield 7, 3) := by decide +kernel
theorem dX13_init_12 : decode cX13_init 12 = .ok (.return_, 1) := by decide +kernel
theorem dX2_init_0 : decode cX2_init 0 = .ok (.aload_n 0, 1) := by decide +kernel
theorem dX2_init_1 : decode cX2_init 1 = .ok (.invokespecial 3, 3) := by decide +kernel
theorem dX2_init_4 : decode cX2_init 4 = .ok (.aload_n 0, 1) := by decide +kernel
theorem dX2_init_5 : decode cX2_init 5 = .ok (.iconst 0, 1) := by decide +kernel
theorem dX2_init_6 : decode cX2_init 6 = .ok (.putfield 9, 3) := by decide +kernel
theorem dX2_init_9 : decode cX2_init 9 = .ok (.aload_n 0, 1) := by decide +kernel
theorem dX2_init_10 : decode cX2_init 10 = .ok (.iconst 0, 1) := by decide +kernel
theorem dX2_init_11 : decode cX2_init 11 = .ok (.putfield 15, 3) := by decide +kernel
theorem dX2_init_14 : decode cX2_init 14 = .ok (.aload_n 0, 1) := by decide +kernel
theorem dX2_init_15 : decode cX2_init 15 = .ok (.bipush 10, 2) := by decide +kernel
theorem dX2_init_17 : decode cX2_init 17 = .ok (.anewarray 18, 3) := by decide +kernel
theorem dX2_init_20 : decode cX2_init 20 = .ok (.putfield 20, 3) := by decide +kernel
theorem dX2_init_23 : decode cX2_init 23 = .ok (.return_, 1) := by decide +kernel
theorem dX2_clear_0 : decode cX2_clear 0 = .ok (.aload_n 0, 1) := by decide +kernel
theorem dX2_clear_1 : decode cX2_clear 1 = .ok (.iconst 0, 1) := by decide +kernel
theorem dX2_clear_2 : decode cX2_clear 2 = .ok (.putfield 9, 3) := by decide +kernel
theorem dX2_clear_5 : decode cX2_clear 5 = .ok (.aload_n 0, 1) := by decide +kernel
theorem dX2_clear_6 : decode cX2_clear 6 = .ok (.iconst 0, 1) := by decide +kernel
theorem dX2_clear_7 : decode cX2_clear 7 = .ok (.putfield 15, 3) := by decide +kernel
theorem dX2_clear_10 : decode cX2_clear 10 = .ok (.return_, 1) := by decide +kernel
theorem dX2_keep_0 : decode cX2_keep 0 = .ok (.aload_n 0, 1) := by decide +kernel
theorem dX2_keep_1 : decode cX2_keep 1 = .ok (.getfield 15, 3) := by decide +kernel
theorem dX2_keep_4 : decode cX2_keep 4 = .ok (.aload_n 0, 1) := by decide +kernel
theorem dX2_keep_5 : decode cX2_keep 5 = .ok (.getfield 9, 3) := by decide +kernel
theorem dX2_keep_8 : decode cX2_keep 8 = .ok (.iadd, 1) := by decide +kernel
theorem dX2_keep_9 : decode cX2_keep 9 = .ok (.bipush 10, 2) := by decide +kernel
theorem dX2_keep_11 : decode cX2_keep 11 = .ok (.irem, 1) := by decide +kernel
theorem dX2_keep_12 : decode cX2_keep 12 = .ok (.istore_n 2, 1) := by decide +kernel
theorem dX2_keep_13 : decode cX2_keep 13 = .ok (.aload_n 0, 1) := by decide +kernel
theorem dX2_keep_14 : decode cX2_keep 14 = .ok (.getfield 9, 3) := by decide +kernel
theorem dX2_keep_17 : decode cX2_keep 17 = .ok (.bipush 10, 2) := by decide +kernel
theorem dX2_keep_19 : decode cX2_keep 19 = .ok (.if_icmp .ge 16, 3) := by decide +kernel
theorem dX2_keep_22 : decode cX2_keep 22 = .ok (.aload_n 0, 1) := by decide +kernel
theorem dX2_keep_23 : decode cX2_keep 23 = .ok (.dup, 1) := by decide +kernel
theorem dX2_keep_24 : decode cX2_keep 24 = .ok (.getfield 9, 3) := by decide +kernel
theorem dX2_keep_27 : decode cX2_keep 27 = .ok (.iconst 1, 1) := by decide +kernel
theorem dX2_keep_28 : decode cX2_keep 28 = .ok (.iadd, 1) := by decide +kernel
theorem dX2_keep_29 : decode cX2_keep 29 = .ok (.putfield 9, 3) := by decide +kernel
theorem dX2_keep_32 : decode cX2_keep 32 = .ok (.goto 16, 3) := by decide +kernel
theorem dX2_keep_35 : decode cX2_keep 35 = .ok (.aload_n 0, 1) := by decide +kernel
theorem dX2_keep_36 : decode cX2_keep 36 = .ok (.aload_n 0, 1) := by decide +kernel
theorem dX2_keep_37 : decode cX2_keep 37 = .ok (.getfield 15, 3) := by decide +kernel
theorem dX2_keep_40 : decode cX2_keep 40 = .ok (.iconst 1, 1) := by decide +kernel
theorem dX2_keep_41 : decode cX2_keep 41 = .ok (.iadd, 1) := by decide +kernel
theorem dX2_keep_42 : decode cX2_keep 42 = .ok (.bipush 10, 2) := by decide +kernel
theorem dX2_keep_44 : decode cX2_keep 44 = .ok (.irem, 1) := by decide +kernel
theorem dX2_keep_45 : decode cX2_keep 45 = .ok (.putfield 15, 3) := by decide +kernel
theorem dX2_keep_48 : decode cX2_keep 48 = .ok (.aload_n 0, 1) := by decide +kernel
theorem dX2_keep_49 : decode cX2_keep 49 = .ok (.getfield 20, 3) := by decide +kernel
theorem dX2_keep_52 : decode cX2_keep 52 = .ok (.iload_n 2, 1) := by decide +kernel
theorem dX2_keep_53 : decode cX2_keep 53 = .ok (.aload_n 1, 1) := by decide +kernel
theorem dX2_keep_54 : decode cX2_keep 54 = .ok (.invokestatic 24, 3) := by decide +kernel
theorem dX2_keep_57 : decode cX2_keep 57 = .ok (.return_, 1) := by decide +kernel
theorem dX3_init_0 : decode cX3_init 0 = .ok (.aload_n 0, 1) := by decide +kernel
theorem dX3_init_1 : decode cX3_init 1 = .ok (.invokespecial 3, 3) := by decide +kernel
theorem dX3_init_4 : decode cX3_init 4 = .ok (.aload_n 0, 1) := by decide +kernel
theorem dX3_init_5 : decode cX3_init 5 = .ok (.sipush 600, 3) := by decide +kernel
theorem dX3_init_8 : decode cX3_init 8 = .ok (.newarray .int, 2) := by decide +kernel
theorem dX3_init_10 : decode cX3_init 10 = .ok (.putfield 9, 3) := by decide +kernel
theorem dX3_init_13 : decode cX3_init 13 = .ok (.aload_n 0, 1) := by decide +kernel
theorem dX3_init_14 : decode cX3_init 14 = .ok (.iconst 0, 1) := by decide +kernel
theorem dX3_init_15 : decode cX3_init 15 = .ok (.putfield 15, 3) := by decide +kernel
theorem dX3_init_18 : decode cX3_init 18 = .ok (.return_, 1) := by decide +kernel
theorem dX3_hasRoom_0 : decode cX3_hasRoom 0 = .ok (.aload_n 0, 1) := by decide +kernel
theorem dX3_hasRoom_1 : decode cX3_hasRoom 1 = .ok (.getfield 15, 3) := by decide +kernel
theorem dX3_hasRoom_4 : decode cX3_hasRoom 4 = .ok (.iload_n 1, 1) := by decide +kernel
theorem dX3_hasRoom_5 : decode cX3_hasRoom 5 = .ok (.iadd, 1) := by decide +kernel
theorem dX3_hasRoom_6 : decode cX3_hasRoom 6 = .ok (.sipush 600, 3) := by decide +kernel
theorem dX3_hasRoom_9 : decode cX3_hasRoom 9 = .ok (.if_icmp .gt 7, 3) := by decide +kernel
theorem dX3_hasRoom_12 : decode cX3_hasRoom 12 = .ok (.iconst 1, 1) := by decide +kernel
theorem dX3_hasRoom_13 : decode cX3_hasRoom 13 = .ok (.goto 4, 3) := by decide +kernel
theorem dX3_hasRoom_16 : decode cX3_hasRoom 16 = .ok (.iconst 0, 1) := by decide +kernel
theorem dX3_hasRoom_17 : decode cX3_hasRoom 17 = .ok (.ireturn, 1) := by decide +kernel
theorem dX3_addBytes_0 : decode cX3_addBytes 0 = .ok (.aload_n 0, 1) := by decide +kernel
theorem dX3_addBytes_1 : decode cX3_addBytes 1 = .ok (.iload_n 1, 1) := by decide +kernel
theorem dX3_addBytes_2 : decode cX3_addBytes 2 = .ok (.bipush 24, 2) := by decide +kernel
theorem dX3_addBytes_4 : decode cX3_addBytes 4 = .ok (.iushr, 1) := by decide +kernel
theorem dX3_addBytes_5 : decode cX3_addBytes 5 = .ok (.invokevirtual 19, 3) := by decide +kernel
theorem dX3_addBytes_8 : decode cX3_addBytes 8 = .ok (.aload_n 0, 1) := by decide +kernel
theorem dX3_addBytes_9 : decode cX3_addBytes 9 = .ok (.iload_n 1, 1) := by decide +kernel
theorem dX3_addBytes_10 : decode cX3_addBytes 10 = .ok (.bipush 16, 2) := by decide +kernel
theorem dX3_addBytes_12 : decode cX3_addBytes 12 = .ok (.iushr, 1) := by decide +kernel
theorem dX3_addBytes_13 : decode cX3_addBytes 13 = .ok (.invokevirtual 19, 3) := by decide +kernel
theorem dX3_addBytes_16 : decode cX3_addBytes 16 = .ok (.aload_n 0, 1) := by decide +kernel
theorem dX3_addBytes_17 : decode cX3_addBytes 17 = .ok (.iload_n 1, 1) := by decide +kernel
theorem dX3_addBytes_18 : decode cX3_addBytes 18 = .ok (.bipush 8, 2) := by decide +kernel
theorem dX3_addBytes_20 : decode cX3_addBytes 20 = .ok (.iushr, 1) := by decide +kernel
theorem dX3_addBytes_21 : decode cX3_addBytes 21 = .ok (.invokevirtual 19, 3) := by decide +kernel
theorem dX3_addBytes_24 : decode cX3_addBytes 24 = .ok (.aload_n 0, 1) := by decide +kernel
theorem dX3_addBytes_25 : decode cX3_addBytes 25 = .ok (.iload_n 1, 1) := by decide +kernel
theorem dX3_addBytes_26 : decode cX3_addBytes 26 = .ok (.invokevirtual 19, 3) := by decide +kernel
theorem dX3_addBytes_29 : decode cX3_addBytes 29 = .ok (.return_, 1) := by decide +kernel
theorem dX3_addByte_0 : decode cX3_addByte 0 = .ok (.aload_n 0, 1) := by decide +kernel
theorem dX3_addByte_1 : decode cX3_addByte 1 = .ok (.getfield 9, 3) := by decide +kernel
theorem dX3_addByte_4 : decode cX3_addByte 4 = .ok (.aload_n 0, 1) := by decide +kernel
theorem dX3_addByte_5 : decode cX3_addByte 5 = .ok (.getfield 15, 3) := by decide +kernel
theorem dX3_addByte_8 : decode cX3_addByte 8 = .ok (.iload_n 1, 1) := by decide +kernel
theorem dX3_addByte_9 : decode cX3_addByte 9 = .ok (.sipush 255, 3) := by decide +kernel
theorem dX3_addByte_12 : decode cX3_addByte 12 = .ok (.iand, 1) := by decide +kernel
theorem dX3_addByte_13 : decode cX3_addByte 13 = .ok (.invokestatic 23, 3) := by decide +kernel
theorem dX3_addByte_16 : decode cX3_addByte 16 = .ok (.aload_n 0, 1) := by decide +kernel
theorem dX3_addByte_17 : decode cX3_addByte 17 = .ok (.dup, 1) := by decide +kernel
theorem dX3_addByte_18 : decode cX3_addByte 18 = .ok (.getfield 15, 3) := by decide +kernel
theorem dX3_addByte_21 : decode cX3_addByte 21 = .ok (.iconst 1, 1) := by decide +kernel
theorem dX3_addByte_22 : decode cX3_addByte 22 = .ok (.iadd, 1) := by decide +kernel
theorem dX3_addByte_23 : decode cX3_addByte 23 = .ok (.putfield 15, 3) := by decide +kernel
theorem dX3_addByte_26 : decode cX3_addByte 26 = .ok (.return_, 1) := by decide +kernel
theorem dX3_byteAt_0 : decode cX3_byteAt 0 = .ok (.aload_n 0, 1) := by decide +kernel
theorem dX3_byteAt_1 : decode cX3_byteAt 1 = .ok (.getfield 9, 3) := by decide +kernel
theorem dX3_byteAt_4 : decode cX3_byteAt 4 = .ok (.iload_n 1, 1) := by decide +kernel
theorem dX3_byteAt_5 : decode cX3_byteAt 5 = .ok (.iconst (-1), 1) := by decide +kernel
theorem dX3_byteAt_6 : decode cX3_byteAt 6 = .ok (.invokestatic 27, 3) := by decide +kernel
theorem dX3_byteAt_9 : decode cX3_byteAt 9 = .ok (.ireturn, 1) := by decide +kernel
theorem dX3_kindAt_0 : decode cX3_kindAt 0 = .ok (.aload_n 0, 1) := by decide +kernel
theorem dX3_kindAt_1 : decode cX3_kindAt 1 = .ok (.iload_n 1, 1) := by decide +kernel
theorem dX3_kindAt_2 : decode cX3_kindAt 2 = .ok (.invokevirtual 31, 3) := by decide +kernel
theorem dX3_kindAt_5 : decode cX3_kindAt 5 = .ok (.istore_n 2, 1) := by decide +kernel
theorem dX3_kindAt_6 : decode cX3_kindAt 6 = .ok (.iload_n 2, 1) := by decide +kernel
theorem dX3_kindAt_7 : decode cX3_kindAt 7 = .ok (.invokestatic 35, 3) := by decide +kernel
theorem dX3_kindAt_10 : decode cX3_kindAt 10 = .ok (.ifCond .eq 5, 3) := by decide +kernel
theorem dX3_kindAt_13 : decode cX3_kindAt 13 = .ok (.iconst 1, 1) := by decide +kernel
theorem dX3_kindAt_14 : decode cX3_kindAt 14 = .ok (.ireturn, 1) := by decide +kernel
theorem dX3_kindAt_15 : decode cX3_kindAt 15 = .ok (.iload_n 2, 1) := by decide +kernel
theorem dX3_kindAt_16 : decode cX3_kindAt 16 = .ok (.bipush 48, 2) := by decide +kernel
theorem dX3_kindAt_18 : decode cX3_kindAt 18 = .ok (.if_icmp .lt 11, 3) := by decide +kernel
theorem dX3_kindAt_21 : decode cX3_kindAt 21 = .ok (.iload_n 2, 1) := by decide +kernel
theorem dX3_kindAt_22 : decode cX3_kindAt 22 = .ok (.bipush 57, 2) := by decide +kernel
theorem dX3_kindAt_24 : decode cX3_kindAt 24 = .ok (.if_icmp .gt 5, 3) := by decide +kernel
theorem dX3_kindAt_27 : decode cX3_kindAt 27 = .ok (.iconst 2, 1) := by decide +kernel
theorem dX3_kindAt_28 : decode cX3_kindAt 28 = .ok (.ireturn, 1) := by decide +kernel
theorem dX3_kindAt_29 : decode cX3_kindAt 29 = .ok (.iload_n 2, 1) := by decide +kernel
theorem dX3_kindAt_30 : decode cX3_kindAt 30 = .ok (.bipush 32, 2) := by decide +kernel
theorem dX3_kindAt_32 : decode cX3_kindAt 32 = .ok (.if_icmp .eq 9, 3) := by decide +kernel
theorem dX3_kindAt_35 : decode cX3_kindAt 35 = .ok (.iload_n 2, 1) := by decide +kernel
theorem dX3_kindAt_36 : decode cX3_kindAt 36 = .ok (.bipush 10, 2) := by decide +kernel
theorem dX3_kindAt_38 : decode cX3_kindAt 38 = .ok (.if_icmp .ne 5, 3) := by decide +kernel
theorem dX3_kindAt_41 : decode cX3_kindAt 41 = .ok (.iconst 0, 1) := by decide +kernel
theorem dX3_kindAt_42 : decode cX3_kindAt 42 = .ok (.ireturn, 1) := by decide +kernel
theorem dX3_kindAt_43 : decode cX3_kindAt 43 = .ok (.iload_n 2, 1) := by decide +kernel
theorem dX3_kindAt_44 : decode cX3_kindAt 44 = .ok (.bipush 59, 2) := by decide +kernel
theorem dX3_kindAt_46 : decode cX3_kindAt 46 = .ok (.if_icmp .ne 7, 3) := by decide +kernel
theorem dX3_kindAt_49 : decode cX3_kindAt 49 = .ok (.iconst 3, 1) := by decide +kernel
theorem dX3_kindAt_50 : decode cX3_kindAt 50 = .ok (.goto 4, 3) := by decide +kernel
theorem dX3_kindAt_53 : decode cX3_kindAt 53 = .ok (.iconst 4, 1) := by decide +kernel
theorem dX3_kindAt_54 : decode cX3_kindAt 54 = .ok (.ireturn, 1) := by decide +kernel
theorem dX4_init_0 : decode cX4_init 0 = .ok (.aload_n 0, 1) := by decide +kernel
theorem dX4_init_1 : decode cX4_init 1 = .ok (.invokespecial 3, 3) := by decide +kernel
theorem dX4_init_4 : decode cX4_init 4 = .ok (.aload_n 0, 1) := by decide +kernel
theorem dX4_init_5 : decode cX4_init 5 = .ok (.iconst 0, 1) := by decide +kernel
theorem dX4_init_6 : decode cX4_init 6 = .ok (.putfield 9, 3) := by decide +kernel
theorem dX4_init_9 : decode cX4_init 9 = .ok (.aload_n 0, 1) := by decide +kernel
theorem dX4_init_10 : decode cX4_init 10 = .ok (.iconst (-1), 1) := by decide +kernel
theorem dX4_init_11 : decode cX4_init 11 = .ok (.putfield 15, 3) := by decide +kernel
theorem dX4_init_14 : decode cX4_init 14 = .ok (.aload_n 0, 1) := by decide +kernel
theorem dX4_init_15 : decode cX4_init 15 = .ok (.bipush 8, 2) := by decide +kernel
theorem dX4_init_17 : decode cX4_init 17 = .ok (.putfield 18, 3) := by decide +kernel
theorem dX4_init_20 : decode cX4_init 20 = .ok (.aload_n 0, 1) := by decide +kernel
theorem dX4_init_21 : decode cX4_init 21 = .ok (.iconst 0, 1) := by decide +kernel
theorem dX4_init_22 : decode cX4_init 22 = .ok (.putfield 21, 3) := by decide +kernel
theorem dX4_init_25 : decode cX4_init 25 = .ok (.aload_n 0, 1) := by decide +kernel
theorem dX4_init_26 : decode cX4_init 26 = .ok (.iconst 0, 1) := by decide +kernel
theorem dX4_init_27 : decode cX4_init 27 = .ok (.putfield 24, 3) := by decide +kernel
theorem dX4_init_30 : decode cX4_init 30 = .ok (.aload_n 0, 1) := by decide +kernel
theorem dX4_init_31 : decode cX4_init 31 = .ok (.bipush 10, 2) := by decide +kernel
theorem dX4_init_33 : decode cX4_init 33 = .ok (.newarray .long, 2) := by decide +kernel
theorem dX4_init_35 : decode cX4_init 35 = .ok (.putfield 27, 3) := by decide +kernel
theorem dX4_init_38 : decode cX4_init 38 = .ok (.aload_n 0, 1) := by decide +kernel
theorem dX4_init_39 : decode cX4_init 39 = .ok (.iconst 0, 1) := by decide +kernel
theorem dX4_init_40 : decode cX4_init 40 = .ok (.putfield 31, 3) := by decide +kernel
theorem dX4_init_43 : decode cX4_init 43 = .ok (.aload_n 0, 1) := by decide +kernel
theorem dX4_init_44 : decode cX4_init 44 = .ok (.bipush 120, 2) := by decide +kernel
theorem dX4_init_46 : decode cX4_init 46 = .ok (.newarray .int, 2) := by decide +kernel
theorem dX4_init_48 : decode cX4_init 48 = .ok (.putfield 34, 3) := by decide +kernel
theorem dX4_init_51 : decode cX4_init 51 = .ok (.aload_n 0, 1) := by decide +kernel
theorem dX4_init_52 : decode cX4_init 52 = .ok (.bipush 120, 2) := by decide +kernel
theorem dX4_init_54 : decode cX4_init 54 = .ok (.newarray .int, 2) := by decide +kernel
theorem dX4_init_56 : decode cX4_init 56 = .ok (.putfield 38, 3) := by decide +kernel
theorem dX4_init_59 : decode cX4_init 59 = .ok (.aload_n 0, 1) := by decide +kernel
theorem dX4_init_60 : decode cX4_init 60 = .ok (.bipush 120, 2) := by decide +kernel
theorem dX4_init_62 : decode cX4_init 62 = .ok (.newarray .int, 2) := by decide +kernel
theorem dX4_init_64 : decode cX4_init 64 = .ok (.putfield 41, 3) := by decide +kernel
theorem dX4_init_67 : decode cX4_init 67 = .ok (.aload_n 0, 1) := by decide +kernel
theorem dX4_init_68 : decode cX4_init 68 = .ok (.bipush 120, 2) := by decide +kernel
theorem dX4_init_70 : decode cX4_init 70 = .ok (.newarray .int, 2) := by decide +kernel
theorem dX4_init_72 : decode cX4_init 72 = .ok (.putfield 44, 3) := by decide +kernel
theorem dX4_init_75 : decode cX4_init 75 = .ok (.aload_n 0, 1) := by decide +kernel
theorem dX4_init_76 : decode cX4_init 76 = .ok (.bipush 120, 2) := by decide +kernel
theorem dX4_init_78 : decode cX4_init 78 = .ok (.newarray .int, 2) := by decide +kernel
theorem dX4_init_80 : decode cX4_init 80 = .ok (.putfield 47, 3) := by decide +kernel
theorem dX4_init_83 : decode cX4_init 83 = .ok (.aload_n 0, 1) := by decide +kernel
theorem dX4_init_84 : decode cX4_init 84 = .ok (.bipush 96, 2) := by decide +kernel
theorem dX4_init_86 : decode cX4_init 86 = .ok (.newarray .boolean, 2) := by decide +kernel
theorem dX4_init_88 : decode cX4_init 88 = .ok (.putfield 50, 3) := by decide +kernel
theorem dX4_init_91 : decode cX4_init 91 = .ok (.aload_n 0, 1) := by decide +kernel
theorem dX4_init_92 : decode cX4_init 92 = .ok (.new 54, 3) := by decide +kernel
theorem dX4_init_95 : decode cX4_init 95 = .ok (.dup, 1) := by decide +kernel
theorem dX4_init_96 : decode cX4_init 96 = .ok (.invokespecial 56, 3) := by decide +kernel
theorem dX4_init_99 : decode cX4_init 99 = .ok (.putfield 57, 3) := by decide +kernel
theorem dX4_init_102 : decode cX4_init 102 = .ok (.aload_n 0, 1) := by decide +kernel
theorem dX4_init_103 : decode cX4_init 103 = .ok (.iconst 0, 1) := by decide +kernel
theorem dX4_init_104 : decode cX4_init 104 = .ok (.putfield 61, 3) := by decide +kernel
theorem dX4_init_107 : decode cX4_init 107 = .ok (.return_, 1) := by decide +kernel
theorem dX4_read_0 : decode cX4_read 0 = .ok (.aload_n 0, 1) := by decide +kernel
theorem dX4_read_1 : decode cX4_read 1 = .ok (.iconst 0, 1) := by decide +kernel
theorem dX4_read_2 : decode cX4_read 2 = .ok (.putfield 9, 3) := by decide +kernel
theorem dX4_read_5 : decode cX4_read 5 = .ok (.aload_n 0, 1) := by decide +kernel
theorem dX4_read_6 : decode cX4_read 6 = .ok (.iconst (-1), 1) := by decide +kernel
theorem dX4_read_7 : decode cX4_read 7 = .ok (.putfield 15, 3) := by decide +kernel
theorem dX4_read_10 : decode cX4_read 10 = .ok (.aload_n 0, 1) := by decide +kernel
theorem dX4_read_11 : decode cX4_read 11 = .ok (.bipush 8, 2) := by decide +kernel
theorem dX4_read_13 : decode cX4_read 13 = .ok (.putfield 18, 3) := by decide +kernel
theorem dX4_read_16 : decode cX4_read 16 = .ok (.aload_n 0, 1) := by decide +kernel
theorem dX4_read_17 : decode cX4_read 17 = .ok (.iconst 0, 1) := by decide +kernel
theorem dX4_read_18 : decode cX4_read 18 = .ok (.putfield 21, 3) := by decide +kernel
theorem dX4_read_21 : decode cX4_read 21 = .ok (.aload_n 0, 1) := by decide +kernel
theorem dX4_read_22 : decode cX4_read 22 = .ok (.iconst 0, 1) := by decide +kernel
theorem dX4_read_23 : decode cX4_read 23 = .ok (.putfield 24, 3) := by decide +kernel
theorem dX4_read_26 : decode cX4_read 26 = .ok (.aload_n 0, 1) := by decide +kernel
theorem dX4_read_27 : decode cX4_read 27 = .ok (.iconst 0, 1) := by decide +kernel
theorem dX4_read_28 : decode cX4_read 28 = .ok (.putfield 31, 3) := by decide +kernel
theorem dX4_read_31 : decode cX4_read 31 = .ok (.aload_n 0, 1) := by decide +kernel
theorem dX4_read_32 : decode cX4_read 32 = .ok (.getfield 50, 3) := by decide +kernel
theorem dX4_read_35 : decode cX4_read 35 = .ok (.iconst 0, 1) := by decide +kernel
theorem dX4_read_36 : decode cX4_read 36 = .ok (.invokestatic 64, 3) := by decide +kernel
theorem dX4_read_39 : decode cX4_read 39 = .ok (.aload_n 0, 1) := by decide +kernel
theorem dX4_read_40 : decode cX4_read 40 = .ok (.getfield 57, 3) := by decide +kernel
theorem dX4_read_43 : decode cX4_read 43 = .ok (.aload_n 1, 1) := by decide +kernel
theorem dX4_read_44 : decode cX4_read 44 = .ok (.iload_n 2, 1) := by decide +kernel
theorem dX4_read_45 : decode cX4_read 45 = .ok (.invokevirtual 68, 3) := by decide +kernel
theorem dX4_read_48 : decode cX4_read 48 = .ok (.aload_n 0, 1) := by decide +kernel
theorem dX4_read_49 : decode cX4_read 49 = .ok (.iconst 0, 1) := by decide +kernel
theorem dX4_read_50 : decode cX4_read 50 = .ok (.putfield 61, 3) := by decide +kernel
theorem dX4_read_53 : decode cX4_read 53 = .ok (.aload_n 0, 1) := by decide +kernel
theorem dX4_read_54 : decode cX4_read 54 = .ok (.invokevirtual 72, 3) := by decide +kernel
theorem dX4_read_57 : decode cX4_read 57 = .ok (.istore_n 3, 1) := by decide +kernel
theorem dX4_read_58 : decode cX4_read 58 = .ok (.iload_n 3, 1) := by decide +kernel
theorem dX4_read_59 : decode cX4_read 59 = .ok (.ifCond .eq 52, 3) := by decide +kernel
theorem dX4_read_62 : decode cX4_read 62 = .ok (.aload_n 0, 1) := by decide +kernel
theorem dX4_read_63 : decode cX4_read 63 = .ok (.getfield 61, 3) := by decide +kernel
theorem dX4_read_66 : decode cX4_read 66 = .ok (.aload_n 0, 1) := by decide +kernel
theorem dX4_read_67 : decode cX4_read 67 = .ok (.getfield 57, 3) := by decide +kernel
theorem dX4_read_70 : decode cX4_read 70 = .ok (.getfield 76, 3) := by decide +kernel
theorem dX4_read_73 : decode cX4_read 73 = .ok (.iconst 1, 1) := by decide +kernel
theorem dX4_read_74 : decode cX4_read 74 = .ok (.isub, 1) := by decide +kernel
theorem dX4_read_75 : decode cX4_read 75 = .ok (.if_icmp .ge 36, 3) := by decide +kernel
theorem dX4_read_78 : decode cX4_read 78 = .ok (.aload_n 0, 1) := by decide +kernel
theorem dX4_read_79 : decode cX4_read 79 = .ok (.dup, 1) := by decide +kernel
theorem dX4_read_80 : decode cX4_read 80 = .ok (.getfield 61, 3) := by decide +kernel
theorem dX4_read_83 : decode cX4_read 83 = .ok (.iconst 1, 1) := by decide +kernel
theorem dX4_read_84 : decode cX4_read 84 = .ok (.iadd, 1) := by decide +kernel
theorem dX4_read_85 : decode cX4_read 85 = .ok (.putfield 61, 3) := by decide +kernel
theorem dX4_read_88 : decode cX4_read 88 = .ok (.aload_n 0, 1) := by decide +kernel
theorem dX4_read_89 : decode cX4_read 89 = .ok (.invokevirtual 77, 3) := by decide +kernel
theorem dX4_read_92 : decode cX4_read 92 = .ok (.ifCond .eq 14, 3) := by decide +kernel
theorem dX4_read_95 : decode cX4_read 95 = .ok (.aload_n 0, 1) := by decide +kernel
theorem dX4_read_96 : decode cX4_read 96 = .ok (.invokevirtual 80, 3) := by decide +kernel
theorem dX4_read_99 : decode cX4_read 99 = .ok (.ifCond .eq 7, 3) := by decide +kernel
theorem dX4_read_102 : decode cX4_read 102 = .ok (.iconst 1, 1) := by decide +kernel
theorem dX4_read_103 : decode cX4_read 103 = .ok (.goto 4, 3) := by decide +kernel
theorem dX4_read_106 : decode cX4_read 106 = .ok (.iconst 0, 1) := by decide +kernel
theorem dX4_read_107 : decode cX4_read 107 = .ok (.istore_n 3, 1) := by decide +kernel
theorem dX4_read_108 : decode cX4_read 108 = .ok (.goto (-50), 3) := by decide +kernel
theorem dX4_read_111 : decode cX4_read 111 = .ok (.iload_n 3, 1) := by decide +kernel
theorem dX4_read_112 : decode cX4_read 112 = .ok (.ifCond .ne 18, 3) := by decide +kernel
theorem dX4_read_115 : decode cX4_read 115 = .ok (.aload_n 0, 1) := by decide +kernel
theorem dX4_read_116 : decode cX4_read 116 = .ok (.aload_n 0, 1) := by decide +kernel
theorem dX4_read_117 : decode cX4_read 117 = .ok (.getfield 57, 3) := by decide +kernel
theorem dX4_read_120 : decode cX4_read 120 = .ok (.aload_n 0, 1) := by decide +kernel
theorem dX4_read_121 : decode cX4_read 121 = .ok (.getfield 61, 3) := by decide +kernel
theorem dX4_read_124 : decode cX4_read 124 = .ok (.invokevirtual 83, 3) := by decide +kernel
theorem dX4_read_127 : decode cX4_read 127 = .ok (.putfield 15, 3) := by decide +kernel
theorem dX4_read_130 : decode cX4_read 130 = .ok (.return_, 1) := by decide +kernel
theorem dX4_refuseStatement_0 : decode cX4_refuseStatement 0 = .ok (.aload_n 0, 1) := by decide +kernel
theorem dX4_refuseStatement_1 : decode cX4_refuseStatement 1 = .ok (.bipush 6, 2) := by decide +kernel
theorem dX4_refuseStatement_3 : decode cX4_refuseStatement 3 = .ok (.putfield 9, 3) := by decide +kernel
theorem dX4_refuseStatement_6 : decode cX4_refuseStatement 6 = .ok (.aload_n 0, 1) := by decide +kernel
theorem dX4_refuseStatement_7 : decode cX4_refuseStatement 7 = .ok (.aload_n 0, 1) := by decide +kernel
theorem dX4_refuseStatement_8 : decode cX4_refuseStatement 8 = .ok (.getfield 38, 3) := by decide +kernel
theorem dX4_refuseStatement_11 : decode cX4_refuseStatement 11 = .ok (.iload_n 1, 1) := by decide +kernel
theorem dX4_refuseStatement_12 : decode cX4_refuseStatement 12 = .ok (.iconst (-1), 1) := by decide +kernel
theorem dX4_refuseStatement_13 : decode cX4_refuseStatement 13 = .ok (.invokestatic 87, 3) := by decide +kernel
theorem dX4_refuseStatement_16 : decode cX4_refuseStatement 16 = .ok (.putfield 15, 3) := by decide +kernel
theorem dX4_refuseStatement_19 : decode cX4_refuseStatement 19 = .ok (.return_, 1) := by decide +kernel
theorem dX4_kindOf_0 : decode cX4_kindOf 0 = .ok (.aload_n 0, 1) := by decide +kernel
theorem dX4_kindOf_1 : decode cX4_kindOf 1 = .ok (.getfield 34, 3) := by decide +kernel
theorem dX4_kindOf_4 : decode cX4_kindOf 4 = .ok (.iload_n 1, 1) := by decide +kernel
theorem dX4_kindOf_5 : decode cX4_kindOf 5 = .ok (.iconst (-1), 1) := by decide +kernel
theorem dX4_kindOf_6 : decode cX4_kindOf 6 = .ok (.invokestatic 87, 3) := by decide +kernel
theorem dX4_kindOf_9 : decode cX4_kindOf 9 = .ok (.ireturn, 1) := by decide +kernel
theorem dX4_targetOf_0 : decode cX4_targetOf 0 = .ok (.aload_n 0, 1) := by decide +kernel
theorem dX4_targetOf_1 : decode cX4_targetOf 1 = .ok (.getfield 41, 3) := by decide +kernel
theorem dX4_targetOf_4 : decode cX4_targetOf 4 = .ok (.iload_n 1, 1) := by decide +kernel
theorem dX4_targetOf_5 : decode cX4_targetOf 5 = .ok (.iconst (-1), 1) := by decide +kernel
theorem dX4_targetOf_6 : decode cX4_targetOf 6 = .ok (.invokestatic 87, 3) := by decide +kernel
theorem dX4_targetOf_9 : decode cX4_targetOf 9 = .ok (.ireturn, 1) := by decide +kernel
theorem dX4_lengthOf_0 : decode cX4_lengthOf 0 = .ok (.aload_n 0, 1) := by decide +kernel
theorem dX4_lengthOf_1 : decode cX4_lengthOf 1 = .ok (.getfield 44, 3) := by decide +kernel
theorem dX4_lengthOf_4 : decode cX4_lengthOf 4 = .ok (.iload_n 1, 1) := by decide +kernel
theorem dX4_lengthOf_5 : decode cX4_lengthOf 5 = .ok (.iconst 0, 1) := by decide +kernel
theorem dX4_lengthOf_6 : decode cX4_lengthOf 6 = .ok (.invokestatic 87, 3) := by decide +kernel
theorem dX4_lengthOf_9 : decode cX4_lengthOf 9 = .ok (.ireturn, 1) := by decide +kernel
theorem dX4_tagOf_0 : decode cX4_tagOf 0 = .ok (.aload_n 0, 1) := by decide +kernel
theorem dX4_tagOf_1 : decode cX4_tagOf 1 = .ok (.getfield 47, 3) := by decide +kernel
theorem dX4_tagOf_4 : decode cX4_tagOf 4 = .ok (.iload_n 1, 1) := by decide +kernel
theorem dX4_tagOf_5 : decode cX4_tagOf 5 = .ok (.iconst 0, 1) := by decide +kernel
theorem dX4_tagOf_6 : decode cX4_tagOf 6 = .ok (.invokestatic 87, 3) := by decide +kernel
theorem dX4_tagOf_9 : decode cX4_tagOf 9 = .ok (.ireturn, 1) := by decide +kernel
theorem dX4_fail_0 : decode cX4_fail 0 = .ok (.aload_n 0, 1) := by decide +kernel
theorem dX4_fail_1 : decode cX4_fail 1 = .ok (.iload_n 1, 1) := by decide +kernel
theorem dX4_fail_2 : decode cX4_fail 2 = .ok (.putfield 9, 3) := by decide +kernel
theorem dX4_fail_5 : decode cX4_fail 5 = .ok (.iconst 0, 1) := by decide +kernel
theorem dX4_fail_6 : decode cX4_fail 6 = .ok (.ireturn, 1) := by decide +kernel
theorem dX4_readHead_0 : decode cX4_readHead 0 = .ok (.aload_n 0, 1) := by decide +kernel
theorem dX4_readHead_1 : decode cX4_readHead 1 = .ok (.ldc 91, 2) := by decide +kernel
theorem dX4_readHead_3 : decode cX4_readHead 3 = .ok (.invokevirtual 93, 3) := by decide +kernel
theorem dX4_readHead_6 : decode cX4_readHead 6 = .ok (.ifCond .ne 9, 3) := by decide +kernel
theorem dX4_readHead_9 : decode cX4_readHead 9 = .ok (.aload_n 0, 1) := by decide +kernel
theorem dX4_readHead_10 : decode cX4_readHead 10 = .ok (.iconst 1, 1) := by decide +kernel
theorem dX4_readHead_11 : decode cX4_readHead 11 = .ok (.invokevirtual 97, 3) := by decide +kernel
theorem dX4_readHead_14 : decode cX4_readHead 14 = .ok (.ireturn, 1) := by decide +kernel
theorem dX4_readHead_15 : decode cX4_readHead 15 = .ok (.aload_n 0, 1) := by decide +kernel
theorem dX4_readHead_16 : decode cX4_readHead 16 = .ok (.bipush 8, 2) := by decide +kernel
theorem dX4_readHead_18 : decode cX4_readHead 18 = .ok (.bipush 96, 2) := by decide +kernel
theorem dX4_readHead_20 : decode cX4_readHead 20 = .ok (.invokevirtual 101, 3) := by decide +kernel
theorem dX4_readHead_23 : decode cX4_readHead 23 = .ok (.ifCond .ne 5, 3) := by decide +kernel
theorem dX4_readHead_26 : decode cX4_readHead 26 = .ok (.iconst 0, 1) := by decide +kernel
theorem dX4_readHead_27 : decode cX4_readHead 27 = .ok (.ireturn, 1) := by decide +kernel
theorem dX4_readHead_28 : decode cX4_readHead 28 = .ok (.aload_n 0, 1) := by decide +kernel
theorem dX4_readHead_29 : decode cX4_readHead 29 = .ok (.aload_n 0, 1) := by decide +kernel
theorem dX4_readHead_30 : decode cX4_readHead 30 = .ok (.getfield 57, 3) := by decide +kernel
theorem dX4_readHead_33 : decode cX4_readHead 33 = .ok (.aload_n 0, 1) := by decide +kernel
theorem dX4_readHead_34 : decode cX4_readHead 34 = .ok (.getfield 61, 3) := by decide +kernel
theorem dX4_readHead_37 : decode cX4_readHead 37 = .ok (.invokevirtual 105, 3) := by decide +kernel
theorem dX4_readHead_40 : decode cX4_readHead 40 = .ok (.putfield 18, 3) := by decide +kernel
theorem dX4_readHead_43 : decode cX4_readHead 43 = .ok (.aload_n 0, 1) := by decide +kernel
theorem dX4_readHead_44 : decode cX4_readHead 44 = .ok (.iconst 0, 1) := by decide +kernel
theorem dX4_readHead_45 : decode cX4_readHead 45 = .ok (.bipush 16, 2) := by decide +kernel
theorem dX4_readHead_47 : decode cX4_readHead 47 = .ok (.aload_n 0, 1) := by decide +kernel
theorem dX4_readHead_48 : decode cX4_readHead 48 = .ok (.getfield 18, 3) := by decide +kernel
theorem dX4_readHead_51 : decode cX4_readHead 51 = .ok (.iconst 2, 1) := by decide +kernel
theorem dX4_readHead_52 : decode cX4_readHead 52 = .ok (.idiv, 1) := by decide +kernel
theorem dX4_readHead_53 : decode cX4_readHead 53 = .ok (.invokestatic 108, 3) := by decide +kernel
theorem dX4_readHead_56 : decode cX4_readHead 56 = .ok (.invokevirtual 101, 3) := by decide +kernel
theorem dX4_readHead_59 : decode cX4_readHead 59 = .ok (.ifCond .ne 5, 3) := by decide +kernel
theorem dX4_readHead_62 : decode cX4_readHead 62 = .ok (.iconst 0, 1) := by decide +kernel
theorem dX4_readHead_63 : decode cX4_readHead 63 = .ok (.ireturn, 1) := by decide +kernel
theorem dX4_readHead_64 : decode cX4_readHead 64 = .ok (.aload_n 0, 1) := by decide +kernel
theorem dX4_readHead_65 : decode cX4_readHead 65 = .ok (.aload_n 0, 1) := by decide +kernel
theorem dX4_readHead_66 : decode cX4_readHead 66 = .ok (.getfield 57, 3) := by decide +kernel
theorem dX4_readHead_69 : decode cX4_readHead 69 = .ok (.aload_n 0, 1) := by decide +kernel
theorem dX4_readHead_70 : decode cX4_readHead 70 = .ok (.getfield 61, 3) := by decide +kernel
theorem dX4_readHead_73 : decode cX4_readHead 73 = .ok (.invokevirtual 105, 3) := by decide +kernel
theorem dX4_readHead_76 : decode cX4_readHead 76 = .ok (.putfield 21, 3) := by decide +kernel
theorem dX4_readHead_79 : decode cX4_readHead 79 = .ok (.aload_n 0, 1) := by decide +kernel
theorem dX4_readHead_80 : decode cX4_readHead 80 = .ok (.invokevirtual 80, 3) := by decide +kernel
theorem dX4_readHead_83 : decode cX4_readHead 83 = .ok (.ireturn, 1) := by decide +kernel
theorem dX4_readStatement_0 : decode cX4_readStatement 0 = .ok (.aload_n 0, 1) := by decide +kernel
theorem dX4_readStatement_1 : decode cX4_readStatement 1 = .ok (.ldc 114, 2) := by decide +kernel
theorem dX4_readStatement_3 : decode cX4_readStatement 3 = .ok (.invokevirtual 93, 3) := by decide +kernel
theorem dX4_readStatement_6 : decode cX4_readStatement 6 = .ok (.ifCond .eq 8, 3) := by decide +kernel
theorem dX4_readStatement_9 : decode cX4_readStatement 9 = .ok (.aload_n 0, 1) := by decide +kernel
theorem dX4_readStatement_10 : decode cX4_readStatement 10 = .ok (.invokevirtual 115, 3) := by decide +kernel
theorem dX4_readStatement_13 : decode cX4_readStatement 13 = .ok (.ireturn, 1) := by decide +kernel
theorem dX4_readStatement_14 : decode cX4_readStatement 14 = .ok (.aload_n 0, 1) := by decide +kernel
theorem dX4_readStatement_15 : decode cX4_readStatement 15 = .ok (.ldc 118, 2) := by decide +kernel
theorem dX4_readStatement_17 : decode cX4_readStatement 17 = .ok (.invokevirtual 93, 3) := by decide +kernel
theorem dX4_readStatement_20 : decode cX4_readStatement 20 = .ok (.ifCond .eq 8, 3) := by decide +kernel
theorem dX4_readStatement_23 : decode cX4_readStatement 23 = .ok (.aload_n 0, 1) := by decide +kernel
theorem dX4_readStatement_24 : decode cX4_readStatement 24 = .ok (.invokevirtual 120, 3) := by decide +kernel
theorem dX4_readStatement_27 : decode cX4_readStatement 27 = .ok (.ireturn, 1) := by decide +kernel
theorem dX4_readStatement_28 : decode cX4_readStatement 28 = .ok (.aload_n 0, 1) := by decide +kernel
theorem dX4_readStatement_29 : decode cX4_readStatement 29 = .ok (.ldc 123, 2) := by decide +kernel
theorem dX4_readStatement_31 : decode cX4_readStatement 31 = .ok (.invokevirtual 93, 3) := by decide +kernel
theorem dX4_readStatement_34 : decode cX4_readStatement 34 = .ok (.ifCond .eq 8, 3) := by decide +kernel
theorem dX4_readStatement_37 : decode cX4_readStatement 37 = .ok (.aload_n 0, 1) := by decide +kernel
theorem dX4_readStatement_38 : decode cX4_readStatement 38 = .ok (.invokevirtual 125, 3) := by decide +kernel
theorem dX4_readStatement_41 : decode cX4_readStatement 41 = .ok (.ireturn, 1) := by decide +kernel
theorem dX4_readStatement_42 : decode cX4_readStatement 42 = .ok (.aload_n 0, 1) := by decide +kernel
theorem dX4_readStatement_43 : decode cX4_readStatement 43 = .ok (.ldc 128, 2) := by decide +kernel
theorem dX4_readStatement_45 : decode cX4_readStatement 45 = .ok (.invokevirtual 93, 3) := by decide +kernel
theorem dX4_readStatement_48 : decode cX4_readStatement 48 = .ok (.ifCond .eq 8, 3) := by decide +kernel
theorem dX4_readStatement_51 : decode cX4_readStatement 51 = .ok (.aload_n 0, 1) := by decide +kernel
theorem dX4_readStatement_52 : decode cX4_readStatement 52 = .ok (.invokevirtual 130, 3) := by decide +kernel
theorem dX4_readStatement_55 : decode cX4_readStatement 55 = .ok (.ireturn, 1) := by decide +kernel
theorem dX4_readStatement_56 : decode cX4_readStatement 56 = .ok (.aload_n 0, 1) := by decide +kernel
theorem dX4_readStatement_57 : decode cX4_readStatement 57 = .ok (.ldc 133, 2) := by decide +kernel
theorem dX4_readStatement_59 : decode cX4_readStatement 59 = .ok (.invokevirtual 93, 3) := by decide +kernel
theorem dX4_readStatement_62 : decode cX4_readStatement 62 = .ok (.ifCond .eq 21, 3) := by decide +kernel
theorem dX4_readStatement_65 : decode cX4_readStatement 65 = .ok (.aload_n 0, 1) := by decide +kernel
theorem dX4_readStatement_66 : decode cX4_readStatement 66 = .ok (.iconst 3, 1) := by decide +kernel
theorem dX4_readStatement_67 : decode cX4_readStatement 67 = .ok (.aload_n 0, 1) := by decide +kernel
theorem dX4_readStatement_68 : decode cX4_readStatement 68 = .ok (.getfield 57, 3) := by decide +kernel
theorem dX4_readStatement_71 : decode cX4_readStatement 71 = .ok (.aload_n 0, 1) := by decide +kernel
theorem dX4_readStatement_72 : decode cX4_readStatement 72 = .ok (.getfield 61, 3) := by decide +kernel
theorem dX4_readStatement_75 : decode cX4_readStatement 75 = .ok (.invokevirtual 83, 3) := by decide +kernel
theorem dX4_readStatement_78 : decode cX4_readStatement 78 = .ok (.iconst (-1), 1) := by decide +kernel
theorem dX4_readStatement_79 : decode cX4_readStatement 79 = .ok (.invokevirtual 135, 3) := by decide +kernel
theorem dX4_readStatement_82 : decode cX4_readStatement 82 = .ok (.ireturn, 1) := by decide +kernel
theorem dX4_readStatement_83 : decode cX4_readStatement 83 = .ok (.aload_n 0, 1) := by decide +kernel
theorem dX4_readStatement_84 : decode cX4_readStatement 84 = .ok (.iconst 1, 1) := by decide +kernel
theorem dX4_readStatement_85 : decode cX4_readStatement 85 = .ok (.invokevirtual 97, 3) := by decide +kernel
theorem dX4_readStatement_88 : decode cX4_readStatement 88 = .ok (.ireturn, 1) := by decide +kernel
theorem dX4_readBad_0 : decode cX4_readBad 0 = .ok (.aload_n 0, 1) := by decide +kernel
theorem dX4_readBad_1 : decode cX4_readBad 1 = .ok (.getfield 57, 3) := by decide +kernel
theorem dX4_readBad_4 : decode cX4_readBad 4 = .ok (.aload_n 0, 1) := by decide +kernel
theorem dX4_readBad_5 : decode cX4_readBad 5 = .ok (.getfield 61, 3) := by decide +kernel
theorem dX4_readBad_8 : decode cX4_readBad 8 = .ok (.invokevirtual 83, 3) := by decide +kernel
theorem dX4_readBad_11 : decode cX4_readBad 11 = .ok (.istore_n 1, 1) := by decide +kernel
theorem dX4_readBad_12 : decode cX4_readBad 12 = .ok (.aload_n 0, 1) := by decide +kernel
theorem dX4_readBad_13 : decode cX4_readBad 13 = .ok (.iconst 0, 1) := by decide +kernel
theorem dX4_readBad_14 : decode cX4_readBad 14 = .ok (.aload_n 0, 1) := by decide +kernel
theorem dX4_readBad_15 : decode cX4_readBad 15 = .ok (.getfield 18, 3) := by decide +kernel
theorem dX4_readBad_18 : decode cX4_readBad 18 = .ok (.iconst 1, 1) := by decide +kernel
theorem dX4_readBad_19 : decode cX4_readBad 19 = .ok (.isub, 1) := by decide +kernel
theorem dX4_readBad_20 : decode cX4_readBad 20 = .ok (.invokevirtual 101, 3) := by decide +kernel
theorem dX4_readBad_23 : decode cX4_readBad 23 = .ok (.ifCond .ne 5, 3) := by decide +kernel
theorem dX4_readBad_26 : decode cX4_readBad 26 = .ok (.iconst 0, 1) := by decide +kernel
theorem dX4_readBad_27 : decode cX4_readBad 27 = .ok (.ireturn, 1) := by decide +kernel
theorem dX4_readBad_28 : decode cX4_readBad 28 = .ok (.aload_n 0, 1) := by decide +kernel
theorem dX4_readBad_29 : decode cX4_readBad 29 = .ok (.getfield 57, 3) := by decide +kernel
theorem dX4_readBad_32 : decode cX4_readBad 32 = .ok (.aload_n 0, 1) := by decide +kernel
theorem dX4_readBad_33 : decode cX4_readBad 33 = .ok (.getfield 61, 3) := by decide +kernel
theorem dX4_readBad_36 : decode cX4_readBad 36 = .ok (.invokevirtual 105, 3) := by decide +kernel
theorem dX4_readBad_39 : decode cX4_readBad 39 = .ok (.istore_n 2, 1) := by decide +kernel
theorem dX4_readBad_40 : decode cX4_readBad 40 = .ok (.aload_n 0, 1) := by decide +kernel
theorem dX4_readBad_41 : decode cX4_readBad 41 = .ok (.getfield 50, 3) := by decide +kernel
theorem dX4_readBad_44 : decode cX4_readBad 44 = .ok (.iload_n 2, 1) := by decide +kernel
theorem dX4_readBad_45 : decode cX4_readBad 45 = .ok (.invokestatic 139, 3) := by decide +kernel
theorem dX4_readBad_48 : decode cX4_readBad 48 = .ok (.ifCond .eq 9, 3) := by decide +kernel
theorem dX4_readBad_51 : decode cX4_readBad 51 = .ok (.aload_n 0, 1) := by decide +kernel
theorem dX4_readBad_52 : decode cX4_readBad 52 = .ok (.iconst 2, 1) := by decide +kernel
theorem dX4_readBad_53 : decode cX4_readBad 53 = .ok (.invokevirtual 97, 3) := by decide +kernel
theorem dX4_readBad_56 : decode cX4_readBad 56 = .ok (.ireturn, 1) := by decide +kernel
theorem dX4_readBad_57 : decode cX4_readBad 57 = .ok (.aload_n 0, 1) := by decide +kernel
theorem dX4_readBad_58 : decode cX4_readBad 58 = .ok (.getfield 50, 3) := by decide +kernel
theorem dX4_readBad_61 : decode cX4_readBad 61 = .ok (.iload_n 2, 1) := by decide +kernel
theorem dX4_readBad_62 : decode cX4_readBad 62 = .ok (.iconst 1, 1) := by decide +kernel
theorem dX4_readBad_63 : decode cX4_readBad 63 = .ok (.invokestatic 143, 3) := by decide +kernel
theorem dX4_readBad_66 : decode cX4_readBad 66 = .ok (.aload_n 0, 1) := by decide +kernel
theorem dX4_readBad_67 : decode cX4_readBad 67 = .ok (.iconst 0, 1) := by decide +kernel
theorem dX4_readBad_68 : decode cX4_readBad 68 = .ok (.iload_n 1, 1) := by decide +kernel
theorem dX4_readBad_69 : decode cX4_readBad 69 = .ok (.iload_n 2, 1) := by decide +kernel
theorem dX4_readBad_70 : decode cX4_readBad 70 = .ok (.invokevirtual 135, 3) := by decide +kernel
theorem dX4_readBad_73 : decode cX4_readBad 73 = .ok (.ireturn, 1) := by decide +kernel
theorem dX4_readNewFile_0 : decode cX4_readNewFile 0 = .ok (.aload_n 0, 1) := by decide +kernel
theorem dX4_readNewFile_1 : decode cX4_readNewFile 1 = .ok (.getfield 24, 3) := by decide +kernel
theorem dX4_readNewFile_4 : decode cX4_readNewFile 4 = .ok (.bipush 10, 2) := by decide +kernel
theorem dX4_readNewFile_6 : decode cX4_readNewFile 6 = .ok (.if_icmp .lt 9, 3) := by decide +kernel
theorem dX4_readNewFile_9 : decode cX4_readNewFile 9 = .ok (.aload_n 0, 1) := by decide +kernel
theorem dX4_readNewFile_10 : decode cX4_readNewFile 10 = .ok (.iconst 5, 1) := by decide +kernel
theorem dX4_readNewFile_11 : decode cX4_readNewFile 11 = .ok (.invokevirtual 97, 3) := by decide +kernel
theorem dX4_readNewFile_14 : decode cX4_readNewFile 14 = .ok (.ireturn, 1) := by decide +kernel
theorem dX4_readNewFile_15 : decode cX4_readNewFile 15 = .ok (.aload_n 0, 1) := by decide +kernel
theorem dX4_readNewFile_16 : decode cX4_readNewFile 16 = .ok (.dup, 1) := by decide +kernel
theorem dX4_readNewFile_17 : decode cX4_readNewFile 17 = .ok (.getfield 61, 3) := by decide +kernel
theorem dX4_readNewFile_20 : decode cX4_readNewFile 20 = .ok (.iconst 1, 1) := by decide +kernel
theorem dX4_readNewFile_21 : decode cX4_readNewFile 21 = .ok (.iadd, 1) := by decide +kernel
theorem dX4_readNewFile_22 : decode cX4_readNewFile 22 = .ok (.putfield 61, 3) := by decide +kernel
theorem dX4_readNewFile_25 : decode cX4_readNewFile 25 = .ok (.aload_n 0, 1) := by decide +kernel
theorem dX4_readNewFile_26 : decode cX4_readNewFile 26 = .ok (.getfield 57, 3) := by decide +kernel
theorem dX4_readNewFile_29 : decode cX4_readNewFile 29 = .ok (.aload_n 0, 1) := by decide +kernel
theorem dX4_readNewFile_30 : decode cX4_readNewFile 30 = .ok (.getfield 61, 3) := by decide +kernel
theorem dX4_readNewFile_33 : decode cX4_readNewFile 33 = .ok (.invokevirtual 147, 3) := by decide +kernel
theorem dX4_readNewFile_36 : decode cX4_readNewFile 36 = .ok (.iconst 1, 1) := by decide +kernel
theorem dX4_readNewFile_37 : decode cX4_readNewFile 37 = .ok (.if_icmp .eq 9, 3) := by decide +kernel
theorem dX4_readNewFile_40 : decode cX4_readNewFile 40 = .ok (.aload_n 0, 1) := by decide +kernel
theorem dX4_readNewFile_41 : decode cX4_readNewFile 41 = .ok (.iconst 1, 1) := by decide +kernel
theorem dX4_readNewFile_42 : decode cX4_readNewFile 42 = .ok (.invokevirtual 97, 3) := by decide +kernel
theorem dX4_readNewFile_45 : decode cX4_readNewFile 45 = .ok (.ireturn, 1) := by decide +kernel
theorem dX4_readNewFile_46 : decode cX4_readNewFile 46 = .ok (.aload_n 0, 1) := by decide +kernel
theorem dX4_readNewFile_47 : decode cX4_readNewFile 47 = .ok (.getfield 57, 3) := by decide +kernel
theorem dX4_readNewFile_50 : decode cX4_readNewFile 50 = .ok (.aload_n 0, 1) := by decide +kernel
theorem dX4_readNewFile_51 : decode cX4_readNewFile 51 = .ok (.getfield 61, 3) := by decide +kernel
theorem dX4_readNewFile_54 : decode cX4_readNewFile 54 = .ok (.invokevirtual 150, 3) := by decide +kernel
theorem dX4_readNewFile_57 : decode cX4_readNewFile 57 = .ok (.lstore_n 1, 1) := by decide +kernel
theorem dX4_readNewFile_58 : decode cX4_readNewFile 58 = .ok (.aload_n 0, 1) := by decide +kernel
theorem dX4_readNewFile_59 : decode cX4_readNewFile 59 = .ok (.getfield 27, 3) := by decide +kernel
theorem dX4_readNewFile_62 : decode cX4_readNewFile 62 = .ok (.aload_n 0, 1) := by decide +kernel
theorem dX4_readNewFile_63 : decode cX4_readNewFile 63 = .ok (.getfield 24, 3) := by decide +kernel
theorem dX4_readNewFile_66 : decode cX4_readNewFile 66 = .ok (.lload_n 1, 1) := by decide +kernel
theorem dX4_readNewFile_67 : decode cX4_readNewFile 67 = .ok (.invokestatic 154, 3) := by decide +kernel
theorem dX4_readNewFile_70 : decode cX4_readNewFile 70 = .ok (.iconst (-1), 1) := by decide +kernel
theorem dX4_readNewFile_71 : decode cX4_readNewFile 71 = .ok (.if_icmp .eq 9, 3) := by decide +kernel
theorem dX4_readNewFile_74 : decode cX4_readNewFile 74 = .ok (.aload_n 0, 1) := by decide +kernel
theorem dX4_readNewFile_75 : decode cX4_readNewFile 75 = .ok (.iconst 2, 1) := by decide +kernel
theorem dX4_readNewFile_76 : decode cX4_readNewFile 76 = .ok (.invokevirtual 97, 3) := by decide +kernel
theorem dX4_readNewFile_79 : decode cX4_readNewFile 79 = .ok (.ireturn, 1) := by decide +kernel
theorem dX4_readNewFile_80 : decode cX4_readNewFile 80 = .ok (.aload_n 0, 1) := by decide +kernel
theorem dX4_readNewFile_81 : decode cX4_readNewFile 81 = .ok (.getfield 27, 3) := by decide +kernel
theorem dX4_readNewFile_84 : decode cX4_readNewFile 84 = .ok (.aload_n 0, 1) := by decide +kernel
theorem dX4_readNewFile_85 : decode cX4_readNewFile 85 = .ok (.getfield 24, 3) := by decide +kernel
theorem dX4_readNewFile_88 : decode cX4_readNewFile 88 = .ok (.lload_n 1, 1) := by decide +kernel
theorem dX4_readNewFile_89 : decode cX4_readNewFile 89 = .ok (.invokestatic 158, 3) := by decide +kernel
theorem dX4_readNewFile_92 : decode cX4_readNewFile 92 = .ok (.aload_n 0, 1) := by decide +kernel
theorem dX4_readNewFile_93 : decode cX4_readNewFile 93 = .ok (.dup, 1) := by decide +kernel
theorem dX4_readNewFile_94 : decode cX4_readNewFile 94 = .ok (.getfield 24, 3) := by decide +kernel
theorem dX4_readNewFile_97 : decode cX4_readNewFile 97 = .ok (.iconst 1, 1) := by decide +kernel
theorem dX4_readNewFile_98 : decode cX4_readNewFile 98 = .ok (.iadd, 1) := by decide +kernel
theorem dX4_readNewFile_99 : decode cX4_readNewFile 99 = .ok (.putfield 24, 3) := by decide +kernel
theorem dX4_readNewFile_102 : decode cX4_readNewFile 102 = .ok (.iconst 1, 1) := by decide +kernel
theorem dX4_readNewFile_103 : decode cX4_readNewFile 103 = .ok (.ireturn, 1) := by decide +kernel
theorem dX4_readWrite_0 : decode cX4_readWrite 0 = .ok (.aload_n 0, 1) := by decide +kernel
theorem dX4_readWrite_1 : decode cX4_readWrite 1 = .ok (.getfield 57, 3) := by decide +kernel
theorem dX4_readWrite_4 : decode cX4_readWrite 4 = .ok (.aload_n 0, 1) := by decide +kernel
theorem dX4_readWrite_5 : decode cX4_readWrite 5 = .ok (.getfield 61, 3) := by decide +kernel
theorem dX4_readWrite_8 : decode cX4_readWrite 8 = .ok (.invokevirtual 83, 3) := by decide +kernel
theorem dX4_readWrite_11 : decode cX4_readWrite 11 = .ok (.istore_n 1, 1) := by decide +kernel
theorem dX4_readWrite_12 : decode cX4_readWrite 12 = .ok (.aload_n 0, 1) := by decide +kernel
theorem dX4_readWrite_13 : decode cX4_readWrite 13 = .ok (.invokevirtual 162, 3) := by decide +kernel
theorem dX4_readWrite_16 : decode cX4_readWrite 16 = .ok (.istore_n 2, 1) := by decide +kernel
theorem dX4_readWrite_17 : decode cX4_readWrite 17 = .ok (.iload_n 2, 1) := by decide +kernel
theorem dX4_readWrite_18 : decode cX4_readWrite 18 = .ok (.iconst (-1), 1) := by decide +kernel
theorem dX4_readWrite_19 : decode cX4_readWrite 19 = .ok (.if_icmp .eq 13, 3) := by decide +kernel
theorem dX4_readWrite_22 : decode cX4_readWrite 22 = .ok (.aload_n 0, 1) := by decide +kernel
theorem dX4_readWrite_23 : decode cX4_readWrite 23 = .ok (.iconst 1, 1) := by decide +kernel
theorem dX4_readWrite_24 : decode cX4_readWrite 24 = .ok (.bipush 8, 2) := by decide +kernel
theorem dX4_readWrite_26 : decode cX4_readWrite 26 = .ok (.invokevirtual 101, 3) := by decide +kernel
theorem dX4_readWrite_29 : decode cX4_readWrite 29 = .ok (.ifCond .ne 5, 3) := by decide +kernel
theorem dX4_readWrite_32 : decode cX4_readWrite 32 = .ok (.iconst 0, 1) := by decide +kernel
theorem dX4_readWrite_33 : decode cX4_readWrite 33 = .ok (.ireturn, 1) := by decide +kernel
theorem dX4_readWrite_34 : decode cX4_readWrite 34 = .ok (.aload_n 0, 1) := by decide +kernel
theorem dX4_readWrite_35 : decode cX4_readWrite 35 = .ok (.getfield 57, 3) := by decide +kernel
theorem dX4_readWrite_38 : decode cX4_readWrite 38 = .ok (.aload_n 0, 1) := by decide +kernel
theorem dX4_readWrite_39 : decode cX4_readWrite 39 = .ok (.getfield 61, 3) := by decide +kernel
theorem dX4_readWrite_42 : decode cX4_readWrite 42 = .ok (.invokevirtual 105, 3) := by decide +kernel
theorem dX4_readWrite_45 : decode cX4_readWrite 45 = .ok (.istore_n 3, 1) := by decide +kernel
theorem dX4_readWrite_46 : decode cX4_readWrite 46 = .ok (.aload_n 0, 1) := by decide +kernel
theorem dX4_readWrite_47 : decode cX4_readWrite 47 = .ok (.iconst 0, 1) := by decide +kernel
theorem dX4_readWrite_48 : decode cX4_readWrite 48 = .ok (.sipush 999, 3) := by decide +kernel
theorem dX4_readWrite_51 : decode cX4_readWrite 51 = .ok (.invokevirtual 101, 3) := by decide +kernel
theorem dX4_readWrite_54 : decode cX4_readWrite 54 = .ok (.ifCond .ne 5, 3) := by decide +kernel
theorem dX4_readWrite_57 : decode cX4_readWrite 57 = .ok (.iconst 0, 1) := by decide +kernel
theorem dX4_readWrite_58 : decode cX4_readWrite 58 = .ok (.ireturn, 1) := by decide +kernel
theorem dX4_readWrite_59 : decode cX4_readWrite 59 = .ok (.aload_n 0, 1) := by decide +kernel
theorem dX4_readWrite_60 : decode cX4_readWrite 60 = .ok (.getfield 44, 3) := by decide +kernel
theorem dX4_readWrite_63 : decode cX4_readWrite 63 = .ok (.aload_n 0, 1) := by decide +kernel
theorem dX4_readWrite_64 : decode cX4_readWrite 64 = .ok (.getfield 31, 3) := by decide +kernel
theorem dX4_readWrite_67 : decode cX4_readWrite 67 = .ok (.iload_n 3, 1) := by decide +kernel
theorem dX4_readWrite_68 : decode cX4_readWrite 68 = .ok (.invokestatic 166, 3) := by decide +kernel
theorem dX4_readWrite_71 : decode cX4_readWrite 71 = .ok (.aload_n 0, 1) := by decide +kernel
theorem dX4_readWrite_72 : decode cX4_readWrite 72 = .ok (.getfield 47, 3) := by decide +kernel
theorem dX4_readWrite_75 : decode cX4_readWrite 75 = .ok (.aload_n 0, 1) := by decide +kernel
theorem dX4_readWrite_76 : decode cX4_readWrite 76 = .ok (.getfield 31, 3) := by decide +kernel
theorem dX4_readWrite_79 : decode cX4_readWrite 79 = .ok (.aload_n 0, 1) := by decide +kernel
theorem dX4_readWrite_80 : decode cX4_readWrite 80 = .ok (.getfield 57, 3) := by decide +kernel
theorem dX4_readWrite_83 : decode cX4_readWrite 83 = .ok (.aload_n 0, 1) := by decide +kernel
theorem dX4_readWrite_84 : decode cX4_readWrite 84 = .ok (.getfield 61, 3) := by decide +kernel
theorem dX4_readWrite_87 : decode cX4_readWrite 87 = .ok (.invokevirtual 105, 3) := by decide +kernel
theorem dX4_readWrite_90 : decode cX4_readWrite 90 = .ok (.invokestatic 166, 3) := by decide +kernel
theorem dX4_readWrite_93 : decode cX4_readWrite 93 = .ok (.aload_n 0, 1) := by decide +kernel
theorem dX4_readWrite_94 : decode cX4_readWrite 94 = .ok (.iconst 1, 1) := by decide +kernel
theorem dX4_readWrite_95 : decode cX4_readWrite 95 = .ok (.iload_n 1, 1) := by decide +kernel
theorem dX4_readWrite_96 : decode cX4_readWrite 96 = .ok (.iload_n 2, 1) := by decide +kernel
theorem dX4_readWrite_97 : decode cX4_readWrite 97 = .ok (.invokevirtual 135, 3) := by decide +kernel
theorem dX4_readWrite_100 : decode cX4_readWrite 100 = .ok (.ireturn, 1) := by decide +kernel
theorem dX4_readErase_0 : decode cX4_readErase 0 = .ok (.aload_n 0, 1) := by decide +kernel
theorem dX4_readErase_1 : decode cX4_readErase 1 = .ok (.getfield 57, 3) := by decide +kernel
theorem dX4_readErase_4 : decode cX4_readErase 4 = .ok (.aload_n 0, 1) := by decide +kernel
theorem dX4_readErase_5 : decode cX4_readErase 5 = .ok (.getfield 61, 3) := by decide +kernel
theorem dX4_readErase_8 : decode cX4_readErase 8 = .ok (.invokevirtual 83, 3) := by decide +kernel
theorem dX4_readErase_11 : decode cX4_readErase 11 = .ok (.istore_n 1, 1) := by decide +kernel
theorem dX4_readErase_12 : decode cX4_readErase 12 = .ok (.aload_n 0, 1) := by decide +kernel
theorem dX4_readErase_13 : decode cX4_readErase 13 = .ok (.invokevirtual 162, 3) := by decide +kernel
theorem dX4_readErase_16 : decode cX4_readErase 16 = .ok (.istore_n 2, 1) := by decide +kernel
theorem dX4_readErase_17 : decode cX4_readErase 17 = .ok (.iload_n 2, 1) := by decide +kernel
theorem dX4_readErase_18 : decode cX4_readErase 18 = .ok (.iconst (-1), 1) := by decide +kernel
theorem dX4_readErase_19 : decode cX4_readErase 19 = .ok (.if_icmp .eq 17, 3) := by decide +kernel
theorem dX4_readErase_22 : decode cX4_readErase 22 = .ok (.aload_n 0, 1) := by decide +kernel
theorem dX4_readErase_23 : decode cX4_readErase 23 = .ok (.iconst 2, 1) := by decide +kernel
theorem dX4_readErase_24 : decode cX4_readErase 24 = .ok (.iload_n 1, 1) := by decide +kernel
theorem dX4_readErase_25 : decode cX4_readErase 25 = .ok (.iload_n 2, 1) := by decide +kernel
theorem dX4_readErase_26 : decode cX4_readErase 26 = .ok (.invokevirtual 135, 3) := by decide +kernel
theorem dX4_readErase_29 : decode cX4_readErase 29 = .ok (.ifCond .eq 7, 3) := by decide +kernel
theorem dX4_readErase_32 : decode cX4_readErase 32 = .ok (.iconst 1, 1) := by decide +kernel
theorem dX4_readErase_33 : decode cX4_readErase 33 = .ok (.goto 4, 3) := by decide +kernel
theorem dX4_readErase_36 : decode cX4_readErase 36 = .ok (.iconst 0, 1) := by decide +kernel
theorem dX4_readErase_37 : decode cX4_readErase 37 = .ok (.ireturn, 1) := by decide +kernel
theorem dX4_add_0 : decode cX4_add 0 = .ok (.aload_n 0, 1) := by decide +kernel
theorem dX4_add_1 : decode cX4_add 1 = .ok (.getfield 34, 3) := by decide +kernel
theorem dX4_add_4 : decode cX4_add 4 = .ok (.aload_n 0, 1) := by decide +kernel
theorem dX4_add_5 : decode cX4_add 5 = .ok (.getfield 31, 3) := by decide +kernel
theorem dX4_add_8 : decode cX4_add 8 = .ok (.iload_n 1, 1) := by decide +kernel
theorem dX4_add_9 : decode cX4_add 9 = .ok (.invokestatic 166, 3) := by decide +kernel
theorem dX4_add_12 : decode cX4_add 12 = .ok (.aload_n 0, 1) := by decide +kernel
theorem dX4_add_13 : decode cX4_add 13 = .ok (.getfield 38, 3) := by decide +kernel
theorem dX4_add_16 : decode cX4_add 16 = .ok (.aload_n 0, 1) := by decide +kernel
theorem dX4_add_17 : decode cX4_add 17 = .ok (.getfield 31, 3) := by decide +kernel
theorem dX4_add_20 : decode cX4_add 20 = .ok (.iload_n 2, 1) := by decide +kernel
theorem dX4_add_21 : decode cX4_add 21 = .ok (.invokestatic 166, 3) := by decide +kernel
theorem dX4_add_24 : decode cX4_add 24 = .ok (.aload_n 0, 1) := by decide +kernel
theorem dX4_add_25 : decode cX4_add 25 = .ok (.getfield 41, 3) := by decide +kernel
theorem dX4_add_28 : decode cX4_add 28 = .ok (.aload_n 0, 1) := by decide +kernel
theorem dX4_add_29 : decode cX4_add 29 = .ok (.getfield 31, 3) := by decide +kernel
theorem dX4_add_32 : decode cX4_add 32 = .ok (.iload_n 3, 1) := by decide +kernel
theorem dX4_add_33 : decode cX4_add 33 = .ok (.invokestatic 166, 3) := by decide +kernel
theorem dX4_add_36 : decode cX4_add 36 = .ok (.aload_n 0, 1) := by decide +kernel
theorem dX4_add_37 : decode cX4_add 37 = .ok (.dup, 1) := by decide +kernel
theorem dX4_add_38 : decode cX4_add 38 = .ok (.getfield 31, 3) := by decide +kernel
theorem dX4_add_41 : decode cX4_add 41 = .ok (.iconst 1, 1) := by decide +kernel
theorem dX4_add_42 : decode cX4_add 42 = .ok (.iadd, 1) := by decide +kernel
theorem dX4_add_43 : decode cX4_add 43 = .ok (.putfield 31, 3) := by decide +kernel
theorem dX4_add_46 : decode cX4_add 46 = .ok (.iconst 1, 1) := by decide +kernel
theorem dX4_add_47 : decode cX4_add 47 = .ok (.ireturn, 1) := by decide +kernel
theorem dX4_isWord_0 : decode cX4_isWord 0 = .ok (.aload_n 0, 1) := by decide +kernel
theorem dX4_isWord_1 : decode cX4_isWord 1 = .ok (.getfield 57, 3) := by decide +kernel
theorem dX4_isWord_4 : decode cX4_isWord 4 = .ok (.aload_n 0, 1) := by decide +kernel
theorem dX4_isWord_5 : decode cX4_isWord 5 = .ok (.getfield 61, 3) := by decide +kernel
theorem dX4_isWord_8 : decode cX4_isWord 8 = .ok (.invokevirtual 147, 3) := by decide +kernel
theorem dX4_isWord_11 : decode cX4_isWord 11 = .ok (.iconst 1, 1) := by decide +kernel
theorem dX4_isWord_12 : decode cX4_isWord 12 = .ok (.if_icmp .ne 26, 3) := by decide +kernel
theorem dX4_isWord_15 : decode cX4_isWord 15 = .ok (.aload_n 0, 1) := by decide +kernel
theorem dX4_isWord_16 : decode cX4_isWord 16 = .ok (.getfield 57, 3) := by decide +kernel
theorem dX4_isWord_19 : decode cX4_isWord 19 = .ok (.aload_n 0, 1) := by decide +kernel
theorem dX4_isWord_20 : decode cX4_isWord 20 = .ok (.getfield 61, 3) := by decide +kernel
theorem dX4_isWord_23 : decode cX4_isWord 23 = .ok (.invokevirtual 150, 3) := by decide +kernel
theorem dX4_isWord_26 : decode cX4_isWord 26 = .ok (.aload_n 1, 1) := by decide +kernel
theorem dX4_isWord_27 : decode cX4_isWord 27 = .ok (.invokestatic 169, 3) := by decide +kernel
theorem dX4_isWord_30 : decode cX4_isWord 30 = .ok (.lcmp, 1) := by decide +kernel
theorem dX4_isWord_31 : decode cX4_isWord 31 = .ok (.ifCond .ne 7, 3) := by decide +kernel
theorem dX4_isWord_34 : decode cX4_isWord 34 = .ok (.iconst 1, 1) := by decide +kernel
theorem dX4_isWord_35 : decode cX4_isWord 35 = .ok (.goto 4, 3) := by decide +kernel
theorem dX4_isWord_38 : decode cX4_isWord 38 = .ok (.iconst 0, 1) := by decide +kernel
theorem dX4_isWord_39 : decode cX4_isWord 39 = .ok (.ireturn, 1) := by decide +kernel
theorem dX4_readFile_0 : decode cX4_readFile 0 = .ok (.aload_n 0, 1) := by decide +kernel
theorem dX4_readFile_1 : decode cX4_readFile 1 = .ok (.dup, 1) := by decide +kernel
theorem dX4_readFile_2 : decode cX4_readFile 2 = .ok (.getfield 61, 3) := by decide +kernel
theorem dX4_readFile_5 : decode cX4_readFile 5 = .ok (.iconst 1, 1) := by decide +kernel
theorem dX4_readFile_6 : decode cX4_readFile 6 = .ok (.iadd, 1) := by decide +kernel
theorem dX4_readFile_7 : decode cX4_readFile 7 = .ok (.putfield 61, 3) := by decide +kernel
theorem dX4_readFile_10 : decode cX4_readFile 10 = .ok (.aload_n 0, 1) := by decide +kernel
theorem dX4_readFile_11 : decode cX4_readFile 11 = .ok (.getfield 57, 3) := by decide +kernel
theorem dX4_readFile_14 : decode cX4_readFile 14 = .ok (.aload_n 0, 1) := by decide +kernel
theorem dX4_readFile_15 : decode cX4_readFile 15 = .ok (.getfield 61, 3) := by decide +kernel
theorem dX4_readFile_18 : decode cX4_readFile 18 = .ok (.invokevirtual 147, 3) := by decide +kernel
theorem dX4_readFile_21 : decode cX4_readFile 21 = .ok (.iconst 1, 1) := by decide +kernel
theorem dX4_readFile_22 : decode cX4_readFile 22 = .ok (.if_icmp .eq 11, 3) := by decide +kernel
theorem dX4_readFile_25 : decode cX4_readFile 25 = .ok (.aload_n 0, 1) := by decide +kernel
theorem dX4_readFile_26 : decode cX4_readFile 26 = .ok (.iconst 1, 1) := by decide +kernel
theorem dX4_readFile_27 : decode cX4_readFile 27 = .ok (.invokevirtual 97, 3) := by decide +kernel
theorem dX4_readFile_30 : decode cX4_readFile 30 = .ok (.pop, 1) := by decide +kernel
theorem dX4_readFile_31 : decode cX4_readFile 31 = .ok (.iconst (-1), 1) := by decide +kernel
theorem dX4_readFile_32 : decode cX4_readFile 32 = .ok (.ireturn, 1) := by decide +kernel
theorem dX4_readFile_33 : decode cX4_readFile 33 = .ok (.aload_n 0, 1) := by decide +kernel
theorem dX4_readFile_34 : decode cX4_readFile 34 = .ok (.getfield 27, 3) := by decide +kernel
theorem dX4_readFile_37 : decode cX4_readFile 37 = .ok (.aload_n 0, 1) := by decide +kernel
theorem dX4_readFile_38 : decode cX4_readFile 38 = .ok (.getfield 24, 3) := by decide +kernel
theorem dX4_readFile_41 : decode cX4_readFile 41 = .ok (.aload_n 0, 1) := by decide +kernel
theorem dX4_readFile_42 : decode cX4_readFile 42 = .ok (.getfield 57, 3) := by decide +kernel
theorem dX4_readFile_45 : decode cX4_readFile 45 = .ok (.aload_n 0, 1) := by decide +kernel
theorem dX4_readFile_46 : decode cX4_readFile 46 = .ok (.getfield 61, 3) := by decide +kernel
theorem dX4_readFile_49 : decode cX4_readFile 49 = .ok (.invokevirtual 150, 3) := by decide +kernel
theorem dX4_readFile_52 : decode cX4_readFile 52 = .ok (.invokestatic 154, 3) := by decide +kernel
theorem dX4_readFile_55 : decode cX4_readFile 55 = .ok (.istore_n 1, 1) := by decide +kernel
theorem dX4_readFile_56 : decode cX4_readFile 56 = .ok (.iload_n 1, 1) := by decide +kernel
theorem dX4_readFile_57 : decode cX4_readFile 57 = .ok (.iconst (-1), 1) := by decide +kernel
theorem dX4_readFile_58 : decode cX4_readFile 58 = .ok (.if_icmp .ne 9, 3) := by decide +kernel
theorem dX4_readFile_61 : decode cX4_readFile 61 = .ok (.aload_n 0, 1) := by decide +kernel
theorem dX4_readFile_62 : decode cX4_readFile 62 = .ok (.iconst 4, 1) := by decide +kernel
theorem dX4_readFile_63 : decode cX4_readFile 63 = .ok (.invokevirtual 97, 3) := by decide +kernel
theorem dX4_readFile_66 : decode cX4_readFile 66 = .ok (.pop, 1) := by decide +kernel
theorem dX4_readFile_67 : decode cX4_readFile 67 = .ok (.iload_n 1, 1) := by decide +kernel
theorem dX4_readFile_68 : decode cX4_readFile 68 = .ok (.ireturn, 1) := by decide +kernel
theorem dX4_readNumber_0 : decode cX4_readNumber 0 = .ok (.aload_n 0, 1) := by decide +kernel
theorem dX4_readNumber_1 : decode cX4_readNumber 1 = .ok (.dup, 1) := by decide +kernel
theorem dX4_readNumber_2 : decode cX4_readNumber 2 = .ok (.getfield 61, 3) := by decide +kernel
theorem dX4_readNumber_5 : decode cX4_readNumber 5 = .ok (.iconst 1, 1) := by decide +kernel
theorem dX4_readNumber_6 : decode cX4_readNumber 6 = .ok (.iadd, 1) := by decide +kernel
theorem dX4_readNumber_7 : decode cX4_readNumber 7 = .ok (.putfield 61, 3) := by decide +kernel
theorem dX4_readNumber_10 : decode cX4_readNumber 10 = .ok (.aload_n 0, 1) := by decide +kernel
theorem dX4_readNumber_11 : decode cX4_readNumber 11 = .ok (.getfield 57, 3) := by decide +kernel
theorem dX4_readNumber_14 : decode cX4_readNumber 14 = .ok (.aload_n 0, 1) := by decide +kernel
theorem dX4_readNumber_15 : decode cX4_readNumber 15 = .ok (.getfield 61, 3) := by decide +kernel
theorem dX4_readNumber_18 : decode cX4_readNumber 18 = .ok (.invokevirtual 147, 3) := by decide +kernel
theorem dX4_readNumber_21 : decode cX4_readNumber 21 = .ok (.iconst 2, 1) := by decide +kernel
theorem dX4_readNumber_22 : decode cX4_readNumber 22 = .ok (.if_icmp .eq 9, 3) := by decide +kernel
theorem dX4_readNumber_25 : decode cX4_readNumber 25 = .ok (.aload_n 0, 1) := by decide +kernel
theorem dX4_readNumber_26 : decode cX4_readNumber 26 = .ok (.iconst 1, 1) := by decide +kernel
theorem dX4_readNumber_27 : decode cX4_readNumber 27 = .ok (.invokevirtual 97, 3) := by decide +kernel
theorem dX4_readNumber_30 : decode cX4_readNumber 30 = .ok (.ireturn, 1) := by decide +kernel
theorem dX4_readNumber_31 : decode cX4_readNumber 31 = .ok (.aload_n 0, 1) := by decide +kernel
theorem dX4_readNumber_32 : decode cX4_readNumber 32 = .ok (.getfield 57, 3) := by decide +kernel
theorem dX4_readNumber_35 : decode cX4_readNumber 35 = .ok (.aload_n 0, 1) := by decide +kernel
theorem dX4_readNumber_36 : decode cX4_readNumber 36 = .ok (.getfield 61, 3) := by decide +kernel
theorem dX4_readNumber_39 : decode cX4_readNumber 39 = .ok (.invokevirtual 105, 3) := by decide +kernel
theorem dX4_readNumber_42 : decode cX4_readNumber 42 = .ok (.istore_n 3, 1) := by decide +kernel
theorem dX4_readNumber_43 : decode cX4_readNumber 43 = .ok (.iload_n 3, 1) := by decide +kernel
theorem dX4_readNumber_44 : decode cX4_readNumber 44 = .ok (.iload_n 1, 1) := by decide +kernel
theorem dX4_readNumber_45 : decode cX4_readNumber 45 = .ok (.if_icmp .lt 8, 3) := by decide +kernel
theorem dX4_readNumber_48 : decode cX4_readNumber 48 = .ok (.iload_n 3, 1) := by decide +kernel
theorem dX4_readNumber_49 : decode cX4_readNumber 49 = .ok (.iload_n 2, 1) := by decide +kernel
theorem dX4_readNumber_50 : decode cX4_readNumber 50 = .ok (.if_icmp .le 11, 3) := by decide +kernel
theorem dX4_readNumber_53 : decode cX4_readNumber 53 = .ok (.aload_n 0, 1) := by decide +kernel
theorem dX4_readNumber_54 : decode cX4_readNumber 54 = .ok (.iconst 3, 1) := by decide +kernel
theorem dX4_readNumber_55 : decode cX4_readNumber 55 = .ok (.invokevirtual 97, 3) := by decide +kernel
theorem dX4_readNumber_58 : decode cX4_readNumber 58 = .ok (.ifCond .eq 7, 3) := by decide +kernel
theorem dX4_readNumber_61 : decode cX4_readNumber 61 = .ok (.iconst 1, 1) := by decide +kernel
theorem dX4_readNumber_62 : decode cX4_readNumber 62 = .ok (.goto 4, 3) := by decide +kernel
theorem dX4_readNumber_65 : decode cX4_readNumber 65 = .ok (.iconst 0, 1) := by decide +kernel
theorem dX4_readNumber_66 : decode cX4_readNumber 66 = .ok (.ireturn, 1) := by decide +kernel
theorem dX4_readSemicolon_0 : decode cX4_readSemicolon 0 = .ok (.aload_n 0, 1) := by decide +kernel
theorem dX4_readSemicolon_1 : decode cX4_readSemicolon 1 = .ok (.dup, 1) := by decide +kernel
theorem dX4_readSemicolon_2 : decode cX4_readSemicolon 2 = .ok (.getfield 61, 3) := by decide +kernel
theorem dX4_readSemicolon_5 : decode cX4_readSemicolon 5 = .ok (.iconst 1, 1) := by decide +kernel
theorem dX4_readSemicolon_6 : decode cX4_readSemicolon 6 = .ok (.iadd, 1) := by decide +kernel
theorem dX4_readSemicolon_7 : decode cX4_readSemicolon 7 = .ok (.putfield 61, 3) := by decide +kernel
theorem dX4_readSemicolon_10 : decode cX4_readSemicolon 10 = .ok (.aload_n 0, 1) := by decide +kernel
theorem dX4_readSemicolon_11 : decode cX4_readSemicolon 11 = .ok (.getfield 57, 3) := by decide +kernel
theorem dX4_readSemicolon_14 : decode cX4_readSemicolon 14 = .ok (.aload_n 0, 1) := by decide +kernel
theorem dX4_readSemicolon_15 : decode cX4_readSemicolon 15 = .ok (.getfield 61, 3) := by decide +kernel
theorem dX4_readSemicolon_18 : decode cX4_readSemicolon 18 = .ok (.invokevirtual 147, 3) := by decide +kernel
theorem dX4_readSemicolon_21 : decode cX4_readSemicolon 21 = .ok (.iconst 3, 1) := by decide +kernel
theorem dX4_readSemicolon_22 : decode cX4_readSemicolon 22 = .ok (.if_icmp .eq 11, 3) := by decide +kernel
theorem dX4_readSemicolon_25 : decode cX4_readSemicolon 25 = .ok (.aload_n 0, 1) := by decide +kernel
theorem dX4_readSemicolon_26 : decode cX4_readSemicolon 26 = .ok (.iconst 1, 1) := by decide +kernel
theorem dX4_readSemicolon_27 : decode cX4_readSemicolon 27 = .ok (.invokevirtual 97, 3) := by decide +kernel
theorem dX4_readSemicolon_30 : decode cX4_readSemicolon 30 = .ok (.ifCond .eq 7, 3) := by decide +kernel
theorem dX4_readSemicolon_33 : decode cX4_readSemicolon 33 = .ok (.iconst 1, 1) := by decide +kernel
theorem dX4_readSemicolon_34 : decode cX4_readSemicolon 34 = .ok (.goto 4, 3) := by decide +kernel
theorem dX4_readSemicolon_37 : decode cX4_readSemicolon 37 = .ok (.iconst 0, 1) := by decide +kernel
theorem dX4_readSemicolon_38 : decode cX4_readSemicolon 38 = .ok (.ireturn, 1) := by decide +kernel
theorem dX5_init_0 : decode cX5_init 0 = .ok (.aload_n 0, 1) := by decide +kernel
theorem dX5_init_1 : decode cX5_init 1 = .ok (.invokespecial 3, 3) := by decide +kernel
theorem dX5_init_4 : decode cX5_init 4 = .ok (.aload_n 0, 1) := by decide +kernel
theorem dX5_init_5 : decode cX5_init 5 = .ok (.iconst 0, 1) := by decide +kernel
theorem dX5_init_6 : decode cX5_init 6 = .ok (.putfield 9, 3) := by decide +kernel
theorem dX5_init_9 : decode cX5_init 9 = .ok (.aload_n 0, 1) := by decide +kernel
theorem dX5_init_10 : decode cX5_init 10 = .ok (.bipush 12, 2) := by decide +kernel
theorem dX5_init_12 : decode cX5_init 12 = .ok (.newarray .int, 2) := by decide +kernel
theorem dX5_init_14 : decode cX5_init 14 = .ok (.putfield 15, 3) := by decide +kernel
theorem dX5_init_17 : decode cX5_init 17 = .ok (.aload_n 0, 1) := by decide +kernel
theorem dX5_init_18 : decode cX5_init 18 = .ok (.bipush 12, 2) := by decide +kernel
theorem dX5_init_20 : decode cX5_init 20 = .ok (.newarray .int, 2) := by decide +kernel
theorem dX5_init_22 : decode cX5_init 22 = .ok (.putfield 19, 3) := by decide +kernel
theorem dX5_init_25 : decode cX5_init 25 = .ok (.aload_n 0, 1) := by decide +kernel
theorem dX5_init_26 : decode cX5_init 26 = .ok (.bipush 12, 2) := by decide +kernel
theorem dX5_init_28 : decode cX5_init 28 = .ok (.newarray .int, 2) := by decide +kernel
theorem dX5_init_30 : decode cX5_init 30 = .ok (.putfield 22, 3) := by decide +kernel
theorem dX5_init_33 : decode cX5_init 33 = .ok (.aload_n 0, 1) := by decide +kernel
theorem dX5_init_34 : decode cX5_init 34 = .ok (.bipush 12, 2) := by decide +kernel
theorem dX5_init_36 : decode cX5_init 36 = .ok (.newarray .int, 2) := by decide +kernel
theorem dX5_init_38 : decode cX5_init 38 = .ok (.putfield 25, 3) := by decide +kernel
theorem dX5_init_41 : decode cX5_init 41 = .ok (.aload_n 0, 1) := by decide +kernel
theorem dX5_init_42 : decode cX5_init 42 = .ok (.bipush 12, 2) := by decide +kernel
theorem dX5_init_44 : decode cX5_init 44 = .ok (.newarray .int, 2) := by decide +kernel
theorem dX5_init_46 : decode cX5_init 46 = .ok (.putfield 28, 3) := by decide +kernel
theorem dX5_init_49 : decode cX5_init 49 = .ok (.aload_n 0, 1) := by decide +kernel
theorem dX5_init_50 : decode cX5_init 50 = .ok (.bipush 120, 2) := by decide +kernel
theorem dX5_init_52 : decode cX5_init 52 = .ok (.newarray .int, 2) := by decide +kernel
theorem dX5_init_54 : decode cX5_init 54 = .ok (.putfield 31, 3) := by decide +kernel
theorem dX5_init_57 : decode cX5_init 57 = .ok (.aload_n 0, 1) := by decide +kernel
theorem dX5_init_58 : decode cX5_init 58 = .ok (.bipush 120, 2) := by decide +kernel
theorem dX5_init_60 : decode cX5_init 60 = .ok (.newarray .int, 2) := by decide +kernel
theorem dX5_init_62 : decode cX5_init 62 = .ok (.putfield 34, 3) := by decide +kernel
theorem dX5_init_65 : decode cX5_init 65 = .ok (.return_, 1) := by decide +kernel
theorem dX5_takeFrom_0 : decode cX5_takeFrom 0 = .ok (.aload_n 0, 1) := by decide +kernel
theorem dX5_takeFrom_1 : decode cX5_takeFrom 1 = .ok (.aload_n 1, 1) := by decide +kernel
theorem dX5_takeFrom_2 : decode cX5_takeFrom 2 = .ok (.getfield 9, 3) := by decide +kernel
theorem dX5_takeFrom_5 : decode cX5_takeFrom 5 = .ok (.putfield 9, 3) := by decide +kernel
theorem dX5_takeFrom_8 : decode cX5_takeFrom 8 = .ok (.aload_n 1, 1) := by decide +kernel
theorem dX5_takeFrom_9 : decode cX5_takeFrom 9 = .ok (.getfield 15, 3) := by decide +kernel
theorem dX5_takeFrom_12 : decode cX5_takeFrom 12 = .ok (.aload_n 0, 1) := by decide +kernel
theorem dX5_takeFrom_13 : decode cX5_takeFrom 13 = .ok (.getfield 15, 3) := by decide +kernel
theorem dX5_takeFrom_16 : decode cX5_takeFrom 16 = .ok (.invokestatic 37, 3) := by decide +kernel
theorem dX5_takeFrom_19 : decode cX5_takeFrom 19 = .ok (.aload_n 1, 1) := by decide +kernel
theorem dX5_takeFrom_20 : decode cX5_takeFrom 20 = .ok (.getfield 19, 3) := by decide +kernel
theorem dX5_takeFrom_23 : decode cX5_takeFrom 23 = .ok (.aload_n 0, 1) := by decide +kernel
theorem dX5_takeFrom_24 : decode cX5_takeFrom 24 = .ok (.getfield 19, 3) := by decide +kernel
theorem dX5_takeFrom_27 : decode cX5_takeFrom 27 = .ok (.invokestatic 37, 3) := by decide +kernel
theorem dX5_takeFrom_30 : decode cX5_takeFrom 30 = .ok (.aload_n 1, 1) := by decide +kernel
theorem dX5_takeFrom_31 : decode cX5_takeFrom 31 = .ok (.getfield 22, 3) := by decide +kernel
theorem dX5_takeFrom_34 : decode cX5_takeFrom 34 = .ok (.aload_n 0, 1) := by decide +kernel
theorem dX5_takeFrom_35 : decode cX5_takeFrom 35 = .ok (.getfield 22, 3) := by decide +kernel
theorem dX5_takeFrom_38 : decode cX5_takeFrom 38 = .ok (.invokestatic 37, 3) := by decide +kernel
theorem dX5_takeFrom_41 : decode cX5_takeFrom 41 = .ok (.aload_n 1, 1) := by decide +kernel
theorem dX5_takeFrom_42 : decode cX5_takeFrom 42 = .ok (.getfield 25, 3) := by decide +kernel
theorem dX5_takeFrom_45 : decode cX5_takeFrom 45 = .ok (.aload_n 0, 1) := by decide +kernel
theorem dX5_takeFrom_46 : decode cX5_takeFrom 46 = .ok (.getfield 25, 3) := by decide +kernel
theorem dX5_takeFrom_49 : decode cX5_takeFrom 49 = .ok (.invokestatic 37, 3) := by decide +kernel
theorem dX5_takeFrom_52 : decode cX5_takeFrom 52 = .ok (.aload_n 1, 1) := by decide +kernel
theorem dX5_takeFrom_53 : decode cX5_takeFrom 53 = .ok (.getfield 28, 3) := by decide +kernel
theorem dX5_takeFrom_56 : decode cX5_takeFrom 56 = .ok (.aload_n 0, 1) := by decide +kernel
theorem dX5_takeFrom_57 : decode cX5_takeFrom 57 = .ok (.getfield 28, 3) := by decide +kernel
theorem dX5_takeFrom_60 : decode cX5_takeFrom 60 = .ok (.invokestatic 37, 3) := by decide +kernel
theorem dX5_takeFrom_63 : decode cX5_takeFrom 63 = .ok (.aload_n 1, 1) := by decide +kernel
theorem dX5_takeFrom_64 : decode cX5_takeFrom 64 = .ok (.getfield 31, 3) := by decide +kernel
theorem dX5_takeFrom_67 : decode cX5_takeFrom 67 = .ok (.aload_n 0, 1) := by decide +kernel
theorem dX5_takeFrom_68 : decode cX5_takeFrom 68 = .ok (.getfield 31, 3) := by decide +kernel
theorem dX5_takeFrom_71 : decode cX5_takeFrom 71 = .ok (.invokestatic 37, 3) := by decide +kernel
theorem dX5_takeFrom_74 : decode cX5_takeFrom 74 = .ok (.aload_n 1, 1) := by decide +kernel
theorem dX5_takeFrom_75 : decode cX5_takeFrom 75 = .ok (.getfield 34, 3) := by decide +kernel
theorem dX5_takeFrom_78 : decode cX5_takeFrom 78 = .ok (.aload_n 0, 1) := by decide +kernel
theorem dX5_takeFrom_79 : decode cX5_takeFrom 79 = .ok (.getfield 34, 3) := by decide +kernel
theorem dX5_takeFrom_82 : decode cX5_takeFrom 82 = .ok (.invokestatic 37, 3) := by decide +kernel
theorem dX5_takeFrom_85 : decode cX5_takeFrom 85 = .ok (.return_, 1) := by decide +kernel
theorem dX5_latest_0 : decode cX5_latest 0 = .ok (.aload_n 0, 1) := by decide +kernel
theorem dX5_latest_1 : decode cX5_latest 1 = .ok (.getfield 9, 3) := by decide +kernel
theorem dX5_latest_4 : decode cX5_latest 4 = .ok (.iconst 1, 1) := by decide +kernel
theorem dX5_latest_5 : decode cX5_latest 5 = .ok (.isub, 1) := by decide +kernel
theorem dX5_latest_6 : decode cX5_latest 6 = .ok (.ireturn, 1) := by decide +kernel
theorem dX5_isOpen_0 : decode cX5_isOpen 0 = .ok (.aload_n 0, 1) := by decide +kernel
theorem dX5_isOpen_1 : decode cX5_isOpen 1 = .ok (.aload_n 0, 1) := by decide +kernel
theorem dX5_isOpen_2 : decode cX5_isOpen 2 = .ok (.invokevirtual 41, 3) := by decide +kernel
theorem dX5_isOpen_5 : decode cX5_isOpen 5 = .ok (.invokevirtual 45, 3) := by decide +kernel
theorem dX5_isOpen_8 : decode cX5_isOpen 8 = .ok (.ifCond .ne 7, 3) := by decide +kernel
theorem dX5_isOpen_11 : decode cX5_isOpen 11 = .ok (.iconst 1, 1) := by decide +kernel
theorem dX5_isOpen_12 : decode cX5_isOpen 12 = .ok (.goto 4, 3) := by decide +kernel
theorem dX5_isOpen_15 : decode cX5_isOpen 15 = .ok (.iconst 0, 1) := by decide +kernel
theorem dX5_isOpen_16 : decode cX5_isOpen 16 = .ok (.ireturn, 1) := by decide +kernel
theorem dX5_latestIsLost_0 : decode cX5_latestIsLost 0 = .ok (.aload_n 0, 1) := by decide +kernel
theorem dX5_latestIsLost_1 : decode cX5_latestIsLost 1 = .ok (.aload_n 0, 1) := by decide +kernel
theorem dX5_latestIsLost_2 : decode cX5_latestIsLost 2 = .ok (.invokevirtual 41, 3) := by decide +kernel
theorem dX5_latestIsLost_5 : decode cX5_latestIsLost 5 = .ok (.invokevirtual 45, 3) := by decide +kernel
theorem dX5_latestIsLost_8 : decode cX5_latestIsLost 8 = .ok (.iconst 2, 1) := by decide +kernel
theorem dX5_latestIsLost_9 : decode cX5_latestIsLost 9 = .ok (.if_icmp .ne 7, 3) := by decide +kernel
theorem dX5_latestIsLost_12 : decode cX5_latestIsLost 12 = .ok (.iconst 1, 1) := by decide +kernel
theorem dX5_latestIsLost_13 : decode cX5_latestIsLost 13 = .ok (.goto 4, 3) := by decide +kernel
theorem dX5_latestIsLost_16 : decode cX5_latestIsLost 16 = .ok (.iconst 0, 1) := by decide +kernel
theorem dX5_latestIsLost_17 : decode cX5_latestIsLost 17 = .ok (.ireturn, 1) := by decide +kernel
theorem dX5_oneMoreIsTooMany_0 : decode cX5_oneMoreIsTooMany 0 = .ok (.aload_n 0, 1) := by decide +kernel
theorem dX5_oneMoreIsTooMany_1 : decode cX5_oneMoreIsTooMany 1 = .ok (.invokevirtual 49, 3) := by decide +kernel
theorem dX5_oneMoreIsTooMany_4 : decode cX5_oneMoreIsTooMany 4 = .ok (.ifCond .ne 16, 3) := by decide +kernel
theorem dX5_oneMoreIsTooMany_7 : decode cX5_oneMoreIsTooMany 7 = .ok (.aload_n 0, 1) := by decide +kernel
theorem dX5_oneMoreIsTooMany_8 : decode cX5_oneMoreIsTooMany 8 = .ok (.getfield 9, 3) := by decide +kernel
theorem dX5_oneMoreIsTooMany_11 : decode cX5_oneMoreIsTooMany 11 = .ok (.bipush 12, 2) := by decide +kernel
theorem dX5_oneMoreIsTooMany_13 : decode cX5_oneMoreIsTooMany 13 = .ok (.if_icmp .lt 7, 3) := by decide +kernel
theorem dX5_oneMoreIsTooMany_16 : decode cX5_oneMoreIsTooMany 16 = .ok (.iconst 1, 1) := by decide +kernel
theorem dX5_oneMoreIsTooMany_17 : decode cX5_oneMoreIsTooMany 17 = .ok (.goto 4, 3) := by decide +kernel
theorem dX5_oneMoreIsTooMany_20 : decode cX5_oneMoreIsTooMany 20 = .ok (.iconst 0, 1) := by decide +kernel
theorem dX5_oneMoreIsTooMany_21 : decode cX5_oneMoreIsTooMany 21 = .ok (.ireturn, 1) := by decide +kernel
theorem dX5_stateOf_0 : decode cX5_stateOf 0 = .ok (.iload_n 1, 1) := by decide +kernel
theorem dX5_stateOf_1 : decode cX5_stateOf 1 = .ok (.aload_n 0, 1) := by decide +kernel
theorem dX5_stateOf_2 : decode cX5_stateOf 2 = .ok (.getfield 9, 3) := by decide +kernel
theorem dX5_stateOf_5 : decode cX5_stateOf 5 = .ok (.if_icmp .ge 15, 3) := by decide +kernel
theorem dX5_stateOf_8 : decode cX5_stateOf 8 = .ok (.aload_n 0, 1) := by decide +kernel
theorem dX5_stateOf_9 : decode cX5_stateOf 9 = .ok (.getfield 15, 3) := by decide +kernel
theorem dX5_stateOf_12 : decode cX5_stateOf 12 = .ok (.iload_n 1, 1) := by decide +kernel
theorem dX5_stateOf_13 : decode cX5_stateOf 13 = .ok (.iconst (-1), 1) := by decide +kernel
theorem dX5_stateOf_14 : decode cX5_stateOf 14 = .ok (.invokestatic 53, 3) := by decide +kernel
theorem dX5_stateOf_17 : decode cX5_stateOf 17 = .ok (.goto 4, 3) := by decide +kernel
theorem dX5_stateOf_20 : decode cX5_stateOf 20 = .ok (.iconst (-1), 1) := by decide +kernel
theorem dX5_stateOf_21 : decode cX5_stateOf 21 = .ok (.ireturn, 1) := by decide +kernel
theorem dX5_firstOf_0 : decode cX5_firstOf 0 = .ok (.aload_n 0, 1) := by decide +kernel
theorem dX5_firstOf_1 : decode cX5_firstOf 1 = .ok (.getfield 19, 3) := by decide +kernel
theorem dX5_firstOf_4 : decode cX5_firstOf 4 = .ok (.iload_n 1, 1) := by decide +kernel
theorem dX5_firstOf_5 : decode cX5_firstOf 5 = .ok (.iconst (-1), 1) := by decide +kernel
theorem dX5_firstOf_6 : decode cX5_firstOf 6 = .ok (.invokestatic 53, 3) := by decide +kernel
theorem dX5_firstOf_9 : decode cX5_firstOf 9 = .ok (.ireturn, 1) := by decide +kernel
theorem dX5_directoryOf_0 : decode cX5_directoryOf 0 = .ok (.aload_n 0, 1) := by decide +kernel
theorem dX5_directoryOf_1 : decode cX5_directoryOf 1 = .ok (.getfield 22, 3) := by decide +kernel
theorem dX5_directoryOf_4 : decode cX5_directoryOf 4 = .ok (.iload_n 1, 1) := by decide +kernel
theorem dX5_directoryOf_5 : decode cX5_directoryOf 5 = .ok (.iconst (-1), 1) := by decide +kernel
theorem dX5_directoryOf_6 : decode cX5_directoryOf 6 = .ok (.invokestatic 53, 3) := by decide +kernel
theorem dX5_directoryOf_9 : decode cX5_directoryOf 9 = .ok (.ireturn, 1) := by decide +kernel
theorem dX5_directoryLengthOf_0 : decode cX5_directoryLengthOf 0 = .ok (.aload_n 0, 1) := by decide +kernel
theorem dX5_directoryLengthOf_1 : decode cX5_directoryLengthOf 1 = .ok (.getfield 25, 3) := by decide +kernel
theorem dX5_directoryLengthOf_4 : decode cX5_directoryLengthOf 4 = .ok (.iload_n 1, 1) := by decide +kernel
theorem dX5_directoryLengthOf_5 : decode cX5_directoryLengthOf 5 = .ok (.iconst 0, 1) := by decide +kernel
theorem dX5_directoryLengthOf_6 : decode cX5_directoryLengthOf 6 = .ok (.invokestatic 53, 3) := by decide +kernel
theorem dX5_directoryLengthOf_9 : decode cX5_directoryLengthOf 9 = .ok (.ireturn, 1) := by decide +kernel
theorem dX5_entriesOf_0 : decode cX5_entriesOf 0 = .ok (.aload_n 0, 1) := by decide +kernel
theorem dX5_entriesOf_1 : decode cX5_entriesOf 1 = .ok (.getfield 28, 3) := by decide +kernel
theorem dX5_entriesOf_4 : decode cX5_entriesOf 4 = .ok (.iload_n 1, 1) := by decide +kernel
theorem dX5_entriesOf_5 : decode cX5_entriesOf 5 = .ok (.iconst 0, 1) := by decide +kernel
theorem dX5_entriesOf_6 : decode cX5_entriesOf 6 = .ok (.invokestatic 53, 3) := by decide +kernel
theorem dX5_entriesOf_9 : decode cX5_entriesOf 9 = .ok (.ireturn, 1) := by decide +kernel
theorem dX5_fileAt_0 : decode cX5_fileAt 0 = .ok (.iload_n 2, 1) := by decide +kernel
theorem dX5_fileAt_1 : decode cX5_fileAt 1 = .ok (.ifCond .lt 29, 3) := by decide +kernel
theorem dX5_fileAt_4 : decode cX5_fileAt 4 = .ok (.iload_n 2, 1) := by decide +kernel
theorem dX5_fileAt_5 : decode cX5_fileAt 5 = .ok (.aload_n 0, 1) := by decide +kernel
theorem dX5_fileAt_6 : decode cX5_fileAt 6 = .ok (.iload_n 1, 1) := by decide +kernel
theorem dX5_fileAt_7 : decode cX5_fileAt 7 = .ok (.invokevirtual 57, 3) := by decide +kernel
theorem dX5_fileAt_10 : decode cX5_fileAt 10 = .ok (.if_icmp .ge 20, 3) := by decide +kernel
theorem dX5_fileAt_13 : decode cX5_fileAt 13 = .ok (.aload_n 0, 1) := by decide +kernel
theorem dX5_fileAt_14 : decode cX5_fileAt 14 = .ok (.getfield 31, 3) := by decide +kernel
theorem dX5_fileAt_17 : decode cX5_fileAt 17 = .ok (.iload_n 1, 1) := by decide +kernel
theorem dX5_fileAt_18 : decode cX5_fileAt 18 = .ok (.bipush 10, 2) := by decide +kernel
theorem dX5_fileAt_20 : decode cX5_fileAt 20 = .ok (.imul, 1) := by decide +kernel
theorem dX5_fileAt_21 : decode cX5_fileAt 21 = .ok (.iload_n 2, 1) := by decide +kernel
theorem dX5_fileAt_22 : decode cX5_fileAt 22 = .ok (.iadd, 1) := by decide +kernel
theorem dX5_fileAt_23 : decode cX5_fileAt 23 = .ok (.iconst (-1), 1) := by decide +kernel
theorem dX5_fileAt_24 : decode cX5_fileAt 24 = .ok (.invokestatic 53, 3) := by decide +kernel
theorem dX5_fileAt_27 : decode cX5_fileAt 27 = .ok (.goto 4, 3) := by decide +kernel
theorem dX5_fileAt_30 : decode cX5_fileAt 30 = .ok (.iconst (-1), 1) := by decide +kernel
theorem dX5_fileAt_31 : decode cX5_fileAt 31 = .ok (.ireturn, 1) := by decide +kernel
theorem dX5_hasEntry_0 : decode cX5_hasEntry 0 = .ok (.aload_n 0, 1) := by decide +kernel
theorem dX5_hasEntry_1 : decode cX5_hasEntry 1 = .ok (.getfield 34, 3) := by decide +kernel
theorem dX5_hasEntry_4 : decode cX5_hasEntry 4 = .ok (.iload_n 1, 1) := by decide +kernel
theorem dX5_hasEntry_5 : decode cX5_hasEntry 5 = .ok (.bipush 10, 2) := by decide +kernel
theorem dX5_hasEntry_7 : decode cX5_hasEntry 7 = .ok (.imul, 1) := by decide +kernel
theorem dX5_hasEntry_8 : decode cX5_hasEntry 8 = .ok (.iload_n 2, 1) := by decide +kernel
theorem dX5_hasEntry_9 : decode cX5_hasEntry 9 = .ok (.iadd, 1) := by decide +kernel
theorem dX5_hasEntry_10 : decode cX5_hasEntry 10 = .ok (.bipush (-2), 2) := by decide +kernel
theorem dX5_hasEntry_12 : decode cX5_hasEntry 12 = .ok (.invokestatic 53, 3) := by decide +kernel
theorem dX5_hasEntry_15 : decode cX5_hasEntry 15 = .ok (.bipush (-2), 2) := by decide +kernel
theorem dX5_hasEntry_17 : decode cX5_hasEntry 17 = .ok (.if_icmp .eq 7, 3) := by decide +kernel
theorem dX5_hasEntry_20 : decode cX5_hasEntry 20 = .ok (.iconst 1, 1) := by decide +kernel
theorem dX5_hasEntry_21 : decode cX5_hasEntry 21 = .ok (.goto 4, 3) := by decide +kernel
theorem dX5_hasEntry_24 : decode cX5_hasEntry 24 = .ok (.iconst 0, 1) := by decide +kernel
theorem dX5_hasEntry_25 : decode cX5_hasEntry 25 = .ok (.ireturn, 1) := by decide +kernel
theorem dX5_versionFor_0 : decode cX5_versionFor 0 = .ok (.aload_n 0, 1) := by decide +kernel
theorem dX5_versionFor_1 : decode cX5_versionFor 1 = .ok (.getfield 34, 3) := by decide +kernel
theorem dX5_versionFor_4 : decode cX5_versionFor 4 = .ok (.iload_n 1, 1) := by decide +kernel
theorem dX5_versionFor_5 : decode cX5_versionFor 5 = .ok (.bipush 10, 2) := by decide +kernel
theorem dX5_versionFor_7 : decode cX5_versionFor 7 = .ok (.imul, 1) := by decide +kernel
theorem dX5_versionFor_8 : decode cX5_versionFor 8 = .ok (.iload_n 2, 1) := by decide +kernel
theorem dX5_versionFor_9 : decode cX5_versionFor 9 = .ok (.iadd, 1) := by decide +kernel
theorem dX5_versionFor_10 : decode cX5_versionFor 10 = .ok (.bipush (-2), 2) := by decide +kernel
theorem dX5_versionFor_12 : decode cX5_versionFor 12 = .ok (.invokestatic 53, 3) := by decide +kernel
theorem dX5_versionFor_15 : decode cX5_versionFor 15 = .ok (.istore_n 3, 1) := by decide +kernel
theorem dX5_versionFor_16 : decode cX5_versionFor 16 = .ok (.iload_n 3, 1) := by decide +kernel
theorem dX5_versionFor_17 : decode cX5_versionFor 17 = .ok (.bipush (-2), 2) := by decide +kernel
theorem dX5_versionFor_19 : decode cX5_versionFor 19 = .ok (.if_icmp .ne 7, 3) := by decide +kernel
theorem dX5_versionFor_22 : decode cX5_versionFor 22 = .ok (.iconst (-1), 1) := by decide +kernel
theorem dX5_versionFor_23 : decode cX5_versionFor 23 = .ok (.goto 4, 3) := by decide +kernel
theorem dX5_versionFor_26 : decode cX5_versionFor 26 = .ok (.iload_n 3, 1) := by decide +kernel
theorem dX5_versionFor_27 : decode cX5_versionFor 27 = .ok (.ireturn, 1) := by decide +kernel
theorem dX5_begin_0 : decode cX5_begin 0 = .ok (.aload_n 0, 1) := by decide +kernel
theorem dX5_begin_1 : decode cX5_begin 1 = .ok (.getfield 9, 3) := by decide +kernel
theorem dX5_begin_4 : decode cX5_begin 4 = .ok (.istore_n 2, 1) := by decide +kernel
theorem dX5_begin_5 : decode cX5_begin 5 = .ok (.aload_n 0, 1) := by decide +kernel
theorem dX5_begin_6 : decode cX5_begin 6 = .ok (.dup, 1) := by decide +kernel
theorem dX5_begin_7 : decode cX5_begin 7 = .ok (.getfield 9, 3) := by decide +kernel
theorem dX5_begin_10 : decode cX5_begin 10 = .ok (.iconst 1, 1) := by decide +kernel
theorem dX5_begin_11 : decode cX5_begin 11 = .ok (.iadd, 1) := by decide +kernel
theorem dX5_begin_12 : decode cX5_begin 12 = .ok (.putfield 9, 3) := by decide +kernel
theorem dX5_begin_15 : decode cX5_begin 15 = .ok (.aload_n 0, 1) := by decide +kernel
theorem dX5_begin_16 : decode cX5_begin 16 = .ok (.getfield 15, 3) := by decide +kernel
theorem dX5_begin_19 : decode cX5_begin 19 = .ok (.iload_n 2, 1) := by decide +kernel
theorem dX5_begin_20 : decode cX5_begin 20 = .ok (.iconst 0, 1) := by decide +kernel
theorem dX5_begin_21 : decode cX5_begin 21 = .ok (.invokestatic 60, 3) := by decide +kernel
theorem dX5_begin_24 : decode cX5_begin 24 = .ok (.aload_n 0, 1) := by decide +kernel
theorem dX5_begin_25 : decode cX5_begin 25 = .ok (.getfield 19, 3) := by decide +kernel
theorem dX5_begin_28 : decode cX5_begin 28 = .ok (.iload_n 2, 1) := by decide +kernel
theorem dX5_begin_29 : decode cX5_begin 29 = .ok (.iload_n 1, 1) := by decide +kernel
theorem dX5_begin_30 : decode cX5_begin 30 = .ok (.invokestatic 60, 3) := by decide +kernel
theorem dX5_begin_33 : decode cX5_begin 33 = .ok (.aload_n 0, 1) := by decide +kernel
theorem dX5_begin_34 : decode cX5_begin 34 = .ok (.getfield 22, 3) := by decide +kernel
theorem dX5_begin_37 : decode cX5_begin 37 = .ok (.iload_n 2, 1) := by decide +kernel
theorem dX5_begin_38 : decode cX5_begin 38 = .ok (.iconst (-1), 1) := by decide +kernel
theorem dX5_begin_39 : decode cX5_begin 39 = .ok (.invokestatic 60, 3) := by decide +kernel
theorem dX5_begin_42 : decode cX5_begin 42 = .ok (.aload_n 0, 1) := by decide +kernel
theorem dX5_begin_43 : decode cX5_begin 43 = .ok (.getfield 25, 3) := by decide +kernel
theorem dX5_begin_46 : decode cX5_begin 46 = .ok (.iload_n 2, 1) := by decide +kernel
theorem dX5_begin_47 : decode cX5_begin 47 = .ok (.iconst 0, 1) := by decide +kernel
theorem dX5_begin_48 : decode cX5_begin 48 = .ok (.invokestatic 60, 3) := by decide +kernel
theorem dX5_begin_51 : decode cX5_begin 51 = .ok (.aload_n 0, 1) := by decide +kernel
theorem dX5_begin_52 : decode cX5_begin 52 = .ok (.iload_n 2, 1) := by decide +kernel
theorem dX5_begin_53 : decode cX5_begin 53 = .ok (.invokevirtual 64, 3) := by decide +kernel
theorem dX5_begin_56 : decode cX5_begin 56 = .ok (.return_, 1) := by decide +kernel
theorem dX5_forgetEntries_0 : decode cX5_forgetEntries 0 = .ok (.aload_n 0, 1) := by decide +kernel
theorem dX5_forgetEntries_1 : decode cX5_forgetEntries 1 = .ok (.getfield 28, 3) := by decide +kernel
theorem dX5_forgetEntries_4 : decode cX5_forgetEntries 4 = .ok (.iload_n 1, 1) := by decide +kernel
theorem dX5_forgetEntries_5 : decode cX5_forgetEntries 5 = .ok (.iconst 0, 1) := by decide +kernel
theorem dX5_forgetEntries_6 : decode cX5_forgetEntries 6 = .ok (.invokestatic 60, 3) := by decide +kernel
theorem dX5_forgetEntries_9 : decode cX5_forgetEntries 9 = .ok (.iconst 0, 1) := by decide +kernel
theorem dX5_forgetEntries_10 : decode cX5_forgetEntries 10 = .ok (.istore_n 2, 1) := by decide +kernel
theorem dX5_forgetEntries_11 : decode cX5_forgetEntries 11 = .ok (.iload_n 2, 1) := by decide +kernel
theorem dX5_forgetEntries_12 : decode cX5_forgetEntries 12 = .ok (.bipush 10, 2) := by decide +kernel
theorem dX5_forgetEntries_14 : decode cX5_forgetEntries 14 = .ok (.if_icmp .ge 24, 3) := by decide +kernel
theorem dX5_forgetEntries_17 : decode cX5_forgetEntries 17 = .ok (.aload_n 0, 1) := by decide +kernel
theorem dX5_forgetEntries_18 : decode cX5_forgetEntries 18 = .ok (.getfield 34, 3) := by decide +kernel
theorem dX5_forgetEntries_21 : decode cX5_forgetEntries 21 = .ok (.iload_n 1, 1) := by decide +kernel
theorem dX5_forgetEntries_22 : decode cX5_forgetEntries 22 = .ok (.bipush 10, 2) := by decide +kernel
theorem dX5_forgetEntries_24 : decode cX5_forgetEntries 24 = .ok (.imul, 1) := by decide +kernel
theorem dX5_forgetEntries_25 : decode cX5_forgetEntries 25 = .ok (.iload_n 2, 1) := by decide +kernel
theorem dX5_forgetEntries_26 : decode cX5_forgetEntries 26 = .ok (.iadd, 1) := by decide +kernel
theorem dX5_forgetEntries_27 : decode cX5_forgetEntries 27 = .ok (.bipush (-2), 2) := by decide +kernel
theorem dX5_forgetEntries_29 : decode cX5_forgetEntries 29 = .ok (.invokestatic 60, 3) := by decide +kernel
theorem dX5_forgetEntries_32 : decode cX5_forgetEntries 32 = .ok (.iinc 2 1, 3) := by decide +kernel
theorem dX5_forgetEntries_35 : decode cX5_forgetEntries 35 = .ok (.goto (-24), 3) := by decide +kernel
theorem dX5_forgetEntries_38 : decode cX5_forgetEntries 38 = .ok (.return_, 1) := by decide +kernel
theorem dX5_enter_0 : decode cX5_enter 0 = .ok (.aload_n 0, 1) := by decide +kernel
