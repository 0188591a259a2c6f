theorem dX5_enter_1 : decode cX5_enter 1 = .ok (.invokevirtual 41, 3) := by decide +kernel
theorem dX5_enter_4 : decode cX5_enter 4 = .ok (.istore_n 3, 1) := by decide +kernel
theorem dX5_enter_5 : decode cX5_enter 5 = .ok (.aload_n 0, 1) := by decide +kernel
theorem dX5_enter_6 : decode cX5_enter 6 = .ok (.iload_n 3, 1) := by decide +kernel
theorem dX5_enter_7 : decode cX5_enter 7 = .ok (.iload_n 1, 1) := by decide +kernel
theorem dX5_enter_8 : decode cX5_enter 8 = .ok (.invokevirtual 68, 3) := by decide +kernel
theorem dX5_enter_11 : decode cX5_enter 11 = .ok (.ifCond .ne 36, 3) := by decide +kernel
theorem dX5_enter_14 : decode cX5_enter 14 = .ok (.aload_n 0, 1) := by decide +kernel
theorem dX5_enter_15 : decode cX5_enter 15 = .ok (.getfield 31, 3) := by decide +kernel
theorem dX5_enter_18 : decode cX5_enter 18 = .ok (.iload_n 3, 1) := by decide +kernel
theorem dX5_enter_19 : decode cX5_enter 19 = .ok (.bipush 10, 2) := by decide +kernel
theorem dX5_enter_21 : decode cX5_enter 21 = .ok (.imul, 1) := by decide +kernel
theorem dX5_enter_22 : decode cX5_enter 22 = .ok (.aload_n 0, 1) := by decide +kernel
theorem dX5_enter_23 : decode cX5_enter 23 = .ok (.iload_n 3, 1) := by decide +kernel
theorem dX5_enter_24 : decode cX5_enter 24 = .ok (.invokevirtual 57, 3) := by decide +kernel
theorem dX5_enter_27 : decode cX5_enter 27 = .ok (.iadd, 1) := by decide +kernel
theorem dX5_enter_28 : decode cX5_enter 28 = .ok (.iload_n 1, 1) := by decide +kernel
theorem dX5_enter_29 : decode cX5_enter 29 = .ok (.invokestatic 60, 3) := by decide +kernel
theorem dX5_enter_32 : decode cX5_enter 32 = .ok (.aload_n 0, 1) := by decide +kernel
theorem dX5_enter_33 : decode cX5_enter 33 = .ok (.getfield 28, 3) := by decide +kernel
theorem dX5_enter_36 : decode cX5_enter 36 = .ok (.iload_n 3, 1) := by decide +kernel
theorem dX5_enter_37 : decode cX5_enter 37 = .ok (.aload_n 0, 1) := by decide +kernel
theorem dX5_enter_38 : decode cX5_enter 38 = .ok (.iload_n 3, 1) := by decide +kernel
theorem dX5_enter_39 : decode cX5_enter 39 = .ok (.invokevirtual 57, 3) := by decide +kernel
theorem dX5_enter_42 : decode cX5_enter 42 = .ok (.iconst 1, 1) := by decide +kernel
theorem dX5_enter_43 : decode cX5_enter 43 = .ok (.iadd, 1) := by decide +kernel
theorem dX5_enter_44 : decode cX5_enter 44 = .ok (.invokestatic 60, 3) := by decide +kernel
theorem dX5_enter_47 : decode cX5_enter 47 = .ok (.aload_n 0, 1) := by decide +kernel
theorem dX5_enter_48 : decode cX5_enter 48 = .ok (.getfield 34, 3) := by decide +kernel
theorem dX5_enter_51 : decode cX5_enter 51 = .ok (.iload_n 3, 1) := by decide +kernel
theorem dX5_enter_52 : decode cX5_enter 52 = .ok (.bipush 10, 2) := by decide +kernel
theorem dX5_enter_54 : decode cX5_enter 54 = .ok (.imul, 1) := by decide +kernel
theorem dX5_enter_55 : decode cX5_enter 55 = .ok (.iload_n 1, 1) := by decide +kernel
theorem dX5_enter_56 : decode cX5_enter 56 = .ok (.iadd, 1) := by decide +kernel
theorem dX5_enter_57 : decode cX5_enter 57 = .ok (.iload_n 2, 1) := by decide +kernel
theorem dX5_enter_58 : decode cX5_enter 58 = .ok (.invokestatic 60, 3) := by decide +kernel
theorem dX5_enter_61 : decode cX5_enter 61 = .ok (.return_, 1) := by decide +kernel
theorem dX5_entriesWith_0 : decode cX5_entriesWith 0 = .ok (.aload_n 0, 1) := by decide +kernel
theorem dX5_entriesWith_1 : decode cX5_entriesWith 1 = .ok (.invokevirtual 49, 3) := by decide +kernel
theorem dX5_entriesWith_4 : decode cX5_entriesWith 4 = .ok (.ifCond .ne 5, 3) := by decide +kernel
theorem dX5_entriesWith_7 : decode cX5_entriesWith 7 = .ok (.iconst 1, 1) := by decide +kernel
theorem dX5_entriesWith_8 : decode cX5_entriesWith 8 = .ok (.ireturn, 1) := by decide +kernel
theorem dX5_entriesWith_9 : decode cX5_entriesWith 9 = .ok (.aload_n 0, 1) := by decide +kernel
theorem dX5_entriesWith_10 : decode cX5_entriesWith 10 = .ok (.aload_n 0, 1) := by decide +kernel
theorem dX5_entriesWith_11 : decode cX5_entriesWith 11 = .ok (.invokevirtual 41, 3) := by decide +kernel
theorem dX5_entriesWith_14 : decode cX5_entriesWith 14 = .ok (.invokevirtual 57, 3) := by decide +kernel
theorem dX5_entriesWith_17 : decode cX5_entriesWith 17 = .ok (.aload_n 0, 1) := by decide +kernel
theorem dX5_entriesWith_18 : decode cX5_entriesWith 18 = .ok (.aload_n 0, 1) := by decide +kernel
theorem dX5_entriesWith_19 : decode cX5_entriesWith 19 = .ok (.invokevirtual 41, 3) := by decide +kernel
theorem dX5_entriesWith_22 : decode cX5_entriesWith 22 = .ok (.iload_n 1, 1) := by decide +kernel
theorem dX5_entriesWith_23 : decode cX5_entriesWith 23 = .ok (.invokevirtual 68, 3) := by decide +kernel
theorem dX5_entriesWith_26 : decode cX5_entriesWith 26 = .ok (.ifCond .ne 7, 3) := by decide +kernel
theorem dX5_entriesWith_29 : decode cX5_entriesWith 29 = .ok (.iconst 1, 1) := by decide +kernel
theorem dX5_entriesWith_30 : decode cX5_entriesWith 30 = .ok (.goto 4, 3) := by decide +kernel
theorem dX5_entriesWith_33 : decode cX5_entriesWith 33 = .ok (.iconst 0, 1) := by decide +kernel
theorem dX5_entriesWith_34 : decode cX5_entriesWith 34 = .ok (.invokestatic 72, 3) := by decide +kernel
theorem dX5_entriesWith_37 : decode cX5_entriesWith 37 = .ok (.iadd, 1) := by decide +kernel
theorem dX5_entriesWith_38 : decode cX5_entriesWith 38 = .ok (.ireturn, 1) := by decide +kernel
theorem dX5_markClosed_0 : decode cX5_markClosed 0 = .ok (.aload_n 0, 1) := by decide +kernel
theorem dX5_markClosed_1 : decode cX5_markClosed 1 = .ok (.getfield 15, 3) := by decide +kernel
theorem dX5_markClosed_4 : decode cX5_markClosed 4 = .ok (.aload_n 0, 1) := by decide +kernel
theorem dX5_markClosed_5 : decode cX5_markClosed 5 = .ok (.invokevirtual 41, 3) := by decide +kernel
theorem dX5_markClosed_8 : decode cX5_markClosed 8 = .ok (.iconst 1, 1) := by decide +kernel
theorem dX5_markClosed_9 : decode cX5_markClosed 9 = .ok (.invokestatic 60, 3) := by decide +kernel
theorem dX5_markClosed_12 : decode cX5_markClosed 12 = .ok (.aload_n 0, 1) := by decide +kernel
theorem dX5_markClosed_13 : decode cX5_markClosed 13 = .ok (.getfield 22, 3) := by decide +kernel
theorem dX5_markClosed_16 : decode cX5_markClosed 16 = .ok (.aload_n 0, 1) := by decide +kernel
theorem dX5_markClosed_17 : decode cX5_markClosed 17 = .ok (.invokevirtual 41, 3) := by decide +kernel
theorem dX5_markClosed_20 : decode cX5_markClosed 20 = .ok (.iload_n 1, 1) := by decide +kernel
theorem dX5_markClosed_21 : decode cX5_markClosed 21 = .ok (.invokestatic 60, 3) := by decide +kernel
theorem dX5_markClosed_24 : decode cX5_markClosed 24 = .ok (.aload_n 0, 1) := by decide +kernel
theorem dX5_markClosed_25 : decode cX5_markClosed 25 = .ok (.getfield 25, 3) := by decide +kernel
theorem dX5_markClosed_28 : decode cX5_markClosed 28 = .ok (.aload_n 0, 1) := by decide +kernel
theorem dX5_markClosed_29 : decode cX5_markClosed 29 = .ok (.invokevirtual 41, 3) := by decide +kernel
theorem dX5_markClosed_32 : decode cX5_markClosed 32 = .ok (.iload_n 2, 1) := by decide +kernel
theorem dX5_markClosed_33 : decode cX5_markClosed 33 = .ok (.invokestatic 60, 3) := by decide +kernel
theorem dX5_markClosed_36 : decode cX5_markClosed 36 = .ok (.return_, 1) := by decide +kernel
theorem dX5_markLost_0 : decode cX5_markLost 0 = .ok (.aload_n 0, 1) := by decide +kernel
theorem dX5_markLost_1 : decode cX5_markLost 1 = .ok (.getfield 15, 3) := by decide +kernel
theorem dX5_markLost_4 : decode cX5_markLost 4 = .ok (.aload_n 0, 1) := by decide +kernel
theorem dX5_markLost_5 : decode cX5_markLost 5 = .ok (.invokevirtual 41, 3) := by decide +kernel
theorem dX5_markLost_8 : decode cX5_markLost 8 = .ok (.iconst 2, 1) := by decide +kernel
theorem dX5_markLost_9 : decode cX5_markLost 9 = .ok (.invokestatic 60, 3) := by decide +kernel
theorem dX5_markLost_12 : decode cX5_markLost 12 = .ok (.aload_n 0, 1) := by decide +kernel
theorem dX5_markLost_13 : decode cX5_markLost 13 = .ok (.aload_n 0, 1) := by decide +kernel
theorem dX5_markLost_14 : decode cX5_markLost 14 = .ok (.invokevirtual 41, 3) := by decide +kernel
theorem dX5_markLost_17 : decode cX5_markLost 17 = .ok (.invokevirtual 64, 3) := by decide +kernel
theorem dX5_markLost_20 : decode cX5_markLost 20 = .ok (.return_, 1) := by decide +kernel
theorem dX5_markRecovered_0 : decode cX5_markRecovered 0 = .ok (.aload_n 0, 1) := by decide +kernel
theorem dX5_markRecovered_1 : decode cX5_markRecovered 1 = .ok (.getfield 15, 3) := by decide +kernel
theorem dX5_markRecovered_4 : decode cX5_markRecovered 4 = .ok (.aload_n 0, 1) := by decide +kernel
theorem dX5_markRecovered_5 : decode cX5_markRecovered 5 = .ok (.invokevirtual 41, 3) := by decide +kernel
theorem dX5_markRecovered_8 : decode cX5_markRecovered 8 = .ok (.iconst 3, 1) := by decide +kernel
theorem dX5_markRecovered_9 : decode cX5_markRecovered 9 = .ok (.invokestatic 60, 3) := by decide +kernel
theorem dX5_markRecovered_12 : decode cX5_markRecovered 12 = .ok (.return_, 1) := by decide +kernel
theorem dX5_linkOf_0 : decode cX5_linkOf 0 = .ok (.aload_n 0, 1) := by decide +kernel
theorem dX5_linkOf_1 : decode cX5_linkOf 1 = .ok (.iload_n 1, 1) := by decide +kernel
theorem dX5_linkOf_2 : decode cX5_linkOf 2 = .ok (.invokevirtual 76, 3) := by decide +kernel
theorem dX5_linkOf_5 : decode cX5_linkOf 5 = .ok (.iconst (-1), 1) := by decide +kernel
theorem dX5_linkOf_6 : decode cX5_linkOf 6 = .ok (.if_icmp .ne 5, 3) := by decide +kernel
theorem dX5_linkOf_9 : decode cX5_linkOf 9 = .ok (.iconst (-1), 1) := by decide +kernel
theorem dX5_linkOf_10 : decode cX5_linkOf 10 = .ok (.ireturn, 1) := by decide +kernel
theorem dX5_linkOf_11 : decode cX5_linkOf 11 = .ok (.iload_n 1, 1) := by decide +kernel
theorem dX5_linkOf_12 : decode cX5_linkOf 12 = .ok (.iconst 1, 1) := by decide +kernel
theorem dX5_linkOf_13 : decode cX5_linkOf 13 = .ok (.isub, 1) := by decide +kernel
theorem dX5_linkOf_14 : decode cX5_linkOf 14 = .ok (.istore_n 2, 1) := by decide +kernel
theorem dX5_linkOf_15 : decode cX5_linkOf 15 = .ok (.iload_n 2, 1) := by decide +kernel
theorem dX5_linkOf_16 : decode cX5_linkOf 16 = .ok (.ifCond .lt 20, 3) := by decide +kernel
theorem dX5_linkOf_19 : decode cX5_linkOf 19 = .ok (.aload_n 0, 1) := by decide +kernel
theorem dX5_linkOf_20 : decode cX5_linkOf 20 = .ok (.iload_n 2, 1) := by decide +kernel
theorem dX5_linkOf_21 : decode cX5_linkOf 21 = .ok (.invokevirtual 45, 3) := by decide +kernel
theorem dX5_linkOf_24 : decode cX5_linkOf 24 = .ok (.iconst 1, 1) := by decide +kernel
theorem dX5_linkOf_25 : decode cX5_linkOf 25 = .ok (.if_icmp .ne 5, 3) := by decide +kernel
theorem dX5_linkOf_28 : decode cX5_linkOf 28 = .ok (.iload_n 2, 1) := by decide +kernel
theorem dX5_linkOf_29 : decode cX5_linkOf 29 = .ok (.ireturn, 1) := by decide +kernel
theorem dX5_linkOf_30 : decode cX5_linkOf 30 = .ok (.iinc 2 (-1), 3) := by decide +kernel
theorem dX5_linkOf_33 : decode cX5_linkOf 33 = .ok (.goto (-18), 3) := by decide +kernel
theorem dX5_linkOf_36 : decode cX5_linkOf 36 = .ok (.iconst (-1), 1) := by decide +kernel
theorem dX5_linkOf_37 : decode cX5_linkOf 37 = .ok (.ireturn, 1) := by decide +kernel
theorem dX6_init_0 : decode cX6_init 0 = .ok (.aload_n 0, 1) := by decide +kernel
theorem dX6_init_1 : decode cX6_init 1 = .ok (.invokespecial 3, 3) := by decide +kernel
theorem dX6_init_4 : decode cX6_init 4 = .ok (.aload_n 0, 1) := by decide +kernel
theorem dX6_init_5 : decode cX6_init 5 = .ok (.iconst 2, 1) := by decide +kernel
theorem dX6_init_6 : decode cX6_init 6 = .ok (.newarray .boolean, 2) := by decide +kernel
theorem dX6_init_8 : decode cX6_init 8 = .ok (.putfield 9, 3) := by decide +kernel
theorem dX6_init_11 : decode cX6_init 11 = .ok (.aload_n 0, 1) := by decide +kernel
theorem dX6_init_12 : decode cX6_init 12 = .ok (.iconst 2, 1) := by decide +kernel
theorem dX6_init_13 : decode cX6_init 13 = .ok (.anewarray 15, 3) := by decide +kernel
theorem dX6_init_16 : decode cX6_init 16 = .ok (.putfield 17, 3) := by decide +kernel
theorem dX6_init_19 : decode cX6_init 19 = .ok (.return_, 1) := by decide +kernel
theorem dX6_clear_0 : decode cX6_clear 0 = .ok (.aload_n 0, 1) := by decide +kernel
theorem dX6_clear_1 : decode cX6_clear 1 = .ok (.getfield 9, 3) := by decide +kernel
theorem dX6_clear_4 : decode cX6_clear 4 = .ok (.iconst 0, 1) := by decide +kernel
theorem dX6_clear_5 : decode cX6_clear 5 = .ok (.invokestatic 21, 3) := by decide +kernel
theorem dX6_clear_8 : decode cX6_clear 8 = .ok (.return_, 1) := by decide +kernel
theorem dX7_init_0 : decode cX7_init 0 = .ok (.aload_n 0, 1) := by decide +kernel
theorem dX7_init_1 : decode cX7_init 1 = .ok (.invokespecial 3, 3) := by decide +kernel
theorem dX7_init_4 : decode cX7_init 4 = .ok (.aload_n 0, 1) := by decide +kernel
theorem dX7_init_5 : decode cX7_init 5 = .ok (.iconst 0, 1) := by decide +kernel
theorem dX7_init_6 : decode cX7_init 6 = .ok (.putfield 9, 3) := by decide +kernel
theorem dX7_init_9 : decode cX7_init 9 = .ok (.aload_n 0, 1) := by decide +kernel
theorem dX7_init_10 : decode cX7_init 10 = .ok (.bipush 96, 2) := by decide +kernel
theorem dX7_init_12 : decode cX7_init 12 = .ok (.newarray .int, 2) := by decide +kernel
theorem dX7_init_14 : decode cX7_init 14 = .ok (.putfield 15, 3) := by decide +kernel
theorem dX7_init_17 : decode cX7_init 17 = .ok (.aload_n 0, 1) := by decide +kernel
theorem dX7_init_18 : decode cX7_init 18 = .ok (.bipush 96, 2) := by decide +kernel
theorem dX7_init_20 : decode cX7_init 20 = .ok (.newarray .int, 2) := by decide +kernel
theorem dX7_init_22 : decode cX7_init 22 = .ok (.putfield 19, 3) := by decide +kernel
theorem dX7_init_25 : decode cX7_init 25 = .ok (.aload_n 0, 1) := by decide +kernel
theorem dX7_init_26 : decode cX7_init 26 = .ok (.bipush 96, 2) := by decide +kernel
theorem dX7_init_28 : decode cX7_init 28 = .ok (.newarray .int, 2) := by decide +kernel
theorem dX7_init_30 : decode cX7_init 30 = .ok (.putfield 22, 3) := by decide +kernel
theorem dX7_init_33 : decode cX7_init 33 = .ok (.aload_n 0, 1) := by decide +kernel
theorem dX7_init_34 : decode cX7_init 34 = .ok (.bipush 96, 2) := by decide +kernel
theorem dX7_init_36 : decode cX7_init 36 = .ok (.newarray .int, 2) := by decide +kernel
theorem dX7_init_38 : decode cX7_init 38 = .ok (.putfield 25, 3) := by decide +kernel
theorem dX7_init_41 : decode cX7_init 41 = .ok (.aload_n 0, 1) := by decide +kernel
theorem dX7_init_42 : decode cX7_init 42 = .ok (.bipush 96, 2) := by decide +kernel
theorem dX7_init_44 : decode cX7_init 44 = .ok (.newarray .int, 2) := by decide +kernel
theorem dX7_init_46 : decode cX7_init 46 = .ok (.putfield 28, 3) := by decide +kernel
theorem dX7_init_49 : decode cX7_init 49 = .ok (.return_, 1) := by decide +kernel
theorem dX7_takeFrom_0 : decode cX7_takeFrom 0 = .ok (.aload_n 0, 1) := by decide +kernel
theorem dX7_takeFrom_1 : decode cX7_takeFrom 1 = .ok (.aload_n 1, 1) := by decide +kernel
theorem dX7_takeFrom_2 : decode cX7_takeFrom 2 = .ok (.getfield 9, 3) := by decide +kernel
theorem dX7_takeFrom_5 : decode cX7_takeFrom 5 = .ok (.putfield 9, 3) := by decide +kernel
theorem dX7_takeFrom_8 : decode cX7_takeFrom 8 = .ok (.aload_n 1, 1) := by decide +kernel
theorem dX7_takeFrom_9 : decode cX7_takeFrom 9 = .ok (.getfield 15, 3) := by decide +kernel
theorem dX7_takeFrom_12 : decode cX7_takeFrom 12 = .ok (.aload_n 0, 1) := by decide +kernel
theorem dX7_takeFrom_13 : decode cX7_takeFrom 13 = .ok (.getfield 15, 3) := by decide +kernel
theorem dX7_takeFrom_16 : decode cX7_takeFrom 16 = .ok (.invokestatic 31, 3) := by decide +kernel
theorem dX7_takeFrom_19 : decode cX7_takeFrom 19 = .ok (.aload_n 1, 1) := by decide +kernel
theorem dX7_takeFrom_20 : decode cX7_takeFrom 20 = .ok (.getfield 19, 3) := by decide +kernel
theorem dX7_takeFrom_23 : decode cX7_takeFrom 23 = .ok (.aload_n 0, 1) := by decide +kernel
theorem dX7_takeFrom_24 : decode cX7_takeFrom 24 = .ok (.getfield 19, 3) := by decide +kernel
theorem dX7_takeFrom_27 : decode cX7_takeFrom 27 = .ok (.invokestatic 31, 3) := by decide +kernel
theorem dX7_takeFrom_30 : decode cX7_takeFrom 30 = .ok (.aload_n 1, 1) := by decide +kernel
theorem dX7_takeFrom_31 : decode cX7_takeFrom 31 = .ok (.getfield 22, 3) := by decide +kernel
theorem dX7_takeFrom_34 : decode cX7_takeFrom 34 = .ok (.aload_n 0, 1) := by decide +kernel
theorem dX7_takeFrom_35 : decode cX7_takeFrom 35 = .ok (.getfield 22, 3) := by decide +kernel
theorem dX7_takeFrom_38 : decode cX7_takeFrom 38 = .ok (.invokestatic 31, 3) := by decide +kernel
theorem dX7_takeFrom_41 : decode cX7_takeFrom 41 = .ok (.aload_n 1, 1) := by decide +kernel
theorem dX7_takeFrom_42 : decode cX7_takeFrom 42 = .ok (.getfield 25, 3) := by decide +kernel
theorem dX7_takeFrom_45 : decode cX7_takeFrom 45 = .ok (.aload_n 0, 1) := by decide +kernel
theorem dX7_takeFrom_46 : decode cX7_takeFrom 46 = .ok (.getfield 25, 3) := by decide +kernel
theorem dX7_takeFrom_49 : decode cX7_takeFrom 49 = .ok (.invokestatic 31, 3) := by decide +kernel
theorem dX7_takeFrom_52 : decode cX7_takeFrom 52 = .ok (.aload_n 1, 1) := by decide +kernel
theorem dX7_takeFrom_53 : decode cX7_takeFrom 53 = .ok (.getfield 28, 3) := by decide +kernel
theorem dX7_takeFrom_56 : decode cX7_takeFrom 56 = .ok (.aload_n 0, 1) := by decide +kernel
theorem dX7_takeFrom_57 : decode cX7_takeFrom 57 = .ok (.getfield 28, 3) := by decide +kernel
theorem dX7_takeFrom_60 : decode cX7_takeFrom 60 = .ok (.invokestatic 31, 3) := by decide +kernel
theorem dX7_takeFrom_63 : decode cX7_takeFrom 63 = .ok (.return_, 1) := by decide +kernel
theorem dX7_add_0 : decode cX7_add 0 = .ok (.aload_n 0, 1) := by decide +kernel
theorem dX7_add_1 : decode cX7_add 1 = .ok (.getfield 9, 3) := by decide +kernel
theorem dX7_add_4 : decode cX7_add 4 = .ok (.istore 6, 2) := by decide +kernel
theorem dX7_add_6 : decode cX7_add 6 = .ok (.aload_n 0, 1) := by decide +kernel
theorem dX7_add_7 : decode cX7_add 7 = .ok (.dup, 1) := by decide +kernel
theorem dX7_add_8 : decode cX7_add 8 = .ok (.getfield 9, 3) := by decide +kernel
theorem dX7_add_11 : decode cX7_add 11 = .ok (.iconst 1, 1) := by decide +kernel
theorem dX7_add_12 : decode cX7_add 12 = .ok (.iadd, 1) := by decide +kernel
theorem dX7_add_13 : decode cX7_add 13 = .ok (.putfield 9, 3) := by decide +kernel
theorem dX7_add_16 : decode cX7_add 16 = .ok (.aload_n 0, 1) := by decide +kernel
theorem dX7_add_17 : decode cX7_add 17 = .ok (.getfield 15, 3) := by decide +kernel
theorem dX7_add_20 : decode cX7_add 20 = .ok (.iload 6, 2) := by decide +kernel
theorem dX7_add_22 : decode cX7_add 22 = .ok (.iload_n 1, 1) := by decide +kernel
theorem dX7_add_23 : decode cX7_add 23 = .ok (.invokestatic 35, 3) := by decide +kernel
theorem dX7_add_26 : decode cX7_add 26 = .ok (.aload_n 0, 1) := by decide +kernel
theorem dX7_add_27 : decode cX7_add 27 = .ok (.getfield 19, 3) := by decide +kernel
theorem dX7_add_30 : decode cX7_add 30 = .ok (.iload 6, 2) := by decide +kernel
theorem dX7_add_32 : decode cX7_add 32 = .ok (.iload_n 2, 1) := by decide +kernel
theorem dX7_add_33 : decode cX7_add 33 = .ok (.invokestatic 35, 3) := by decide +kernel
theorem dX7_add_36 : decode cX7_add 36 = .ok (.aload_n 0, 1) := by decide +kernel
theorem dX7_add_37 : decode cX7_add 37 = .ok (.getfield 22, 3) := by decide +kernel
theorem dX7_add_40 : decode cX7_add 40 = .ok (.iload 6, 2) := by decide +kernel
theorem dX7_add_42 : decode cX7_add 42 = .ok (.iload_n 3, 1) := by decide +kernel
theorem dX7_add_43 : decode cX7_add 43 = .ok (.invokestatic 35, 3) := by decide +kernel
theorem dX7_add_46 : decode cX7_add 46 = .ok (.aload_n 0, 1) := by decide +kernel
theorem dX7_add_47 : decode cX7_add 47 = .ok (.getfield 25, 3) := by decide +kernel
theorem dX7_add_50 : decode cX7_add 50 = .ok (.iload 6, 2) := by decide +kernel
theorem dX7_add_52 : decode cX7_add 52 = .ok (.iload 4, 2) := by decide +kernel
theorem dX7_add_54 : decode cX7_add 54 = .ok (.invokestatic 35, 3) := by decide +kernel
theorem dX7_add_57 : decode cX7_add 57 = .ok (.aload_n 0, 1) := by decide +kernel
theorem dX7_add_58 : decode cX7_add 58 = .ok (.getfield 28, 3) := by decide +kernel
theorem dX7_add_61 : decode cX7_add 61 = .ok (.iload 6, 2) := by decide +kernel
theorem dX7_add_63 : decode cX7_add 63 = .ok (.iload 5, 2) := by decide +kernel
theorem dX7_add_65 : decode cX7_add 65 = .ok (.invokestatic 35, 3) := by decide +kernel
theorem dX7_add_68 : decode cX7_add 68 = .ok (.iload 6, 2) := by decide +kernel
theorem dX7_add_70 : decode cX7_add 70 = .ok (.ireturn, 1) := by decide +kernel
theorem dX7_fileOf_0 : decode cX7_fileOf 0 = .ok (.aload_n 0, 1) := by decide +kernel
theorem dX7_fileOf_1 : decode cX7_fileOf 1 = .ok (.getfield 15, 3) := by decide +kernel
theorem dX7_fileOf_4 : decode cX7_fileOf 4 = .ok (.iload_n 1, 1) := by decide +kernel
theorem dX7_fileOf_5 : decode cX7_fileOf 5 = .ok (.iconst (-1), 1) := by decide +kernel
theorem dX7_fileOf_6 : decode cX7_fileOf 6 = .ok (.invokestatic 39, 3) := by decide +kernel
theorem dX7_fileOf_9 : decode cX7_fileOf 9 = .ok (.ireturn, 1) := by decide +kernel
theorem dX7_firstOf_0 : decode cX7_firstOf 0 = .ok (.aload_n 0, 1) := by decide +kernel
theorem dX7_firstOf_1 : decode cX7_firstOf 1 = .ok (.getfield 19, 3) := by decide +kernel
theorem dX7_firstOf_4 : decode cX7_firstOf 4 = .ok (.iload_n 1, 1) := by decide +kernel
theorem dX7_firstOf_5 : decode cX7_firstOf 5 = .ok (.iconst (-1), 1) := by decide +kernel
theorem dX7_firstOf_6 : decode cX7_firstOf 6 = .ok (.invokestatic 39, 3) := by decide +kernel
theorem dX7_firstOf_9 : decode cX7_firstOf 9 = .ok (.ireturn, 1) := by decide +kernel
theorem dX7_lengthOf_0 : decode cX7_lengthOf 0 = .ok (.aload_n 0, 1) := by decide +kernel
theorem dX7_lengthOf_1 : decode cX7_lengthOf 1 = .ok (.getfield 22, 3) := by decide +kernel
theorem dX7_lengthOf_4 : decode cX7_lengthOf 4 = .ok (.iload_n 1, 1) := by decide +kernel
theorem dX7_lengthOf_5 : decode cX7_lengthOf 5 = .ok (.iconst 0, 1) := by decide +kernel
theorem dX7_lengthOf_6 : decode cX7_lengthOf 6 = .ok (.invokestatic 39, 3) := by decide +kernel
theorem dX7_lengthOf_9 : decode cX7_lengthOf 9 = .ok (.ireturn, 1) := by decide +kernel
theorem dX7_tagOf_0 : decode cX7_tagOf 0 = .ok (.aload_n 0, 1) := by decide +kernel
theorem dX7_tagOf_1 : decode cX7_tagOf 1 = .ok (.getfield 25, 3) := by decide +kernel
theorem dX7_tagOf_4 : decode cX7_tagOf 4 = .ok (.iload_n 1, 1) := by decide +kernel
theorem dX7_tagOf_5 : decode cX7_tagOf 5 = .ok (.iconst (-1), 1) := by decide +kernel
theorem dX7_tagOf_6 : decode cX7_tagOf 6 = .ok (.invokestatic 39, 3) := by decide +kernel
theorem dX7_tagOf_9 : decode cX7_tagOf 9 = .ok (.ireturn, 1) := by decide +kernel
theorem dX7_writerOf_0 : decode cX7_writerOf 0 = .ok (.aload_n 0, 1) := by decide +kernel
theorem dX7_writerOf_1 : decode cX7_writerOf 1 = .ok (.getfield 28, 3) := by decide +kernel
theorem dX7_writerOf_4 : decode cX7_writerOf 4 = .ok (.iload_n 1, 1) := by decide +kernel
theorem dX7_writerOf_5 : decode cX7_writerOf 5 = .ok (.iconst (-1), 1) := by decide +kernel
theorem dX7_writerOf_6 : decode cX7_writerOf 6 = .ok (.invokestatic 39, 3) := by decide +kernel
theorem dX7_writerOf_9 : decode cX7_writerOf 9 = .ok (.ireturn, 1) := by decide +kernel
theorem dX7_countOf_0 : decode cX7_countOf 0 = .ok (.iconst 0, 1) := by decide +kernel
theorem dX7_countOf_1 : decode cX7_countOf 1 = .ok (.istore_n 2, 1) := by decide +kernel
theorem dX7_countOf_2 : decode cX7_countOf 2 = .ok (.iconst 0, 1) := by decide +kernel
theorem dX7_countOf_3 : decode cX7_countOf 3 = .ok (.istore_n 3, 1) := by decide +kernel
theorem dX7_countOf_4 : decode cX7_countOf 4 = .ok (.iload_n 3, 1) := by decide +kernel
theorem dX7_countOf_5 : decode cX7_countOf 5 = .ok (.aload_n 0, 1) := by decide +kernel
theorem dX7_countOf_6 : decode cX7_countOf 6 = .ok (.getfield 9, 3) := by decide +kernel
theorem dX7_countOf_9 : decode cX7_countOf 9 = .ok (.if_icmp .ge 29, 3) := by decide +kernel
theorem dX7_countOf_12 : decode cX7_countOf 12 = .ok (.iload_n 2, 1) := by decide +kernel
theorem dX7_countOf_13 : decode cX7_countOf 13 = .ok (.aload_n 0, 1) := by decide +kernel
theorem dX7_countOf_14 : decode cX7_countOf 14 = .ok (.iload_n 3, 1) := by decide +kernel
theorem dX7_countOf_15 : decode cX7_countOf 15 = .ok (.invokevirtual 43, 3) := by decide +kernel
theorem dX7_countOf_18 : decode cX7_countOf 18 = .ok (.iload_n 1, 1) := by decide +kernel
theorem dX7_countOf_19 : decode cX7_countOf 19 = .ok (.if_icmp .ne 7, 3) := by decide +kernel
theorem dX7_countOf_22 : decode cX7_countOf 22 = .ok (.iconst 1, 1) := by decide +kernel
theorem dX7_countOf_23 : decode cX7_countOf 23 = .ok (.goto 4, 3) := by decide +kernel
theorem dX7_countOf_26 : decode cX7_countOf 26 = .ok (.iconst 0, 1) := by decide +kernel
theorem dX7_countOf_27 : decode cX7_countOf 27 = .ok (.invokestatic 47, 3) := by decide +kernel
theorem dX7_countOf_30 : decode cX7_countOf 30 = .ok (.iadd, 1) := by decide +kernel
theorem dX7_countOf_31 : decode cX7_countOf 31 = .ok (.istore_n 2, 1) := by decide +kernel
theorem dX7_countOf_32 : decode cX7_countOf 32 = .ok (.iinc 3 1, 3) := by decide +kernel
theorem dX7_countOf_35 : decode cX7_countOf 35 = .ok (.goto (-31), 3) := by decide +kernel
theorem dX7_countOf_38 : decode cX7_countOf 38 = .ok (.iload_n 2, 1) := by decide +kernel
theorem dX7_countOf_39 : decode cX7_countOf 39 = .ok (.ireturn, 1) := by decide +kernel
theorem dX8_init_0 : decode cX8_init 0 = .ok (.aload_n 0, 1) := by decide +kernel
theorem dX8_init_1 : decode cX8_init 1 = .ok (.invokespecial 3, 3) := by decide +kernel
theorem dX8_init_4 : decode cX8_init 4 = .ok (.aload_n 0, 1) := by decide +kernel
theorem dX8_init_5 : decode cX8_init 5 = .ok (.iconst 0, 1) := by decide +kernel
theorem dX8_init_6 : decode cX8_init 6 = .ok (.putfield 9, 3) := by decide +kernel
theorem dX8_init_9 : decode cX8_init 9 = .ok (.aload_n 0, 1) := by decide +kernel
theorem dX8_init_10 : decode cX8_init 10 = .ok (.bipush 12, 2) := by decide +kernel
theorem dX8_init_12 : decode cX8_init 12 = .ok (.newarray .boolean, 2) := by decide +kernel
theorem dX8_init_14 : decode cX8_init 14 = .ok (.putfield 15, 3) := by decide +kernel
theorem dX8_init_17 : decode cX8_init 17 = .ok (.aload_n 0, 1) := by decide +kernel
theorem dX8_init_18 : decode cX8_init 18 = .ok (.bipush 10, 2) := by decide +kernel
theorem dX8_init_20 : decode cX8_init 20 = .ok (.newarray .int, 2) := by decide +kernel
theorem dX8_init_22 : decode cX8_init 22 = .ok (.putfield 19, 3) := by decide +kernel
theorem dX8_init_25 : decode cX8_init 25 = .ok (.aload_n 0, 1) := by decide +kernel
theorem dX8_init_26 : decode cX8_init 26 = .ok (.bipush 10, 2) := by decide +kernel
theorem dX8_init_28 : decode cX8_init 28 = .ok (.newarray .int, 2) := by decide +kernel
theorem dX8_init_30 : decode cX8_init 30 = .ok (.putfield 23, 3) := by decide +kernel
theorem dX8_init_33 : decode cX8_init 33 = .ok (.aload_n 0, 1) := by decide +kernel
theorem dX8_init_34 : decode cX8_init 34 = .ok (.bipush 10, 2) := by decide +kernel
theorem dX8_init_36 : decode cX8_init 36 = .ok (.newarray .boolean, 2) := by decide +kernel
theorem dX8_init_38 : decode cX8_init 38 = .ok (.putfield 26, 3) := by decide +kernel
theorem dX8_init_41 : decode cX8_init 41 = .ok (.return_, 1) := by decide +kernel
theorem dX8_lookAt_0 : decode cX8_lookAt 0 = .ok (.aload_n 0, 1) := by decide +kernel
theorem dX8_lookAt_1 : decode cX8_lookAt 1 = .ok (.aload_n 1, 1) := by decide +kernel
theorem dX8_lookAt_2 : decode cX8_lookAt 2 = .ok (.getfield 29, 3) := by decide +kernel
theorem dX8_lookAt_5 : decode cX8_lookAt 5 = .ok (.putfield 9, 3) := by decide +kernel
theorem dX8_lookAt_8 : decode cX8_lookAt 8 = .ok (.aload_n 0, 1) := by decide +kernel
theorem dX8_lookAt_9 : decode cX8_lookAt 9 = .ok (.aload_n 1, 1) := by decide +kernel
theorem dX8_lookAt_10 : decode cX8_lookAt 10 = .ok (.invokevirtual 32, 3) := by decide +kernel
theorem dX8_lookAt_13 : decode cX8_lookAt 13 = .ok (.iconst 0, 1) := by decide +kernel
theorem dX8_lookAt_14 : decode cX8_lookAt 14 = .ok (.istore_n 2, 1) := by decide +kernel
theorem dX8_lookAt_15 : decode cX8_lookAt 15 = .ok (.iload_n 2, 1) := by decide +kernel
theorem dX8_lookAt_16 : decode cX8_lookAt 16 = .ok (.aload_n 0, 1) := by decide +kernel
theorem dX8_lookAt_17 : decode cX8_lookAt 17 = .ok (.getfield 9, 3) := by decide +kernel
theorem dX8_lookAt_20 : decode cX8_lookAt 20 = .ok (.if_icmp .ge 70, 3) := by decide +kernel
theorem dX8_lookAt_23 : decode cX8_lookAt 23 = .ok (.aload_n 0, 1) := by decide +kernel
theorem dX8_lookAt_24 : decode cX8_lookAt 24 = .ok (.aload_n 1, 1) := by decide +kernel
theorem dX8_lookAt_25 : decode cX8_lookAt 25 = .ok (.getfield 36, 3) := by decide +kernel
theorem dX8_lookAt_28 : decode cX8_lookAt 28 = .ok (.iload_n 2, 1) := by decide +kernel
theorem dX8_lookAt_29 : decode cX8_lookAt 29 = .ok (.aload_n 1, 1) := by decide +kernel
theorem dX8_lookAt_30 : decode cX8_lookAt 30 = .ok (.getfield 36, 3) := by decide +kernel
theorem dX8_lookAt_33 : decode cX8_lookAt 33 = .ok (.getfield 39, 3) := by decide +kernel
theorem dX8_lookAt_36 : decode cX8_lookAt 36 = .ok (.invokevirtual 44, 3) := by decide +kernel
theorem dX8_lookAt_39 : decode cX8_lookAt 39 = .ok (.istore_n 3, 1) := by decide +kernel
theorem dX8_lookAt_40 : decode cX8_lookAt 40 = .ok (.aload_n 1, 1) := by decide +kernel
theorem dX8_lookAt_41 : decode cX8_lookAt 41 = .ok (.getfield 36, 3) := by decide +kernel
theorem dX8_lookAt_44 : decode cX8_lookAt 44 = .ok (.iload_n 3, 1) := by decide +kernel
theorem dX8_lookAt_45 : decode cX8_lookAt 45 = .ok (.iload_n 2, 1) := by decide +kernel
theorem dX8_lookAt_46 : decode cX8_lookAt 46 = .ok (.invokevirtual 48, 3) := by decide +kernel
theorem dX8_lookAt_49 : decode cX8_lookAt 49 = .ok (.istore 4, 2) := by decide +kernel
theorem dX8_lookAt_51 : decode cX8_lookAt 51 = .ok (.aload_n 0, 1) := by decide +kernel
theorem dX8_lookAt_52 : decode cX8_lookAt 52 = .ok (.getfield 19, 3) := by decide +kernel
theorem dX8_lookAt_55 : decode cX8_lookAt 55 = .ok (.iload_n 2, 1) := by decide +kernel
theorem dX8_lookAt_56 : decode cX8_lookAt 56 = .ok (.iload_n 3, 1) := by decide +kernel
theorem dX8_lookAt_57 : decode cX8_lookAt 57 = .ok (.invokestatic 52, 3) := by decide +kernel
theorem dX8_lookAt_60 : decode cX8_lookAt 60 = .ok (.aload_n 0, 1) := by decide +kernel
theorem dX8_lookAt_61 : decode cX8_lookAt 61 = .ok (.getfield 23, 3) := by decide +kernel
theorem dX8_lookAt_64 : decode cX8_lookAt 64 = .ok (.iload_n 2, 1) := by decide +kernel
theorem dX8_lookAt_65 : decode cX8_lookAt 65 = .ok (.iload 4, 2) := by decide +kernel
theorem dX8_lookAt_67 : decode cX8_lookAt 67 = .ok (.invokestatic 52, 3) := by decide +kernel
theorem dX8_lookAt_70 : decode cX8_lookAt 70 = .ok (.aload_n 0, 1) := by decide +kernel
theorem dX8_lookAt_71 : decode cX8_lookAt 71 = .ok (.getfield 26, 3) := by decide +kernel
theorem dX8_lookAt_74 : decode cX8_lookAt 74 = .ok (.iload_n 2, 1) := by decide +kernel
theorem dX8_lookAt_75 : decode cX8_lookAt 75 = .ok (.aload_n 1, 1) := by decide +kernel
theorem dX8_lookAt_76 : decode cX8_lookAt 76 = .ok (.iload 4, 2) := by decide +kernel
theorem dX8_lookAt_78 : decode cX8_lookAt 78 = .ok (.invokevirtual 56, 3) := by decide +kernel
theorem dX8_lookAt_81 : decode cX8_lookAt 81 = .ok (.invokestatic 60, 3) := by decide +kernel
theorem dX8_lookAt_84 : decode cX8_lookAt 84 = .ok (.iinc 2 1, 3) := by decide +kernel
theorem dX8_lookAt_87 : decode cX8_lookAt 87 = .ok (.goto (-72), 3) := by decide +kernel
theorem dX8_lookAt_90 : decode cX8_lookAt 90 = .ok (.aload_n 0, 1) := by decide +kernel
theorem dX8_lookAt_91 : decode cX8_lookAt 91 = .ok (.areturn, 1) := by decide +kernel
theorem dX8_markReached_0 : decode cX8_markReached 0 = .ok (.aload_n 1, 1) := by decide +kernel
theorem dX8_markReached_1 : decode cX8_markReached 1 = .ok (.getfield 36, 3) := by decide +kernel
theorem dX8_markReached_4 : decode cX8_markReached 4 = .ok (.astore_n 2, 1) := by decide +kernel
theorem dX8_markReached_5 : decode cX8_markReached 5 = .ok (.iconst 1, 1) := by decide +kernel
theorem dX8_markReached_6 : decode cX8_markReached 6 = .ok (.istore_n 3, 1) := by decide +kernel
theorem dX8_markReached_7 : decode cX8_markReached 7 = .ok (.aload_n 2, 1) := by decide +kernel
theorem dX8_markReached_8 : decode cX8_markReached 8 = .ok (.invokevirtual 64, 3) := by decide +kernel
theorem dX8_markReached_11 : decode cX8_markReached 11 = .ok (.istore 4, 2) := by decide +kernel
theorem dX8_markReached_13 : decode cX8_markReached 13 = .ok (.iload 4, 2) := by decide +kernel
theorem dX8_markReached_15 : decode cX8_markReached 15 = .ok (.ifCond .lt 89, 3) := by decide +kernel
theorem dX8_markReached_18 : decode cX8_markReached 18 = .ok (.aload_n 2, 1) := by decide +kernel
theorem dX8_markReached_19 : decode cX8_markReached 19 = .ok (.iload 4, 2) := by decide +kernel
theorem dX8_markReached_21 : decode cX8_markReached 21 = .ok (.invokevirtual 68, 3) := by decide +kernel
theorem dX8_markReached_24 : decode cX8_markReached 24 = .ok (.istore 5, 2) := by decide +kernel
theorem dX8_markReached_26 : decode cX8_markReached 26 = .ok (.iload 5, 2) := by decide +kernel
theorem dX8_markReached_28 : decode cX8_markReached 28 = .ok (.ifCond .ne 7, 3) := by decide +kernel
theorem dX8_markReached_31 : decode cX8_markReached 31 = .ok (.iconst 1, 1) := by decide +kernel
theorem dX8_markReached_32 : decode cX8_markReached 32 = .ok (.goto 4, 3) := by decide +kernel
theorem dX8_markReached_35 : decode cX8_markReached 35 = .ok (.iconst 0, 1) := by decide +kernel
theorem dX8_markReached_36 : decode cX8_markReached 36 = .ok (.istore 6, 2) := by decide +kernel
theorem dX8_markReached_38 : decode cX8_markReached 38 = .ok (.iload 5, 2) := by decide +kernel
theorem dX8_markReached_40 : decode cX8_markReached 40 = .ok (.iconst 1, 1) := by decide +kernel
theorem dX8_markReached_41 : decode cX8_markReached 41 = .ok (.if_icmp .ne 46, 3) := by decide +kernel
theorem dX8_markReached_44 : decode cX8_markReached 44 = .ok (.iload_n 3, 1) := by decide +kernel
theorem dX8_markReached_45 : decode cX8_markReached 45 = .ok (.ifCond .eq 42, 3) := by decide +kernel
theorem dX8_markReached_48 : decode cX8_markReached 48 = .ok (.aload_n 1, 1) := by decide +kernel
theorem dX8_markReached_49 : decode cX8_markReached 49 = .ok (.getfield 72, 3) := by decide +kernel
theorem dX8_markReached_52 : decode cX8_markReached 52 = .ok (.aload_n 2, 1) := by decide +kernel
theorem dX8_markReached_53 : decode cX8_markReached 53 = .ok (.iload 4, 2) := by decide +kernel
theorem dX8_markReached_55 : decode cX8_markReached 55 = .ok (.invokevirtual 76, 3) := by decide +kernel
theorem dX8_markReached_58 : decode cX8_markReached 58 = .ok (.aload_n 2, 1) := by decide +kernel
theorem dX8_markReached_59 : decode cX8_markReached 59 = .ok (.iload 4, 2) := by decide +kernel
theorem dX8_markReached_61 : decode cX8_markReached 61 = .ok (.invokevirtual 79, 3) := by decide +kernel
theorem dX8_markReached_64 : decode cX8_markReached 64 = .ok (.invokevirtual 82, 3) := by decide +kernel
theorem dX8_markReached_67 : decode cX8_markReached 67 = .ok (.istore 6, 2) := by decide +kernel
theorem dX8_markReached_69 : decode cX8_markReached 69 = .ok (.iload 6, 2) := by decide +kernel
theorem dX8_markReached_71 : decode cX8_markReached 71 = .ok (.ifCond .ne 10, 3) := by decide +kernel
theorem dX8_markReached_74 : decode cX8_markReached 74 = .ok (.aload_n 1, 1) := by decide +kernel
theorem dX8_markReached_75 : decode cX8_markReached 75 = .ok (.getfield 88, 3) := by decide +kernel
theorem dX8_markReached_78 : decode cX8_markReached 78 = .ok (.ifCond .eq 7, 3) := by decide +kernel
theorem dX8_markReached_81 : decode cX8_markReached 81 = .ok (.iconst 1, 1) := by decide +kernel
theorem dX8_markReached_82 : decode cX8_markReached 82 = .ok (.goto 4, 3) := by decide +kernel
theorem dX8_markReached_85 : decode cX8_markReached 85 = .ok (.iconst 0, 1) := by decide +kernel
theorem dX8_markReached_86 : decode cX8_markReached 86 = .ok (.istore_n 3, 1) := by decide +kernel
theorem dX8_markReached_87 : decode cX8_markReached 87 = .ok (.aload_n 0, 1) := by decide +kernel
theorem dX8_markReached_88 : decode cX8_markReached 88 = .ok (.getfield 15, 3) := by decide +kernel
theorem dX8_markReached_91 : decode cX8_markReached 91 = .ok (.iload 4, 2) := by decide +kernel
theorem dX8_markReached_93 : decode cX8_markReached 93 = .ok (.iload 6, 2) := by decide +kernel
theorem dX8_markReached_95 : decode cX8_markReached 95 = .ok (.invokestatic 60, 3) := by decide +kernel
theorem dX8_markReached_98 : decode cX8_markReached 98 = .ok (.iinc 4 (-1), 3) := by decide +kernel
theorem dX8_markReached_101 : decode cX8_markReached 101 = .ok (.goto (-88), 3) := by decide +kernel
theorem dX8_markReached_104 : decode cX8_markReached 104 = .ok (.return_, 1) := by decide +kernel
theorem dX8_sessionThatCounts_0 : decode cX8_sessionThatCounts 0 = .ok (.iload_n 3, 1) := by decide +kernel
theorem dX8_sessionThatCounts_1 : decode cX8_sessionThatCounts 1 = .ok (.iconst 1, 1) := by decide +kernel
theorem dX8_sessionThatCounts_2 : decode cX8_sessionThatCounts 2 = .ok (.isub, 1) := by decide +kernel
theorem dX8_sessionThatCounts_3 : decode cX8_sessionThatCounts 3 = .ok (.istore 4, 2) := by decide +kernel
theorem dX8_sessionThatCounts_5 : decode cX8_sessionThatCounts 5 = .ok (.iload 4, 2) := by decide +kernel
theorem dX8_sessionThatCounts_7 : decode cX8_sessionThatCounts 7 = .ok (.ifCond .lt 31, 3) := by decide +kernel
theorem dX8_sessionThatCounts_10 : decode cX8_sessionThatCounts 10 = .ok (.aload_n 0, 1) := by decide +kernel
theorem dX8_sessionThatCounts_11 : decode cX8_sessionThatCounts 11 = .ok (.iload 4, 2) := by decide +kernel
theorem dX8_sessionThatCounts_13 : decode cX8_sessionThatCounts 13 = .ok (.invokevirtual 92, 3) := by decide +kernel
theorem dX8_sessionThatCounts_16 : decode cX8_sessionThatCounts 16 = .ok (.ifCond .eq 16, 3) := by decide +kernel
theorem dX8_sessionThatCounts_19 : decode cX8_sessionThatCounts 19 = .ok (.aload_n 1, 1) := by decide +kernel
theorem dX8_sessionThatCounts_20 : decode cX8_sessionThatCounts 20 = .ok (.iload 4, 2) := by decide +kernel
theorem dX8_sessionThatCounts_22 : decode cX8_sessionThatCounts 22 = .ok (.iload_n 2, 1) := by decide +kernel
theorem dX8_sessionThatCounts_23 : decode cX8_sessionThatCounts 23 = .ok (.invokevirtual 95, 3) := by decide +kernel
theorem dX8_sessionThatCounts_26 : decode cX8_sessionThatCounts 26 = .ok (.ifCond .eq 6, 3) := by decide +kernel
theorem dX8_sessionThatCounts_29 : decode cX8_sessionThatCounts 29 = .ok (.iload 4, 2) := by decide +kernel
theorem dX8_sessionThatCounts_31 : decode cX8_sessionThatCounts 31 = .ok (.ireturn, 1) := by decide +kernel
theorem dX8_sessionThatCounts_32 : decode cX8_sessionThatCounts 32 = .ok (.iinc 4 (-1), 3) := by decide +kernel
theorem dX8_sessionThatCounts_35 : decode cX8_sessionThatCounts 35 = .ok (.goto (-30), 3) := by decide +kernel
theorem dX8_sessionThatCounts_38 : decode cX8_sessionThatCounts 38 = .ok (.iconst (-1), 1) := by decide +kernel
theorem dX8_sessionThatCounts_39 : decode cX8_sessionThatCounts 39 = .ok (.ireturn, 1) := by decide +kernel
theorem dX8_isReached_0 : decode cX8_isReached 0 = .ok (.aload_n 0, 1) := by decide +kernel
theorem dX8_isReached_1 : decode cX8_isReached 1 = .ok (.getfield 15, 3) := by decide +kernel
theorem dX8_isReached_4 : decode cX8_isReached 4 = .ok (.iload_n 1, 1) := by decide +kernel
theorem dX8_isReached_5 : decode cX8_isReached 5 = .ok (.invokestatic 98, 3) := by decide +kernel
theorem dX8_isReached_8 : decode cX8_isReached 8 = .ok (.ireturn, 1) := by decide +kernel
theorem dX8_sessionOf_0 : decode cX8_sessionOf 0 = .ok (.aload_n 0, 1) := by decide +kernel
theorem dX8_sessionOf_1 : decode cX8_sessionOf 1 = .ok (.getfield 19, 3) := by decide +kernel
theorem dX8_sessionOf_4 : decode cX8_sessionOf 4 = .ok (.iload_n 1, 1) := by decide +kernel
theorem dX8_sessionOf_5 : decode cX8_sessionOf 5 = .ok (.iconst (-1), 1) := by decide +kernel
theorem dX8_sessionOf_6 : decode cX8_sessionOf 6 = .ok (.invokestatic 102, 3) := by decide +kernel
theorem dX8_sessionOf_9 : decode cX8_sessionOf 9 = .ok (.ireturn, 1) := by decide +kernel
theorem dX8_versionOf_0 : decode cX8_versionOf 0 = .ok (.aload_n 0, 1) := by decide +kernel
theorem dX8_versionOf_1 : decode cX8_versionOf 1 = .ok (.getfield 23, 3) := by decide +kernel
theorem dX8_versionOf_4 : decode cX8_versionOf 4 = .ok (.iload_n 1, 1) := by decide +kernel
theorem dX8_versionOf_5 : decode cX8_versionOf 5 = .ok (.iconst (-1), 1) := by decide +kernel
theorem dX8_versionOf_6 : decode cX8_versionOf 6 = .ok (.invokestatic 102, 3) := by decide +kernel
theorem dX8_versionOf_9 : decode cX8_versionOf 9 = .ok (.ireturn, 1) := by decide +kernel
theorem dX8_isReadable_0 : decode cX8_isReadable 0 = .ok (.aload_n 0, 1) := by decide +kernel
theorem dX8_isReadable_1 : decode cX8_isReadable 1 = .ok (.getfield 26, 3) := by decide +kernel
theorem dX8_isReadable_4 : decode cX8_isReadable 4 = .ok (.iload_n 1, 1) := by decide +kernel
theorem dX8_isReadable_5 : decode cX8_isReadable 5 = .ok (.invokestatic 98, 3) := by decide +kernel
theorem dX8_isReadable_8 : decode cX8_isReadable 8 = .ok (.ireturn, 1) := by decide +kernel
theorem dX8_filesThere_0 : decode cX8_filesThere 0 = .ok (.iconst 0, 1) := by decide +kernel
theorem dX8_filesThere_1 : decode cX8_filesThere 1 = .ok (.istore_n 1, 1) := by decide +kernel
theorem dX8_filesThere_2 : decode cX8_filesThere 2 = .ok (.iconst 0, 1) := by decide +kernel
theorem dX8_filesThere_3 : decode cX8_filesThere 3 = .ok (.istore_n 2, 1) := by decide +kernel
theorem dX8_filesThere_4 : decode cX8_filesThere 4 = .ok (.iload_n 2, 1) := by decide +kernel
theorem dX8_filesThere_5 : decode cX8_filesThere 5 = .ok (.aload_n 0, 1) := by decide +kernel
theorem dX8_filesThere_6 : decode cX8_filesThere 6 = .ok (.getfield 9, 3) := by decide +kernel
theorem dX8_filesThere_9 : decode cX8_filesThere 9 = .ok (.if_icmp .ge 29, 3) := by decide +kernel
theorem dX8_filesThere_12 : decode cX8_filesThere 12 = .ok (.iload_n 1, 1) := by decide +kernel
theorem dX8_filesThere_13 : decode cX8_filesThere 13 = .ok (.aload_n 0, 1) := by decide +kernel
theorem dX8_filesThere_14 : decode cX8_filesThere 14 = .ok (.iload_n 2, 1) := by decide +kernel
theorem dX8_filesThere_15 : decode cX8_filesThere 15 = .ok (.invokevirtual 106, 3) := by decide +kernel
theorem dX8_filesThere_18 : decode cX8_filesThere 18 = .ok (.iconst (-1), 1) := by decide +kernel
theorem dX8_filesThere_19 : decode cX8_filesThere 19 = .ok (.if_icmp .eq 7, 3) := by decide +kernel
theorem dX8_filesThere_22 : decode cX8_filesThere 22 = .ok (.iconst 1, 1) := by decide +kernel
theorem dX8_filesThere_23 : decode cX8_filesThere 23 = .ok (.goto 4, 3) := by decide +kernel
theorem dX8_filesThere_26 : decode cX8_filesThere 26 = .ok (.iconst 0, 1) := by decide +kernel
theorem dX8_filesThere_27 : decode cX8_filesThere 27 = .ok (.invokestatic 109, 3) := by decide +kernel
theorem dX8_filesThere_30 : decode cX8_filesThere 30 = .ok (.iadd, 1) := by decide +kernel
theorem dX8_filesThere_31 : decode cX8_filesThere 31 = .ok (.istore_n 1, 1) := by decide +kernel
theorem dX8_filesThere_32 : decode cX8_filesThere 32 = .ok (.iinc 2 1, 3) := by decide +kernel
theorem dX8_filesThere_35 : decode cX8_filesThere 35 = .ok (.goto (-31), 3) := by decide +kernel
theorem dX8_filesThere_38 : decode cX8_filesThere 38 = .ok (.iload_n 1, 1) := by decide +kernel
theorem dX8_filesThere_39 : decode cX8_filesThere 39 = .ok (.ireturn, 1) := by decide +kernel
theorem dX8_filesReadable_0 : decode cX8_filesReadable 0 = .ok (.iconst 0, 1) := by decide +kernel
theorem dX8_filesReadable_1 : decode cX8_filesReadable 1 = .ok (.istore_n 1, 1) := by decide +kernel
theorem dX8_filesReadable_2 : decode cX8_filesReadable 2 = .ok (.iconst 0, 1) := by decide +kernel
theorem dX8_filesReadable_3 : decode cX8_filesReadable 3 = .ok (.istore_n 2, 1) := by decide +kernel
theorem dX8_filesReadable_4 : decode cX8_filesReadable 4 = .ok (.iload_n 2, 1) := by decide +kernel
theorem dX8_filesReadable_5 : decode cX8_filesReadable 5 = .ok (.aload_n 0, 1) := by decide +kernel
theorem dX8_filesReadable_6 : decode cX8_filesReadable 6 = .ok (.getfield 9, 3) := by decide +kernel
theorem dX8_filesReadable_9 : decode cX8_filesReadable 9 = .ok (.if_icmp .ge 20, 3) := by decide +kernel
theorem dX8_filesReadable_12 : decode cX8_filesReadable 12 = .ok (.iload_n 1, 1) := by decide +kernel
theorem dX8_filesReadable_13 : decode cX8_filesReadable 13 = .ok (.aload_n 0, 1) := by decide +kernel
theorem dX8_filesReadable_14 : decode cX8_filesReadable 14 = .ok (.iload_n 2, 1) := by decide +kernel
theorem dX8_filesReadable_15 : decode cX8_filesReadable 15 = .ok (.invokevirtual 113, 3) := by decide +kernel
theorem dX8_filesReadable_18 : decode cX8_filesReadable 18 = .ok (.invokestatic 109, 3) := by decide +kernel
theorem dX8_filesReadable_21 : decode cX8_filesReadable 21 = .ok (.iadd, 1) := by decide +kernel
theorem dX8_filesReadable_22 : decode cX8_filesReadable 22 = .ok (.istore_n 1, 1) := by decide +kernel
theorem dX8_filesReadable_23 : decode cX8_filesReadable 23 = .ok (.iinc 2 1, 3) := by decide +kernel
theorem dX8_filesReadable_26 : decode cX8_filesReadable 26 = .ok (.goto (-22), 3) := by decide +kernel
theorem dX8_filesReadable_29 : decode cX8_filesReadable 29 = .ok (.iload_n 1, 1) := by decide +kernel
theorem dX8_filesReadable_30 : decode cX8_filesReadable 30 = .ok (.ireturn, 1) := by decide +kernel
theorem dX8_filesThereBefore_0 : decode cX8_filesThereBefore 0 = .ok (.iconst 0, 1) := by decide +kernel
theorem dX8_filesThereBefore_1 : decode cX8_filesThereBefore 1 = .ok (.istore_n 3, 1) := by decide +kernel
theorem dX8_filesThereBefore_2 : decode cX8_filesThereBefore 2 = .ok (.iconst 0, 1) := by decide +kernel
theorem dX8_filesThereBefore_3 : decode cX8_filesThereBefore 3 = .ok (.istore 4, 2) := by decide +kernel
theorem dX8_filesThereBefore_5 : decode cX8_filesThereBefore 5 = .ok (.iload 4, 2) := by decide +kernel
theorem dX8_filesThereBefore_7 : decode cX8_filesThereBefore 7 = .ok (.aload_n 0, 1) := by decide +kernel
theorem dX8_filesThereBefore_8 : decode cX8_filesThereBefore 8 = .ok (.getfield 9, 3) := by decide +kernel
theorem dX8_filesThereBefore_11 : decode cX8_filesThereBefore 11 = .ok (.if_icmp .ge 38, 3) := by decide +kernel
theorem dX8_filesThereBefore_14 : decode cX8_filesThereBefore 14 = .ok (.iload_n 3, 1) := by decide +kernel
theorem dX8_filesThereBefore_15 : decode cX8_filesThereBefore 15 = .ok (.aload_n 1, 1) := by decide +kernel
theorem dX8_filesThereBefore_16 : decode cX8_filesThereBefore 16 = .ok (.aload_n 0, 1) := by decide +kernel
theorem dX8_filesThereBefore_17 : decode cX8_filesThereBefore 17 = .ok (.aload_n 1, 1) := by decide +kernel
theorem dX8_filesThereBefore_18 : decode cX8_filesThereBefore 18 = .ok (.iload 4, 2) := by decide +kernel
theorem dX8_filesThereBefore_20 : decode cX8_filesThereBefore 20 = .ok (.iload_n 2, 1) := by decide +kernel
theorem dX8_filesThereBefore_21 : decode cX8_filesThereBefore 21 = .ok (.invokevirtual 44, 3) := by decide +kernel
theorem dX8_filesThereBefore_24 : decode cX8_filesThereBefore 24 = .ok (.iload 4, 2) := by decide +kernel
theorem dX8_filesThereBefore_26 : decode cX8_filesThereBefore 26 = .ok (.invokevirtual 48, 3) := by decide +kernel
theorem dX8_filesThereBefore_29 : decode cX8_filesThereBefore 29 = .ok (.iconst (-1), 1) := by decide +kernel
theorem dX8_filesThereBefore_30 : decode cX8_filesThereBefore 30 = .ok (.if_icmp .eq 7, 3) := by decide +kernel
theorem dX8_filesThereBefore_33 : decode cX8_filesThereBefore 33 = .ok (.iconst 1, 1) := by decide +kernel
theorem dX8_filesThereBefore_34 : decode cX8_filesThereBefore 34 = .ok (.goto 4, 3) := by decide +kernel
theorem dX8_filesThereBefore_37 : decode cX8_filesThereBefore 37 = .ok (.iconst 0, 1) := by decide +kernel
theorem dX8_filesThereBefore_38 : decode cX8_filesThereBefore 38 = .ok (.invokestatic 109, 3) := by decide +kernel
theorem dX8_filesThereBefore_41 : decode cX8_filesThereBefore 41 = .ok (.iadd, 1) := by decide +kernel
theorem dX8_filesThereBefore_42 : decode cX8_filesThereBefore 42 = .ok (.istore_n 3, 1) := by decide +kernel
theorem dX8_filesThereBefore_43 : decode cX8_filesThereBefore 43 = .ok (.iinc 4 1, 3) := by decide +kernel
theorem dX8_filesThereBefore_46 : decode cX8_filesThereBefore 46 = .ok (.goto (-41), 3) := by decide +kernel
theorem dX8_filesThereBefore_49 : decode cX8_filesThereBefore 49 = .ok (.iload_n 3, 1) := by decide +kernel
theorem dX8_filesThereBefore_50 : decode cX8_filesThereBefore 50 = .ok (.ireturn, 1) := by decide +kernel
theorem dX9_init_0 : decode cX9_init 0 = .ok (.aload_n 0, 1) := by decide +kernel
theorem dX9_init_1 : decode cX9_init 1 = .ok (.invokespecial 3, 3) := by decide +kernel
theorem dX9_init_4 : decode cX9_init 4 = .ok (.aload_n 0, 1) := by decide +kernel
theorem dX9_init_5 : decode cX9_init 5 = .ok (.new 9, 3) := by decide +kernel
theorem dX9_init_8 : decode cX9_init 8 = .ok (.dup, 1) := by decide +kernel
theorem dX9_init_9 : decode cX9_init 9 = .ok (.invokespecial 11, 3) := by decide +kernel
theorem dX9_init_12 : decode cX9_init 12 = .ok (.putfield 12, 3) := by decide +kernel
theorem dX9_init_15 : decode cX9_init 15 = .ok (.aload_n 0, 1) := by decide +kernel
theorem dX9_init_16 : decode cX9_init 16 = .ok (.new 16, 3) := by decide +kernel
theorem dX9_init_19 : decode cX9_init 19 = .ok (.dup, 1) := by decide +kernel
theorem dX9_init_20 : decode cX9_init 20 = .ok (.invokespecial 18, 3) := by decide +kernel
theorem dX9_init_23 : decode cX9_init 23 = .ok (.putfield 19, 3) := by decide +kernel
theorem dX9_init_26 : decode cX9_init 26 = .ok (.aload_n 0, 1) := by decide +kernel
theorem dX9_init_27 : decode cX9_init 27 = .ok (.new 23, 3) := by decide +kernel
theorem dX9_init_30 : decode cX9_init 30 = .ok (.dup, 1) := by decide +kernel
theorem dX9_init_31 : decode cX9_init 31 = .ok (.invokespecial 25, 3) := by decide +kernel
theorem dX9_init_34 : decode cX9_init 34 = .ok (.putfield 26, 3) := by decide +kernel
theorem dX9_init_37 : decode cX9_init 37 = .ok (.aload_n 0, 1) := by decide +kernel
theorem dX9_init_38 : decode cX9_init 38 = .ok (.new 30, 3) := by decide +kernel
theorem dX9_init_41 : decode cX9_init 41 = .ok (.dup, 1) := by decide +kernel
theorem dX9_init_42 : decode cX9_init 42 = .ok (.invokespecial 32, 3) := by decide +kernel
theorem dX9_init_45 : decode cX9_init 45 = .ok (.putfield 33, 3) := by decide +kernel
theorem dX9_init_48 : decode cX9_init 48 = .ok (.aload_n 0, 1) := by decide +kernel
theorem dX9_init_49 : decode cX9_init 49 = .ok (.new 37, 3) := by decide +kernel
theorem dX9_init_52 : decode cX9_init 52 = .ok (.dup, 1) := by decide +kernel
theorem dX9_init_53 : decode cX9_init 53 = .ok (.invokespecial 39, 3) := by decide +kernel
theorem dX9_init_56 : decode cX9_init 56 = .ok (.putfield 40, 3) := by decide +kernel
theorem dX9_init_59 : decode cX9_init 59 = .ok (.aload_n 0, 1) := by decide +kernel
theorem dX9_init_60 : decode cX9_init 60 = .ok (.new 44, 3) := by decide +kernel
theorem dX9_init_63 : decode cX9_init 63 = .ok (.dup, 1) := by decide +kernel
theorem dX9_init_64 : decode cX9_init 64 = .ok (.invokespecial 46, 3) := by decide +kernel
theorem dX9_init_67 : decode cX9_init 67 = .ok (.putfield 47, 3) := by decide +kernel
theorem dX9_init_70 : decode cX9_init 70 = .ok (.aload_n 0, 1) := by decide +kernel
theorem dX9_init_71 : decode cX9_init 71 = .ok (.new 44, 3) := by decide +kernel
theorem dX9_init_74 : decode cX9_init 74 = .ok (.dup, 1) := by decide +kernel
theorem dX9_init_75 : decode cX9_init 75 = .ok (.invokespecial 46, 3) := by decide +kernel
theorem dX9_init_78 : decode cX9_init 78 = .ok (.putfield 51, 3) := by decide +kernel
theorem dX9_init_81 : decode cX9_init 81 = .ok (.aload_n 0, 1) := by decide +kernel
theorem dX9_init_82 : decode cX9_init 82 = .ok (.getfield 47, 3) := by decide +kernel
theorem dX9_init_85 : decode cX9_init 85 = .ok (.bipush 8, 2) := by decide +kernel
theorem dX9_init_87 : decode cX9_init 87 = .ok (.iconst 0, 1) := by decide +kernel
theorem dX9_init_88 : decode cX9_init 88 = .ok (.invokevirtual 54, 3) := by decide +kernel
theorem dX9_init_91 : decode cX9_init 91 = .ok (.return_, 1) := by decide +kernel
theorem dX9_append_0 : decode cX9_append 0 = .ok (.aload_n 0, 1) := by decide +kernel
theorem dX9_append_1 : decode cX9_append 1 = .ok (.getfield 12, 3) := by decide +kernel
theorem dX9_append_4 : decode cX9_append 4 = .ok (.bipush 20, 2) := by decide +kernel
theorem dX9_append_6 : decode cX9_append 6 = .ok (.invokevirtual 58, 3) := by decide +kernel
theorem dX9_append_9 : decode cX9_append 9 = .ok (.ifCond .ne 5, 3) := by decide +kernel
theorem dX9_append_12 : decode cX9_append 12 = .ok (.iconst (-1), 1) := by decide +kernel
theorem dX9_append_13 : decode cX9_append 13 = .ok (.ireturn, 1) := by decide +kernel
theorem dX9_append_14 : decode cX9_append 14 = .ok (.aload_n 0, 1) := by decide +kernel
theorem dX9_append_15 : decode cX9_append 15 = .ok (.getfield 12, 3) := by decide +kernel
theorem dX9_append_18 : decode cX9_append 18 = .ok (.iload_n 1, 1) := by decide +kernel
theorem dX9_append_19 : decode cX9_append 19 = .ok (.invokevirtual 62, 3) := by decide +kernel
theorem dX9_append_22 : decode cX9_append 22 = .ok (.aload_n 0, 1) := by decide +kernel
theorem dX9_append_23 : decode cX9_append 23 = .ok (.getfield 12, 3) := by decide +kernel
theorem dX9_append_26 : decode cX9_append 26 = .ok (.iload_n 2, 1) := by decide +kernel
theorem dX9_append_27 : decode cX9_append 27 = .ok (.invokevirtual 62, 3) := by decide +kernel
theorem dX9_append_30 : decode cX9_append 30 = .ok (.aload_n 0, 1) := by decide +kernel
theorem dX9_append_31 : decode cX9_append 31 = .ok (.getfield 12, 3) := by decide +kernel
theorem dX9_append_34 : decode cX9_append 34 = .ok (.iload_n 3, 1) := by decide +kernel
theorem dX9_append_35 : decode cX9_append 35 = .ok (.invokevirtual 62, 3) := by decide +kernel
theorem dX9_append_38 : decode cX9_append 38 = .ok (.aload_n 0, 1) := by decide +kernel
theorem dX9_append_39 : decode cX9_append 39 = .ok (.getfield 12, 3) := by decide +kernel
theorem dX9_append_42 : decode cX9_append 42 = .ok (.iload 4, 2) := by decide +kernel
theorem dX9_append_44 : decode cX9_append 44 = .ok (.invokevirtual 62, 3) := by decide +kernel
theorem dX9_append_47 : decode cX9_append 47 = .ok (.aload_n 0, 1) := by decide +kernel
theorem dX9_append_48 : decode cX9_append 48 = .ok (.getfield 12, 3) := by decide +kernel
theorem dX9_append_51 : decode cX9_append 51 = .ok (.iload 5, 2) := by decide +kernel
theorem dX9_append_53 : decode cX9_append 53 = .ok (.invokevirtual 62, 3) := by decide +kernel
theorem dX9_append_56 : decode cX9_append 56 = .ok (.aload_n 0, 1) := by decide +kernel
theorem dX9_append_57 : decode cX9_append 57 = .ok (.getfield 12, 3) := by decide +kernel
theorem dX9_append_60 : decode cX9_append 60 = .ok (.getfield 66, 3) := by decide +kernel
theorem dX9_append_63 : decode cX9_append 63 = .ok (.ireturn, 1) := by decide +kernel
theorem dX9_parse_0 : decode cX9_parse 0 = .ok (.iload_n 1, 1) := by decide +kernel
theorem dX9_parse_1 : decode cX9_parse 1 = .ok (.iconst 0, 1) := by decide +kernel
theorem dX9_parse_2 : decode cX9_parse 2 = .ok (.aload_n 0, 1) := by decide +kernel
theorem dX9_parse_3 : decode cX9_parse 3 = .ok (.getfield 12, 3) := by decide +kernel
theorem dX9_parse_6 : decode cX9_parse 6 = .ok (.getfield 66, 3) := by decide +kernel
theorem dX9_parse_9 : decode cX9_parse 9 = .ok (.invokestatic 70, 3) := by decide +kernel
theorem dX9_parse_12 : decode cX9_parse 12 = .ok (.aload_n 0, 1) := by decide +kernel
theorem dX9_parse_13 : decode cX9_parse 13 = .ok (.getfield 19, 3) := by decide +kernel
theorem dX9_parse_16 : decode cX9_parse 16 = .ok (.aload_n 0, 1) := by decide +kernel
theorem dX9_parse_17 : decode cX9_parse 17 = .ok (.getfield 12, 3) := by decide +kernel
theorem dX9_parse_20 : decode cX9_parse 20 = .ok (.iload_n 1, 1) := by decide +kernel
theorem dX9_parse_21 : decode cX9_parse 21 = .ok (.invokevirtual 74, 3) := by decide +kernel
theorem dX9_parse_24 : decode cX9_parse 24 = .ok (.aload_n 0, 1) := by decide +kernel
theorem dX9_parse_25 : decode cX9_parse 25 = .ok (.getfield 12, 3) := by decide +kernel
theorem dX9_parse_28 : decode cX9_parse 28 = .ok (.iconst 0, 1) := by decide +kernel
theorem dX9_parse_29 : decode cX9_parse 29 = .ok (.putfield 66, 3) := by decide +kernel
theorem dX9_parse_32 : decode cX9_parse 32 = .ok (.aload_n 0, 1) := by decide +kernel
theorem dX9_parse_33 : decode cX9_parse 33 = .ok (.getfield 51, 3) := by decide +kernel
theorem dX9_parse_36 : decode cX9_parse 36 = .ok (.aload_n 0, 1) := by decide +kernel
theorem dX9_parse_37 : decode cX9_parse 37 = .ok (.getfield 19, 3) := by decide +kernel
theorem dX9_parse_40 : decode cX9_parse 40 = .ok (.invokevirtual 78, 3) := by decide +kernel
theorem dX9_parse_43 : decode cX9_parse 43 = .ok (.iconst 0, 1) := by decide +kernel
theorem dX9_parse_44 : decode cX9_parse 44 = .ok (.istore_n 2, 1) := by decide +kernel
theorem dX9_parse_45 : decode cX9_parse 45 = .ok (.iload_n 2, 1) := by decide +kernel
theorem dX9_parse_46 : decode cX9_parse 46 = .ok (.aload_n 0, 1) := by decide +kernel
theorem dX9_parse_47 : decode cX9_parse 47 = .ok (.getfield 19, 3) := by decide +kernel
theorem dX9_parse_50 : decode cX9_parse 50 = .ok (.getfield 82, 3) := by decide +kernel
theorem dX9_parse_53 : decode cX9_parse 53 = .ok (.if_icmp .ge 47, 3) := by decide +kernel
theorem dX9_parse_56 : decode cX9_parse 56 = .ok (.aload_n 0, 1) := by decide +kernel
theorem dX9_parse_57 : decode cX9_parse 57 = .ok (.getfield 51, 3) := by decide +kernel
theorem dX9_parse_60 : decode cX9_parse 60 = .ok (.aload_n 0, 1) := by decide +kernel
theorem dX9_parse_61 : decode cX9_parse 61 = .ok (.getfield 19, 3) := by decide +kernel
theorem dX9_parse_64 : decode cX9_parse 64 = .ok (.iload_n 2, 1) := by decide +kernel
theorem dX9_parse_65 : decode cX9_parse 65 = .ok (.invokevirtual 85, 3) := by decide +kernel
theorem dX9_parse_68 : decode cX9_parse 68 = .ok (.ifCond .eq 14, 3) := by decide +kernel
theorem dX9_parse_71 : decode cX9_parse 71 = .ok (.aload_n 0, 1) := by decide +kernel
theorem dX9_parse_72 : decode cX9_parse 72 = .ok (.getfield 19, 3) := by decide +kernel
theorem dX9_parse_75 : decode cX9_parse 75 = .ok (.iload_n 2, 1) := by decide +kernel
theorem dX9_parse_76 : decode cX9_parse 76 = .ok (.invokevirtual 89, 3) := by decide +kernel
theorem dX9_parse_79 : decode cX9_parse 79 = .ok (.goto 21, 3) := by decide +kernel
theorem dX9_parse_82 : decode cX9_parse 82 = .ok (.aload_n 0, 1) := by decide +kernel
theorem dX9_parse_83 : decode cX9_parse 83 = .ok (.getfield 51, 3) := by decide +kernel
theorem dX9_parse_86 : decode cX9_parse 86 = .ok (.aload_n 0, 1) := by decide +kernel
theorem dX9_parse_87 : decode cX9_parse 87 = .ok (.getfield 19, 3) := by decide +kernel
theorem dX9_parse_90 : decode cX9_parse 90 = .ok (.iload_n 2, 1) := by decide +kernel
theorem dX9_parse_91 : decode cX9_parse 91 = .ok (.invokevirtual 92, 3) := by decide +kernel
theorem dX9_parse_94 : decode cX9_parse 94 = .ok (.iinc 2 1, 3) := by decide +kernel
theorem dX9_parse_97 : decode cX9_parse 97 = .ok (.goto (-52), 3) := by decide +kernel
theorem dX9_parse_100 : decode cX9_parse 100 = .ok (.aload_n 0, 1) := by decide +kernel
theorem dX9_parse_101 : decode cX9_parse 101 = .ok (.getfield 19, 3) := by decide +kernel
theorem dX9_parse_104 : decode cX9_parse 104 = .ok (.getfield 96, 3) := by decide +kernel
theorem dX9_parse_107 : decode cX9_parse 107 = .ok (.ifCond .ne 35, 3) := by decide +kernel
theorem dX9_parse_110 : decode cX9_parse 110 = .ok (.aload_n 0, 1) := by decide +kernel
theorem dX9_parse_111 : decode cX9_parse 111 = .ok (.getfield 47, 3) := by decide +kernel
theorem dX9_parse_114 : decode cX9_parse 114 = .ok (.astore_n 2, 1) := by decide +kernel
theorem dX9_parse_115 : decode cX9_parse 115 = .ok (.aload_n 0, 1) := by decide +kernel
theorem dX9_parse_116 : decode cX9_parse 116 = .ok (.aload_n 0, 1) := by decide +kernel
theorem dX9_parse_117 : decode cX9_parse 117 = .ok (.getfield 51, 3) := by decide +kernel
theorem dX9_parse_120 : decode cX9_parse 120 = .ok (.putfield 47, 3) := by decide +kernel
theorem dX9_parse_123 : decode cX9_parse 123 = .ok (.aload_n 0, 1) := by decide +kernel
theorem dX9_parse_124 : decode cX9_parse 124 = .ok (.aload_n 2, 1) := by decide +kernel
theorem dX9_parse_125 : decode cX9_parse 125 = .ok (.putfield 51, 3) := by decide +kernel
theorem dX9_parse_128 : decode cX9_parse 128 = .ok (.aload_n 0, 1) := by decide +kernel
theorem dX9_parse_129 : decode cX9_parse 129 = .ok (.getfield 26, 3) := by decide +kernel
theorem dX9_parse_132 : decode cX9_parse 132 = .ok (.invokevirtual 99, 3) := by decide +kernel
theorem dX9_parse_135 : decode cX9_parse 135 = .ok (.aload_n 0, 1) := by decide +kernel
theorem dX9_parse_136 : decode cX9_parse 136 = .ok (.getfield 33, 3) := by decide +kernel
theorem dX9_parse_139 : decode cX9_parse 139 = .ok (.invokevirtual 102, 3) := by decide +kernel
theorem dX9_parse_142 : decode cX9_parse 142 = .ok (.aload_n 0, 1) := by decide +kernel
theorem dX9_parse_143 : decode cX9_parse 143 = .ok (.getfield 19, 3) := by decide +kernel
theorem dX9_parse_146 : decode cX9_parse 146 = .ok (.getfield 96, 3) := by decide +kernel
theorem dX9_parse_149 : decode cX9_parse 149 = .ok (.ireturn, 1) := by decide +kernel
theorem dX9_size_0 : decode cX9_size 0 = .ok (.iload_n 1, 1) := by decide +kernel
theorem dX9_size_1 : decode cX9_size 1 = .ok (.iconst 0, 1) := by decide +kernel
theorem dX9_size_2 : decode cX9_size 2 = .ok (.bipush 12, 2) := by decide +kernel
theorem dX9_size_4 : decode cX9_size 4 = .ok (.invokestatic 70, 3) := by decide +kernel
theorem dX9_size_7 : decode cX9_size 7 = .ok (.iload_n 1, 1) := by decide +kernel
theorem dX9_size_8 : decode cX9_size 8 = .ok (.tableswitch 218 0 11 #[64, 75, 97, 105, 116, 127, 138, 149, 167, 185, 199, 210], 64) := by decide +kernel
theorem dX9_size_72 : decode cX9_size 72 = .ok (.aload_n 0, 1) := by decide +kernel
theorem dX9_size_73 : decode cX9_size 73 = .ok (.getfield 47, 3) := by decide +kernel
theorem dX9_size_76 : decode cX9_size 76 = .ok (.getfield 106, 3) := by decide +kernel
theorem dX9_size_79 : decode cX9_size 79 = .ok (.getfield 110, 3) := by decide +kernel
theorem dX9_size_82 : decode cX9_size 82 = .ok (.ireturn, 1) := by decide +kernel
theorem dX9_size_83 : decode cX9_size 83 = .ok (.aload_n 0, 1) := by decide +kernel
theorem dX9_size_84 : decode cX9_size 84 = .ok (.getfield 47, 3) := by decide +kernel
theorem dX9_size_87 : decode cX9_size 87 = .ok (.getfield 106, 3) := by decide +kernel
theorem dX9_size_90 : decode cX9_size 90 = .ok (.getfield 110, 3) := by decide +kernel
theorem dX9_size_93 : decode cX9_size 93 = .ok (.aload_n 0, 1) := by decide +kernel
theorem dX9_size_94 : decode cX9_size 94 = .ok (.getfield 47, 3) := by decide +kernel
theorem dX9_size_97 : decode cX9_size 97 = .ok (.getfield 106, 3) := by decide +kernel
theorem dX9_size_100 : decode cX9_size 100 = .ok (.getfield 113, 3) := by decide +kernel
theorem dX9_size_103 : decode cX9_size 103 = .ok (.isub, 1) := by decide +kernel
theorem dX9_size_104 : decode cX9_size 104 = .ok (.ireturn, 1) := by decide +kernel
theorem dX9_size_105 : decode cX9_size 105 = .ok (.aload_n 0, 1) := by decide +kernel
theorem dX9_size_106 : decode cX9_size 106 = .ok (.getfield 47, 3) := by decide +kernel
theorem dX9_size_109 : decode cX9_size 109 = .ok (.getfield 116, 3) := by decide +kernel
theorem dX9_size_112 : decode cX9_size 112 = .ok (.ireturn, 1) := by decide +kernel
theorem dX9_size_113 : decode cX9_size 113 = .ok (.aload_n 0, 1) := by decide +kernel
theorem dX9_size_114 : decode cX9_size 114 = .ok (.getfield 47, 3) := by decide +kernel
theorem dX9_size_117 : decode cX9_size 117 = .ok (.getfield 119, 3) := by decide +kernel
theorem dX9_size_120 : decode cX9_size 120 = .ok (.getfield 123, 3) := by decide +kernel
theorem dX9_size_123 : decode cX9_size 123 = .ok (.ireturn, 1) := by decide +kernel
theorem dX9_size_124 : decode cX9_size 124 = .ok (.aload_n 0, 1) := by decide +kernel
theorem dX9_size_125 : decode cX9_size 125 = .ok (.getfield 47, 3) := by decide +kernel
theorem dX9_size_128 : decode cX9_size 128 = .ok (.getfield 106, 3) := by decide +kernel
theorem dX9_size_131 : decode cX9_size 131 = .ok (.getfield 126, 3) := by decide +kernel
theorem dX9_size_134 : decode cX9_size 134 = .ok (.ireturn, 1) := by decide +kernel
theorem dX9_size_135 : decode cX9_size 135 = .ok (.aload_n 0, 1) := by decide +kernel
theorem dX9_size_136 : decode cX9_size 136 = .ok (.getfield 47, 3) := by decide +kernel
theorem dX9_size_139 : decode cX9_size 139 = .ok (.getfield 106, 3) := by decide +kernel
theorem dX9_size_142 : decode cX9_size 142 = .ok (.invokevirtual 129, 3) := by decide +kernel
theorem dX9_size_145 : decode cX9_size 145 = .ok (.ireturn, 1) := by decide +kernel
theorem dX9_size_146 : decode cX9_size 146 = .ok (.aload_n 0, 1) := by decide +kernel
theorem dX9_size_147 : decode cX9_size 147 = .ok (.getfield 47, 3) := by decide +kernel
theorem dX9_size_150 : decode cX9_size 150 = .ok (.getfield 106, 3) := by decide +kernel
theorem dX9_size_153 : decode cX9_size 153 = .ok (.invokevirtual 133, 3) := by decide +kernel
theorem dX9_size_156 : decode cX9_size 156 = .ok (.ireturn, 1) := by decide +kernel
theorem dX9_size_157 : decode cX9_size 157 = .ok (.aload_n 0, 1) := by decide +kernel
theorem dX9_size_158 : decode cX9_size 158 = .ok (.getfield 47, 3) := by decide +kernel
theorem dX9_size_161 : decode cX9_size 161 = .ok (.getfield 136, 3) := by decide +kernel
theorem dX9_size_164 : decode cX9_size 164 = .ok (.aload_n 0, 1) := by decide +kernel
theorem dX9_size_165 : decode cX9_size 165 = .ok (.getfield 47, 3) := by decide +kernel
theorem dX9_size_168 : decode cX9_size 168 = .ok (.invokevirtual 139, 3) := by decide +kernel
theorem dX9_size_171 : decode cX9_size 171 = .ok (.invokevirtual 143, 3) := by decide +kernel
theorem dX9_size_174 : decode cX9_size 174 = .ok (.ireturn, 1) := by decide +kernel
theorem dX9_size_175 : decode cX9_size 175 = .ok (.aload_n 0, 1) := by decide +kernel
theorem dX9_size_176 : decode cX9_size 176 = .ok (.getfield 47, 3) := by decide +kernel
theorem dX9_size_179 : decode cX9_size 179 = .ok (.getfield 136, 3) := by decide +kernel
theorem dX9_size_182 : decode cX9_size 182 = .ok (.aload_n 0, 1) := by decide +kernel
theorem dX9_size_183 : decode cX9_size 183 = .ok (.getfield 47, 3) := by decide +kernel
theorem dX9_size_186 : decode cX9_size 186 = .ok (.invokevirtual 139, 3) := by decide +kernel
theorem dX9_size_189 : decode cX9_size 189 = .ok (.invokevirtual 146, 3) := by decide +kernel
theorem dX9_size_192 : decode cX9_size 192 = .ok (.ireturn, 1) := by decide +kernel
theorem dX9_size_193 : decode cX9_size 193 = .ok (.aload_n 0, 1) := by decide +kernel
theorem dX9_size_194 : decode cX9_size 194 = .ok (.getfield 47, 3) := by decide +kernel
theorem dX9_size_197 : decode cX9_size 197 = .ok (.getfield 119, 3) := by decide +kernel
theorem dX9_size_200 : decode cX9_size 200 = .ok (.invokevirtual 149, 3) := by decide +kernel
theorem dX9_size_203 : decode cX9_size 203 = .ok (.invokestatic 153, 3) := by decide +kernel
theorem dX9_size_206 : decode cX9_size 206 = .ok (.ireturn, 1) := by decide +kernel
theorem dX9_size_207 : decode cX9_size 207 = .ok (.aload_n 0, 1) := by decide +kernel
theorem dX9_size_208 : decode cX9_size 208 = .ok (.getfield 47, 3) := by decide +kernel
theorem dX9_size_211 : decode cX9_size 211 = .ok (.getfield 157, 3) := by decide +kernel
theorem dX9_size_214 : decode cX9_size 214 = .ok (.invokestatic 153, 3) := by decide +kernel
theorem dX9_size_217 : decode cX9_size 217 = .ok (.ireturn, 1) := by decide +kernel
theorem dX9_size_218 : decode cX9_size 218 = .ok (.aload_n 0, 1) := by decide +kernel
theorem dX9_size_219 : decode cX9_size 219 = .ok (.getfield 26, 3) := by decide +kernel
theorem dX9_size_222 : decode cX9_size 222 = .ok (.getfield 161, 3) := by decide +kernel
theorem dX9_size_225 : decode cX9_size 225 = .ok (.ireturn, 1) := by decide +kernel
theorem dX9_size_226 : decode cX9_size 226 = .ok (.aload_n 0, 1) := by decide +kernel
theorem dX9_size_227 : decode cX9_size 227 = .ok (.getfield 47, 3) := by decide +kernel
theorem dX9_size_230 : decode cX9_size 230 = .ok (.getfield 162, 3) := by decide +kernel
theorem dX9_size_233 : decode cX9_size 233 = .ok (.getfield 166, 3) := by decide +kernel
theorem dX9_size_236 : decode cX9_size 236 = .ok (.ireturn, 1) := by decide +kernel
theorem dX9_block_0 : decode cX9_block 0 = .ok (.iload_n 1, 1) := by decide +kernel
theorem dX9_block_1 : decode cX9_block 1 = .ok (.aload_n 0, 1) := by decide +kernel
theorem dX9_block_2 : decode cX9_block 2 = .ok (.getfield 47, 3) := by decide +kernel
theorem dX9_block_5 : decode cX9_block 5 = .ok (.getfield 106, 3) := by decide +kernel
theorem dX9_block_8 : decode cX9_block 8 = .ok (.getfield 110, 3) := by decide +kernel
theorem dX9_block_11 : decode cX9_block 11 = .ok (.invokestatic 179, 3) := by decide +kernel
theorem dX9_block_14 : decode cX9_block 14 = .ok (.iload_n 2, 1) := by decide +kernel
theorem dX9_block_15 : decode cX9_block 15 = .ok (.iconst 0, 1) := by decide +kernel
theorem dX9_block_16 : decode cX9_block 16 = .ok (.bipush 6, 2) := by decide +kernel
theorem dX9_block_18 : decode cX9_block 18 = .ok (.invokestatic 70, 3) := by decide +kernel
theorem dX9_block_21 : decode cX9_block 21 = .ok (.aload_n 0, 1) := by decide +kernel
theorem dX9_block_22 : decode cX9_block 22 = .ok (.getfield 47, 3) := by decide +kernel
theorem dX9_block_25 : decode cX9_block 25 = .ok (.getfield 106, 3) := by decide +kernel
theorem dX9_block_28 : decode cX9_block 28 = .ok (.iload_n 1, 1) := by decide +kernel
theorem dX9_block_29 : decode cX9_block 29 = .ok (.iload_n 2, 1) := by decide +kernel
theorem dX9_block_30 : decode cX9_block 30 = .ok (.invokevirtual 182, 3) := by decide +kernel
theorem dX9_block_33 : decode cX9_block 33 = .ok (.ireturn, 1) := by decide +kernel
theorem dX9_place_0 : decode cX9_place 0 = .ok (.iload_n 1, 1) := by decide +kernel
theorem dX9_place_1 : decode cX9_place 1 = .ok (.aload_n 0, 1) := by decide +kernel
theorem dX9_place_2 : decode cX9_place 2 = .ok (.getfield 47, 3) := by decide +kernel
theorem dX9_place_5 : decode cX9_place 5 = .ok (.getfield 106, 3) := by decide +kernel
theorem dX9_place_8 : decode cX9_place 8 = .ok (.getfield 110, 3) := by decide +kernel
theorem dX9_place_11 : decode cX9_place 11 = .ok (.invokestatic 179, 3) := by decide +kernel
theorem dX9_place_14 : decode cX9_place 14 = .ok (.aload_n 0, 1) := by decide +kernel
theorem dX9_place_15 : decode cX9_place 15 = .ok (.getfield 47, 3) := by decide +kernel
theorem dX9_place_18 : decode cX9_place 18 = .ok (.getfield 106, 3) := by decide +kernel
theorem dX9_place_21 : decode cX9_place 21 = .ok (.iload_n 1, 1) := by decide +kernel
theorem dX9_place_22 : decode cX9_place 22 = .ok (.invokevirtual 186, 3) := by decide +kernel
theorem dX9_place_25 : decode cX9_place 25 = .ok (.ireturn, 1) := by decide +kernel
theorem dX9_session_0 : decode cX9_session 0 = .ok (.iload_n 1, 1) := by decide +kernel
theorem dX9_session_1 : decode cX9_session 1 = .ok (.aload_n 0, 1) := by decide +kernel
theorem dX9_session_2 : decode cX9_session 2 = .ok (.getfield 47, 3) := by decide +kernel
theorem dX9_session_5 : decode cX9_session 5 = .ok (.getfield 119, 3) := by decide +kernel
theorem dX9_session_8 : decode cX9_session 8 = .ok (.getfield 123, 3) := by decide +kernel
theorem dX9_session_11 : decode cX9_session 11 = .ok (.invokestatic 179, 3) := by decide +kernel
theorem dX9_session_14 : decode cX9_session 14 = .ok (.iload_n 2, 1) := by decide +kernel
theorem dX9_session_15 : decode cX9_session 15 = .ok (.iconst 0, 1) := by decide +kernel
theorem dX9_session_16 : decode cX9_session 16 = .ok (.bipush 8, 2) := by decide +kernel
theorem dX9_session_18 : decode cX9_session 18 = .ok (.invokestatic 70, 3) := by decide +kernel
theorem dX9_session_21 : decode cX9_session 21 = .ok (.aload_n 0, 1) := by decide +kernel
theorem dX9_session_22 : decode cX9_session 22 = .ok (.getfield 47, 3) := by decide +kernel
theorem dX9_session_25 : decode cX9_session 25 = .ok (.getfield 119, 3) := by decide +kernel
theorem dX9_session_28 : decode cX9_session 28 = .ok (.astore_n 3, 1) := by decide +kernel
theorem dX9_session_29 : decode cX9_session 29 = .ok (.iload_n 2, 1) := by decide +kernel
theorem dX9_session_30 : decode cX9_session 30 = .ok (.tableswitch 134 0 7 #[46, 52, 58, 70, 76, 82, 106, 112], 46) := by decide +kernel
theorem dX9_session_76 : decode cX9_session 76 = .ok (.aload_n 3, 1) := by decide +kernel
theorem dX9_session_77 : decode cX9_session 77 = .ok (.iload_n 1, 1) := by decide +kernel
theorem dX9_session_78 : decode cX9_session 78 = .ok (.invokevirtual 190, 3) := by decide +kernel
theorem dX9_session_81 : decode cX9_session 81 = .ok (.ireturn, 1) := by decide +kernel
theorem dX9_session_82 : decode cX9_session 82 = .ok (.aload_n 3, 1) := by decide +kernel
theorem dX9_session_83 : decode cX9_session 83 = .ok (.iload_n 1, 1) := by decide +kernel
theorem dX9_session_84 : decode cX9_session 84 = .ok (.invokevirtual 193, 3) := by decide +kernel
theorem dX9_session_87 : decode cX9_session 87 = .ok (.ireturn, 1) := by decide +kernel
theorem dX9_session_88 : decode cX9_session 88 = .ok (.aload_n 0, 1) := by decide +kernel
theorem dX9_session_89 : decode cX9_session 89 = .ok (.getfield 47, 3) := by decide +kernel
theorem dX9_session_92 : decode cX9_session 92 = .ok (.getfield 106, 3) := by decide +kernel
theorem dX9_session_95 : decode cX9_session 95 = .ok (.iload_n 1, 1) := by decide +kernel
theorem dX9_session_96 : decode cX9_session 96 = .ok (.invokevirtual 196, 3) := by decide +kernel
theorem dX9_session_99 : decode cX9_session 99 = .ok (.ireturn, 1) := by decide +kernel
theorem dX9_session_100 : decode cX9_session 100 = .ok (.aload_n 3, 1) := by decide +kernel
theorem dX9_session_101 : decode cX9_session 101 = .ok (.iload_n 1, 1) := by decide +kernel
theorem dX9_session_102 : decode cX9_session 102 = .ok (.invokevirtual 199, 3) := by decide +kernel
theorem dX9_session_105 : decode cX9_session 105 = .ok (.ireturn, 1) := by decide +kernel
theorem dX9_session_106 : decode cX9_session 106 = .ok (.aload_n 3, 1) := by decide +kernel
theorem dX9_session_107 : decode cX9_session 107 = .ok (.iload_n 1, 1) := by decide +kernel
theorem dX9_session_108 : decode cX9_session 108 = .ok (.invokevirtual 202, 3) := by decide +kernel
theorem dX9_session_111 : decode cX9_session 111 = .ok (.ireturn, 1) := by decide +kernel
theorem dX9_session_112 : decode cX9_session 112 = .ok (.aload_n 0, 1) := by decide +kernel
theorem dX9_session_113 : decode cX9_session 113 = .ok (.getfield 47, 3) := by decide +kernel
theorem dX9_session_116 : decode cX9_session 116 = .ok (.getfield 106, 3) := by decide +kernel
theorem dX9_session_119 : decode cX9_session 119 = .ok (.aload_n 3, 1) := by decide +kernel
theorem dX9_session_120 : decode cX9_session 120 = .ok (.iload_n 1, 1) := by decide +kernel
theorem dX9_session_121 : decode cX9_session 121 = .ok (.invokevirtual 202, 3) := by decide +kernel
theorem dX9_session_124 : decode cX9_session 124 = .ok (.aload_n 3, 1) := by decide +kernel
theorem dX9_session_125 : decode cX9_session 125 = .ok (.iload_n 1, 1) := by decide +kernel
theorem dX9_session_126 : decode cX9_session 126 = .ok (.invokevirtual 205, 3) := by decide +kernel
theorem dX9_session_129 : decode cX9_session 129 = .ok (.invokevirtual 208, 3) := by decide +kernel
theorem dX9_session_132 : decode cX9_session 132 = .ok (.invokestatic 153, 3) := by decide +kernel
theorem dX9_session_135 : decode cX9_session 135 = .ok (.ireturn, 1) := by decide +kernel
theorem dX9_session_136 : decode cX9_session 136 = .ok (.aload_n 3, 1) := by decide +kernel
theorem dX9_session_137 : decode cX9_session 137 = .ok (.iload_n 1, 1) := by decide +kernel
theorem dX9_session_138 : decode cX9_session 138 = .ok (.invokevirtual 212, 3) := by decide +kernel
theorem dX9_session_141 : decode cX9_session 141 = .ok (.ireturn, 1) := by decide +kernel
theorem dX9_session_142 : decode cX9_session 142 = .ok (.aload_n 0, 1) := by decide +kernel
theorem dX9_session_143 : decode cX9_session 143 = .ok (.getfield 47, 3) := by decide +kernel
theorem dX9_session_146 : decode cX9_session 146 = .ok (.getfield 136, 3) := by decide +kernel
theorem dX9_session_149 : decode cX9_session 149 = .ok (.aload_n 0, 1) := by decide +kernel
theorem dX9_session_150 : decode cX9_session 150 = .ok (.getfield 47, 3) := by decide +kernel
theorem dX9_session_153 : decode cX9_session 153 = .ok (.invokevirtual 139, 3) := by decide +kernel
theorem dX9_session_156 : decode cX9_session 156 = .ok (.iload_n 1, 1) := by decide +kernel
theorem dX9_session_157 : decode cX9_session 157 = .ok (.invokevirtual 215, 3) := by decide +kernel
theorem dX9_session_160 : decode cX9_session 160 = .ok (.invokestatic 153, 3) := by decide +kernel
theorem dX9_session_163 : decode cX9_session 163 = .ok (.ireturn, 1) := by decide +kernel
theorem dX9_session_164 : decode cX9_session 164 = .ok (.aload_n 0, 1) := by decide +kernel
theorem dX9_session_165 : decode cX9_session 165 = .ok (.getfield 47, 3) := by decide +kernel
theorem dX9_session_168 : decode cX9_session 168 = .ok (.getfield 106, 3) := by decide +kernel
theorem dX9_session_171 : decode cX9_session 171 = .ok (.iload_n 1, 1) := by decide +kernel
theorem dX9_session_172 : decode cX9_session 172 = .ok (.invokevirtual 218, 3) := by decide +kernel
theorem dX9_session_175 : decode cX9_session 175 = .ok (.ireturn, 1) := by decide +kernel
theorem dX9_entry_0 : decode cX9_entry 0 = .ok (.iload_n 1, 1) := by decide +kernel
theorem dX9_entry_1 : decode cX9_entry 1 = .ok (.aload_n 0, 1) := by decide +kernel
theorem dX9_entry_2 : decode cX9_entry 2 = .ok (.getfield 47, 3) := by decide +kernel
theorem dX9_entry_5 : decode cX9_entry 5 = .ok (.getfield 119, 3) := by decide +kernel
theorem dX9_entry_8 : decode cX9_entry 8 = .ok (.getfield 123, 3) := by decide +kernel
theorem dX9_entry_11 : decode cX9_entry 11 = .ok (.invokestatic 179, 3) := by decide +kernel
theorem dX9_entry_14 : decode cX9_entry 14 = .ok (.iload_n 3, 1) := by decide +kernel
theorem dX9_entry_15 : decode cX9_entry 15 = .ok (.iconst 0, 1) := by decide +kernel
theorem dX9_entry_16 : decode cX9_entry 16 = .ok (.iconst 4, 1) := by decide +kernel
theorem dX9_entry_17 : decode cX9_entry 17 = .ok (.invokestatic 70, 3) := by decide +kernel
theorem dX9_entry_20 : decode cX9_entry 20 = .ok (.aload_n 0, 1) := by decide +kernel
theorem dX9_entry_21 : decode cX9_entry 21 = .ok (.getfield 47, 3) := by decide +kernel
theorem dX9_entry_24 : decode cX9_entry 24 = .ok (.getfield 119, 3) := by decide +kernel
theorem dX9_entry_27 : decode cX9_entry 27 = .ok (.iload_n 1, 1) := by decide +kernel
theorem dX9_entry_28 : decode cX9_entry 28 = .ok (.iload_n 2, 1) := by decide +kernel
theorem dX9_entry_29 : decode cX9_entry 29 = .ok (.invokevirtual 221, 3) := by decide +kernel
theorem dX9_entry_32 : decode cX9_entry 32 = .ok (.istore 4, 2) := by decide +kernel
theorem dX9_entry_34 : decode cX9_entry 34 = .ok (.iload 4, 2) := by decide +kernel
theorem dX9_entry_36 : decode cX9_entry 36 = .ok (.iconst (-1), 1) := by decide +kernel
theorem dX9_entry_37 : decode cX9_entry 37 = .ok (.if_icmp .ne 5, 3) := by decide +kernel
theorem dX9_entry_40 : decode cX9_entry 40 = .ok (.iconst (-1), 1) := by decide +kernel
theorem dX9_entry_41 : decode cX9_entry 41 = .ok (.ireturn, 1) := by decide +kernel
theorem dX9_entry_42 : decode cX9_entry 42 = .ok (.aload_n 0, 1) := by decide +kernel
theorem dX9_entry_43 : decode cX9_entry 43 = .ok (.getfield 47, 3) := by decide +kernel
theorem dX9_entry_46 : decode cX9_entry 46 = .ok (.getfield 119, 3) := by decide +kernel
theorem dX9_entry_49 : decode cX9_entry 49 = .ok (.iload_n 1, 1) := by decide +kernel
theorem dX9_entry_50 : decode cX9_entry 50 = .ok (.iload 4, 2) := by decide +kernel
theorem dX9_entry_52 : decode cX9_entry 52 = .ok (.invokevirtual 224, 3) := by decide +kernel
theorem dX9_entry_55 : decode cX9_entry 55 = .ok (.istore 5, 2) := by decide +kernel
theorem dX9_entry_57 : decode cX9_entry 57 = .ok (.iload_n 3, 1) := by decide +kernel
theorem dX9_entry_58 : decode cX9_entry 58 = .ok (.tableswitch 62 0 3 #[30, 33, 36, 49], 30) := by decide +kernel
theorem dX9_entry_88 : decode cX9_entry 88 = .ok (.iload 4, 2) := by decide +kernel
theorem dX9_entry_90 : decode cX9_entry 90 = .ok (.ireturn, 1) := by decide +kernel
theorem dX9_entry_91 : decode cX9_entry 91 = .ok (.iload 5, 2) := by decide +kernel
theorem dX9_entry_93 : decode cX9_entry 93 = .ok (.ireturn, 1) := by decide +kernel
theorem dX9_entry_94 : decode cX9_entry 94 = .ok (.aload_n 0, 1) := by decide +kernel
theorem dX9_entry_95 : decode cX9_entry 95 = .ok (.getfield 47, 3) := by decide +kernel
theorem dX9_entry_98 : decode cX9_entry 98 = .ok (.getfield 162, 3) := by decide +kernel
theorem dX9_entry_101 : decode cX9_entry 101 = .ok (.iload 5, 2) := by decide +kernel
theorem dX9_entry_103 : decode cX9_entry 103 = .ok (.invokevirtual 227, 3) := by decide +kernel
theorem dX9_entry_106 : decode cX9_entry 106 = .ok (.ireturn, 1) := by decide +kernel
theorem dX9_entry_107 : decode cX9_entry 107 = .ok (.aload_n 0, 1) := by decide +kernel
theorem dX9_entry_108 : decode cX9_entry 108 = .ok (.getfield 47, 3) := by decide +kernel
theorem dX9_entry_111 : decode cX9_entry 111 = .ok (.getfield 162, 3) := by decide +kernel
theorem dX9_entry_114 : decode cX9_entry 114 = .ok (.iload 5, 2) := by decide +kernel
theorem dX9_entry_116 : decode cX9_entry 116 = .ok (.invokevirtual 228, 3) := by decide +kernel
theorem dX9_entry_119 : decode cX9_entry 119 = .ok (.ireturn, 1) := by decide +kernel
theorem dX9_entry_120 : decode cX9_entry 120 = .ok (.aload_n 0, 1) := by decide +kernel
theorem dX9_entry_121 : decode cX9_entry 121 = .ok (.getfield 47, 3) := by decide +kernel
theorem dX9_entry_124 : decode cX9_entry 124 = .ok (.getfield 162, 3) := by decide +kernel
theorem dX9_entry_127 : decode cX9_entry 127 = .ok (.iload 5, 2) := by decide +kernel
theorem dX9_entry_129 : decode cX9_entry 129 = .ok (.invokevirtual 231, 3) := by decide +kernel
theorem dX9_entry_132 : decode cX9_entry 132 = .ok (.ireturn, 1) := by decide +kernel
theorem dX9_file_0 : decode cX9_file 0 = .ok (.iload_n 1, 1) := by decide +kernel
theorem dX9_file_1 : decode cX9_file 1 = .ok (.aload_n 0, 1) := by decide +kernel
theorem dX9_file_2 : decode cX9_file 2 = .ok (.getfield 47, 3) := by decide +kernel
theorem dX9_file_5 : decode cX9_file 5 = .ok (.getfield 116, 3) := by decide +kernel
theorem dX9_file_8 : decode cX9_file 8 = .ok (.invokestatic 179, 3) := by decide +kernel
theorem dX9_file_11 : decode cX9_file 11 = .ok (.iload_n 2, 1) := by decide +kernel
theorem dX9_file_12 : decode cX9_file 12 = .ok (.iconst 0, 1) := by decide +kernel
theorem dX9_file_13 : decode cX9_file 13 = .ok (.bipush 6, 2) := by decide +kernel
theorem dX9_file_15 : decode cX9_file 15 = .ok (.invokestatic 70, 3) := by decide +kernel
theorem dX9_file_18 : decode cX9_file 18 = .ok (.aload_n 0, 1) := by decide +kernel
theorem dX9_file_19 : decode cX9_file 19 = .ok (.getfield 47, 3) := by decide +kernel
theorem dX9_file_22 : decode cX9_file 22 = .ok (.getfield 136, 3) := by decide +kernel
theorem dX9_file_25 : decode cX9_file 25 = .ok (.aload_n 0, 1) := by decide +kernel
theorem dX9_file_26 : decode cX9_file 26 = .ok (.getfield 47, 3) := by decide +kernel
theorem dX9_file_29 : decode cX9_file 29 = .ok (.invokevirtual 139, 3) := by decide +kernel
theorem dX9_file_32 : decode cX9_file 32 = .ok (.astore_n 3, 1) := by decide +kernel
theorem dX9_file_33 : decode cX9_file 33 = .ok (.aload_n 3, 1) := by decide +kernel
theorem dX9_file_34 : decode cX9_file 34 = .ok (.iload_n 1, 1) := by decide +kernel
theorem dX9_file_35 : decode cX9_file 35 = .ok (.invokevirtual 234, 3) := by decide +kernel
theorem dX9_file_38 : decode cX9_file 38 = .ok (.istore 4, 2) := by decide +kernel
theorem dX9_file_40 : decode cX9_file 40 = .ok (.iload_n 2, 1) := by decide +kernel
theorem dX9_file_41 : decode cX9_file 41 = .ok (.tableswitch 98 0 5 #[39, 54, 63, 66, 79, 92], 39) := by decide +kernel
theorem dX9_file_80 : decode cX9_file 80 = .ok (.iload 4, 2) := by decide +kernel
theorem dX9_file_82 : decode cX9_file 82 = .ok (.iconst (-1), 1) := by decide +kernel
theorem dX9_file_83 : decode cX9_file 83 = .ok (.if_icmp .eq 7, 3) := by decide +kernel
theorem dX9_file_86 : decode cX9_file 86 = .ok (.iconst 1, 1) := by decide +kernel
theorem dX9_file_87 : decode cX9_file 87 = .ok (.goto 4, 3) := by decide +kernel
theorem dX9_file_90 : decode cX9_file 90 = .ok (.iconst 0, 1) := by decide +kernel
theorem dX9_file_91 : decode cX9_file 91 = .ok (.invokestatic 153, 3) := by decide +kernel
theorem dX9_file_94 : decode cX9_file 94 = .ok (.ireturn, 1) := by decide +kernel
theorem dX9_file_95 : decode cX9_file 95 = .ok (.aload_n 3, 1) := by decide +kernel
theorem dX9_file_96 : decode cX9_file 96 = .ok (.iload_n 1, 1) := by decide +kernel
theorem dX9_file_97 : decode cX9_file 97 = .ok (.invokevirtual 237, 3) := by decide +kernel
theorem dX9_file_100 : decode cX9_file 100 = .ok (.invokestatic 153, 3) := by decide +kernel
theorem dX9_file_103 : decode cX9_file 103 = .ok (.ireturn, 1) := by decide +kernel
theorem dX9_file_104 : decode cX9_file 104 = .ok (.iload 4, 2) := by decide +kernel
theorem dX9_file_106 : decode cX9_file 106 = .ok (.ireturn, 1) := by decide +kernel
theorem dX9_file_107 : decode cX9_file 107 = .ok (.aload_n 0, 1) := by decide +kernel
theorem dX9_file_108 : decode cX9_file 108 = .ok (.getfield 47, 3) := by decide +kernel
theorem dX9_file_111 : decode cX9_file 111 = .ok (.getfield 162, 3) := by decide +kernel
theorem dX9_file_114 : decode cX9_file 114 = .ok (.iload 4, 2) := by decide +kernel
theorem dX9_file_116 : decode cX9_file 116 = .ok (.invokevirtual 228, 3) := by decide +kernel
theorem dX9_file_119 : decode cX9_file 119 = .ok (.ireturn, 1) := by decide +kernel
theorem dX9_file_120 : decode cX9_file 120 = .ok (.aload_n 0, 1) := by decide +kernel
theorem dX9_file_121 : decode cX9_file 121 = .ok (.getfield 47, 3) := by decide +kernel
theorem dX9_file_124 : decode cX9_file 124 = .ok (.getfield 162, 3) := by decide +kernel
theorem dX9_file_127 : decode cX9_file 127 = .ok (.iload 4, 2) := by decide +kernel
theorem dX9_file_129 : decode cX9_file 129 = .ok (.invokevirtual 231, 3) := by decide +kernel
theorem dX9_file_132 : decode cX9_file 132 = .ok (.ireturn, 1) := by decide +kernel
theorem dX9_file_133 : decode cX9_file 133 = .ok (.aload_n 3, 1) := by decide +kernel
theorem dX9_file_134 : decode cX9_file 134 = .ok (.iload_n 1, 1) := by decide +kernel
theorem dX9_file_135 : decode cX9_file 135 = .ok (.invokevirtual 240, 3) := by decide +kernel
theorem dX9_file_138 : decode cX9_file 138 = .ok (.ireturn, 1) := by decide +kernel
theorem dX9_file_139 : decode cX9_file 139 = .ok (.aload_n 0, 1) := by decide +kernel
theorem dX9_file_140 : decode cX9_file 140 = .ok (.getfield 47, 3) := by decide +kernel
theorem dX9_file_143 : decode cX9_file 143 = .ok (.getfield 162, 3) := by decide +kernel
theorem dX9_file_146 : decode cX9_file 146 = .ok (.iload_n 1, 1) := by decide +kernel
theorem dX9_file_147 : decode cX9_file 147 = .ok (.invokevirtual 243, 3) := by decide +kernel
theorem dX9_file_150 : decode cX9_file 150 = .ok (.ireturn, 1) := by decide +kernel
theorem dX9_where_0 : decode cX9_where 0 = .ok (.iload_n 1, 1) := by decide +kernel
theorem dX9_where_1 : decode cX9_where 1 = .ok (.aload_n 0, 1) := by decide +kernel
theorem dX9_where_2 : decode cX9_where 2 = .ok (.getfield 47, 3) := by decide +kernel
theorem dX9_where_5 : decode cX9_where 5 = .ok (.getfield 116, 3) := by decide +kernel
theorem dX9_where_8 : decode cX9_where 8 = .ok (.invokestatic 179, 3) := by decide +kernel
theorem dX9_where_11 : decode cX9_where 11 = .ok (.aload_n 0, 1) := by decide +kernel
theorem dX9_where_12 : decode cX9_where 12 = .ok (.getfield 47, 3) := by decide +kernel
theorem dX9_where_15 : decode cX9_where 15 = .ok (.getfield 136, 3) := by decide +kernel
theorem dX9_where_18 : decode cX9_where 18 = .ok (.aload_n 0, 1) := by decide +kernel
theorem dX9_where_19 : decode cX9_where 19 = .ok (.getfield 47, 3) := by decide +kernel
theorem dX9_where_22 : decode cX9_where 22 = .ok (.invokevirtual 139, 3) := by decide +kernel
theorem dX9_where_25 : decode cX9_where 25 = .ok (.iload_n 1, 1) := by decide +kernel
theorem dX9_where_26 : decode cX9_where 26 = .ok (.invokevirtual 234, 3) := by decide +kernel
theorem dX9_where_29 : decode cX9_where 29 = .ok (.istore_n 3, 1) := by decide +kernel
theorem dX9_where_30 : decode cX9_where 30 = .ok (.iload_n 2, 1) := by decide +kernel
theorem dX9_where_31 : decode cX9_where 31 = .ok (.ifCond .lt 18, 3) := by decide +kernel
theorem dX9_where_34 : decode cX9_where 34 = .ok (.iload_n 2, 1) := by decide +kernel
theorem dX9_where_35 : decode cX9_where 35 = .ok (.aload_n 0, 1) := by decide +kernel
theorem dX9_where_36 : decode cX9_where 36 = .ok (.getfield 47, 3) := by decide +kernel
theorem dX9_where_39 : decode cX9_where 39 = .ok (.getfield 162, 3) := by decide +kernel
theorem dX9_where_42 : decode cX9_where 42 = .ok (.iload_n 3, 1) := by decide +kernel
theorem dX9_where_43 : decode cX9_where 43 = .ok (.invokevirtual 228, 3) := by decide +kernel
theorem dX9_where_46 : decode cX9_where 46 = .ok (.if_icmp .lt 5, 3) := by decide +kernel
theorem dX9_where_49 : decode cX9_where 49 = .ok (.iconst (-1), 1) := by decide +kernel
theorem dX9_where_50 : decode cX9_where 50 = .ok (.ireturn, 1) := by decide +kernel
theorem dX9_where_51 : decode cX9_where 51 = .ok (.aload_n 0, 1) := by decide +kernel
theorem dX9_where_52 : decode cX9_where 52 = .ok (.getfield 47, 3) := by decide +kernel
theorem dX9_where_55 : decode cX9_where 55 = .ok (.getfield 106, 3) := by decide +kernel
theorem dX9_where_58 : decode cX9_where 58 = .ok (.aload_n 0, 1) := by decide +kernel
theorem dX9_where_59 : decode cX9_where 59 = .ok (.getfield 47, 3) := by decide +kernel
theorem dX9_where_62 : decode cX9_where 62 = .ok (.getfield 162, 3) := by decide +kernel
theorem dX9_where_65 : decode cX9_where 65 = .ok (.iload_n 3, 1) := by decide +kernel
theorem dX9_where_66 : decode cX9_where 66 = .ok (.invokevirtual 227, 3) := by decide +kernel
theorem dX9_where_69 : decode cX9_where 69 = .ok (.iload_n 2, 1) := by decide +kernel
theorem dX9_where_70 : decode cX9_where 70 = .ok (.iadd, 1) := by decide +kernel
theorem dX9_where_71 : decode cX9_where 71 = .ok (.invokevirtual 186, 3) := by decide +kernel
theorem dX9_where_74 : decode cX9_where 74 = .ok (.ireturn, 1) := by decide +kernel
theorem dX9_defect_0 : decode cX9_defect 0 = .ok (.aload_n 0, 1) := by decide +kernel
theorem dX9_defect_1 : decode cX9_defect 1 = .ok (.getfield 47, 3) := by decide +kernel
theorem dX9_defect_4 : decode cX9_defect 4 = .ok (.iload_n 1, 1) := by decide +kernel
theorem dX9_defect_5 : decode cX9_defect 5 = .ok (.invokevirtual 246, 3) := by decide +kernel
theorem dX9_defect_8 : decode cX9_defect 8 = .ok (.istore_n 3, 1) := by decide +kernel
theorem dX9_defect_9 : decode cX9_defect 9 = .ok (.iload_n 3, 1) := by decide +kernel
theorem dX9_defect_10 : decode cX9_defect 10 = .ok (.iconst (-1), 1) := by decide +kernel
theorem dX9_defect_11 : decode cX9_defect 11 = .ok (.if_icmp .eq 7, 3) := by decide +kernel
theorem dX9_defect_14 : decode cX9_defect 14 = .ok (.iload_n 2, 1) := by decide +kernel
theorem dX9_defect_15 : decode cX9_defect 15 = .ok (.ifCond .ne 5, 3) := by decide +kernel
theorem dX9_defect_18 : decode cX9_defect 18 = .ok (.iload_n 3, 1) := by decide +kernel
theorem dX9_defect_19 : decode cX9_defect 19 = .ok (.ireturn, 1) := by decide +kernel
theorem dX9_defect_20 : decode cX9_defect 20 = .ok (.aload_n 0, 1) := by decide +kernel
theorem dX9_defect_21 : decode cX9_defect 21 = .ok (.getfield 47, 3) := by decide +kernel
theorem dX9_defect_24 : decode cX9_defect 24 = .ok (.getfield 106, 3) := by decide +kernel
theorem dX9_defect_27 : decode cX9_defect 27 = .ok (.iload_n 3, 1) := by decide +kernel
theorem dX9_defect_28 : decode cX9_defect 28 = .ok (.invokevirtual 186, 3) := by decide +kernel
theorem dX9_defect_31 : decode cX9_defect 31 = .ok (.ireturn, 1) := by decide +kernel
theorem dX9_whyNotWrite_0 : decode cX9_whyNotWrite 0 = .ok (.iload_n 1, 1) := by decide +kernel
theorem dX9_whyNotWrite_1 : decode cX9_whyNotWrite 1 = .ok (.aload_n 0, 1) := by decide +kernel
theorem dX9_whyNotWrite_2 : decode cX9_whyNotWrite 2 = .ok (.getfield 47, 3) := by decide +kernel
theorem dX9_whyNotWrite_5 : decode cX9_whyNotWrite 5 = .ok (.getfield 116, 3) := by decide +kernel
theorem dX9_whyNotWrite_8 : decode cX9_whyNotWrite 8 = .ok (.invokestatic 179, 3) := by decide +kernel
theorem dX9_whyNotWrite_11 : decode cX9_whyNotWrite 11 = .ok (.iload_n 2, 1) := by decide +kernel
theorem dX9_whyNotWrite_12 : decode cX9_whyNotWrite 12 = .ok (.iconst 1, 1) := by decide +kernel
theorem dX9_whyNotWrite_13 : decode cX9_whyNotWrite 13 = .ok (.bipush 8, 2) := by decide +kernel
theorem dX9_whyNotWrite_15 : decode cX9_whyNotWrite 15 = .ok (.invokestatic 70, 3) := by decide +kernel
theorem dX9_whyNotWrite_18 : decode cX9_whyNotWrite 18 = .ok (.aload_n 0, 1) := by decide +kernel
theorem dX9_whyNotWrite_19 : decode cX9_whyNotWrite 19 = .ok (.getfield 47, 3) := by decide +kernel
theorem dX9_whyNotWrite_22 : decode cX9_whyNotWrite 22 = .ok (.iload_n 1, 1) := by decide +kernel
theorem dX9_whyNotWrite_23 : decode cX9_whyNotWrite 23 = .ok (.iload_n 2, 1) := by decide +kernel
theorem dX9_whyNotWrite_24 : decode cX9_whyNotWrite 24 = .ok (.invokevirtual 249, 3) := by decide +kernel
theorem dX9_whyNotWrite_27 : decode cX9_whyNotWrite 27 = .ok (.ireturn, 1) := by decide +kernel
theorem dX9_whyNot_0 : decode cX9_whyNot 0 = .ok (.iload_n 1, 1) := by decide +kernel
theorem dX9_whyNot_1 : decode cX9_whyNot 1 = .ok (.iconst 0, 1) := by decide +kernel
theorem dX9_whyNot_2 : decode cX9_whyNot 2 = .ok (.iconst 2, 1) := by decide +kernel
theorem dX9_whyNot_3 : decode cX9_whyNot 3 = .ok (.invokestatic 70, 3) := by decide +kernel
theorem dX9_whyNot_6 : decode cX9_whyNot 6 = .ok (.iload_n 1, 1) := by decide +kernel
theorem dX9_whyNot_7 : decode cX9_whyNot 7 = .ok (.lookupswitch 41 #[(0, 25), (1, 33)], 25) := by decide +kernel
theorem dX9_whyNot_32 : decode cX9_whyNot 32 = .ok (.aload_n 0, 1) := by decide +kernel
theorem dX9_whyNot_33 : decode cX9_whyNot 33 = .ok (.getfield 47, 3) := by decide +kernel
theorem dX9_whyNot_36 : decode cX9_whyNot 36 = .ok (.invokevirtual 252, 3) := by decide +kernel
theorem dX9_whyNot_39 : decode cX9_whyNot 39 = .ok (.ireturn, 1) := by decide +kernel
theorem dX9_whyNot_40 : decode cX9_whyNot 40 = .ok (.aload_n 0, 1) := by decide +kernel
theorem dX9_whyNot_41 : decode cX9_whyNot 41 = .ok (.getfield 47, 3) := by decide +kernel
theorem dX9_whyNot_44 : decode cX9_whyNot 44 = .ok (.invokevirtual 255, 3) := by decide +kernel
theorem dX9_whyNot_47 : decode cX9_whyNot 47 = .ok (.ireturn, 1) := by decide +kernel
theorem dX9_whyNot_48 : decode cX9_whyNot 48 = .ok (.aload_n 0, 1) := by decide +kernel
theorem dX9_whyNot_49 : decode cX9_whyNot 49 = .ok (.getfield 47, 3) := by decide +kernel
theorem dX9_whyNot_52 : decode cX9_whyNot 52 = .ok (.invokevirtual 258, 3) := by decide +kernel
theorem dX9_whyNot_55 : decode cX9_whyNot 55 = .ok (.ireturn, 1) := by decide +kernel
theorem dX9_couldRecover_0 : decode cX9_couldRecover 0 = .ok (.aload_n 0, 1) := by decide +kernel
theorem dX9_couldRecover_1 : decode cX9_couldRecover 1 = .ok (.getfield 47, 3) := by decide +kernel
theorem dX9_couldRecover_4 : decode cX9_couldRecover 4 = .ok (.invokevirtual 261, 3) := by decide +kernel
theorem dX9_couldRecover_7 : decode cX9_couldRecover 7 = .ok (.ireturn, 1) := by decide +kernel
theorem dX9_risk_0 : decode cX9_risk 0 = .ok (.iload_n 1, 1) := by decide +kernel
theorem dX9_risk_1 : decode cX9_risk 1 = .ok (.aload_n 0, 1) := by decide +kernel
theorem dX9_risk_2 : decode cX9_risk 2 = .ok (.getfield 47, 3) := by decide +kernel
theorem dX9_risk_5 : decode cX9_risk 5 = .ok (.getfield 106, 3) := by decide +kernel
theorem dX9_risk_8 : decode cX9_risk 8 = .ok (.getfield 110, 3) := by decide +kernel
theorem dX9_risk_11 : decode cX9_risk 11 = .ok (.invokestatic 179, 3) := by decide +kernel
theorem dX9_risk_14 : decode cX9_risk 14 = .ok (.aload_n 0, 1) := by decide +kernel
theorem dX9_risk_15 : decode cX9_risk 15 = .ok (.getfield 47, 3) := by decide +kernel
theorem dX9_risk_18 : decode cX9_risk 18 = .ok (.iload_n 1, 1) := by decide +kernel
theorem dX9_risk_19 : decode cX9_risk 19 = .ok (.aload_n 0, 1) := by decide +kernel
theorem dX9_risk_20 : decode cX9_risk 20 = .ok (.getfield 47, 3) := by decide +kernel
theorem dX9_risk_23 : decode cX9_risk 23 = .ok (.getfield 136, 3) := by decide +kernel
theorem dX9_risk_26 : decode cX9_risk 26 = .ok (.aload_n 0, 1) := by decide +kernel
theorem dX9_risk_27 : decode cX9_risk 27 = .ok (.getfield 47, 3) := by decide +kernel
theorem dX9_risk_30 : decode cX9_risk 30 = .ok (.invokevirtual 139, 3) := by decide +kernel
theorem dX9_risk_33 : decode cX9_risk 33 = .ok (.aload_n 0, 1) := by decide +kernel
theorem dX9_risk_34 : decode cX9_risk 34 = .ok (.getfield 40, 3) := by decide +kernel
theorem dX9_risk_37 : decode cX9_risk 37 = .ok (.invokevirtual 264, 3) := by decide +kernel
theorem dX9_risk_40 : decode cX9_risk 40 = .ok (.ireturn, 1) := by decide +kernel
theorem dX9_weakest_0 : decode cX9_weakest 0 = .ok (.aload_n 0, 1) := by decide +kernel
theorem dX9_weakest_1 : decode cX9_weakest 1 = .ok (.getfield 47, 3) := by decide +kernel
theorem dX9_weakest_4 : decode cX9_weakest 4 = .ok (.getfield 136, 3) := by decide +kernel
theorem dX9_weakest_7 : decode cX9_weakest 7 = .ok (.aload_n 0, 1) := by decide +kernel
theorem dX9_weakest_8 : decode cX9_weakest 8 = .ok (.getfield 47, 3) := by decide +kernel
theorem dX9_weakest_11 : decode cX9_weakest 11 = .ok (.invokevirtual 139, 3) := by decide +kernel
theorem dX9_weakest_14 : decode cX9_weakest 14 = .ok (.astore_n 1, 1) := by decide +kernel
theorem dX9_weakest_15 : decode cX9_weakest 15 = .ok (.iconst 0, 1) := by decide +kernel
theorem dX9_weakest_16 : decode cX9_weakest 16 = .ok (.istore_n 2, 1) := by decide +kernel
theorem dX9_weakest_17 : decode cX9_weakest 17 = .ok (.iconst 0, 1) := by decide +kernel
theorem dX9_weakest_18 : decode cX9_weakest 18 = .ok (.istore_n 3, 1) := by decide +kernel
theorem dX9_weakest_19 : decode cX9_weakest 19 = .ok (.iconst 0, 1) := by decide +kernel
theorem dX9_weakest_20 : decode cX9_weakest 20 = .ok (.istore 4, 2) := by decide +kernel
theorem dX9_weakest_22 : decode cX9_weakest 22 = .ok (.iload 4, 2) := by decide +kernel
theorem dX9_weakest_24 : decode cX9_weakest 24 = .ok (.aload_n 0, 1) := by decide +kernel
theorem dX9_weakest_25 : decode cX9_weakest 25 = .ok (.getfield 47, 3) := by decide +kernel
theorem dX9_weakest_28 : decode cX9_weakest 28 = .ok (.getfield 106, 3) := by decide +kernel
theorem dX9_weakest_31 : decode cX9_weakest 31 = .ok (.getfield 110, 3) := by decide +kernel
theorem dX9_weakest_34 : decode cX9_weakest 34 = .ok (.if_icmp .ge 37, 3) := by decide +kernel
theorem dX9_weakest_37 : decode cX9_weakest 37 = .ok (.aload_n 0, 1) := by decide +kernel
theorem dX9_weakest_38 : decode cX9_weakest 38 = .ok (.getfield 47, 3) := by decide +kernel
theorem dX9_weakest_41 : decode cX9_weakest 41 = .ok (.iload 4, 2) := by decide +kernel
theorem dX9_weakest_43 : decode cX9_weakest 43 = .ok (.aload_n 1, 1) := by decide +kernel
theorem dX9_weakest_44 : decode cX9_weakest 44 = .ok (.aload_n 0, 1) := by decide +kernel
theorem dX9_weakest_45 : decode cX9_weakest 45 = .ok (.getfield 40, 3) := by decide +kernel
theorem dX9_weakest_48 : decode cX9_weakest 48 = .ok (.invokevirtual 264, 3) := by decide +kernel
theorem dX9_weakest_51 : decode cX9_weakest 51 = .ok (.istore 5, 2) := by decide +kernel
theorem dX9_weakest_53 : decode cX9_weakest 53 = .ok (.iload 5, 2) := by decide +kernel
theorem dX9_weakest_55 : decode cX9_weakest 55 = .ok (.iload_n 3, 1) := by decide +kernel
theorem dX9_weakest_56 : decode cX9_weakest 56 = .ok (.if_icmp .le 9, 3) := by decide +kernel
theorem dX9_weakest_59 : decode cX9_weakest 59 = .ok (.iload 5, 2) := by decide +kernel
theorem dX9_weakest_61 : decode cX9_weakest 61 = .ok (.istore_n 3, 1) := by decide +kernel
theorem dX9_weakest_62 : decode cX9_weakest 62 = .ok (.iload 4, 2) := by decide +kernel
theorem dX9_weakest_64 : decode cX9_weakest 64 = .ok (.istore_n 2, 1) := by decide +kernel
theorem dX9_weakest_65 : decode cX9_weakest 65 = .ok (.iinc 4 1, 3) := by decide +kernel
theorem dX9_weakest_68 : decode cX9_weakest 68 = .ok (.goto (-46), 3) := by decide +kernel
theorem dX9_weakest_71 : decode cX9_weakest 71 = .ok (.iload_n 2, 1) := by decide +kernel
theorem dX9_weakest_72 : decode cX9_weakest 72 = .ok (.ireturn, 1) := by decide +kernel
theorem dX9_filesBefore_0 : decode cX9_filesBefore 0 = .ok (.iload_n 1, 1) := by decide +kernel
theorem dX9_filesBefore_1 : decode cX9_filesBefore 1 = .ok (.aload_n 0, 1) := by decide +kernel
theorem dX9_filesBefore_2 : decode cX9_filesBefore 2 = .ok (.getfield 47, 3) := by decide +kernel
theorem dX9_filesBefore_5 : decode cX9_filesBefore 5 = .ok (.getfield 119, 3) := by decide +kernel
theorem dX9_filesBefore_8 : decode cX9_filesBefore 8 = .ok (.getfield 123, 3) := by decide +kernel
theorem dX9_filesBefore_11 : decode cX9_filesBefore 11 = .ok (.invokestatic 179, 3) := by decide +kernel
theorem dX9_filesBefore_14 : decode cX9_filesBefore 14 = .ok (.aload_n 0, 1) := by decide +kernel
theorem dX9_filesBefore_15 : decode cX9_filesBefore 15 = .ok (.getfield 47, 3) := by decide +kernel
theorem dX9_filesBefore_18 : decode cX9_filesBefore 18 = .ok (.getfield 136, 3) := by decide +kernel
theorem dX9_filesBefore_21 : decode cX9_filesBefore 21 = .ok (.aload_n 0, 1) := by decide +kernel
theorem dX9_filesBefore_22 : decode cX9_filesBefore 22 = .ok (.getfield 47, 3) := by decide +kernel
theorem dX9_filesBefore_25 : decode cX9_filesBefore 25 = .ok (.invokevirtual 139, 3) := by decide +kernel
theorem dX9_filesBefore_28 : decode cX9_filesBefore 28 = .ok (.aload_n 0, 1) := by decide +kernel
theorem dX9_filesBefore_29 : decode cX9_filesBefore 29 = .ok (.getfield 47, 3) := by decide +kernel
theorem dX9_filesBefore_32 : decode cX9_filesBefore 32 = .ok (.getfield 119, 3) := by decide +kernel
theorem dX9_filesBefore_35 : decode cX9_filesBefore 35 = .ok (.iload_n 1, 1) := by decide +kernel
theorem dX9_filesBefore_36 : decode cX9_filesBefore 36 = .ok (.invokevirtual 268, 3) := by decide +kernel
theorem dX9_filesBefore_39 : decode cX9_filesBefore 39 = .ok (.ireturn, 1) := by decide +kernel
theorem dX9_space_0 : decode cX9_space 0 = .ok (.iload_n 1, 1) := by decide +kernel
theorem dX9_space_1 : decode cX9_space 1 = .ok (.iconst 0, 1) := by decide +kernel
theorem dX9_space_2 : decode cX9_space 2 = .ok (.iconst 4, 1) := by decide +kernel
theorem dX9_space_3 : decode cX9_space 3 = .ok (.invokestatic 70, 3) := by decide +kernel
theorem dX9_space_6 : decode cX9_space 6 = .ok (.aload_n 0, 1) := by decide +kernel
theorem dX9_space_7 : decode cX9_space 7 = .ok (.getfield 47, 3) := by decide +kernel
theorem dX9_space_10 : decode cX9_space 10 = .ok (.iconst (-1), 1) := by decide +kernel
theorem dX9_space_11 : decode cX9_space 11 = .ok (.iload_n 1, 1) := by decide +kernel
theorem dX9_space_12 : decode cX9_space 12 = .ok (.invokevirtual 272, 3) := by decide +kernel
theorem dX9_space_15 : decode cX9_space 15 = .ok (.ireturn, 1) := by decide +kernel
theorem dX9_spaceOf_0 : decode cX9_spaceOf 0 = .ok (.iload_n 1, 1) := by decide +kernel
theorem dX9_spaceOf_1 : decode cX9_spaceOf 1 = .ok (.aload_n 0, 1) := by decide +kernel
theorem dX9_spaceOf_2 : decode cX9_spaceOf 2 = .ok (.getfield 47, 3) := by decide +kernel
theorem dX9_spaceOf_5 : decode cX9_spaceOf 5 = .ok (.getfield 119, 3) := by decide +kernel
theorem dX9_spaceOf_8 : decode cX9_spaceOf 8 = .ok (.getfield 123, 3) := by decide +kernel
theorem dX9_spaceOf_11 : decode cX9_spaceOf 11 = .ok (.invokestatic 179, 3) := by decide +kernel
theorem dX9_spaceOf_14 : decode cX9_spaceOf 14 = .ok (.iload_n 2, 1) := by decide +kernel
theorem dX9_spaceOf_15 : decode cX9_spaceOf 15 = .ok (.iconst 1, 1) := by decide +kernel
theorem dX9_spaceOf_16 : decode cX9_spaceOf 16 = .ok (.iconst 4, 1) := by decide +kernel
theorem dX9_spaceOf_17 : decode cX9_spaceOf 17 = .ok (.invokestatic 70, 3) := by decide +kernel
theorem dX9_spaceOf_20 : decode cX9_spaceOf 20 = .ok (.aload_n 0, 1) := by decide +kernel
theorem dX9_spaceOf_21 : decode cX9_spaceOf 21 = .ok (.getfield 47, 3) := by decide +kernel
theorem dX9_spaceOf_24 : decode cX9_spaceOf 24 = .ok (.iload_n 1, 1) := by decide +kernel
theorem dX9_spaceOf_25 : decode cX9_spaceOf 25 = .ok (.iload_n 2, 1) := by decide +kernel
theorem dX9_spaceOf_26 : decode cX9_spaceOf 26 = .ok (.invokevirtual 272, 3) := by decide +kernel
theorem dX9_spaceOf_29 : decode cX9_spaceOf 29 = .ok (.ireturn, 1) := by decide +kernel
theorem dX9_share_0 : decode cX9_share 0 = .ok (.aload_n 0, 1) := by decide +kernel
theorem dX9_share_1 : decode cX9_share 1 = .ok (.getfield 47, 3) := by decide +kernel
theorem dX9_share_4 : decode cX9_share 4 = .ok (.getfield 106, 3) := by decide +kernel
theorem dX9_share_7 : decode cX9_share 7 = .ok (.getfield 110, 3) := by decide +kernel
theorem dX9_share_10 : decode cX9_share 10 = .ok (.aload_n 0, 1) := by decide +kernel
theorem dX9_share_11 : decode cX9_share 11 = .ok (.getfield 47, 3) := by decide +kernel
theorem dX9_share_14 : decode cX9_share 14 = .ok (.iconst (-1), 1) := by decide +kernel
theorem dX9_share_15 : decode cX9_share 15 = .ok (.iconst 0, 1) := by decide +kernel
theorem dX9_share_16 : decode cX9_share 16 = .ok (.invokevirtual 272, 3) := by decide +kernel
theorem dX9_share_19 : decode cX9_share 19 = .ok (.isub, 1) := by decide +kernel
theorem dX9_share_20 : decode cX9_share 20 = .ok (.istore_n 1, 1) := by decide +kernel
theorem dX9_share_21 : decode cX9_share 21 = .ok (.iload_n 1, 1) := by decide +kernel
theorem dX9_share_22 : decode cX9_share 22 = .ok (.ifCond .gt 5, 3) := by decide +kernel
theorem dX9_share_25 : decode cX9_share 25 = .ok (.dconst 1, 1) := by decide +kernel
theorem dX9_share_26 : decode cX9_share 26 = .ok (.dreturn, 1) := by decide +kernel
theorem dX9_share_27 : decode cX9_share 27 = .ok (.aload_n 0, 1) := by decide +kernel
theorem dX9_share_28 : decode cX9_share 28 = .ok (.getfield 47, 3) := by decide +kernel
theorem dX9_share_31 : decode cX9_share 31 = .ok (.iconst (-1), 1) := by decide +kernel
theorem dX9_share_32 : decode cX9_share 32 = .ok (.iconst 1, 1) := by decide +kernel
theorem dX9_share_33 : decode cX9_share 33 = .ok (.invokevirtual 272, 3) := by decide +kernel
theorem dX9_share_36 : decode cX9_share 36 = .ok (.i2d, 1) := by decide +kernel
theorem dX9_share_37 : decode cX9_share 37 = .ok (.iload_n 1, 1) := by decide +kernel
theorem dX9_share_38 : decode cX9_share 38 = .ok (.i2d, 1) := by decide +kernel
theorem dX9_share_39 : decode cX9_share 39 = .ok (.ddiv, 1) := by decide +kernel
theorem dX9_share_40 : decode cX9_share 40 = .ok (.dreturn, 1) := by decide +kernel
theorem dX9_write_0 : decode cX9_write 0 = .ok (.iload_n 1, 1) := by decide +kernel
theorem dX9_write_1 : decode cX9_write 1 = .ok (.aload_n 0, 1) := by decide +kernel
theorem dX9_write_2 : decode cX9_write 2 = .ok (.getfield 47, 3) := by decide +kernel
theorem dX9_write_5 : decode cX9_write 5 = .ok (.getfield 116, 3) := by decide +kernel
theorem dX9_write_8 : decode cX9_write 8 = .ok (.invokestatic 179, 3) := by decide +kernel
theorem dX9_write_11 : decode cX9_write 11 = .ok (.iload_n 2, 1) := by decide +kernel
theorem dX9_write_12 : decode cX9_write 12 = .ok (.iconst 1, 1) := by decide +kernel
theorem dX9_write_13 : decode cX9_write 13 = .ok (.bipush 8, 2) := by decide +kernel
theorem dX9_write_15 : decode cX9_write 15 = .ok (.invokestatic 70, 3) := by decide +kernel
theorem dX9_write_18 : decode cX9_write 18 = .ok (.iload_n 3, 1) := by decide +kernel
theorem dX9_write_19 : decode cX9_write 19 = .ok (.iconst 0, 1) := by decide +kernel
theorem dX9_write_20 : decode cX9_write 20 = .ok (.sipush 999, 3) := by decide +kernel
theorem dX9_write_23 : decode cX9_write 23 = .ok (.invokestatic 70, 3) := by decide +kernel
theorem dX9_write_26 : decode cX9_write 26 = .ok (.aload_n 0, 1) := by decide +kernel
theorem dX9_write_27 : decode cX9_write 27 = .ok (.getfield 47, 3) := by decide +kernel
theorem dX9_write_30 : decode cX9_write 30 = .ok (.iload_n 1, 1) := by decide +kernel
theorem dX9_write_31 : decode cX9_write 31 = .ok (.iload_n 2, 1) := by decide +kernel
theorem dX9_write_32 : decode cX9_write 32 = .ok (.invokevirtual 249, 3) := by decide +kernel
theorem dX9_write_35 : decode cX9_write 35 = .ok (.invokestatic 275, 3) := by decide +kernel
theorem dX9_write_38 : decode cX9_write 38 = .ok (.aload_n 0, 1) := by decide +kernel
theorem dX9_write_39 : decode cX9_write 39 = .ok (.getfield 26, 3) := by decide +kernel
theorem dX9_write_42 : decode cX9_write 42 = .ok (.aload_n 0, 1) := by decide +kernel
theorem dX9_write_43 : decode cX9_write 43 = .ok (.getfield 47, 3) := by decide +kernel
theorem dX9_write_46 : decode cX9_write 46 = .ok (.invokevirtual 278, 3) := by decide +kernel
theorem dX9_write_49 : decode cX9_write 49 = .ok (.aload_n 0, 1) := by decide +kernel
theorem dX9_write_50 : decode cX9_write 50 = .ok (.getfield 47, 3) := by decide +kernel
theorem dX9_write_53 : decode cX9_write 53 = .ok (.iload_n 1, 1) := by decide +kernel
theorem dX9_write_54 : decode cX9_write 54 = .ok (.iload_n 2, 1) := by decide +kernel
theorem dX9_write_55 : decode cX9_write 55 = .ok (.iload_n 3, 1) := by decide +kernel
theorem dX9_write_56 : decode cX9_write 56 = .ok (.invokevirtual 282, 3) := by decide +kernel
theorem dX9_write_59 : decode cX9_write 59 = .ok (.ireturn, 1) := by decide +kernel
theorem dX9_erase_0 : decode cX9_erase 0 = .ok (.iload_n 1, 1) := by decide +kernel
theorem dX9_erase_1 : decode cX9_erase 1 = .ok (.aload_n 0, 1) := by decide +kernel
theorem dX9_erase_2 : decode cX9_erase 2 = .ok (.getfield 47, 3) := by decide +kernel
theorem dX9_erase_5 : decode cX9_erase 5 = .ok (.getfield 116, 3) := by decide +kernel
theorem dX9_erase_8 : decode cX9_erase 8 = .ok (.invokestatic 179, 3) := by decide +kernel
theorem dX9_erase_11 : decode cX9_erase 11 = .ok (.aload_n 0, 1) := by decide +kernel
theorem dX9_erase_12 : decode cX9_erase 12 = .ok (.getfield 47, 3) := by decide +kernel
theorem dX9_erase_15 : decode cX9_erase 15 = .ok (.iload_n 1, 1) := by decide +kernel
theorem dX9_erase_16 : decode cX9_erase 16 = .ok (.invokevirtual 286, 3) := by decide +kernel
theorem dX9_erase_19 : decode cX9_erase 19 = .ok (.invokestatic 275, 3) := by decide +kernel
theorem dX9_erase_22 : decode cX9_erase 22 = .ok (.aload_n 0, 1) := by decide +kernel
theorem dX9_erase_23 : decode cX9_erase 23 = .ok (.getfield 26, 3) := by decide +kernel
theorem dX9_erase_26 : decode cX9_erase 26 = .ok (.aload_n 0, 1) := by decide +kernel
theorem dX9_erase_27 : decode cX9_erase 27 = .ok (.getfield 47, 3) := by decide +kernel
theorem dX9_erase_30 : decode cX9_erase 30 = .ok (.invokevirtual 278, 3) := by decide +kernel
theorem dX9_erase_33 : decode cX9_erase 33 = .ok (.aload_n 0, 1) := by decide +kernel
theorem dX9_erase_34 : decode cX9_erase 34 = .ok (.getfield 47, 3) := by decide +kernel
theorem dX9_erase_37 : decode cX9_erase 37 = .ok (.iload_n 1, 1) := by decide +kernel
theorem dX9_erase_38 : decode cX9_erase 38 = .ok (.invokevirtual 289, 3) := by decide +kernel
theorem dX9_erase_41 : decode cX9_erase 41 = .ok (.aload_n 0, 1) := by decide +kernel
theorem dX9_erase_42 : decode cX9_erase 42 = .ok (.getfield 47, 3) := by decide +kernel
theorem dX9_erase_45 : decode cX9_erase 45 = .ok (.getfield 136, 3) := by decide +kernel
theorem dX9_erase_48 : decode cX9_erase 48 = .ok (.aload_n 0, 1) := by decide +kernel
theorem dX9_erase_49 : decode cX9_erase 49 = .ok (.getfield 47, 3) := by decide +kernel
theorem dX9_erase_52 : decode cX9_erase 52 = .ok (.invokevirtual 139, 3) := by decide +kernel
theorem dX9_erase_55 : decode cX9_erase 55 = .ok (.invokevirtual 143, 3) := by decide +kernel
theorem dX9_erase_58 : decode cX9_erase 58 = .ok (.ireturn, 1) := by decide +kernel
theorem dX9_close_0 : decode cX9_close 0 = .ok (.aload_n 0, 1) := by decide +kernel
theorem dX9_close_1 : decode cX9_close 1 = .ok (.getfield 47, 3) := by decide +kernel
theorem dX9_close_4 : decode cX9_close 4 = .ok (.invokevirtual 252, 3) := by decide +kernel
theorem dX9_close_7 : decode cX9_close 7 = .ok (.invokestatic 275, 3) := by decide +kernel
theorem dX9_close_10 : decode cX9_close 10 = .ok (.aload_n 0, 1) := by decide +kernel
theorem dX9_close_11 : decode cX9_close 11 = .ok (.getfield 26, 3) := by decide +kernel
theorem dX9_close_14 : decode cX9_close 14 = .ok (.aload_n 0, 1) := by decide +kernel
theorem dX9_close_15 : decode cX9_close 15 = .ok (.getfield 47, 3) := by decide +kernel
theorem dX9_close_18 : decode cX9_close 18 = .ok (.invokevirtual 278, 3) := by decide +kernel
theorem dX9_close_21 : decode cX9_close 21 = .ok (.aload_n 0, 1) := by decide +kernel
theorem dX9_close_22 : decode cX9_close 22 = .ok (.getfield 47, 3) := by decide +kernel
theorem dX9_close_25 : decode cX9_close 25 = .ok (.invokevirtual 292, 3) := by decide +kernel
theorem dX9_close_28 : decode cX9_close 28 = .ok (.ireturn, 1) := by decide +kernel
theorem dX9_crash_0 : decode cX9_crash 0 = .ok (.aload_n 0, 1) := by decide +kernel
theorem dX9_crash_1 : decode cX9_crash 1 = .ok (.getfield 47, 3) := by decide +kernel
theorem dX9_crash_4 : decode cX9_crash 4 = .ok (.invokevirtual 255, 3) := by decide +kernel
theorem dX9_crash_7 : decode cX9_crash 7 = .ok (.invokestatic 275, 3) := by decide +kernel
theorem dX9_crash_10 : decode cX9_crash 10 = .ok (.aload_n 0, 1) := by decide +kernel
theorem dX9_crash_11 : decode cX9_crash 11 = .ok (.getfield 26, 3) := by decide +kernel
theorem dX9_crash_14 : decode cX9_crash 14 = .ok (.aload_n 0, 1) := by decide +kernel
theorem dX9_crash_15 : decode cX9_crash 15 = .ok (.getfield 47, 3) := by decide +kernel
theorem dX9_crash_18 : decode cX9_crash 18 = .ok (.invokevirtual 278, 3) := by decide +kernel
theorem dX9_crash_21 : decode cX9_crash 21 = .ok (.aload_n 0, 1) := by decide +kernel
theorem dX9_crash_22 : decode cX9_crash 22 = .ok (.getfield 47, 3) := by decide +kernel
theorem dX9_crash_25 : decode cX9_crash 25 = .ok (.invokevirtual 295, 3) := by decide +kernel
theorem dX9_crash_28 : decode cX9_crash 28 = .ok (.ireturn, 1) := by decide +kernel
theorem dX9_recover_0 : decode cX9_recover 0 = .ok (.aload_n 0, 1) := by decide +kernel
theorem dX9_recover_1 : decode cX9_recover 1 = .ok (.getfield 47, 3) := by decide +kernel
theorem dX9_recover_4 : decode cX9_recover 4 = .ok (.invokevirtual 258, 3) := by decide +kernel
theorem dX9_recover_7 : decode cX9_recover 7 = .ok (.invokestatic 275, 3) := by decide +kernel
theorem dX9_recover_10 : decode cX9_recover 10 = .ok (.aload_n 0, 1) := by decide +kernel
theorem dX9_recover_11 : decode cX9_recover 11 = .ok (.getfield 26, 3) := by decide +kernel
theorem dX9_recover_14 : decode cX9_recover 14 = .ok (.aload_n 0, 1) := by decide +kernel
theorem dX9_recover_15 : decode cX9_recover 15 = .ok (.getfield 47, 3) := by decide +kernel
theorem dX9_recover_18 : decode cX9_recover 18 = .ok (.invokevirtual 278, 3) := by decide +kernel
theorem dX9_recover_21 : decode cX9_recover 21 = .ok (.aload_n 0, 1) := by decide +kernel
theorem dX9_recover_22 : decode cX9_recover 22 = .ok (.getfield 47, 3) := by decide +kernel
theorem dX9_recover_25 : decode cX9_recover 25 = .ok (.invokevirtual 298, 3) := by decide +kernel
theorem dX9_recover_28 : decode cX9_recover 28 = .ok (.ireturn, 1) := by decide +kernel
theorem dX9_scratch_0 : decode cX9_scratch 0 = .ok (.iload_n 1, 1) := by decide +kernel
theorem dX9_scratch_1 : decode cX9_scratch 1 = .ok (.aload_n 0, 1) := by decide +kernel
theorem dX9_scratch_2 : decode cX9_scratch 2 = .ok (.getfield 47, 3) := by decide +kernel
theorem dX9_scratch_5 : decode cX9_scratch 5 = .ok (.getfield 106, 3) := by decide +kernel
theorem dX9_scratch_8 : decode cX9_scratch 8 = .ok (.getfield 110, 3) := by decide +kernel
theorem dX9_scratch_11 : decode cX9_scratch 11 = .ok (.invokestatic 179, 3) := by decide +kernel
theorem dX9_scratch_14 : decode cX9_scratch 14 = .ok (.aload_n 0, 1) := by decide +kernel
theorem dX9_scratch_15 : decode cX9_scratch 15 = .ok (.getfield 26, 3) := by decide +kernel
theorem dX9_scratch_18 : decode cX9_scratch 18 = .ok (.aload_n 0, 1) := by decide +kernel
theorem dX9_scratch_19 : decode cX9_scratch 19 = .ok (.getfield 47, 3) := by decide +kernel
theorem dX9_scratch_22 : decode cX9_scratch 22 = .ok (.invokevirtual 278, 3) := by decide +kernel
theorem dX9_scratch_25 : decode cX9_scratch 25 = .ok (.aload_n 0, 1) := by decide +kernel
theorem dX9_scratch_26 : decode cX9_scratch 26 = .ok (.getfield 47, 3) := by decide +kernel
theorem dX9_scratch_29 : decode cX9_scratch 29 = .ok (.getfield 106, 3) := by decide +kernel
theorem dX9_scratch_32 : decode cX9_scratch 32 = .ok (.iload_n 1, 1) := by decide +kernel
theorem dX9_scratch_33 : decode cX9_scratch 33 = .ok (.invokevirtual 301, 3) := by decide +kernel
theorem dX9_scratch_36 : decode cX9_scratch 36 = .ok (.ireturn, 1) := by decide +kernel
theorem dX9_setScan_0 : decode cX9_setScan 0 = .ok (.aload_n 0, 1) := by decide +kernel
theorem dX9_setScan_1 : decode cX9_setScan 1 = .ok (.getfield 26, 3) := by decide +kernel
theorem dX9_setScan_4 : decode cX9_setScan 4 = .ok (.aload_n 0, 1) := by decide +kernel
theorem dX9_setScan_5 : decode cX9_setScan 5 = .ok (.getfield 47, 3) := by decide +kernel
theorem dX9_setScan_8 : decode cX9_setScan 8 = .ok (.invokevirtual 278, 3) := by decide +kernel
theorem dX9_setScan_11 : decode cX9_setScan 11 = .ok (.aload_n 0, 1) := by decide +kernel
theorem dX9_setScan_12 : decode cX9_setScan 12 = .ok (.getfield 47, 3) := by decide +kernel
theorem dX9_setScan_15 : decode cX9_setScan 15 = .ok (.getfield 157, 3) := by decide +kernel
theorem dX9_setScan_18 : decode cX9_setScan 18 = .ok (.istore_n 2, 1) := by decide +kernel
theorem dX9_setScan_19 : decode cX9_setScan 19 = .ok (.aload_n 0, 1) := by decide +kernel
theorem dX9_setScan_20 : decode cX9_setScan 20 = .ok (.getfield 47, 3) := by decide +kernel
theorem dX9_setScan_23 : decode cX9_setScan 23 = .ok (.iload_n 1, 1) := by decide +kernel
theorem dX9_setScan_24 : decode cX9_setScan 24 = .ok (.putfield 157, 3) := by decide +kernel
theorem dX9_setScan_27 : decode cX9_setScan 27 = .ok (.iload_n 2, 1) := by decide +kernel
theorem dX9_setScan_28 : decode cX9_setScan 28 = .ok (.ireturn, 1) := by decide +kernel
theorem dX9_checkIndex_0 : decode cX9_checkIndex 0 = .ok (.iload_n 0, 1) := by decide +kernel
theorem dX9_checkIndex_1 : decode cX9_checkIndex 1 = .ok (.ifCond .lt 8, 3) := by decide +kernel
theorem dX9_checkIndex_4 : decode cX9_checkIndex 4 = .ok (.iload_n 0, 1) := by decide +kernel
theorem dX9_checkIndex_5 : decode cX9_checkIndex 5 = .ok (.iload_n 1, 1) := by decide +kernel
theorem dX9_checkIndex_6 : decode cX9_checkIndex 6 = .ok (.if_icmp .lt 14, 3) := by decide +kernel
theorem dX9_checkIndex_9 : decode cX9_checkIndex 9 = .ok (.new 325, 3) := by decide +kernel
theorem dX9_checkIndex_12 : decode cX9_checkIndex 12 = .ok (.dup, 1) := by decide +kernel
theorem dX9_checkIndex_13 : decode cX9_checkIndex 13 = .ok (.ldc_w 327, 3) := by decide +kernel
theorem dX9_checkIndex_16 : decode cX9_checkIndex 16 = .ok (.invokespecial 329, 3) := by decide +kernel
theorem dX9_checkIndex_19 : decode cX9_checkIndex 19 = .ok (.athrow, 1) := by decide +kernel
theorem dX9_checkIndex_20 : decode cX9_checkIndex 20 = .ok (.return_, 1) := by decide +kernel
theorem dX9_checkRange_0 : decode cX9_checkRange 0 = .ok (.iload_n 0, 1) := by decide +kernel
theorem dX9_checkRange_1 : decode cX9_checkRange 1 = .ok (.iload_n 1, 1) := by decide +kernel
theorem dX9_checkRange_2 : decode cX9_checkRange 2 = .ok (.if_icmp .lt 8, 3) := by decide +kernel
theorem dX9_checkRange_5 : decode cX9_checkRange 5 = .ok (.iload_n 0, 1) := by decide +kernel
theorem dX9_checkRange_6 : decode cX9_checkRange 6 = .ok (.iload_n 2, 1) := by decide +kernel
theorem dX9_checkRange_7 : decode cX9_checkRange 7 = .ok (.if_icmp .le 14, 3) := by decide +kernel
theorem dX9_checkRange_10 : decode cX9_checkRange 10 = .ok (.new 330, 3) := by decide +kernel
theorem dX9_checkRange_13 : decode cX9_checkRange 13 = .ok (.dup, 1) := by decide +kernel
theorem dX9_checkRange_14 : decode cX9_checkRange 14 = .ok (.ldc_w 332, 3) := by decide +kernel
theorem dX9_checkRange_17 : decode cX9_checkRange 17 = .ok (.invokespecial 334, 3) := by decide +kernel
theorem dX9_checkRange_20 : decode cX9_checkRange 20 = .ok (.athrow, 1) := by decide +kernel
theorem dX9_checkRange_21 : decode cX9_checkRange 21 = .ok (.return_, 1) := by decide +kernel
theorem dX9_checkAllowed_0 : decode cX9_checkAllowed 0 = .ok (.iload_n 0, 1) := by decide +kernel
theorem dX9_checkAllowed_1 : decode cX9_checkAllowed 1 = .ok (.ifCond .eq 14, 3) := by decide +kernel
theorem dX9_checkAllowed_4 : decode cX9_checkAllowed 4 = .ok (.new 315, 3) := by decide +kernel
theorem dX9_checkAllowed_7 : decode cX9_checkAllowed 7 = .ok (.dup, 1) := by decide +kernel
theorem dX9_checkAllowed_8 : decode cX9_checkAllowed 8 = .ok (.ldc_w 335, 3) := by decide +kernel
theorem dX9_checkAllowed_11 : decode cX9_checkAllowed 11 = .ok (.invokespecial 319, 3) := by decide +kernel
theorem dX9_checkAllowed_14 : decode cX9_checkAllowed 14 = .ok (.athrow, 1) := by decide +kernel
theorem dX9_checkAllowed_15 : decode cX9_checkAllowed 15 = .ok (.return_, 1) := by decide +kernel
theorem dX9_oneIf_0 : decode cX9_oneIf 0 = .ok (.iload_n 0, 1) := by decide +kernel
theorem dX9_oneIf_1 : decode cX9_oneIf 1 = .ok (.ifCond .eq 7, 3) := by decide +kernel
theorem dX9_oneIf_4 : decode cX9_oneIf 4 = .ok (.iconst 1, 1) := by decide +kernel
theorem dX9_oneIf_5 : decode cX9_oneIf 5 = .ok (.goto 4, 3) := by decide +kernel
theorem dX9_oneIf_8 : decode cX9_oneIf 8 = .ok (.iconst 0, 1) := by decide +kernel
theorem dX9_oneIf_9 : decode cX9_oneIf 9 = .ok (.ireturn, 1) := by decide +kernel
theorem dX9_withLetter_0 : decode cX9_withLetter 0 = .ok (.lload_n 0, 1) := by decide +kernel
theorem dX9_withLetter_1 : decode cX9_withLetter 1 = .ok (.ldc2_w 337, 3) := by decide +kernel
theorem dX9_withLetter_4 : decode cX9_withLetter 4 = .ok (.lmul, 1) := by decide +kernel
theorem dX9_withLetter_5 : decode cX9_withLetter 5 = .ok (.iload_n 2, 1) := by decide +kernel
theorem dX9_withLetter_6 : decode cX9_withLetter 6 = .ok (.bipush 97, 2) := by decide +kernel
theorem dX9_withLetter_8 : decode cX9_withLetter 8 = .ok (.isub, 1) := by decide +kernel
theorem dX9_withLetter_9 : decode cX9_withLetter 9 = .ok (.iconst 1, 1) := by decide +kernel
theorem dX9_withLetter_10 : decode cX9_withLetter 10 = .ok (.iadd, 1) := by decide +kernel
theorem dX9_withLetter_11 : decode cX9_withLetter 11 = .ok (.i2l, 1) := by decide +kernel
theorem dX9_withLetter_12 : decode cX9_withLetter 12 = .ok (.ladd, 1) := by decide +kernel
theorem dX9_withLetter_13 : decode cX9_withLetter 13 = .ok (.lreturn, 1) := by decide +kernel
theorem dX9_isLetter_0 : decode cX9_isLetter 0 = .ok (.iload_n 0, 1) := by decide +kernel
theorem dX9_isLetter_1 : decode cX9_isLetter 1 = .ok (.bipush 97, 2) := by decide +kernel
theorem dX9_isLetter_3 : decode cX9_isLetter 3 = .ok (.if_icmp .lt 13, 3) := by decide +kernel
theorem dX9_isLetter_6 : decode cX9_isLetter 6 = .ok (.iload_n 0, 1) := by decide +kernel
theorem dX9_isLetter_7 : decode cX9_isLetter 7 = .ok (.bipush 122, 2) := by decide +kernel
theorem dX9_isLetter_9 : decode cX9_isLetter 9 = .ok (.if_icmp .gt 7, 3) := by decide +kernel
theorem dX9_isLetter_12 : decode cX9_isLetter 12 = .ok (.iconst 1, 1) := by decide +kernel
theorem dX9_isLetter_13 : decode cX9_isLetter 13 = .ok (.goto 4, 3) := by decide +kernel
theorem dX9_isLetter_16 : decode cX9_isLetter 16 = .ok (.iconst 0, 1) := by decide +kernel
theorem dX9_isLetter_17 : decode cX9_isLetter 17 = .ok (.ireturn, 1) := by decide +kernel
theorem dX9_packed_0 : decode cX9_packed 0 = .ok (.lconst 0, 1) := by decide +kernel
theorem dX9_packed_1 : decode cX9_packed 1 = .ok (.lstore_n 1, 1) := by decide +kernel
theorem dX9_packed_2 : decode cX9_packed 2 = .ok (.iconst 0, 1) := by decide +kernel
theorem dX9_packed_3 : decode cX9_packed 3 = .ok (.istore_n 3, 1) := by decide +kernel
theorem dX9_packed_4 : decode cX9_packed 4 = .ok (.iload_n 3, 1) := by decide +kernel
theorem dX9_packed_5 : decode cX9_packed 5 = .ok (.aload_n 0, 1) := by decide +kernel
theorem dX9_packed_6 : decode cX9_packed 6 = .ok (.invokevirtual 339, 3) := by decide +kernel
theorem dX9_packed_9 : decode cX9_packed 9 = .ok (.if_icmp .ge 19, 3) := by decide +kernel
theorem dX9_packed_12 : decode cX9_packed 12 = .ok (.lload_n 1, 1) := by decide +kernel
theorem dX9_packed_13 : decode cX9_packed 13 = .ok (.aload_n 0, 1) := by decide +kernel
theorem dX9_packed_14 : decode cX9_packed 14 = .ok (.iload_n 3, 1) := by decide +kernel
theorem dX9_packed_15 : decode cX9_packed 15 = .ok (.invokevirtual 344, 3) := by decide +kernel
theorem dX9_packed_18 : decode cX9_packed 18 = .ok (.invokestatic 348, 3) := by decide +kernel
theorem dX9_packed_21 : decode cX9_packed 21 = .ok (.lstore_n 1, 1) := by decide +kernel
theorem dX9_packed_22 : decode cX9_packed 22 = .ok (.iinc 3 1, 3) := by decide +kernel
theorem dX9_packed_25 : decode cX9_packed 25 = .ok (.goto (-21), 3) := by decide +kernel
theorem dX9_packed_28 : decode cX9_packed 28 = .ok (.lload_n 1, 1) := by decide +kernel
theorem dX9_packed_29 : decode cX9_packed 29 = .ok (.lreturn, 1) := by decide +kernel
theorem dX9_directoryLength_0 : decode cX9_directoryLength 0 = .ok (.iconst 1, 1) := by decide +kernel
theorem dX9_directoryLength_1 : decode cX9_directoryLength 1 = .ok (.iload_n 0, 1) := by decide +kernel
theorem dX9_directoryLength_2 : decode cX9_directoryLength 2 = .ok (.iconst 1, 1) := by decide +kernel
theorem dX9_directoryLength_3 : decode cX9_directoryLength 3 = .ok (.isub, 1) := by decide +kernel
theorem dX9_directoryLength_4 : decode cX9_directoryLength 4 = .ok (.iconst 4, 1) := by decide +kernel
theorem dX9_directoryLength_5 : decode cX9_directoryLength 5 = .ok (.idiv, 1) := by decide +kernel
theorem dX9_directoryLength_6 : decode cX9_directoryLength 6 = .ok (.iadd, 1) := by decide +kernel
theorem dX9_directoryLength_7 : decode cX9_directoryLength 7 = .ok (.ireturn, 1) := by decide +kernel
theorem dX9_at_0 : decode cX9_at 0 = .ok (.iload_n 1, 1) := by decide +kernel
theorem dX9_at_1 : decode cX9_at 1 = .ok (.ifCond .lt 15, 3) := by decide +kernel
theorem dX9_at_4 : decode cX9_at 4 = .ok (.iload_n 1, 1) := by decide +kernel
theorem dX9_at_5 : decode cX9_at 5 = .ok (.aload_n 0, 1) := by decide +kernel
theorem dX9_at_6 : decode cX9_at 6 = .ok (.arraylength, 1) := by decide +kernel
theorem dX9_at_7 : decode cX9_at 7 = .ok (.if_icmp .ge 9, 3) := by decide +kernel
theorem dX9_at_10 : decode cX9_at 10 = .ok (.aload_n 0, 1) := by decide +kernel
theorem dX9_at_11 : decode cX9_at 11 = .ok (.iload_n 1, 1) := by decide +kernel
theorem dX9_at_12 : decode cX9_at 12 = .ok (.iaload, 1) := by decide +kernel
theorem dX9_at_13 : decode cX9_at 13 = .ok (.goto 4, 3) := by decide +kernel
theorem dX9_at_16 : decode cX9_at 16 = .ok (.iload_n 2, 1) := by decide +kernel
theorem dX9_at_17 : decode cX9_at 17 = .ok (.ireturn, 1) := by decide +kernel
theorem dX9_at__0 : decode cX9_at_ 0 = .ok (.iload_n 1, 1) := by decide +kernel
theorem dX9_at__1 : decode cX9_at_ 1 = .ok (.ifCond .lt 15, 3) := by decide +kernel
theorem dX9_at__4 : decode cX9_at_ 4 = .ok (.iload_n 1, 1) := by decide +kernel
theorem dX9_at__5 : decode cX9_at_ 5 = .ok (.aload_n 0, 1) := by decide +kernel
theorem dX9_at__6 : decode cX9_at_ 6 = .ok (.arraylength, 1) := by decide +kernel
theorem dX9_at__7 : decode cX9_at_ 7 = .ok (.if_icmp .ge 9, 3) := by decide +kernel
theorem dX9_at__10 : decode cX9_at_ 10 = .ok (.aload_n 0, 1) := by decide +kernel
theorem dX9_at__11 : decode cX9_at_ 11 = .ok (.iload_n 1, 1) := by decide +kernel
theorem dX9_at__12 : decode cX9_at_ 12 = .ok (.laload, 1) := by decide +kernel
theorem dX9_at__13 : decode cX9_at_ 13 = .ok (.goto 4, 3) := by decide +kernel
theorem dX9_at__16 : decode cX9_at_ 16 = .ok (.lload_n 2, 1) := by decide +kernel
theorem dX9_at__17 : decode cX9_at_ 17 = .ok (.lreturn, 1) := by decide +kernel
theorem dX9_isSet_0 : decode cX9_isSet 0 = .ok (.iload_n 1, 1) := by decide +kernel
theorem dX9_isSet_1 : decode cX9_isSet 1 = .ok (.ifCond .lt 19, 3) := by decide +kernel
theorem dX9_isSet_4 : decode cX9_isSet 4 = .ok (.iload_n 1, 1) := by decide +kernel
theorem dX9_isSet_5 : decode cX9_isSet 5 = .ok (.aload_n 0, 1) := by decide +kernel
theorem dX9_isSet_6 : decode cX9_isSet 6 = .ok (.arraylength, 1) := by decide +kernel
theorem dX9_isSet_7 : decode cX9_isSet 7 = .ok (.if_icmp .ge 13, 3) := by decide +kernel
theorem dX9_isSet_10 : decode cX9_isSet 10 = .ok (.aload_n 0, 1) := by decide +kernel
theorem dX9_isSet_11 : decode cX9_isSet 11 = .ok (.iload_n 1, 1) := by decide +kernel
theorem dX9_isSet_12 : decode cX9_isSet 12 = .ok (.baload, 1) := by decide +kernel
theorem dX9_isSet_13 : decode cX9_isSet 13 = .ok (.ifCond .eq 7, 3) := by decide +kernel
theorem dX9_isSet_16 : decode cX9_isSet 16 = .ok (.iconst 1, 1) := by decide +kernel
theorem dX9_isSet_17 : decode cX9_isSet 17 = .ok (.goto 4, 3) := by decide +kernel
theorem dX9_isSet_20 : decode cX9_isSet 20 = .ok (.iconst 0, 1) := by decide +kernel
theorem dX9_isSet_21 : decode cX9_isSet 21 = .ok (.ireturn, 1) := by decide +kernel
theorem dX9_put_0 : decode cX9_put 0 = .ok (.iload_n 1, 1) := by decide +kernel
theorem dX9_put_1 : decode cX9_put 1 = .ok (.ifCond .lt 13, 3) := by decide +kernel
theorem dX9_put_4 : decode cX9_put 4 = .ok (.iload_n 1, 1) := by decide +kernel
theorem dX9_put_5 : decode cX9_put 5 = .ok (.aload_n 0, 1) := by decide +kernel
theorem dX9_put_6 : decode cX9_put 6 = .ok (.arraylength, 1) := by decide +kernel
theorem dX9_put_7 : decode cX9_put 7 = .ok (.if_icmp .ge 7, 3) := by decide +kernel
theorem dX9_put_10 : decode cX9_put 10 = .ok (.aload_n 0, 1) := by decide +kernel
theorem dX9_put_11 : decode cX9_put 11 = .ok (.iload_n 1, 1) := by decide +kernel
theorem dX9_put_12 : decode cX9_put 12 = .ok (.iload_n 2, 1) := by decide +kernel
theorem dX9_put_13 : decode cX9_put 13 = .ok (.iastore, 1) := by decide +kernel
theorem dX9_put_14 : decode cX9_put 14 = .ok (.return_, 1) := by decide +kernel
theorem dX9_put__0 : decode cX9_put_ 0 = .ok (.iload_n 1, 1) := by decide +kernel
theorem dX9_put__1 : decode cX9_put_ 1 = .ok (.ifCond .lt 13, 3) := by decide +kernel
theorem dX9_put__4 : decode cX9_put_ 4 = .ok (.iload_n 1, 1) := by decide +kernel
theorem dX9_put__5 : decode cX9_put_ 5 = .ok (.aload_n 0, 1) := by decide +kernel
theorem dX9_put__6 : decode cX9_put_ 6 = .ok (.arraylength, 1) := by decide +kernel
theorem dX9_put__7 : decode cX9_put_ 7 = .ok (.if_icmp .ge 7, 3) := by decide +kernel
theorem dX9_put__10 : decode cX9_put_ 10 = .ok (.aload_n 0, 1) := by decide +kernel
theorem dX9_put__11 : decode cX9_put_ 11 = .ok (.iload_n 1, 1) := by decide +kernel
theorem dX9_put__12 : decode cX9_put_ 12 = .ok (.lload_n 2, 1) := by decide +kernel
theorem dX9_put__13 : decode cX9_put_ 13 = .ok (.lastore, 1) := by decide +kernel
theorem dX9_put__14 : decode cX9_put_ 14 = .ok (.return_, 1) := by decide +kernel
theorem dX9_mark_0 : decode cX9_mark 0 = .ok (.iload_n 1, 1) := by decide +kernel
theorem dX9_mark_1 : decode cX9_mark 1 = .ok (.ifCond .lt 13, 3) := by decide +kernel
theorem dX9_mark_4 : decode cX9_mark 4 = .ok (.iload_n 1, 1) := by decide +kernel
theorem dX9_mark_5 : decode cX9_mark 5 = .ok (.aload_n 0, 1) := by decide +kernel
theorem dX9_mark_6 : decode cX9_mark 6 = .ok (.arraylength, 1) := by decide +kernel
theorem dX9_mark_7 : decode cX9_mark 7 = .ok (.if_icmp .ge 7, 3) := by decide +kernel
theorem dX9_mark_10 : decode cX9_mark 10 = .ok (.aload_n 0, 1) := by decide +kernel
theorem dX9_mark_11 : decode cX9_mark 11 = .ok (.iload_n 1, 1) := by decide +kernel
theorem dX9_mark_12 : decode cX9_mark 12 = .ok (.iload_n 2, 1) := by decide +kernel
theorem dX9_mark_13 : decode cX9_mark 13 = .ok (.bastore, 1) := by decide +kernel
theorem dX9_mark_14 : decode cX9_mark 14 = .ok (.return_, 1) := by decide +kernel
theorem dX9_fill_0 : decode cX9_fill 0 = .ok (.iconst 0, 1) := by decide +kernel
theorem dX9_fill_1 : decode cX9_fill 1 = .ok (.istore_n 2, 1) := by decide +kernel
theorem dX9_fill_2 : decode cX9_fill 2 = .ok (.iload_n 2, 1) := by decide +kernel
theorem dX9_fill_3 : decode cX9_fill 3 = .ok (.aload_n 0, 1) := by decide +kernel
theorem dX9_fill_4 : decode cX9_fill 4 = .ok (.arraylength, 1) := by decide +kernel
theorem dX9_fill_5 : decode cX9_fill 5 = .ok (.if_icmp .ge 13, 3) := by decide +kernel
theorem dX9_fill_8 : decode cX9_fill 8 = .ok (.aload_n 0, 1) := by decide +kernel
theorem dX9_fill_9 : decode cX9_fill 9 = .ok (.iload_n 2, 1) := by decide +kernel
theorem dX9_fill_10 : decode cX9_fill 10 = .ok (.iload_n 1, 1) := by decide +kernel
theorem dX9_fill_11 : decode cX9_fill 11 = .ok (.iastore, 1) := by decide +kernel
theorem dX9_fill_12 : decode cX9_fill 12 = .ok (.iinc 2 1, 3) := by decide +kernel
theorem dX9_fill_15 : decode cX9_fill 15 = .ok (.goto (-13), 3) := by decide +kernel
theorem dX9_fill_18 : decode cX9_fill 18 = .ok (.return_, 1) := by decide +kernel
theorem dX9_fill__0 : decode cX9_fill_ 0 = .ok (.iconst 0, 1) := by decide +kernel
theorem dX9_fill__1 : decode cX9_fill_ 1 = .ok (.istore_n 2, 1) := by decide +kernel
theorem dX9_fill__2 : decode cX9_fill_ 2 = .ok (.iload_n 2, 1) := by decide +kernel
theorem dX9_fill__3 : decode cX9_fill_ 3 = .ok (.aload_n 0, 1) := by decide +kernel
theorem dX9_fill__4 : decode cX9_fill_ 4 = .ok (.arraylength, 1) := by decide +kernel
theorem dX9_fill__5 : decode cX9_fill_ 5 = .ok (.if_icmp .ge 13, 3) := by decide +kernel
theorem dX9_fill__8 : decode cX9_fill_ 8 = .ok (.aload_n 0, 1) := by decide +kernel
theorem dX9_fill__9 : decode cX9_fill_ 9 = .ok (.iload_n 2, 1) := by decide +kernel
theorem dX9_fill__10 : decode cX9_fill_ 10 = .ok (.iload_n 1, 1) := by decide +kernel
theorem dX9_fill__11 : decode cX9_fill_ 11 = .ok (.bastore, 1) := by decide +kernel
theorem dX9_fill__12 : decode cX9_fill_ 12 = .ok (.iinc 2 1, 3) := by decide +kernel
theorem dX9_fill__15 : decode cX9_fill_ 15 = .ok (.goto (-13), 3) := by decide +kernel
theorem dX9_fill__18 : decode cX9_fill_ 18 = .ok (.return_, 1) := by decide +kernel
theorem dX9_copy_0 : decode cX9_copy 0 = .ok (.iconst 0, 1) := by decide +kernel
theorem dX9_copy_1 : decode cX9_copy 1 = .ok (.istore_n 2, 1) := by decide +kernel
theorem dX9_copy_2 : decode cX9_copy 2 = .ok (.iload_n 2, 1) := by decide +kernel
theorem dX9_copy_3 : decode cX9_copy 3 = .ok (.aload_n 0, 1) := by decide +kernel
theorem dX9_copy_4 : decode cX9_copy 4 = .ok (.arraylength, 1) := by decide +kernel
theorem dX9_copy_5 : decode cX9_copy 5 = .ok (.if_icmp .ge 21, 3) := by decide +kernel
theorem dX9_copy_8 : decode cX9_copy 8 = .ok (.iload_n 2, 1) := by decide +kernel
theorem dX9_copy_9 : decode cX9_copy 9 = .ok (.aload_n 1, 1) := by decide +kernel
theorem dX9_copy_10 : decode cX9_copy 10 = .ok (.arraylength, 1) := by decide +kernel
theorem dX9_copy_11 : decode cX9_copy 11 = .ok (.if_icmp .ge 15, 3) := by decide +kernel
theorem dX9_copy_14 : decode cX9_copy 14 = .ok (.aload_n 1, 1) := by decide +kernel
theorem dX9_copy_15 : decode cX9_copy 15 = .ok (.iload_n 2, 1) := by decide +kernel
theorem dX9_copy_16 : decode cX9_copy 16 = .ok (.aload_n 0, 1) := by decide +kernel
theorem dX9_copy_17 : decode cX9_copy 17 = .ok (.iload_n 2, 1) := by decide +kernel
theorem dX9_copy_18 : decode cX9_copy 18 = .ok (.iaload, 1) := by decide +kernel
