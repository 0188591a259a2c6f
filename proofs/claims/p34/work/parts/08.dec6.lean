theorem dX9_copy_19 : decode cX9_copy 19 = .ok (.iastore, 1) := by decide +kernel
theorem dX9_copy_20 : decode cX9_copy 20 = .ok (.iinc 2 1, 3) := by decide +kernel
theorem dX9_copy_23 : decode cX9_copy 23 = .ok (.goto (-21), 3) := by decide +kernel
theorem dX9_copy_26 : decode cX9_copy 26 = .ok (.return_, 1) := by decide +kernel
theorem dX9_copy__0 : decode cX9_copy_ 0 = .ok (.iconst 0, 1) := by decide +kernel
theorem dX9_copy__1 : decode cX9_copy_ 1 = .ok (.istore_n 2, 1) := by decide +kernel
theorem dX9_copy__2 : decode cX9_copy_ 2 = .ok (.iload_n 2, 1) := by decide +kernel
theorem dX9_copy__3 : decode cX9_copy_ 3 = .ok (.aload_n 0, 1) := by decide +kernel
theorem dX9_copy__4 : decode cX9_copy_ 4 = .ok (.arraylength, 1) := by decide +kernel
theorem dX9_copy__5 : decode cX9_copy_ 5 = .ok (.if_icmp .ge 21, 3) := by decide +kernel
theorem dX9_copy__8 : decode cX9_copy_ 8 = .ok (.iload_n 2, 1) := by decide +kernel
theorem dX9_copy__9 : decode cX9_copy_ 9 = .ok (.aload_n 1, 1) := by decide +kernel
theorem dX9_copy__10 : decode cX9_copy_ 10 = .ok (.arraylength, 1) := by decide +kernel
theorem dX9_copy__11 : decode cX9_copy_ 11 = .ok (.if_icmp .ge 15, 3) := by decide +kernel
theorem dX9_copy__14 : decode cX9_copy_ 14 = .ok (.aload_n 1, 1) := by decide +kernel
theorem dX9_copy__15 : decode cX9_copy_ 15 = .ok (.iload_n 2, 1) := by decide +kernel
theorem dX9_copy__16 : decode cX9_copy_ 16 = .ok (.aload_n 0, 1) := by decide +kernel
theorem dX9_copy__17 : decode cX9_copy_ 17 = .ok (.iload_n 2, 1) := by decide +kernel
theorem dX9_copy__18 : decode cX9_copy_ 18 = .ok (.baload, 1) := by decide +kernel
theorem dX9_copy__19 : decode cX9_copy_ 19 = .ok (.bastore, 1) := by decide +kernel
theorem dX9_copy__20 : decode cX9_copy_ 20 = .ok (.iinc 2 1, 3) := by decide +kernel
theorem dX9_copy__23 : decode cX9_copy_ 23 = .ok (.goto (-21), 3) := by decide +kernel
theorem dX9_copy__26 : decode cX9_copy_ 26 = .ok (.return_, 1) := by decide +kernel
theorem dX9_copy___0 : decode cX9_copy__ 0 = .ok (.iconst 0, 1) := by decide +kernel
theorem dX9_copy___1 : decode cX9_copy__ 1 = .ok (.istore_n 2, 1) := by decide +kernel
theorem dX9_copy___2 : decode cX9_copy__ 2 = .ok (.iload_n 2, 1) := by decide +kernel
theorem dX9_copy___3 : decode cX9_copy__ 3 = .ok (.aload_n 0, 1) := by decide +kernel
theorem dX9_copy___4 : decode cX9_copy__ 4 = .ok (.arraylength, 1) := by decide +kernel
theorem dX9_copy___5 : decode cX9_copy__ 5 = .ok (.if_icmp .ge 21, 3) := by decide +kernel
theorem dX9_copy___8 : decode cX9_copy__ 8 = .ok (.iload_n 2, 1) := by decide +kernel
theorem dX9_copy___9 : decode cX9_copy__ 9 = .ok (.aload_n 1, 1) := by decide +kernel
theorem dX9_copy___10 : decode cX9_copy__ 10 = .ok (.arraylength, 1) := by decide +kernel
theorem dX9_copy___11 : decode cX9_copy__ 11 = .ok (.if_icmp .ge 15, 3) := by decide +kernel
theorem dX9_copy___14 : decode cX9_copy__ 14 = .ok (.aload_n 1, 1) := by decide +kernel
theorem dX9_copy___15 : decode cX9_copy__ 15 = .ok (.iload_n 2, 1) := by decide +kernel
theorem dX9_copy___16 : decode cX9_copy__ 16 = .ok (.aload_n 0, 1) := by decide +kernel
theorem dX9_copy___17 : decode cX9_copy__ 17 = .ok (.iload_n 2, 1) := by decide +kernel
theorem dX9_copy___18 : decode cX9_copy__ 18 = .ok (.laload, 1) := by decide +kernel
theorem dX9_copy___19 : decode cX9_copy__ 19 = .ok (.lastore, 1) := by decide +kernel
theorem dX9_copy___20 : decode cX9_copy__ 20 = .ok (.iinc 2 1, 3) := by decide +kernel
theorem dX9_copy___23 : decode cX9_copy__ 23 = .ok (.goto (-21), 3) := by decide +kernel
theorem dX9_copy___26 : decode cX9_copy__ 26 = .ok (.return_, 1) := by decide +kernel
theorem dX9_indexOf_0 : decode cX9_indexOf 0 = .ok (.iconst 0, 1) := by decide +kernel
theorem dX9_indexOf_1 : decode cX9_indexOf 1 = .ok (.istore 4, 2) := by decide +kernel
theorem dX9_indexOf_3 : decode cX9_indexOf 3 = .ok (.iload 4, 2) := by decide +kernel
theorem dX9_indexOf_5 : decode cX9_indexOf 5 = .ok (.iload_n 1, 1) := by decide +kernel
theorem dX9_indexOf_6 : decode cX9_indexOf 6 = .ok (.if_icmp .ge 28, 3) := by decide +kernel
theorem dX9_indexOf_9 : decode cX9_indexOf 9 = .ok (.iload 4, 2) := by decide +kernel
theorem dX9_indexOf_11 : decode cX9_indexOf 11 = .ok (.aload_n 0, 1) := by decide +kernel
theorem dX9_indexOf_12 : decode cX9_indexOf 12 = .ok (.arraylength, 1) := by decide +kernel
theorem dX9_indexOf_13 : decode cX9_indexOf 13 = .ok (.if_icmp .ge 21, 3) := by decide +kernel
theorem dX9_indexOf_16 : decode cX9_indexOf 16 = .ok (.aload_n 0, 1) := by decide +kernel
theorem dX9_indexOf_17 : decode cX9_indexOf 17 = .ok (.iload 4, 2) := by decide +kernel
theorem dX9_indexOf_19 : decode cX9_indexOf 19 = .ok (.laload, 1) := by decide +kernel
theorem dX9_indexOf_20 : decode cX9_indexOf 20 = .ok (.lload_n 2, 1) := by decide +kernel
theorem dX9_indexOf_21 : decode cX9_indexOf 21 = .ok (.lcmp, 1) := by decide +kernel
theorem dX9_indexOf_22 : decode cX9_indexOf 22 = .ok (.ifCond .ne 6, 3) := by decide +kernel
theorem dX9_indexOf_25 : decode cX9_indexOf 25 = .ok (.iload 4, 2) := by decide +kernel
theorem dX9_indexOf_27 : decode cX9_indexOf 27 = .ok (.ireturn, 1) := by decide +kernel
theorem dX9_indexOf_28 : decode cX9_indexOf 28 = .ok (.iinc 4 1, 3) := by decide +kernel
theorem dX9_indexOf_31 : decode cX9_indexOf 31 = .ok (.goto (-28), 3) := by decide +kernel
theorem dX9_indexOf_34 : decode cX9_indexOf 34 = .ok (.iconst (-1), 1) := by decide +kernel
theorem dX9_indexOf_35 : decode cX9_indexOf 35 = .ok (.ireturn, 1) := by decide +kernel
theorem dX9_storeIn_0 : decode cX9_storeIn 0 = .ok (.iload_n 1, 1) := by decide +kernel
theorem dX9_storeIn_1 : decode cX9_storeIn 1 = .ok (.ifCond .lt 32, 3) := by decide +kernel
theorem dX9_storeIn_4 : decode cX9_storeIn 4 = .ok (.iload_n 1, 1) := by decide +kernel
theorem dX9_storeIn_5 : decode cX9_storeIn 5 = .ok (.aload_n 0, 1) := by decide +kernel
theorem dX9_storeIn_6 : decode cX9_storeIn 6 = .ok (.arraylength, 1) := by decide +kernel
theorem dX9_storeIn_7 : decode cX9_storeIn 7 = .ok (.if_icmp .ge 26, 3) := by decide +kernel
theorem dX9_storeIn_10 : decode cX9_storeIn 10 = .ok (.aload_n 0, 1) := by decide +kernel
theorem dX9_storeIn_11 : decode cX9_storeIn 11 = .ok (.iload_n 1, 1) := by decide +kernel
theorem dX9_storeIn_12 : decode cX9_storeIn 12 = .ok (.aaload, 1) := by decide +kernel
theorem dX9_storeIn_13 : decode cX9_storeIn 13 = .ok (.ifnonnull 13, 3) := by decide +kernel
theorem dX9_storeIn_16 : decode cX9_storeIn 16 = .ok (.aload_n 0, 1) := by decide +kernel
theorem dX9_storeIn_17 : decode cX9_storeIn 17 = .ok (.iload_n 1, 1) := by decide +kernel
theorem dX9_storeIn_18 : decode cX9_storeIn 18 = .ok (.new 44, 3) := by decide +kernel
theorem dX9_storeIn_21 : decode cX9_storeIn 21 = .ok (.dup, 1) := by decide +kernel
theorem dX9_storeIn_22 : decode cX9_storeIn 22 = .ok (.invokespecial 46, 3) := by decide +kernel
theorem dX9_storeIn_25 : decode cX9_storeIn 25 = .ok (.aastore, 1) := by decide +kernel
theorem dX9_storeIn_26 : decode cX9_storeIn 26 = .ok (.aload_n 0, 1) := by decide +kernel
theorem dX9_storeIn_27 : decode cX9_storeIn 27 = .ok (.iload_n 1, 1) := by decide +kernel
theorem dX9_storeIn_28 : decode cX9_storeIn 28 = .ok (.aaload, 1) := by decide +kernel
theorem dX9_storeIn_29 : decode cX9_storeIn 29 = .ok (.aload_n 2, 1) := by decide +kernel
theorem dX9_storeIn_30 : decode cX9_storeIn 30 = .ok (.invokevirtual 352, 3) := by decide +kernel
theorem dX9_storeIn_33 : decode cX9_storeIn 33 = .ok (.return_, 1) := by decide +kernel
