theorem dX9_storeIn_7 : decode cX9_storeIn 7 = .ok (.if_icmp .ge 26, 3) := by decide +kernel
theorem dX9_storeIn_10 : decode cX9_storeIn 10 = .ok (.aload_n 0, 1) := by decide +kernel
theorem dX9_storeIn_11 : decode cX9_storeIn 11 = .ok (.iload_n 1, 1) := by decide +kernel
theorem dX9_storeIn_12 : decode cX9_storeIn 12 = .ok (.aaload, 1) := by decide +kernel
theorem dX9_storeIn_13 : decode cX9_storeIn 13 = .ok (.ifnonnull 13, 3) := by decide +kernel
theorem dX9_storeIn_16 : decode cX9_storeIn 16 = .ok (.aload_n 0, 1) := by decide +kernel
theorem dX9_storeIn_17 : decode cX9_storeIn 17 = .ok (.iload_n 1, 1) := by decide +kernel
theorem dX9_storeIn_18 : decode cX9_storeIn 18 = .ok (.new 44, 3) := by decide +kernel
theorem dX9_storeIn_21 : decode cX9_storeIn 21 = .ok (.dup, 1) := by decide +kernel
theorem dX9_storeIn_22 : decode cX9_storeIn 22 = .ok (.invokespecial 46, 3) := by decide +kernel
theorem dX9_storeIn_25 : decode cX9_storeIn 25 = .ok (.aastore, 1) := by decide +kernel
theorem dX9_storeIn_26 : decode cX9_storeIn 26 = .ok (.aload_n 0, 1) := by decide +kernel
theorem dX9_storeIn_27 : decode cX9_storeIn 27 = .ok (.iload_n 1, 1) := by decide +kernel
theorem dX9_storeIn_28 : decode cX9_storeIn 28 = .ok (.aaload, 1) := by decide +kernel
theorem dX9_storeIn_29 : decode cX9_storeIn 29 = .ok (.aload_n 2, 1) := by decide +kernel
theorem dX9_storeIn_30 : decode cX9_storeIn 30 = .ok (.invokevirtual 352, 3) := by decide +kernel
theorem dX9_storeIn_33 : decode cX9_storeIn 33 = .ok (.return_, 1) := by decide +kernel
theorem dX9_loadFrom_0 : decode cX9_loadFrom 0 = .ok (.iload_n 1, 1) := by decide +kernel
theorem dX9_loadFrom_1 : decode cX9_loadFrom 1 = .ok (.ifCond .lt 22, 3) := by decide +kernel
theorem dX9_loadFrom_4 : decode cX9_loadFrom 4 = .ok (.iload_n 1, 1) := by decide +kernel
theorem dX9_loadFrom_5 : decode cX9_loadFrom 5 = .ok (.aload_n 0, 1) := by decide +kernel
theorem dX9_loadFrom_6 : decode cX9_loadFrom 6 = .ok (.arraylength, 1) := by decide +kernel
theorem dX9_loadFrom_7 : decode cX9_loadFrom 7 = .ok (.if_icmp .ge 16, 3) := by decide +kernel
theorem dX9_loadFrom_10 : decode cX9_loadFrom 10 = .ok (.aload_n 0, 1) := by decide +kernel
theorem dX9_loadFrom_11 : decode cX9_loadFrom 11 = .ok (.iload_n 1, 1) := by decide +kernel
theorem dX9_loadFrom_12 : decode cX9_loadFrom 12 = .ok (.aaload, 1) := by decide +kernel
theorem dX9_loadFrom_13 : decode cX9_loadFrom 13 = .ok (.ifnull 10, 3) := by decide +kernel
theorem dX9_loadFrom_16 : decode cX9_loadFrom 16 = .ok (.aload_n 2, 1) := by decide +kernel
theorem dX9_loadFrom_17 : decode cX9_loadFrom 17 = .ok (.aload_n 0, 1) := by decide +kernel
theorem dX9_loadFrom_18 : decode cX9_loadFrom 18 = .ok (.iload_n 1, 1) := by decide +kernel
theorem dX9_loadFrom_19 : decode cX9_loadFrom 19 = .ok (.aaload, 1) := by decide +kernel
theorem dX9_loadFrom_20 : decode cX9_loadFrom 20 = .ok (.invokevirtual 352, 3) := by decide +kernel
theorem dX9_loadFrom_23 : decode cX9_loadFrom 23 = .ok (.return_, 1) := by decide +kernel
