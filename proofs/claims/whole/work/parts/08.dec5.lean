theorem dX10_undo_16 : decode cX10_undo 16 = .ok (.getfield 202, 3) := by decide +kernel
theorem dX10_undo_19 : decode cX10_undo 19 = .ok (.iconst 1, 1) := by decide +kernel
theorem dX10_undo_20 : decode cX10_undo 20 = .ok (.isub, 1) := by decide +kernel
theorem dX10_undo_21 : decode cX10_undo 21 = .ok (.putfield 202, 3) := by decide +kernel
theorem dX10_undo_24 : decode cX10_undo 24 = .ok (.aload_n 0, 1) := by decide +kernel
theorem dX10_undo_25 : decode cX10_undo 25 = .ok (.getfield 41, 3) := by decide +kernel
theorem dX10_undo_28 : decode cX10_undo 28 = .ok (.sipush 1555, 3) := by decide +kernel
theorem dX10_undo_31 : decode cX10_undo 31 = .ok (.aload_n 0, 1) := by decide +kernel
theorem dX10_undo_32 : decode cX10_undo 32 = .ok (.getfield 202, 3) := by decide +kernel
theorem dX10_undo_35 : decode cX10_undo 35 = .ok (.imul, 1) := by decide +kernel
theorem dX10_undo_36 : decode cX10_undo 36 = .ok (.aload_n 0, 1) := by decide +kernel
theorem dX10_undo_37 : decode cX10_undo 37 = .ok (.getfield 7, 3) := by decide +kernel
theorem dX10_undo_40 : decode cX10_undo 40 = .ok (.iconst 0, 1) := by decide +kernel
theorem dX10_undo_41 : decode cX10_undo 41 = .ok (.invokestatic 192, 3) := by decide +kernel
theorem dX10_undo_44 : decode cX10_undo 44 = .ok (.aload_n 0, 1) := by decide +kernel
theorem dX10_undo_45 : decode cX10_undo 45 = .ok (.getfield 202, 3) := by decide +kernel
theorem dX10_undo_48 : decode cX10_undo 48 = .ok (.ireturn, 1) := by decide +kernel
theorem dX10_saveSnapshot_0 : decode cX10_saveSnapshot 0 = .ok (.aload_n 0, 1) := by decide +kernel
theorem dX10_saveSnapshot_1 : decode cX10_saveSnapshot 1 = .ok (.iload_n 1, 1) := by decide +kernel
theorem dX10_saveSnapshot_2 : decode cX10_saveSnapshot 2 = .ok (.iconst 2, 1) := by decide +kernel
theorem dX10_saveSnapshot_3 : decode cX10_saveSnapshot 3 = .ok (.invokevirtual 311, 3) := by decide +kernel
theorem dX10_saveSnapshot_6 : decode cX10_saveSnapshot 6 = .ok (.ifCond .eq 5, 3) := by decide +kernel
theorem dX10_saveSnapshot_9 : decode cX10_saveSnapshot 9 = .ok (.iconst 0, 1) := by decide +kernel
theorem dX10_saveSnapshot_10 : decode cX10_saveSnapshot 10 = .ok (.ireturn, 1) := by decide +kernel
theorem dX10_saveSnapshot_11 : decode cX10_saveSnapshot 11 = .ok (.aload_n 0, 1) := by decide +kernel
theorem dX10_saveSnapshot_12 : decode cX10_saveSnapshot 12 = .ok (.getfield 47, 3) := by decide +kernel
theorem dX10_saveSnapshot_15 : decode cX10_saveSnapshot 15 = .ok (.iload_n 1, 1) := by decide +kernel
theorem dX10_saveSnapshot_16 : decode cX10_saveSnapshot 16 = .ok (.baload, 1) := by decide +kernel
theorem dX10_saveSnapshot_17 : decode cX10_saveSnapshot 17 = .ok (.istore_n 2, 1) := by decide +kernel
theorem dX10_saveSnapshot_18 : decode cX10_saveSnapshot 18 = .ok (.aload_n 0, 1) := by decide +kernel
theorem dX10_saveSnapshot_19 : decode cX10_saveSnapshot 19 = .ok (.getfield 7, 3) := by decide +kernel
theorem dX10_saveSnapshot_22 : decode cX10_saveSnapshot 22 = .ok (.iconst 0, 1) := by decide +kernel
theorem dX10_saveSnapshot_23 : decode cX10_saveSnapshot 23 = .ok (.aload_n 0, 1) := by decide +kernel
theorem dX10_saveSnapshot_24 : decode cX10_saveSnapshot 24 = .ok (.getfield 44, 3) := by decide +kernel
theorem dX10_saveSnapshot_27 : decode cX10_saveSnapshot 27 = .ok (.sipush 1555, 3) := by decide +kernel
theorem dX10_saveSnapshot_30 : decode cX10_saveSnapshot 30 = .ok (.iload_n 1, 1) := by decide +kernel
theorem dX10_saveSnapshot_31 : decode cX10_saveSnapshot 31 = .ok (.imul, 1) := by decide +kernel
theorem dX10_saveSnapshot_32 : decode cX10_saveSnapshot 32 = .ok (.invokestatic 192, 3) := by decide +kernel
theorem dX10_saveSnapshot_35 : decode cX10_saveSnapshot 35 = .ok (.aload_n 0, 1) := by decide +kernel
theorem dX10_saveSnapshot_36 : decode cX10_saveSnapshot 36 = .ok (.getfield 47, 3) := by decide +kernel
theorem dX10_saveSnapshot_39 : decode cX10_saveSnapshot 39 = .ok (.iload_n 1, 1) := by decide +kernel
theorem dX10_saveSnapshot_40 : decode cX10_saveSnapshot 40 = .ok (.iconst 1, 1) := by decide +kernel
theorem dX10_saveSnapshot_41 : decode cX10_saveSnapshot 41 = .ok (.bastore, 1) := by decide +kernel
theorem dX10_saveSnapshot_42 : decode cX10_saveSnapshot 42 = .ok (.iload_n 2, 1) := by decide +kernel
theorem dX10_saveSnapshot_43 : decode cX10_saveSnapshot 43 = .ok (.ireturn, 1) := by decide +kernel
theorem dX10_restoreSnapshot_0 : decode cX10_restoreSnapshot 0 = .ok (.aload_n 0, 1) := by decide +kernel
theorem dX10_restoreSnapshot_1 : decode cX10_restoreSnapshot 1 = .ok (.iload_n 1, 1) := by decide +kernel
theorem dX10_restoreSnapshot_2 : decode cX10_restoreSnapshot 2 = .ok (.iconst 2, 1) := by decide +kernel
theorem dX10_restoreSnapshot_3 : decode cX10_restoreSnapshot 3 = .ok (.invokevirtual 311, 3) := by decide +kernel
theorem dX10_restoreSnapshot_6 : decode cX10_restoreSnapshot 6 = .ok (.ifCond .ne 25, 3) := by decide +kernel
theorem dX10_restoreSnapshot_9 : decode cX10_restoreSnapshot 9 = .ok (.aload_n 0, 1) := by decide +kernel
theorem dX10_restoreSnapshot_10 : decode cX10_restoreSnapshot 10 = .ok (.aload_n 0, 1) := by decide +kernel
theorem dX10_restoreSnapshot_11 : decode cX10_restoreSnapshot 11 = .ok (.getfield 47, 3) := by decide +kernel
theorem dX10_restoreSnapshot_14 : decode cX10_restoreSnapshot 14 = .ok (.iload_n 1, 1) := by decide +kernel
theorem dX10_restoreSnapshot_15 : decode cX10_restoreSnapshot 15 = .ok (.baload, 1) := by decide +kernel
theorem dX10_restoreSnapshot_16 : decode cX10_restoreSnapshot 16 = .ok (.ifCond .ne 7, 3) := by decide +kernel
theorem dX10_restoreSnapshot_19 : decode cX10_restoreSnapshot 19 = .ok (.iconst 1, 1) := by decide +kernel
theorem dX10_restoreSnapshot_20 : decode cX10_restoreSnapshot 20 = .ok (.goto 4, 3) := by decide +kernel
theorem dX10_restoreSnapshot_23 : decode cX10_restoreSnapshot 23 = .ok (.iconst 0, 1) := by decide +kernel
theorem dX10_restoreSnapshot_24 : decode cX10_restoreSnapshot 24 = .ok (.iconst 2, 1) := by decide +kernel
theorem dX10_restoreSnapshot_25 : decode cX10_restoreSnapshot 25 = .ok (.invokevirtual 188, 3) := by decide +kernel
theorem dX10_restoreSnapshot_28 : decode cX10_restoreSnapshot 28 = .ok (.ifCond .eq 5, 3) := by decide +kernel
theorem dX10_restoreSnapshot_31 : decode cX10_restoreSnapshot 31 = .ok (.iconst 0, 1) := by decide +kernel
theorem dX10_restoreSnapshot_32 : decode cX10_restoreSnapshot 32 = .ok (.ireturn, 1) := by decide +kernel
theorem dX10_restoreSnapshot_33 : decode cX10_restoreSnapshot 33 = .ok (.aload_n 0, 1) := by decide +kernel
theorem dX10_restoreSnapshot_34 : decode cX10_restoreSnapshot 34 = .ok (.getfield 44, 3) := by decide +kernel
theorem dX10_restoreSnapshot_37 : decode cX10_restoreSnapshot 37 = .ok (.sipush 1555, 3) := by decide +kernel
theorem dX10_restoreSnapshot_40 : decode cX10_restoreSnapshot 40 = .ok (.iload_n 1, 1) := by decide +kernel
theorem dX10_restoreSnapshot_41 : decode cX10_restoreSnapshot 41 = .ok (.imul, 1) := by decide +kernel
theorem dX10_restoreSnapshot_42 : decode cX10_restoreSnapshot 42 = .ok (.aload_n 0, 1) := by decide +kernel
theorem dX10_restoreSnapshot_43 : decode cX10_restoreSnapshot 43 = .ok (.getfield 7, 3) := by decide +kernel
theorem dX10_restoreSnapshot_46 : decode cX10_restoreSnapshot 46 = .ok (.iconst 0, 1) := by decide +kernel
theorem dX10_restoreSnapshot_47 : decode cX10_restoreSnapshot 47 = .ok (.invokestatic 192, 3) := by decide +kernel
theorem dX10_restoreSnapshot_50 : decode cX10_restoreSnapshot 50 = .ok (.aload_n 0, 1) := by decide +kernel
theorem dX10_restoreSnapshot_51 : decode cX10_restoreSnapshot 51 = .ok (.iconst 0, 1) := by decide +kernel
theorem dX10_restoreSnapshot_52 : decode cX10_restoreSnapshot 52 = .ok (.putfield 202, 3) := by decide +kernel
theorem dX10_restoreSnapshot_55 : decode cX10_restoreSnapshot 55 = .ok (.aload_n 0, 1) := by decide +kernel
theorem dX10_restoreSnapshot_56 : decode cX10_restoreSnapshot 56 = .ok (.getfield 7, 3) := by decide +kernel
theorem dX10_restoreSnapshot_59 : decode cX10_restoreSnapshot 59 = .ok (.iconst 3, 1) := by decide +kernel
theorem dX10_restoreSnapshot_60 : decode cX10_restoreSnapshot 60 = .ok (.iaload, 1) := by decide +kernel
theorem dX10_restoreSnapshot_61 : decode cX10_restoreSnapshot 61 = .ok (.ireturn, 1) := by decide +kernel
theorem dX2_init_0 : decode cX2_init 0 = .ok (.aload_n 0, 1) := by decide +kernel
theorem dX2_init_1 : decode cX2_init 1 = .ok (.invokespecial 3, 3) := by decide +kernel
theorem dX2_init_4 : decode cX2_init 4 = .ok (.aload_n 0, 1) := by decide +kernel
theorem dX2_init_5 : decode cX2_init 5 = .ok (.iconst 0, 1) := by decide +kernel
theorem dX2_init_6 : decode cX2_init 6 = .ok (.putfield 9, 3) := by decide +kernel
theorem dX2_init_9 : decode cX2_init 9 = .ok (.aload_n 0, 1) := by decide +kernel
theorem dX2_init_10 : decode cX2_init 10 = .ok (.iconst 0, 1) := by decide +kernel
theorem dX2_init_11 : decode cX2_init 11 = .ok (.putfield 15, 3) := by decide +kernel
theorem dX2_init_14 : decode cX2_init 14 = .ok (.aload_n 0, 1) := by decide +kernel
theorem dX2_init_15 : decode cX2_init 15 = .ok (.bipush 10, 2) := by decide +kernel
theorem dX2_init_17 : decode cX2_init 17 = .ok (.anewarray 18, 3) := by decide +kernel
theorem dX2_init_20 : decode cX2_init 20 = .ok (.putfield 20, 3) := by decide +kernel
theorem dX2_init_23 : decode cX2_init 23 = .ok (.return_, 1) := by decide +kernel
theorem dX2_clear_0 : decode cX2_clear 0 = .ok (.aload_n 0, 1) := by decide +kernel
theorem dX2_clear_1 : decode cX2_clear 1 = .ok (.iconst 0, 1) := by decide +kernel
theorem dX2_clear_2 : decode cX2_clear 2 = .ok (.putfield 9, 3) := by decide +kernel
theorem dX2_clear_5 : decode cX2_clear 5 = .ok (.aload_n 0, 1) := by decide +kernel
theorem dX2_clear_6 : decode cX2_clear 6 = .ok (.iconst 0, 1) := by decide +kernel
theorem dX2_clear_7 : decode cX2_clear 7 = .ok (.putfield 15, 3) := by decide +kernel
theorem dX2_clear_10 : decode cX2_clear 10 = .ok (.return_, 1) := by decide +kernel
theorem dX2_keep_0 : decode cX2_keep 0 = .ok (.aload_n 0, 1) := by decide +kernel
theorem dX2_keep_1 : decode cX2_keep 1 = .ok (.getfield 15, 3) := by decide +kernel
theorem dX2_keep_4 : decode cX2_keep 4 = .ok (.aload_n 0, 1) := by decide +kernel
theorem dX2_keep_5 : decode cX2_keep 5 = .ok (.getfield 9, 3) := by decide +kernel
theorem dX2_keep_8 : decode cX2_keep 8 = .ok (.iadd, 1) := by decide +kernel
theorem dX2_keep_9 : decode cX2_keep 9 = .ok (.bipush 10, 2) := by decide +kernel
theorem dX2_keep_11 : decode cX2_keep 11 = .ok (.irem, 1) := by decide +kernel
theorem dX2_keep_12 : decode cX2_keep 12 = .ok (.istore_n 2, 1) := by decide +kernel
theorem dX2_keep_13 : decode cX2_keep 13 = .ok (.aload_n 0, 1) := by decide +kernel
theorem dX2_keep_14 : decode cX2_keep 14 = .ok (.getfield 9, 3) := by decide +kernel
theorem dX2_keep_17 : decode cX2_keep 17 = .ok (.bipush 10, 2) := by decide +kernel
theorem dX2_keep_19 : decode cX2_keep 19 = .ok (.if_icmp .ge 16, 3) := by decide +kernel
theorem dX2_keep_22 : decode cX2_keep 22 = .ok (.aload_n 0, 1) := by decide +kernel
theorem dX2_keep_23 : decode cX2_keep 23 = .ok (.dup, 1) := by decide +kernel
theorem dX2_keep_24 : decode cX2_keep 24 = .ok (.getfield 9, 3) := by decide +kernel
theorem dX2_keep_27 : decode cX2_keep 27 = .ok (.iconst 1, 1) := by decide +kernel
theorem dX2_keep_28 : decode cX2_keep 28 = .ok (.iadd, 1) := by decide +kernel
theorem dX2_keep_29 : decode cX2_keep 29 = .ok (.putfield 9, 3) := by decide +kernel
theorem dX2_keep_32 : decode cX2_keep 32 = .ok (.goto 16, 3) := by decide +kernel
theorem dX2_keep_35 : decode cX2_keep 35 = .ok (.aload_n 0, 1) := by decide +kernel
theorem dX2_keep_36 : decode cX2_keep 36 = .ok (.aload_n 0, 1) := by decide +kernel
theorem dX2_keep_37 : decode cX2_keep 37 = .ok (.getfield 15, 3) := by decide +kernel
theorem dX2_keep_40 : decode cX2_keep 40 = .ok (.iconst 1, 1) := by decide +kernel
theorem dX2_keep_41 : decode cX2_keep 41 = .ok (.iadd, 1) := by decide +kernel
theorem dX2_keep_42 : decode cX2_keep 42 = .ok (.bipush 10, 2) := by decide +kernel
theorem dX2_keep_44 : decode cX2_keep 44 = .ok (.irem, 1) := by decide +kernel
theorem dX2_keep_45 : decode cX2_keep 45 = .ok (.putfield 15, 3) := by decide +kernel
theorem dX2_keep_48 : decode cX2_keep 48 = .ok (.aload_n 0, 1) := by decide +kernel
theorem dX2_keep_49 : decode cX2_keep 49 = .ok (.getfield 20, 3) := by decide +kernel
theorem dX2_keep_52 : decode cX2_keep 52 = .ok (.iload_n 2, 1) := by decide +kernel
theorem dX2_keep_53 : decode cX2_keep 53 = .ok (.aload_n 1, 1) := by decide +kernel
theorem dX2_keep_54 : decode cX2_keep 54 = .ok (.invokestatic 24, 3) := by decide +kernel
theorem dX2_keep_57 : decode cX2_keep 57 = .ok (.return_, 1) := by decide +kernel
theorem dX2_bringBack_0 : decode cX2_bringBack 0 = .ok (.aload_n 0, 1) := by decide +kernel
theorem dX2_bringBack_1 : decode cX2_bringBack 1 = .ok (.getfield 9, 3) := by decide +kernel
theorem dX2_bringBack_4 : decode cX2_bringBack 4 = .ok (.ifCond .ne 5, 3) := by decide +kernel
theorem dX2_bringBack_7 : decode cX2_bringBack 7 = .ok (.iconst 0, 1) := by decide +kernel
theorem dX2_bringBack_8 : decode cX2_bringBack 8 = .ok (.ireturn, 1) := by decide +kernel
theorem dX2_bringBack_9 : decode cX2_bringBack 9 = .ok (.aload_n 0, 1) := by decide +kernel
theorem dX2_bringBack_10 : decode cX2_bringBack 10 = .ok (.dup, 1) := by decide +kernel
theorem dX2_bringBack_11 : decode cX2_bringBack 11 = .ok (.getfield 9, 3) := by decide +kernel
theorem dX2_bringBack_14 : decode cX2_bringBack 14 = .ok (.iconst 1, 1) := by decide +kernel
theorem dX2_bringBack_15 : decode cX2_bringBack 15 = .ok (.isub, 1) := by decide +kernel
theorem dX2_bringBack_16 : decode cX2_bringBack 16 = .ok (.putfield 9, 3) := by decide +kernel
theorem dX2_bringBack_19 : decode cX2_bringBack 19 = .ok (.aload_n 0, 1) := by decide +kernel
theorem dX2_bringBack_20 : decode cX2_bringBack 20 = .ok (.getfield 20, 3) := by decide +kernel
theorem dX2_bringBack_23 : decode cX2_bringBack 23 = .ok (.aload_n 0, 1) := by decide +kernel
theorem dX2_bringBack_24 : decode cX2_bringBack 24 = .ok (.getfield 15, 3) := by decide +kernel
theorem dX2_bringBack_27 : decode cX2_bringBack 27 = .ok (.aload_n 0, 1) := by decide +kernel
theorem dX2_bringBack_28 : decode cX2_bringBack 28 = .ok (.getfield 9, 3) := by decide +kernel
theorem dX2_bringBack_31 : decode cX2_bringBack 31 = .ok (.iadd, 1) := by decide +kernel
theorem dX2_bringBack_32 : decode cX2_bringBack 32 = .ok (.bipush 10, 2) := by decide +kernel
theorem dX2_bringBack_34 : decode cX2_bringBack 34 = .ok (.irem, 1) := by decide +kernel
theorem dX2_bringBack_35 : decode cX2_bringBack 35 = .ok (.aload_n 1, 1) := by decide +kernel
theorem dX2_bringBack_36 : decode cX2_bringBack 36 = .ok (.invokestatic 28, 3) := by decide +kernel
theorem dX2_bringBack_39 : decode cX2_bringBack 39 = .ok (.iconst 1, 1) := by decide +kernel
theorem dX2_bringBack_40 : decode cX2_bringBack 40 = .ok (.ireturn, 1) := by decide +kernel
theorem dX3_init_0 : decode cX3_init 0 = .ok (.aload_n 0, 1) := by decide +kernel
theorem dX3_init_1 : decode cX3_init 1 = .ok (.invokespecial 3, 3) := by decide +kernel
theorem dX3_init_4 : decode cX3_init 4 = .ok (.aload_n 0, 1) := by decide +kernel
theorem dX3_init_5 : decode cX3_init 5 = .ok (.sipush 600, 3) := by decide +kernel
theorem dX3_init_8 : decode cX3_init 8 = .ok (.newarray .int, 2) := by decide +kernel
theorem dX3_init_10 : decode cX3_init 10 = .ok (.putfield 9, 3) := by decide +kernel
theorem dX3_init_13 : decode cX3_init 13 = .ok (.aload_n 0, 1) := by decide +kernel
theorem dX3_init_14 : decode cX3_init 14 = .ok (.iconst 0, 1) := by decide +kernel
theorem dX3_init_15 : decode cX3_init 15 = .ok (.putfield 15, 3) := by decide +kernel
theorem dX3_init_18 : decode cX3_init 18 = .ok (.return_, 1) := by decide +kernel
theorem dX3_hasRoom_0 : decode cX3_hasRoom 0 = .ok (.aload_n 0, 1) := by decide +kernel
theorem dX3_hasRoom_1 : decode cX3_hasRoom 1 = .ok (.getfield 15, 3) := by decide +kernel
theorem dX3_hasRoom_4 : decode cX3_hasRoom 4 = .ok (.iload_n 1, 1) := by decide +kernel
theorem dX3_hasRoom_5 : decode cX3_hasRoom 5 = .ok (.iadd, 1) := by decide +kernel
theorem dX3_hasRoom_6 : decode cX3_hasRoom 6 = .ok (.sipush 600, 3) := by decide +kernel
theorem dX3_hasRoom_9 : decode cX3_hasRoom 9 = .ok (.if_icmp .gt 7, 3) := by decide +kernel
theorem dX3_hasRoom_12 : decode cX3_hasRoom 12 = .ok (.iconst 1, 1) := by decide +kernel
theorem dX3_hasRoom_13 : decode cX3_hasRoom 13 = .ok (.goto 4, 3) := by decide +kernel
theorem dX3_hasRoom_16 : decode cX3_hasRoom 16 = .ok (.iconst 0, 1) := by decide +kernel
theorem dX3_hasRoom_17 : decode cX3_hasRoom 17 = .ok (.ireturn, 1) := by decide +kernel
theorem dX3_addBytes_0 : decode cX3_addBytes 0 = .ok (.aload_n 0, 1) := by decide +kernel
theorem dX3_addBytes_1 : decode cX3_addBytes 1 = .ok (.iload_n 1, 1) := by decide +kernel
theorem dX3_addBytes_2 : decode cX3_addBytes 2 = .ok (.bipush 24, 2) := by decide +kernel
theorem dX3_addBytes_4 : decode cX3_addBytes 4 = .ok (.iushr, 1) := by decide +kernel
theorem dX3_addBytes_5 : decode cX3_addBytes 5 = .ok (.invokevirtual 19, 3) := by decide +kernel
theorem dX3_addBytes_8 : decode cX3_addBytes 8 = .ok (.aload_n 0, 1) := by decide +kernel
theorem dX3_addBytes_9 : decode cX3_addBytes 9 = .ok (.iload_n 1, 1) := by decide +kernel
theorem dX3_addBytes_10 : decode cX3_addBytes 10 = .ok (.bipush 16, 2) := by decide +kernel
theorem dX3_addBytes_12 : decode cX3_addBytes 12 = .ok (.iushr, 1) := by decide +kernel
theorem dX3_addBytes_13 : decode cX3_addBytes 13 = .ok (.invokevirtual 19, 3) := by decide +kernel
theorem dX3_addBytes_16 : decode cX3_addBytes 16 = .ok (.aload_n 0, 1) := by decide +kernel
theorem dX3_addBytes_17 : decode cX3_addBytes 17 = .ok (.iload_n 1, 1) := by decide +kernel
theorem dX3_addBytes_18 : decode cX3_addBytes 18 = .ok (.bipush 8, 2) := by decide +kernel
theorem dX3_addBytes_20 : decode cX3_addBytes 20 = .ok (.iushr, 1) := by decide +kernel
theorem dX3_addBytes_21 : decode cX3_addBytes 21 = .ok (.invokevirtual 19, 3) := by decide +kernel
theorem dX3_addBytes_24 : decode cX3_addBytes 24 = .ok (.aload_n 0, 1) := by decide +kernel
theorem dX3_addBytes_25 : decode cX3_addBytes 25 = .ok (.iload_n 1, 1) := by decide +kernel
theorem dX3_addBytes_26 : decode cX3_addBytes 26 = .ok (.invokevirtual 19, 3) := by decide +kernel
theorem dX3_addBytes_29 : decode cX3_addBytes 29 = .ok (.return_, 1) := by decide +kernel
theorem dX3_addByte_0 : decode cX3_addByte 0 = .ok (.aload_n 0, 1) := by decide +kernel
theorem dX3_addByte_1 : decode cX3_addByte 1 = .ok (.getfield 9, 3) := by decide +kernel
theorem dX3_addByte_4 : decode cX3_addByte 4 = .ok (.aload_n 0, 1) := by decide +kernel
theorem dX3_addByte_5 : decode cX3_addByte 5 = .ok (.getfield 15, 3) := by decide +kernel
theorem dX3_addByte_8 : decode cX3_addByte 8 = .ok (.iload_n 1, 1) := by decide +kernel
theorem dX3_addByte_9 : decode cX3_addByte 9 = .ok (.sipush 255, 3) := by decide +kernel
theorem dX3_addByte_12 : decode cX3_addByte 12 = .ok (.iand, 1) := by decide +kernel
theorem dX3_addByte_13 : decode cX3_addByte 13 = .ok (.invokestatic 23, 3) := by decide +kernel
theorem dX3_addByte_16 : decode cX3_addByte 16 = .ok (.aload_n 0, 1) := by decide +kernel
theorem dX3_addByte_17 : decode cX3_addByte 17 = .ok (.dup, 1) := by decide +kernel
theorem dX3_addByte_18 : decode cX3_addByte 18 = .ok (.getfield 15, 3) := by decide +kernel
theorem dX3_addByte_21 : decode cX3_addByte 21 = .ok (.iconst 1, 1) := by decide +kernel
theorem dX3_addByte_22 : decode cX3_addByte 22 = .ok (.iadd, 1) := by decide +kernel
theorem dX3_addByte_23 : decode cX3_addByte 23 = .ok (.putfield 15, 3) := by decide +kernel
theorem dX3_addByte_26 : decode cX3_addByte 26 = .ok (.return_, 1) := by decide +kernel
theorem dX3_byteAt_0 : decode cX3_byteAt 0 = .ok (.aload_n 0, 1) := by decide +kernel
theorem dX3_byteAt_1 : decode cX3_byteAt 1 = .ok (.getfield 9, 3) := by decide +kernel
theorem dX3_byteAt_4 : decode cX3_byteAt 4 = .ok (.iload_n 1, 1) := by decide +kernel
theorem dX3_byteAt_5 : decode cX3_byteAt 5 = .ok (.iconst (-1), 1) := by decide +kernel
theorem dX3_byteAt_6 : decode cX3_byteAt 6 = .ok (.invokestatic 27, 3) := by decide +kernel
theorem dX3_byteAt_9 : decode cX3_byteAt 9 = .ok (.ireturn, 1) := by decide +kernel
theorem dX3_hasLetterAt_0 : decode cX3_hasLetterAt 0 = .ok (.aload_n 0, 1) := by decide +kernel
theorem dX3_hasLetterAt_1 : decode cX3_hasLetterAt 1 = .ok (.iload_n 1, 1) := by decide +kernel
theorem dX3_hasLetterAt_2 : decode cX3_hasLetterAt 2 = .ok (.invokevirtual 31, 3) := by decide +kernel
theorem dX3_hasLetterAt_5 : decode cX3_hasLetterAt 5 = .ok (.istore_n 2, 1) := by decide +kernel
theorem dX3_hasLetterAt_6 : decode cX3_hasLetterAt 6 = .ok (.iload_n 2, 1) := by decide +kernel
theorem dX3_hasLetterAt_7 : decode cX3_hasLetterAt 7 = .ok (.bipush 97, 2) := by decide +kernel
theorem dX3_hasLetterAt_9 : decode cX3_hasLetterAt 9 = .ok (.if_icmp .lt 13, 3) := by decide +kernel
theorem dX3_hasLetterAt_12 : decode cX3_hasLetterAt 12 = .ok (.iload_n 2, 1) := by decide +kernel
theorem dX3_hasLetterAt_13 : decode cX3_hasLetterAt 13 = .ok (.bipush 122, 2) := by decide +kernel
theorem dX3_hasLetterAt_15 : decode cX3_hasLetterAt 15 = .ok (.if_icmp .gt 7, 3) := by decide +kernel
theorem dX3_hasLetterAt_18 : decode cX3_hasLetterAt 18 = .ok (.iconst 1, 1) := by decide +kernel
theorem dX3_hasLetterAt_19 : decode cX3_hasLetterAt 19 = .ok (.goto 4, 3) := by decide +kernel
theorem dX3_hasLetterAt_22 : decode cX3_hasLetterAt 22 = .ok (.iconst 0, 1) := by decide +kernel
theorem dX3_hasLetterAt_23 : decode cX3_hasLetterAt 23 = .ok (.ireturn, 1) := by decide +kernel
theorem dX3_hasDigitAt_0 : decode cX3_hasDigitAt 0 = .ok (.aload_n 0, 1) := by decide +kernel
theorem dX3_hasDigitAt_1 : decode cX3_hasDigitAt 1 = .ok (.iload_n 1, 1) := by decide +kernel
theorem dX3_hasDigitAt_2 : decode cX3_hasDigitAt 2 = .ok (.invokevirtual 31, 3) := by decide +kernel
theorem dX3_hasDigitAt_5 : decode cX3_hasDigitAt 5 = .ok (.istore_n 2, 1) := by decide +kernel
theorem dX3_hasDigitAt_6 : decode cX3_hasDigitAt 6 = .ok (.iload_n 2, 1) := by decide +kernel
theorem dX3_hasDigitAt_7 : decode cX3_hasDigitAt 7 = .ok (.bipush 48, 2) := by decide +kernel
theorem dX3_hasDigitAt_9 : decode cX3_hasDigitAt 9 = .ok (.if_icmp .lt 13, 3) := by decide +kernel
theorem dX3_hasDigitAt_12 : decode cX3_hasDigitAt 12 = .ok (.iload_n 2, 1) := by decide +kernel
theorem dX3_hasDigitAt_13 : decode cX3_hasDigitAt 13 = .ok (.bipush 57, 2) := by decide +kernel
theorem dX3_hasDigitAt_15 : decode cX3_hasDigitAt 15 = .ok (.if_icmp .gt 7, 3) := by decide +kernel
theorem dX3_hasDigitAt_18 : decode cX3_hasDigitAt 18 = .ok (.iconst 1, 1) := by decide +kernel
theorem dX3_hasDigitAt_19 : decode cX3_hasDigitAt 19 = .ok (.goto 4, 3) := by decide +kernel
theorem dX3_hasDigitAt_22 : decode cX3_hasDigitAt 22 = .ok (.iconst 0, 1) := by decide +kernel
theorem dX3_hasDigitAt_23 : decode cX3_hasDigitAt 23 = .ok (.ireturn, 1) := by decide +kernel
theorem dX3_wordBetween_0 : decode cX3_wordBetween 0 = .ok (.lconst 0, 1) := by decide +kernel
theorem dX3_wordBetween_1 : decode cX3_wordBetween 1 = .ok (.lstore_n 3, 1) := by decide +kernel
theorem dX3_wordBetween_2 : decode cX3_wordBetween 2 = .ok (.iload_n 1, 1) := by decide +kernel
theorem dX3_wordBetween_3 : decode cX3_wordBetween 3 = .ok (.istore 5, 2) := by decide +kernel
theorem dX3_wordBetween_5 : decode cX3_wordBetween 5 = .ok (.iload 5, 2) := by decide +kernel
theorem dX3_wordBetween_7 : decode cX3_wordBetween 7 = .ok (.iload_n 2, 1) := by decide +kernel
theorem dX3_wordBetween_8 : decode cX3_wordBetween 8 = .ok (.if_icmp .ge 37, 3) := by decide +kernel
theorem dX3_wordBetween_11 : decode cX3_wordBetween 11 = .ok (.iload 5, 2) := by decide +kernel
theorem dX3_wordBetween_13 : decode cX3_wordBetween 13 = .ok (.iload_n 1, 1) := by decide +kernel
theorem dX3_wordBetween_14 : decode cX3_wordBetween 14 = .ok (.bipush 8, 2) := by decide +kernel
theorem dX3_wordBetween_16 : decode cX3_wordBetween 16 = .ok (.iadd, 1) := by decide +kernel
theorem dX3_wordBetween_17 : decode cX3_wordBetween 17 = .ok (.if_icmp .ge 28, 3) := by decide +kernel
theorem dX3_wordBetween_20 : decode cX3_wordBetween 20 = .ok (.lload_n 3, 1) := by decide +kernel
theorem dX3_wordBetween_21 : decode cX3_wordBetween 21 = .ok (.ldc2_w 35, 3) := by decide +kernel
theorem dX3_wordBetween_24 : decode cX3_wordBetween 24 = .ok (.lmul, 1) := by decide +kernel
theorem dX3_wordBetween_25 : decode cX3_wordBetween 25 = .ok (.aload_n 0, 1) := by decide +kernel
theorem dX3_wordBetween_26 : decode cX3_wordBetween 26 = .ok (.iload 5, 2) := by decide +kernel
theorem dX3_wordBetween_28 : decode cX3_wordBetween 28 = .ok (.invokevirtual 31, 3) := by decide +kernel
theorem dX3_wordBetween_31 : decode cX3_wordBetween 31 = .ok (.bipush 97, 2) := by decide +kernel
theorem dX3_wordBetween_33 : decode cX3_wordBetween 33 = .ok (.isub, 1) := by decide +kernel
theorem dX3_wordBetween_34 : decode cX3_wordBetween 34 = .ok (.iconst 1, 1) := by decide +kernel
theorem dX3_wordBetween_35 : decode cX3_wordBetween 35 = .ok (.iadd, 1) := by decide +kernel
theorem dX3_wordBetween_36 : decode cX3_wordBetween 36 = .ok (.i2l, 1) := by decide +kernel
theorem dX3_wordBetween_37 : decode cX3_wordBetween 37 = .ok (.ladd, 1) := by decide +kernel
theorem dX3_wordBetween_38 : decode cX3_wordBetween 38 = .ok (.lstore_n 3, 1) := by decide +kernel
theorem dX3_wordBetween_39 : decode cX3_wordBetween 39 = .ok (.iinc 5 1, 3) := by decide +kernel
theorem dX3_wordBetween_42 : decode cX3_wordBetween 42 = .ok (.goto (-37), 3) := by decide +kernel
theorem dX3_wordBetween_45 : decode cX3_wordBetween 45 = .ok (.lload_n 3, 1) := by decide +kernel
theorem dX3_wordBetween_46 : decode cX3_wordBetween 46 = .ok (.lreturn, 1) := by decide +kernel
theorem dX3_nameAlone_0 : decode cX3_nameAlone 0 = .ok (.iconst 0, 1) := by decide +kernel
theorem dX3_nameAlone_1 : decode cX3_nameAlone 1 = .ok (.istore_n 1, 1) := by decide +kernel
theorem dX3_nameAlone_2 : decode cX3_nameAlone 2 = .ok (.iload_n 1, 1) := by decide +kernel
theorem dX3_nameAlone_3 : decode cX3_nameAlone 3 = .ok (.aload_n 0, 1) := by decide +kernel
theorem dX3_nameAlone_4 : decode cX3_nameAlone 4 = .ok (.getfield 15, 3) := by decide +kernel
theorem dX3_nameAlone_7 : decode cX3_nameAlone 7 = .ok (.if_icmp .ge 17, 3) := by decide +kernel
theorem dX3_nameAlone_10 : decode cX3_nameAlone 10 = .ok (.aload_n 0, 1) := by decide +kernel
theorem dX3_nameAlone_11 : decode cX3_nameAlone 11 = .ok (.iload_n 1, 1) := by decide +kernel
theorem dX3_nameAlone_12 : decode cX3_nameAlone 12 = .ok (.invokevirtual 37, 3) := by decide +kernel
theorem dX3_nameAlone_15 : decode cX3_nameAlone 15 = .ok (.ifCond .eq 9, 3) := by decide +kernel
theorem dX3_nameAlone_18 : decode cX3_nameAlone 18 = .ok (.iinc 1 1, 3) := by decide +kernel
theorem dX3_nameAlone_21 : decode cX3_nameAlone 21 = .ok (.goto (-19), 3) := by decide +kernel
theorem dX3_nameAlone_24 : decode cX3_nameAlone 24 = .ok (.iload_n 1, 1) := by decide +kernel
theorem dX3_nameAlone_25 : decode cX3_nameAlone 25 = .ok (.istore_n 2, 1) := by decide +kernel
theorem dX3_nameAlone_26 : decode cX3_nameAlone 26 = .ok (.iload_n 2, 1) := by decide +kernel
theorem dX3_nameAlone_27 : decode cX3_nameAlone 27 = .ok (.aload_n 0, 1) := by decide +kernel
theorem dX3_nameAlone_28 : decode cX3_nameAlone 28 = .ok (.getfield 15, 3) := by decide +kernel
theorem dX3_nameAlone_31 : decode cX3_nameAlone 31 = .ok (.if_icmp .ge 23, 3) := by decide +kernel
theorem dX3_nameAlone_34 : decode cX3_nameAlone 34 = .ok (.aload_n 0, 1) := by decide +kernel
theorem dX3_nameAlone_35 : decode cX3_nameAlone 35 = .ok (.iload_n 2, 1) := by decide +kernel
theorem dX3_nameAlone_36 : decode cX3_nameAlone 36 = .ok (.invokevirtual 31, 3) := by decide +kernel
theorem dX3_nameAlone_39 : decode cX3_nameAlone 39 = .ok (.bipush 32, 2) := by decide +kernel
theorem dX3_nameAlone_41 : decode cX3_nameAlone 41 = .ok (.if_icmp .eq 7, 3) := by decide +kernel
theorem dX3_nameAlone_44 : decode cX3_nameAlone 44 = .ok (.ldc2_w 41, 3) := by decide +kernel
theorem dX3_nameAlone_47 : decode cX3_nameAlone 47 = .ok (.lreturn, 1) := by decide +kernel
theorem dX3_nameAlone_48 : decode cX3_nameAlone 48 = .ok (.iinc 2 1, 3) := by decide +kernel
theorem dX3_nameAlone_51 : decode cX3_nameAlone 51 = .ok (.goto (-25), 3) := by decide +kernel
theorem dX3_nameAlone_54 : decode cX3_nameAlone 54 = .ok (.iload_n 1, 1) := by decide +kernel
theorem dX3_nameAlone_55 : decode cX3_nameAlone 55 = .ok (.iconst 1, 1) := by decide +kernel
theorem dX3_nameAlone_56 : decode cX3_nameAlone 56 = .ok (.if_icmp .lt 18, 3) := by decide +kernel
theorem dX3_nameAlone_59 : decode cX3_nameAlone 59 = .ok (.iload_n 1, 1) := by decide +kernel
theorem dX3_nameAlone_60 : decode cX3_nameAlone 60 = .ok (.bipush 8, 2) := by decide +kernel
theorem dX3_nameAlone_62 : decode cX3_nameAlone 62 = .ok (.if_icmp .gt 12, 3) := by decide +kernel
theorem dX3_nameAlone_65 : decode cX3_nameAlone 65 = .ok (.aload_n 0, 1) := by decide +kernel
theorem dX3_nameAlone_66 : decode cX3_nameAlone 66 = .ok (.iconst 0, 1) := by decide +kernel
theorem dX3_nameAlone_67 : decode cX3_nameAlone 67 = .ok (.iload_n 1, 1) := by decide +kernel
theorem dX3_nameAlone_68 : decode cX3_nameAlone 68 = .ok (.invokevirtual 43, 3) := by decide +kernel
theorem dX3_nameAlone_71 : decode cX3_nameAlone 71 = .ok (.goto 6, 3) := by decide +kernel
theorem dX3_nameAlone_74 : decode cX3_nameAlone 74 = .ok (.ldc2_w 41, 3) := by decide +kernel
theorem dX3_nameAlone_77 : decode cX3_nameAlone 77 = .ok (.lreturn, 1) := by decide +kernel
theorem dX4_init_0 : decode cX4_init 0 = .ok (.aload_n 0, 1) := by decide +kernel
theorem dX4_init_1 : decode cX4_init 1 = .ok (.invokespecial 3, 3) := by decide +kernel
theorem dX4_init_4 : decode cX4_init 4 = .ok (.aload_n 0, 1) := by decide +kernel
theorem dX4_init_5 : decode cX4_init 5 = .ok (.iconst (-1), 1) := by decide +kernel
theorem dX4_init_6 : decode cX4_init 6 = .ok (.putfield 9, 3) := by decide +kernel
theorem dX4_init_9 : decode cX4_init 9 = .ok (.aload_n 0, 1) := by decide +kernel
theorem dX4_init_10 : decode cX4_init 10 = .ok (.iconst 0, 1) := by decide +kernel
theorem dX4_init_11 : decode cX4_init 11 = .ok (.putfield 15, 3) := by decide +kernel
theorem dX4_init_14 : decode cX4_init 14 = .ok (.aload_n 0, 1) := by decide +kernel
theorem dX4_init_15 : decode cX4_init 15 = .ok (.iconst 0, 1) := by decide +kernel
theorem dX4_init_16 : decode cX4_init 16 = .ok (.putfield 18, 3) := by decide +kernel
theorem dX4_init_19 : decode cX4_init 19 = .ok (.aload_n 0, 1) := by decide +kernel
theorem dX4_init_20 : decode cX4_init 20 = .ok (.iconst 0, 1) := by decide +kernel
theorem dX4_init_21 : decode cX4_init 21 = .ok (.putfield 21, 3) := by decide +kernel
theorem dX4_init_24 : decode cX4_init 24 = .ok (.aload_n 0, 1) := by decide +kernel
theorem dX4_init_25 : decode cX4_init 25 = .ok (.iconst 0, 1) := by decide +kernel
theorem dX4_init_26 : decode cX4_init 26 = .ok (.putfield 24, 3) := by decide +kernel
theorem dX4_init_29 : decode cX4_init 29 = .ok (.aload_n 0, 1) := by decide +kernel
theorem dX4_init_30 : decode cX4_init 30 = .ok (.iconst 0, 1) := by decide +kernel
theorem dX4_init_31 : decode cX4_init 31 = .ok (.putfield 27, 3) := by decide +kernel
theorem dX4_init_34 : decode cX4_init 34 = .ok (.aload_n 0, 1) := by decide +kernel
theorem dX4_init_35 : decode cX4_init 35 = .ok (.iconst 0, 1) := by decide +kernel
theorem dX4_init_36 : decode cX4_init 36 = .ok (.putfield 30, 3) := by decide +kernel
theorem dX4_init_39 : decode cX4_init 39 = .ok (.aload_n 0, 1) := by decide +kernel
theorem dX4_init_40 : decode cX4_init 40 = .ok (.lconst 0, 1) := by decide +kernel
theorem dX4_init_41 : decode cX4_init 41 = .ok (.putfield 33, 3) := by decide +kernel
theorem dX4_init_44 : decode cX4_init 44 = .ok (.return_, 1) := by decide +kernel
theorem dX4_readText_0 : decode cX4_readText 0 = .ok (.aload_n 0, 1) := by decide +kernel
theorem dX4_readText_1 : decode cX4_readText 1 = .ok (.iconst (-1), 1) := by decide +kernel
theorem dX4_readText_2 : decode cX4_readText 2 = .ok (.putfield 9, 3) := by decide +kernel
theorem dX4_readText_5 : decode cX4_readText 5 = .ok (.aload_n 0, 1) := by decide +kernel
theorem dX4_readText_6 : decode cX4_readText 6 = .ok (.iconst 0, 1) := by decide +kernel
theorem dX4_readText_7 : decode cX4_readText 7 = .ok (.putfield 15, 3) := by decide +kernel
theorem dX4_readText_10 : decode cX4_readText 10 = .ok (.aload_n 0, 1) := by decide +kernel
theorem dX4_readText_11 : decode cX4_readText 11 = .ok (.iload_n 2, 1) := by decide +kernel
theorem dX4_readText_12 : decode cX4_readText 12 = .ok (.putfield 18, 3) := by decide +kernel
theorem dX4_readText_15 : decode cX4_readText 15 = .ok (.aload_n 0, 1) := by decide +kernel
theorem dX4_readText_16 : decode cX4_readText 16 = .ok (.iconst 0, 1) := by decide +kernel
theorem dX4_readText_17 : decode cX4_readText 17 = .ok (.putfield 27, 3) := by decide +kernel
theorem dX4_readText_20 : decode cX4_readText 20 = .ok (.aload_n 0, 1) := by decide +kernel
theorem dX4_readText_21 : decode cX4_readText 21 = .ok (.aload_n 1, 1) := by decide +kernel
theorem dX4_readText_22 : decode cX4_readText 22 = .ok (.aload_n 3, 1) := by decide +kernel
theorem dX4_readText_23 : decode cX4_readText 23 = .ok (.invokevirtual 37, 3) := by decide +kernel
theorem dX4_readText_26 : decode cX4_readText 26 = .ok (.ifCond .eq 9, 3) := by decide +kernel
theorem dX4_readText_29 : decode cX4_readText 29 = .ok (.aload_n 0, 1) := by decide +kernel
theorem dX4_readText_30 : decode cX4_readText 30 = .ok (.aload_n 1, 1) := by decide +kernel
theorem dX4_readText_31 : decode cX4_readText 31 = .ok (.aload_n 3, 1) := by decide +kernel
theorem dX4_readText_32 : decode cX4_readText 32 = .ok (.invokevirtual 41, 3) := by decide +kernel
theorem dX4_readText_35 : decode cX4_readText 35 = .ok (.aload_n 0, 1) := by decide +kernel
theorem dX4_readText_36 : decode cX4_readText 36 = .ok (.getfield 15, 3) := by decide +kernel
theorem dX4_readText_39 : decode cX4_readText 39 = .ok (.ireturn, 1) := by decide +kernel
theorem dX4_fail_0 : decode cX4_fail 0 = .ok (.aload_n 0, 1) := by decide +kernel
theorem dX4_fail_1 : decode cX4_fail 1 = .ok (.iload_n 1, 1) := by decide +kernel
theorem dX4_fail_2 : decode cX4_fail 2 = .ok (.putfield 15, 3) := by decide +kernel
theorem dX4_fail_5 : decode cX4_fail 5 = .ok (.aload_n 0, 1) := by decide +kernel
theorem dX4_fail_6 : decode cX4_fail 6 = .ok (.iload_n 2, 1) := by decide +kernel
theorem dX4_fail_7 : decode cX4_fail 7 = .ok (.putfield 9, 3) := by decide +kernel
theorem dX4_fail_10 : decode cX4_fail 10 = .ok (.iconst 0, 1) := by decide +kernel
theorem dX4_fail_11 : decode cX4_fail 11 = .ok (.ireturn, 1) := by decide +kernel
theorem dX4_readHead_0 : decode cX4_readHead 0 = .ok (.aload_n 0, 1) := by decide +kernel
theorem dX4_readHead_1 : decode cX4_readHead 1 = .ok (.aload_n 1, 1) := by decide +kernel
theorem dX4_readHead_2 : decode cX4_readHead 2 = .ok (.invokevirtual 45, 3) := by decide +kernel
theorem dX4_readHead_5 : decode cX4_readHead 5 = .ok (.aload_n 0, 1) := by decide +kernel
theorem dX4_readHead_6 : decode cX4_readHead 6 = .ok (.aload_n 1, 1) := by decide +kernel
theorem dX4_readHead_7 : decode cX4_readHead 7 = .ok (.ldc 49, 2) := by decide +kernel
theorem dX4_readHead_9 : decode cX4_readHead 9 = .ok (.invokevirtual 51, 3) := by decide +kernel
theorem dX4_readHead_12 : decode cX4_readHead 12 = .ok (.ifCond .ne 13, 3) := by decide +kernel
theorem dX4_readHead_15 : decode cX4_readHead 15 = .ok (.aload_n 0, 1) := by decide +kernel
theorem dX4_readHead_16 : decode cX4_readHead 16 = .ok (.iconst 1, 1) := by decide +kernel
theorem dX4_readHead_17 : decode cX4_readHead 17 = .ok (.aload_n 0, 1) := by decide +kernel
theorem dX4_readHead_18 : decode cX4_readHead 18 = .ok (.getfield 24, 3) := by decide +kernel
theorem dX4_readHead_21 : decode cX4_readHead 21 = .ok (.invokevirtual 55, 3) := by decide +kernel
theorem dX4_readHead_24 : decode cX4_readHead 24 = .ok (.ireturn, 1) := by decide +kernel
theorem dX4_readHead_25 : decode cX4_readHead 25 = .ok (.aload_n 0, 1) := by decide +kernel
theorem dX4_readHead_26 : decode cX4_readHead 26 = .ok (.aload_n 1, 1) := by decide +kernel
theorem dX4_readHead_27 : decode cX4_readHead 27 = .ok (.bipush 8, 2) := by decide +kernel
theorem dX4_readHead_29 : decode cX4_readHead 29 = .ok (.bipush 96, 2) := by decide +kernel
theorem dX4_readHead_31 : decode cX4_readHead 31 = .ok (.invokevirtual 59, 3) := by decide +kernel
theorem dX4_readHead_34 : decode cX4_readHead 34 = .ok (.ifCond .ne 5, 3) := by decide +kernel
theorem dX4_readHead_37 : decode cX4_readHead 37 = .ok (.iconst 0, 1) := by decide +kernel
theorem dX4_readHead_38 : decode cX4_readHead 38 = .ok (.ireturn, 1) := by decide +kernel
theorem dX4_readHead_39 : decode cX4_readHead 39 = .ok (.aload_n 0, 1) := by decide +kernel
theorem dX4_readHead_40 : decode cX4_readHead 40 = .ok (.getfield 30, 3) := by decide +kernel
theorem dX4_readHead_43 : decode cX4_readHead 43 = .ok (.istore_n 3, 1) := by decide +kernel
theorem dX4_readHead_44 : decode cX4_readHead 44 = .ok (.aload_n 0, 1) := by decide +kernel
theorem dX4_readHead_45 : decode cX4_readHead 45 = .ok (.aload_n 1, 1) := by decide +kernel
theorem dX4_readHead_46 : decode cX4_readHead 46 = .ok (.iconst 0, 1) := by decide +kernel
theorem dX4_readHead_47 : decode cX4_readHead 47 = .ok (.bipush 16, 2) := by decide +kernel
theorem dX4_readHead_49 : decode cX4_readHead 49 = .ok (.iload_n 3, 1) := by decide +kernel
theorem dX4_readHead_50 : decode cX4_readHead 50 = .ok (.iconst 2, 1) := by decide +kernel
theorem dX4_readHead_51 : decode cX4_readHead 51 = .ok (.idiv, 1) := by decide +kernel
theorem dX4_readHead_52 : decode cX4_readHead 52 = .ok (.invokestatic 63, 3) := by decide +kernel
theorem dX4_readHead_55 : decode cX4_readHead 55 = .ok (.invokevirtual 59, 3) := by decide +kernel
theorem dX4_readHead_58 : decode cX4_readHead 58 = .ok (.ifCond .ne 5, 3) := by decide +kernel
theorem dX4_readHead_61 : decode cX4_readHead 61 = .ok (.iconst 0, 1) := by decide +kernel
theorem dX4_readHead_62 : decode cX4_readHead 62 = .ok (.ireturn, 1) := by decide +kernel
theorem dX4_readHead_63 : decode cX4_readHead 63 = .ok (.aload_n 2, 1) := by decide +kernel
theorem dX4_readHead_64 : decode cX4_readHead 64 = .ok (.iload_n 3, 1) := by decide +kernel
theorem dX4_readHead_65 : decode cX4_readHead 65 = .ok (.aload_n 0, 1) := by decide +kernel
theorem dX4_readHead_66 : decode cX4_readHead 66 = .ok (.getfield 30, 3) := by decide +kernel
theorem dX4_readHead_69 : decode cX4_readHead 69 = .ok (.invokevirtual 69, 3) := by decide +kernel
theorem dX4_readHead_72 : decode cX4_readHead 72 = .ok (.aload_n 0, 1) := by decide +kernel
theorem dX4_readHead_73 : decode cX4_readHead 73 = .ok (.aload_n 1, 1) := by decide +kernel
theorem dX4_readHead_74 : decode cX4_readHead 74 = .ok (.invokevirtual 75, 3) := by decide +kernel
theorem dX4_readHead_77 : decode cX4_readHead 77 = .ok (.ireturn, 1) := by decide +kernel
theorem dX4_readStatements_0 : decode cX4_readStatements 0 = .ok (.iconst 1, 1) := by decide +kernel
theorem dX4_readStatements_1 : decode cX4_readStatements 1 = .ok (.istore_n 3, 1) := by decide +kernel
theorem dX4_readStatements_2 : decode cX4_readStatements 2 = .ok (.aload_n 0, 1) := by decide +kernel
theorem dX4_readStatements_3 : decode cX4_readStatements 3 = .ok (.aload_n 1, 1) := by decide +kernel
theorem dX4_readStatements_4 : decode cX4_readStatements 4 = .ok (.invokevirtual 45, 3) := by decide +kernel
theorem dX4_readStatements_7 : decode cX4_readStatements 7 = .ok (.iconst 0, 1) := by decide +kernel
theorem dX4_readStatements_8 : decode cX4_readStatements 8 = .ok (.istore 4, 2) := by decide +kernel
theorem dX4_readStatements_10 : decode cX4_readStatements 10 = .ok (.iload 4, 2) := by decide +kernel
theorem dX4_readStatements_12 : decode cX4_readStatements 12 = .ok (.sipush 600, 3) := by decide +kernel
theorem dX4_readStatements_15 : decode cX4_readStatements 15 = .ok (.if_icmp .ge 52, 3) := by decide +kernel
theorem dX4_readStatements_18 : decode cX4_readStatements 18 = .ok (.iload_n 3, 1) := by decide +kernel
theorem dX4_readStatements_19 : decode cX4_readStatements 19 = .ok (.ifCond .eq 48, 3) := by decide +kernel
theorem dX4_readStatements_22 : decode cX4_readStatements 22 = .ok (.aload_n 0, 1) := by decide +kernel
theorem dX4_readStatements_23 : decode cX4_readStatements 23 = .ok (.getfield 21, 3) := by decide +kernel
theorem dX4_readStatements_26 : decode cX4_readStatements 26 = .ok (.ifCond .eq 41, 3) := by decide +kernel
theorem dX4_readStatements_29 : decode cX4_readStatements 29 = .ok (.aload_n 0, 1) := by decide +kernel
theorem dX4_readStatements_30 : decode cX4_readStatements 30 = .ok (.aload_n 1, 1) := by decide +kernel
theorem dX4_readStatements_31 : decode cX4_readStatements 31 = .ok (.aload_n 2, 1) := by decide +kernel
theorem dX4_readStatements_32 : decode cX4_readStatements 32 = .ok (.invokevirtual 79, 3) := by decide +kernel
theorem dX4_readStatements_35 : decode cX4_readStatements 35 = .ok (.ifCond .eq 15, 3) := by decide +kernel
theorem dX4_readStatements_38 : decode cX4_readStatements 38 = .ok (.aload_n 0, 1) := by decide +kernel
theorem dX4_readStatements_39 : decode cX4_readStatements 39 = .ok (.aload_n 1, 1) := by decide +kernel
theorem dX4_readStatements_40 : decode cX4_readStatements 40 = .ok (.invokevirtual 75, 3) := by decide +kernel
theorem dX4_readStatements_43 : decode cX4_readStatements 43 = .ok (.ifCond .eq 7, 3) := by decide +kernel
theorem dX4_readStatements_46 : decode cX4_readStatements 46 = .ok (.iconst 1, 1) := by decide +kernel
theorem dX4_readStatements_47 : decode cX4_readStatements 47 = .ok (.goto 4, 3) := by decide +kernel
theorem dX4_readStatements_50 : decode cX4_readStatements 50 = .ok (.iconst 0, 1) := by decide +kernel
theorem dX4_readStatements_51 : decode cX4_readStatements 51 = .ok (.istore_n 3, 1) := by decide +kernel
theorem dX4_readStatements_52 : decode cX4_readStatements 52 = .ok (.iload_n 3, 1) := by decide +kernel
theorem dX4_readStatements_53 : decode cX4_readStatements 53 = .ok (.ifCond .eq 8, 3) := by decide +kernel
theorem dX4_readStatements_56 : decode cX4_readStatements 56 = .ok (.aload_n 0, 1) := by decide +kernel
theorem dX4_readStatements_57 : decode cX4_readStatements 57 = .ok (.aload_n 1, 1) := by decide +kernel
theorem dX4_readStatements_58 : decode cX4_readStatements 58 = .ok (.invokevirtual 45, 3) := by decide +kernel
theorem dX4_readStatements_61 : decode cX4_readStatements 61 = .ok (.iinc 4 1, 3) := by decide +kernel
theorem dX4_readStatements_64 : decode cX4_readStatements 64 = .ok (.goto (-54), 3) := by decide +kernel
theorem dX4_readStatements_67 : decode cX4_readStatements 67 = .ok (.return_, 1) := by decide +kernel
theorem dX4_readStatement_0 : decode cX4_readStatement 0 = .ok (.aload_n 0, 1) := by decide +kernel
theorem dX4_readStatement_1 : decode cX4_readStatement 1 = .ok (.aload_n 1, 1) := by decide +kernel
theorem dX4_readStatement_2 : decode cX4_readStatement 2 = .ok (.ldc 82, 2) := by decide +kernel
theorem dX4_readStatement_4 : decode cX4_readStatement 4 = .ok (.invokevirtual 51, 3) := by decide +kernel
theorem dX4_readStatement_7 : decode cX4_readStatement 7 = .ok (.ifCond .eq 10, 3) := by decide +kernel
theorem dX4_readStatement_10 : decode cX4_readStatement 10 = .ok (.aload_n 0, 1) := by decide +kernel
theorem dX4_readStatement_11 : decode cX4_readStatement 11 = .ok (.aload_n 1, 1) := by decide +kernel
theorem dX4_readStatement_12 : decode cX4_readStatement 12 = .ok (.aload_n 2, 1) := by decide +kernel
theorem dX4_readStatement_13 : decode cX4_readStatement 13 = .ok (.invokevirtual 84, 3) := by decide +kernel
theorem dX4_readStatement_16 : decode cX4_readStatement 16 = .ok (.ireturn, 1) := by decide +kernel
theorem dX4_readStatement_17 : decode cX4_readStatement 17 = .ok (.aload_n 0, 1) := by decide +kernel
theorem dX4_readStatement_18 : decode cX4_readStatement 18 = .ok (.aload_n 1, 1) := by decide +kernel
theorem dX4_readStatement_19 : decode cX4_readStatement 19 = .ok (.ldc 87, 2) := by decide +kernel
theorem dX4_readStatement_21 : decode cX4_readStatement 21 = .ok (.invokevirtual 51, 3) := by decide +kernel
theorem dX4_readStatement_24 : decode cX4_readStatement 24 = .ok (.ifCond .eq 10, 3) := by decide +kernel
theorem dX4_readStatement_27 : decode cX4_readStatement 27 = .ok (.aload_n 0, 1) := by decide +kernel
theorem dX4_readStatement_28 : decode cX4_readStatement 28 = .ok (.aload_n 1, 1) := by decide +kernel
theorem dX4_readStatement_29 : decode cX4_readStatement 29 = .ok (.aload_n 2, 1) := by decide +kernel
theorem dX4_readStatement_30 : decode cX4_readStatement 30 = .ok (.invokevirtual 89, 3) := by decide +kernel
theorem dX4_readStatement_33 : decode cX4_readStatement 33 = .ok (.ireturn, 1) := by decide +kernel
theorem dX4_readStatement_34 : decode cX4_readStatement 34 = .ok (.aload_n 0, 1) := by decide +kernel
theorem dX4_readStatement_35 : decode cX4_readStatement 35 = .ok (.aload_n 1, 1) := by decide +kernel
theorem dX4_readStatement_36 : decode cX4_readStatement 36 = .ok (.ldc 92, 2) := by decide +kernel
theorem dX4_readStatement_38 : decode cX4_readStatement 38 = .ok (.invokevirtual 51, 3) := by decide +kernel
theorem dX4_readStatement_41 : decode cX4_readStatement 41 = .ok (.ifCond .eq 10, 3) := by decide +kernel
theorem dX4_readStatement_44 : decode cX4_readStatement 44 = .ok (.aload_n 0, 1) := by decide +kernel
theorem dX4_readStatement_45 : decode cX4_readStatement 45 = .ok (.aload_n 1, 1) := by decide +kernel
theorem dX4_readStatement_46 : decode cX4_readStatement 46 = .ok (.aload_n 2, 1) := by decide +kernel
theorem dX4_readStatement_47 : decode cX4_readStatement 47 = .ok (.invokevirtual 94, 3) := by decide +kernel
theorem dX4_readStatement_50 : decode cX4_readStatement 50 = .ok (.ireturn, 1) := by decide +kernel
theorem dX4_readStatement_51 : decode cX4_readStatement 51 = .ok (.aload_n 0, 1) := by decide +kernel
theorem dX4_readStatement_52 : decode cX4_readStatement 52 = .ok (.aload_n 1, 1) := by decide +kernel
theorem dX4_readStatement_53 : decode cX4_readStatement 53 = .ok (.ldc 97, 2) := by decide +kernel
theorem dX4_readStatement_55 : decode cX4_readStatement 55 = .ok (.invokevirtual 51, 3) := by decide +kernel
theorem dX4_readStatement_58 : decode cX4_readStatement 58 = .ok (.ifCond .eq 10, 3) := by decide +kernel
theorem dX4_readStatement_61 : decode cX4_readStatement 61 = .ok (.aload_n 0, 1) := by decide +kernel
theorem dX4_readStatement_62 : decode cX4_readStatement 62 = .ok (.aload_n 1, 1) := by decide +kernel
theorem dX4_readStatement_63 : decode cX4_readStatement 63 = .ok (.aload_n 2, 1) := by decide +kernel
theorem dX4_readStatement_64 : decode cX4_readStatement 64 = .ok (.invokevirtual 99, 3) := by decide +kernel
theorem dX4_readStatement_67 : decode cX4_readStatement 67 = .ok (.ireturn, 1) := by decide +kernel
theorem dX4_readStatement_68 : decode cX4_readStatement 68 = .ok (.aload_n 0, 1) := by decide +kernel
theorem dX4_readStatement_69 : decode cX4_readStatement 69 = .ok (.aload_n 1, 1) := by decide +kernel
theorem dX4_readStatement_70 : decode cX4_readStatement 70 = .ok (.ldc 102, 2) := by decide +kernel
theorem dX4_readStatement_72 : decode cX4_readStatement 72 = .ok (.invokevirtual 51, 3) := by decide +kernel
theorem dX4_readStatement_75 : decode cX4_readStatement 75 = .ok (.ifCond .eq 9, 3) := by decide +kernel
theorem dX4_readStatement_78 : decode cX4_readStatement 78 = .ok (.aload_n 0, 1) := by decide +kernel
theorem dX4_readStatement_79 : decode cX4_readStatement 79 = .ok (.aload_n 2, 1) := by decide +kernel
theorem dX4_readStatement_80 : decode cX4_readStatement 80 = .ok (.invokevirtual 104, 3) := by decide +kernel
theorem dX4_readStatement_83 : decode cX4_readStatement 83 = .ok (.ireturn, 1) := by decide +kernel
theorem dX4_readStatement_84 : decode cX4_readStatement 84 = .ok (.aload_n 0, 1) := by decide +kernel
theorem dX4_readStatement_85 : decode cX4_readStatement 85 = .ok (.iconst 1, 1) := by decide +kernel
theorem dX4_readStatement_86 : decode cX4_readStatement 86 = .ok (.aload_n 0, 1) := by decide +kernel
theorem dX4_readStatement_87 : decode cX4_readStatement 87 = .ok (.getfield 24, 3) := by decide +kernel
theorem dX4_readStatement_90 : decode cX4_readStatement 90 = .ok (.invokevirtual 55, 3) := by decide +kernel
theorem dX4_readStatement_93 : decode cX4_readStatement 93 = .ok (.ireturn, 1) := by decide +kernel
theorem dX4_readBad_0 : decode cX4_readBad 0 = .ok (.aload_n 0, 1) := by decide +kernel
theorem dX4_readBad_1 : decode cX4_readBad 1 = .ok (.aload_n 1, 1) := by decide +kernel
theorem dX4_readBad_2 : decode cX4_readBad 2 = .ok (.iconst 0, 1) := by decide +kernel
theorem dX4_readBad_3 : decode cX4_readBad 3 = .ok (.aload_n 2, 1) := by decide +kernel
theorem dX4_readBad_4 : decode cX4_readBad 4 = .ok (.getfield 108, 3) := by decide +kernel
theorem dX4_readBad_7 : decode cX4_readBad 7 = .ok (.getfield 112, 3) := by decide +kernel
theorem dX4_readBad_10 : decode cX4_readBad 10 = .ok (.iconst 1, 1) := by decide +kernel
theorem dX4_readBad_11 : decode cX4_readBad 11 = .ok (.isub, 1) := by decide +kernel
theorem dX4_readBad_12 : decode cX4_readBad 12 = .ok (.invokevirtual 59, 3) := by decide +kernel
theorem dX4_readBad_15 : decode cX4_readBad 15 = .ok (.ifCond .ne 5, 3) := by decide +kernel
theorem dX4_readBad_18 : decode cX4_readBad 18 = .ok (.iconst 0, 1) := by decide +kernel
theorem dX4_readBad_19 : decode cX4_readBad 19 = .ok (.ireturn, 1) := by decide +kernel
theorem dX4_readBad_20 : decode cX4_readBad 20 = .ok (.aload_n 2, 1) := by decide +kernel
theorem dX4_readBad_21 : decode cX4_readBad 21 = .ok (.getfield 108, 3) := by decide +kernel
theorem dX4_readBad_24 : decode cX4_readBad 24 = .ok (.aload_n 0, 1) := by decide +kernel
theorem dX4_readBad_25 : decode cX4_readBad 25 = .ok (.getfield 30, 3) := by decide +kernel
theorem dX4_readBad_28 : decode cX4_readBad 28 = .ok (.invokevirtual 117, 3) := by decide +kernel
theorem dX4_readBad_31 : decode cX4_readBad 31 = .ok (.ifCond .eq 13, 3) := by decide +kernel
theorem dX4_readBad_34 : decode cX4_readBad 34 = .ok (.aload_n 0, 1) := by decide +kernel
theorem dX4_readBad_35 : decode cX4_readBad 35 = .ok (.iconst 2, 1) := by decide +kernel
theorem dX4_readBad_36 : decode cX4_readBad 36 = .ok (.aload_n 0, 1) := by decide +kernel
theorem dX4_readBad_37 : decode cX4_readBad 37 = .ok (.getfield 24, 3) := by decide +kernel
theorem dX4_readBad_40 : decode cX4_readBad 40 = .ok (.invokevirtual 55, 3) := by decide +kernel
theorem dX4_readBad_43 : decode cX4_readBad 43 = .ok (.ireturn, 1) := by decide +kernel
theorem dX4_readBad_44 : decode cX4_readBad 44 = .ok (.aload_n 2, 1) := by decide +kernel
theorem dX4_readBad_45 : decode cX4_readBad 45 = .ok (.getfield 108, 3) := by decide +kernel
theorem dX4_readBad_48 : decode cX4_readBad 48 = .ok (.getfield 121, 3) := by decide +kernel
theorem dX4_readBad_51 : decode cX4_readBad 51 = .ok (.aload_n 0, 1) := by decide +kernel
theorem dX4_readBad_52 : decode cX4_readBad 52 = .ok (.getfield 30, 3) := by decide +kernel
theorem dX4_readBad_55 : decode cX4_readBad 55 = .ok (.iconst 1, 1) := by decide +kernel
theorem dX4_readBad_56 : decode cX4_readBad 56 = .ok (.invokestatic 124, 3) := by decide +kernel
theorem dX4_readBad_59 : decode cX4_readBad 59 = .ok (.iconst 1, 1) := by decide +kernel
theorem dX4_readBad_60 : decode cX4_readBad 60 = .ok (.ireturn, 1) := by decide +kernel
theorem dX4_readNewFile_0 : decode cX4_readNewFile 0 = .ok (.aload_n 2, 1) := by decide +kernel
theorem dX4_readNewFile_1 : decode cX4_readNewFile 1 = .ok (.invokevirtual 128, 3) := by decide +kernel
theorem dX4_readNewFile_4 : decode cX4_readNewFile 4 = .ok (.ifCond .eq 13, 3) := by decide +kernel
theorem dX4_readNewFile_7 : decode cX4_readNewFile 7 = .ok (.aload_n 0, 1) := by decide +kernel
theorem dX4_readNewFile_8 : decode cX4_readNewFile 8 = .ok (.iconst 5, 1) := by decide +kernel
theorem dX4_readNewFile_9 : decode cX4_readNewFile 9 = .ok (.aload_n 0, 1) := by decide +kernel
theorem dX4_readNewFile_10 : decode cX4_readNewFile 10 = .ok (.getfield 24, 3) := by decide +kernel
theorem dX4_readNewFile_13 : decode cX4_readNewFile 13 = .ok (.invokevirtual 55, 3) := by decide +kernel
theorem dX4_readNewFile_16 : decode cX4_readNewFile 16 = .ok (.ireturn, 1) := by decide +kernel
theorem dX4_readNewFile_17 : decode cX4_readNewFile 17 = .ok (.aload_n 0, 1) := by decide +kernel
theorem dX4_readNewFile_18 : decode cX4_readNewFile 18 = .ok (.aload_n 1, 1) := by decide +kernel
theorem dX4_readNewFile_19 : decode cX4_readNewFile 19 = .ok (.invokevirtual 45, 3) := by decide +kernel
theorem dX4_readNewFile_22 : decode cX4_readNewFile 22 = .ok (.aload_n 0, 1) := by decide +kernel
theorem dX4_readNewFile_23 : decode cX4_readNewFile 23 = .ok (.getfield 21, 3) := by decide +kernel
theorem dX4_readNewFile_26 : decode cX4_readNewFile 26 = .ok (.iconst 1, 1) := by decide +kernel
theorem dX4_readNewFile_27 : decode cX4_readNewFile 27 = .ok (.if_icmp .eq 13, 3) := by decide +kernel
theorem dX4_readNewFile_30 : decode cX4_readNewFile 30 = .ok (.aload_n 0, 1) := by decide +kernel
theorem dX4_readNewFile_31 : decode cX4_readNewFile 31 = .ok (.iconst 1, 1) := by decide +kernel
theorem dX4_readNewFile_32 : decode cX4_readNewFile 32 = .ok (.aload_n 0, 1) := by decide +kernel
theorem dX4_readNewFile_33 : decode cX4_readNewFile 33 = .ok (.getfield 24, 3) := by decide +kernel
theorem dX4_readNewFile_36 : decode cX4_readNewFile 36 = .ok (.invokevirtual 55, 3) := by decide +kernel
theorem dX4_readNewFile_39 : decode cX4_readNewFile 39 = .ok (.ireturn, 1) := by decide +kernel
theorem dX4_readNewFile_40 : decode cX4_readNewFile 40 = .ok (.aload_n 2, 1) := by decide +kernel
theorem dX4_readNewFile_41 : decode cX4_readNewFile 41 = .ok (.aload_n 0, 1) := by decide +kernel
theorem dX4_readNewFile_42 : decode cX4_readNewFile 42 = .ok (.getfield 33, 3) := by decide +kernel
theorem dX4_readNewFile_45 : decode cX4_readNewFile 45 = .ok (.invokevirtual 132, 3) := by decide +kernel
theorem dX4_readNewFile_48 : decode cX4_readNewFile 48 = .ok (.iconst (-1), 1) := by decide +kernel
theorem dX4_readNewFile_49 : decode cX4_readNewFile 49 = .ok (.if_icmp .eq 13, 3) := by decide +kernel
theorem dX4_readNewFile_52 : decode cX4_readNewFile 52 = .ok (.aload_n 0, 1) := by decide +kernel
theorem dX4_readNewFile_53 : decode cX4_readNewFile 53 = .ok (.iconst 2, 1) := by decide +kernel
theorem dX4_readNewFile_54 : decode cX4_readNewFile 54 = .ok (.aload_n 0, 1) := by decide +kernel
theorem dX4_readNewFile_55 : decode cX4_readNewFile 55 = .ok (.getfield 24, 3) := by decide +kernel
theorem dX4_readNewFile_58 : decode cX4_readNewFile 58 = .ok (.invokevirtual 55, 3) := by decide +kernel
theorem dX4_readNewFile_61 : decode cX4_readNewFile 61 = .ok (.ireturn, 1) := by decide +kernel
theorem dX4_readNewFile_62 : decode cX4_readNewFile 62 = .ok (.aload_n 2, 1) := by decide +kernel
theorem dX4_readNewFile_63 : decode cX4_readNewFile 63 = .ok (.aload_n 0, 1) := by decide +kernel
theorem dX4_readNewFile_64 : decode cX4_readNewFile 64 = .ok (.getfield 33, 3) := by decide +kernel
theorem dX4_readNewFile_67 : decode cX4_readNewFile 67 = .ok (.invokevirtual 136, 3) := by decide +kernel
theorem dX4_readNewFile_70 : decode cX4_readNewFile 70 = .ok (.iconst 1, 1) := by decide +kernel
theorem dX4_readNewFile_71 : decode cX4_readNewFile 71 = .ok (.ireturn, 1) := by decide +kernel
theorem dX4_readWrite_0 : decode cX4_readWrite 0 = .ok (.aload_n 0, 1) := by decide +kernel
theorem dX4_readWrite_1 : decode cX4_readWrite 1 = .ok (.getfield 24, 3) := by decide +kernel
theorem dX4_readWrite_4 : decode cX4_readWrite 4 = .ok (.istore_n 3, 1) := by decide +kernel
theorem dX4_readWrite_5 : decode cX4_readWrite 5 = .ok (.aload_n 0, 1) := by decide +kernel
theorem dX4_readWrite_6 : decode cX4_readWrite 6 = .ok (.aload_n 1, 1) := by decide +kernel
theorem dX4_readWrite_7 : decode cX4_readWrite 7 = .ok (.aload_n 2, 1) := by decide +kernel
theorem dX4_readWrite_8 : decode cX4_readWrite 8 = .ok (.invokevirtual 140, 3) := by decide +kernel
theorem dX4_readWrite_11 : decode cX4_readWrite 11 = .ok (.ifCond .ne 5, 3) := by decide +kernel
theorem dX4_readWrite_14 : decode cX4_readWrite 14 = .ok (.iconst 0, 1) := by decide +kernel
theorem dX4_readWrite_15 : decode cX4_readWrite 15 = .ok (.ireturn, 1) := by decide +kernel
theorem dX4_readWrite_16 : decode cX4_readWrite 16 = .ok (.aload_n 2, 1) := by decide +kernel
theorem dX4_readWrite_17 : decode cX4_readWrite 17 = .ok (.aload_n 0, 1) := by decide +kernel
theorem dX4_readWrite_18 : decode cX4_readWrite 18 = .ok (.getfield 33, 3) := by decide +kernel
theorem dX4_readWrite_21 : decode cX4_readWrite 21 = .ok (.invokevirtual 132, 3) := by decide +kernel
theorem dX4_readWrite_24 : decode cX4_readWrite 24 = .ok (.istore 4, 2) := by decide +kernel
theorem dX4_readWrite_26 : decode cX4_readWrite 26 = .ok (.aload_n 0, 1) := by decide +kernel
theorem dX4_readWrite_27 : decode cX4_readWrite 27 = .ok (.aload_n 1, 1) := by decide +kernel
theorem dX4_readWrite_28 : decode cX4_readWrite 28 = .ok (.iconst 1, 1) := by decide +kernel
theorem dX4_readWrite_29 : decode cX4_readWrite 29 = .ok (.bipush 8, 2) := by decide +kernel
theorem dX4_readWrite_31 : decode cX4_readWrite 31 = .ok (.invokevirtual 59, 3) := by decide +kernel
theorem dX4_readWrite_34 : decode cX4_readWrite 34 = .ok (.ifCond .ne 5, 3) := by decide +kernel
theorem dX4_readWrite_37 : decode cX4_readWrite 37 = .ok (.iconst 0, 1) := by decide +kernel
theorem dX4_readWrite_38 : decode cX4_readWrite 38 = .ok (.ireturn, 1) := by decide +kernel
theorem dX4_readWrite_39 : decode cX4_readWrite 39 = .ok (.aload_n 0, 1) := by decide +kernel
theorem dX4_readWrite_40 : decode cX4_readWrite 40 = .ok (.getfield 30, 3) := by decide +kernel
theorem dX4_readWrite_43 : decode cX4_readWrite 43 = .ok (.istore 5, 2) := by decide +kernel
theorem dX4_readWrite_45 : decode cX4_readWrite 45 = .ok (.aload_n 0, 1) := by decide +kernel
theorem dX4_readWrite_46 : decode cX4_readWrite 46 = .ok (.aload_n 1, 1) := by decide +kernel
theorem dX4_readWrite_47 : decode cX4_readWrite 47 = .ok (.iconst 0, 1) := by decide +kernel
theorem dX4_readWrite_48 : decode cX4_readWrite 48 = .ok (.sipush 999, 3) := by decide +kernel
theorem dX4_readWrite_51 : decode cX4_readWrite 51 = .ok (.invokevirtual 59, 3) := by decide +kernel
theorem dX4_readWrite_54 : decode cX4_readWrite 54 = .ok (.ifCond .ne 5, 3) := by decide +kernel
theorem dX4_readWrite_57 : decode cX4_readWrite 57 = .ok (.iconst 0, 1) := by decide +kernel
theorem dX4_readWrite_58 : decode cX4_readWrite 58 = .ok (.ireturn, 1) := by decide +kernel
theorem dX4_readWrite_59 : decode cX4_readWrite 59 = .ok (.aload_n 2, 1) := by decide +kernel
theorem dX4_readWrite_60 : decode cX4_readWrite 60 = .ok (.iload 4, 2) := by decide +kernel
theorem dX4_readWrite_62 : decode cX4_readWrite 62 = .ok (.iload 5, 2) := by decide +kernel
theorem dX4_readWrite_64 : decode cX4_readWrite 64 = .ok (.invokevirtual 143, 3) := by decide +kernel
theorem dX4_readWrite_67 : decode cX4_readWrite 67 = .ok (.ifCond .eq 11, 3) := by decide +kernel
theorem dX4_readWrite_70 : decode cX4_readWrite 70 = .ok (.aload_n 0, 1) := by decide +kernel
theorem dX4_readWrite_71 : decode cX4_readWrite 71 = .ok (.bipush 6, 2) := by decide +kernel
theorem dX4_readWrite_73 : decode cX4_readWrite 73 = .ok (.iload_n 3, 1) := by decide +kernel
theorem dX4_readWrite_74 : decode cX4_readWrite 74 = .ok (.invokevirtual 55, 3) := by decide +kernel
theorem dX4_readWrite_77 : decode cX4_readWrite 77 = .ok (.ireturn, 1) := by decide +kernel
theorem dX4_readWrite_78 : decode cX4_readWrite 78 = .ok (.aload_n 2, 1) := by decide +kernel
theorem dX4_readWrite_79 : decode cX4_readWrite 79 = .ok (.iload 4, 2) := by decide +kernel
theorem dX4_readWrite_81 : decode cX4_readWrite 81 = .ok (.iload 5, 2) := by decide +kernel
theorem dX4_readWrite_83 : decode cX4_readWrite 83 = .ok (.aload_n 0, 1) := by decide +kernel
theorem dX4_readWrite_84 : decode cX4_readWrite 84 = .ok (.getfield 30, 3) := by decide +kernel
theorem dX4_readWrite_87 : decode cX4_readWrite 87 = .ok (.invokevirtual 146, 3) := by decide +kernel
theorem dX4_readWrite_90 : decode cX4_readWrite 90 = .ok (.pop, 1) := by decide +kernel
theorem dX4_readWrite_91 : decode cX4_readWrite 91 = .ok (.iconst 1, 1) := by decide +kernel
theorem dX4_readWrite_92 : decode cX4_readWrite 92 = .ok (.ireturn, 1) := by decide +kernel
theorem dX4_readErase_0 : decode cX4_readErase 0 = .ok (.aload_n 0, 1) := by decide +kernel
theorem dX4_readErase_1 : decode cX4_readErase 1 = .ok (.getfield 24, 3) := by decide +kernel
theorem dX4_readErase_4 : decode cX4_readErase 4 = .ok (.istore_n 3, 1) := by decide +kernel
theorem dX4_readErase_5 : decode cX4_readErase 5 = .ok (.aload_n 0, 1) := by decide +kernel
theorem dX4_readErase_6 : decode cX4_readErase 6 = .ok (.aload_n 1, 1) := by decide +kernel
theorem dX4_readErase_7 : decode cX4_readErase 7 = .ok (.aload_n 2, 1) := by decide +kernel
theorem dX4_readErase_8 : decode cX4_readErase 8 = .ok (.invokevirtual 140, 3) := by decide +kernel
theorem dX4_readErase_11 : decode cX4_readErase 11 = .ok (.ifCond .ne 5, 3) := by decide +kernel
theorem dX4_readErase_14 : decode cX4_readErase 14 = .ok (.iconst 0, 1) := by decide +kernel
theorem dX4_readErase_15 : decode cX4_readErase 15 = .ok (.ireturn, 1) := by decide +kernel
theorem dX4_readErase_16 : decode cX4_readErase 16 = .ok (.aload_n 2, 1) := by decide +kernel
theorem dX4_readErase_17 : decode cX4_readErase 17 = .ok (.aload_n 0, 1) := by decide +kernel
theorem dX4_readErase_18 : decode cX4_readErase 18 = .ok (.getfield 33, 3) := by decide +kernel
theorem dX4_readErase_21 : decode cX4_readErase 21 = .ok (.invokevirtual 132, 3) := by decide +kernel
theorem dX4_readErase_24 : decode cX4_readErase 24 = .ok (.istore 4, 2) := by decide +kernel
theorem dX4_readErase_26 : decode cX4_readErase 26 = .ok (.aload_n 2, 1) := by decide +kernel
theorem dX4_readErase_27 : decode cX4_readErase 27 = .ok (.iload 4, 2) := by decide +kernel
theorem dX4_readErase_29 : decode cX4_readErase 29 = .ok (.invokevirtual 150, 3) := by decide +kernel
theorem dX4_readErase_32 : decode cX4_readErase 32 = .ok (.ifCond .eq 11, 3) := by decide +kernel
theorem dX4_readErase_35 : decode cX4_readErase 35 = .ok (.aload_n 0, 1) := by decide +kernel
theorem dX4_readErase_36 : decode cX4_readErase 36 = .ok (.bipush 6, 2) := by decide +kernel
theorem dX4_readErase_38 : decode cX4_readErase 38 = .ok (.iload_n 3, 1) := by decide +kernel
theorem dX4_readErase_39 : decode cX4_readErase 39 = .ok (.invokevirtual 55, 3) := by decide +kernel
theorem dX4_readErase_42 : decode cX4_readErase 42 = .ok (.ireturn, 1) := by decide +kernel
theorem dX4_readErase_43 : decode cX4_readErase 43 = .ok (.aload_n 2, 1) := by decide +kernel
theorem dX4_readErase_44 : decode cX4_readErase 44 = .ok (.iload 4, 2) := by decide +kernel
theorem dX4_readErase_46 : decode cX4_readErase 46 = .ok (.invokevirtual 154, 3) := by decide +kernel
theorem dX4_readErase_49 : decode cX4_readErase 49 = .ok (.iconst 1, 1) := by decide +kernel
theorem dX4_readErase_50 : decode cX4_readErase 50 = .ok (.ireturn, 1) := by decide +kernel
theorem dX4_doClose_0 : decode cX4_doClose 0 = .ok (.aload_n 1, 1) := by decide +kernel
theorem dX4_doClose_1 : decode cX4_doClose 1 = .ok (.invokevirtual 158, 3) := by decide +kernel
theorem dX4_doClose_4 : decode cX4_doClose 4 = .ok (.ifCond .eq 14, 3) := by decide +kernel
theorem dX4_doClose_7 : decode cX4_doClose 7 = .ok (.aload_n 0, 1) := by decide +kernel
theorem dX4_doClose_8 : decode cX4_doClose 8 = .ok (.bipush 6, 2) := by decide +kernel
theorem dX4_doClose_10 : decode cX4_doClose 10 = .ok (.aload_n 0, 1) := by decide +kernel
theorem dX4_doClose_11 : decode cX4_doClose 11 = .ok (.getfield 24, 3) := by decide +kernel
theorem dX4_doClose_14 : decode cX4_doClose 14 = .ok (.invokevirtual 55, 3) := by decide +kernel
theorem dX4_doClose_17 : decode cX4_doClose 17 = .ok (.ireturn, 1) := by decide +kernel
theorem dX4_doClose_18 : decode cX4_doClose 18 = .ok (.aload_n 1, 1) := by decide +kernel
theorem dX4_doClose_19 : decode cX4_doClose 19 = .ok (.invokevirtual 162, 3) := by decide +kernel
theorem dX4_doClose_22 : decode cX4_doClose 22 = .ok (.pop, 1) := by decide +kernel
theorem dX4_doClose_23 : decode cX4_doClose 23 = .ok (.iconst 1, 1) := by decide +kernel
theorem dX4_doClose_24 : decode cX4_doClose 24 = .ok (.ireturn, 1) := by decide +kernel
theorem dX4_readFile_0 : decode cX4_readFile 0 = .ok (.aload_n 0, 1) := by decide +kernel
theorem dX4_readFile_1 : decode cX4_readFile 1 = .ok (.aload_n 1, 1) := by decide +kernel
theorem dX4_readFile_2 : decode cX4_readFile 2 = .ok (.invokevirtual 45, 3) := by decide +kernel
theorem dX4_readFile_5 : decode cX4_readFile 5 = .ok (.aload_n 0, 1) := by decide +kernel
theorem dX4_readFile_6 : decode cX4_readFile 6 = .ok (.getfield 21, 3) := by decide +kernel
theorem dX4_readFile_9 : decode cX4_readFile 9 = .ok (.iconst 1, 1) := by decide +kernel
theorem dX4_readFile_10 : decode cX4_readFile 10 = .ok (.if_icmp .eq 13, 3) := by decide +kernel
theorem dX4_readFile_13 : decode cX4_readFile 13 = .ok (.aload_n 0, 1) := by decide +kernel
theorem dX4_readFile_14 : decode cX4_readFile 14 = .ok (.iconst 1, 1) := by decide +kernel
theorem dX4_readFile_15 : decode cX4_readFile 15 = .ok (.aload_n 0, 1) := by decide +kernel
theorem dX4_readFile_16 : decode cX4_readFile 16 = .ok (.getfield 24, 3) := by decide +kernel
theorem dX4_readFile_19 : decode cX4_readFile 19 = .ok (.invokevirtual 55, 3) := by decide +kernel
theorem dX4_readFile_22 : decode cX4_readFile 22 = .ok (.ireturn, 1) := by decide +kernel
theorem dX4_readFile_23 : decode cX4_readFile 23 = .ok (.aload_n 2, 1) := by decide +kernel
theorem dX4_readFile_24 : decode cX4_readFile 24 = .ok (.aload_n 0, 1) := by decide +kernel
theorem dX4_readFile_25 : decode cX4_readFile 25 = .ok (.getfield 33, 3) := by decide +kernel
theorem dX4_readFile_28 : decode cX4_readFile 28 = .ok (.invokevirtual 132, 3) := by decide +kernel
theorem dX4_readFile_31 : decode cX4_readFile 31 = .ok (.iconst (-1), 1) := by decide +kernel
theorem dX4_readFile_32 : decode cX4_readFile 32 = .ok (.if_icmp .ne 15, 3) := by decide +kernel
theorem dX4_readFile_35 : decode cX4_readFile 35 = .ok (.aload_n 0, 1) := by decide +kernel
theorem dX4_readFile_36 : decode cX4_readFile 36 = .ok (.iconst 4, 1) := by decide +kernel
theorem dX4_readFile_37 : decode cX4_readFile 37 = .ok (.aload_n 0, 1) := by decide +kernel
theorem dX4_readFile_38 : decode cX4_readFile 38 = .ok (.getfield 24, 3) := by decide +kernel
theorem dX4_readFile_41 : decode cX4_readFile 41 = .ok (.invokevirtual 55, 3) := by decide +kernel
theorem dX4_readFile_44 : decode cX4_readFile 44 = .ok (.ifCond .eq 7, 3) := by decide +kernel
theorem dX4_readFile_47 : decode cX4_readFile 47 = .ok (.iconst 1, 1) := by decide +kernel
theorem dX4_readFile_48 : decode cX4_readFile 48 = .ok (.goto 4, 3) := by decide +kernel
theorem dX4_readFile_51 : decode cX4_readFile 51 = .ok (.iconst 0, 1) := by decide +kernel
theorem dX4_readFile_52 : decode cX4_readFile 52 = .ok (.ireturn, 1) := by decide +kernel
theorem dX4_readNumber_0 : decode cX4_readNumber 0 = .ok (.aload_n 0, 1) := by decide +kernel
theorem dX4_readNumber_1 : decode cX4_readNumber 1 = .ok (.aload_n 1, 1) := by decide +kernel
theorem dX4_readNumber_2 : decode cX4_readNumber 2 = .ok (.invokevirtual 45, 3) := by decide +kernel
theorem dX4_readNumber_5 : decode cX4_readNumber 5 = .ok (.aload_n 0, 1) := by decide +kernel
theorem dX4_readNumber_6 : decode cX4_readNumber 6 = .ok (.getfield 21, 3) := by decide +kernel
theorem dX4_readNumber_9 : decode cX4_readNumber 9 = .ok (.iconst 2, 1) := by decide +kernel
theorem dX4_readNumber_10 : decode cX4_readNumber 10 = .ok (.if_icmp .eq 13, 3) := by decide +kernel
theorem dX4_readNumber_13 : decode cX4_readNumber 13 = .ok (.aload_n 0, 1) := by decide +kernel
theorem dX4_readNumber_14 : decode cX4_readNumber 14 = .ok (.iconst 1, 1) := by decide +kernel
theorem dX4_readNumber_15 : decode cX4_readNumber 15 = .ok (.aload_n 0, 1) := by decide +kernel
theorem dX4_readNumber_16 : decode cX4_readNumber 16 = .ok (.getfield 24, 3) := by decide +kernel
theorem dX4_readNumber_19 : decode cX4_readNumber 19 = .ok (.invokevirtual 55, 3) := by decide +kernel
theorem dX4_readNumber_22 : decode cX4_readNumber 22 = .ok (.ireturn, 1) := by decide +kernel
theorem dX4_readNumber_23 : decode cX4_readNumber 23 = .ok (.aload_n 0, 1) := by decide +kernel
theorem dX4_readNumber_24 : decode cX4_readNumber 24 = .ok (.getfield 30, 3) := by decide +kernel
theorem dX4_readNumber_27 : decode cX4_readNumber 27 = .ok (.iload_n 2, 1) := by decide +kernel
theorem dX4_readNumber_28 : decode cX4_readNumber 28 = .ok (.if_icmp .lt 11, 3) := by decide +kernel
theorem dX4_readNumber_31 : decode cX4_readNumber 31 = .ok (.aload_n 0, 1) := by decide +kernel
theorem dX4_readNumber_32 : decode cX4_readNumber 32 = .ok (.getfield 30, 3) := by decide +kernel
theorem dX4_readNumber_35 : decode cX4_readNumber 35 = .ok (.iload_n 3, 1) := by decide +kernel
theorem dX4_readNumber_36 : decode cX4_readNumber 36 = .ok (.if_icmp .le 15, 3) := by decide +kernel
theorem dX4_readNumber_39 : decode cX4_readNumber 39 = .ok (.aload_n 0, 1) := by decide +kernel
theorem dX4_readNumber_40 : decode cX4_readNumber 40 = .ok (.iconst 3, 1) := by decide +kernel
theorem dX4_readNumber_41 : decode cX4_readNumber 41 = .ok (.aload_n 0, 1) := by decide +kernel
theorem dX4_readNumber_42 : decode cX4_readNumber 42 = .ok (.getfield 24, 3) := by decide +kernel
theorem dX4_readNumber_45 : decode cX4_readNumber 45 = .ok (.invokevirtual 55, 3) := by decide +kernel
theorem dX4_readNumber_48 : decode cX4_readNumber 48 = .ok (.ifCond .eq 7, 3) := by decide +kernel
theorem dX4_readNumber_51 : decode cX4_readNumber 51 = .ok (.iconst 1, 1) := by decide +kernel
theorem dX4_readNumber_52 : decode cX4_readNumber 52 = .ok (.goto 4, 3) := by decide +kernel
theorem dX4_readNumber_55 : decode cX4_readNumber 55 = .ok (.iconst 0, 1) := by decide +kernel
theorem dX4_readNumber_56 : decode cX4_readNumber 56 = .ok (.ireturn, 1) := by decide +kernel
theorem dX4_readSemicolon_0 : decode cX4_readSemicolon 0 = .ok (.aload_n 0, 1) := by decide +kernel
theorem dX4_readSemicolon_1 : decode cX4_readSemicolon 1 = .ok (.aload_n 1, 1) := by decide +kernel
theorem dX4_readSemicolon_2 : decode cX4_readSemicolon 2 = .ok (.invokevirtual 45, 3) := by decide +kernel
theorem dX4_readSemicolon_5 : decode cX4_readSemicolon 5 = .ok (.aload_n 0, 1) := by decide +kernel
theorem dX4_readSemicolon_6 : decode cX4_readSemicolon 6 = .ok (.getfield 21, 3) := by decide +kernel
theorem dX4_readSemicolon_9 : decode cX4_readSemicolon 9 = .ok (.iconst 3, 1) := by decide +kernel
theorem dX4_readSemicolon_10 : decode cX4_readSemicolon 10 = .ok (.if_icmp .eq 15, 3) := by decide +kernel
theorem dX4_readSemicolon_13 : decode cX4_readSemicolon 13 = .ok (.aload_n 0, 1) := by decide +kernel
theorem dX4_readSemicolon_14 : decode cX4_readSemicolon 14 = .ok (.iconst 1, 1) := by decide +kernel
theorem dX4_readSemicolon_15 : decode cX4_readSemicolon 15 = .ok (.aload_n 0, 1) := by decide +kernel
theorem dX4_readSemicolon_16 : decode cX4_readSemicolon 16 = .ok (.getfield 24, 3) := by decide +kernel
theorem dX4_readSemicolon_19 : decode cX4_readSemicolon 19 = .ok (.invokevirtual 55, 3) := by decide +kernel
theorem dX4_readSemicolon_22 : decode cX4_readSemicolon 22 = .ok (.ifCond .eq 7, 3) := by decide +kernel
theorem dX4_readSemicolon_25 : decode cX4_readSemicolon 25 = .ok (.iconst 1, 1) := by decide +kernel
theorem dX4_readSemicolon_26 : decode cX4_readSemicolon 26 = .ok (.goto 4, 3) := by decide +kernel
theorem dX4_readSemicolon_29 : decode cX4_readSemicolon 29 = .ok (.iconst 0, 1) := by decide +kernel
theorem dX4_readSemicolon_30 : decode cX4_readSemicolon 30 = .ok (.ireturn, 1) := by decide +kernel
theorem dX4_isWord_0 : decode cX4_isWord 0 = .ok (.aload_n 0, 1) := by decide +kernel
theorem dX4_isWord_1 : decode cX4_isWord 1 = .ok (.getfield 21, 3) := by decide +kernel
theorem dX4_isWord_4 : decode cX4_isWord 4 = .ok (.iconst 1, 1) := by decide +kernel
theorem dX4_isWord_5 : decode cX4_isWord 5 = .ok (.if_icmp .ne 19, 3) := by decide +kernel
theorem dX4_isWord_8 : decode cX4_isWord 8 = .ok (.aload_n 0, 1) := by decide +kernel
theorem dX4_isWord_9 : decode cX4_isWord 9 = .ok (.getfield 27, 3) := by decide +kernel
theorem dX4_isWord_12 : decode cX4_isWord 12 = .ok (.aload_n 0, 1) := by decide +kernel
theorem dX4_isWord_13 : decode cX4_isWord 13 = .ok (.getfield 24, 3) := by decide +kernel
theorem dX4_isWord_16 : decode cX4_isWord 16 = .ok (.isub, 1) := by decide +kernel
theorem dX4_isWord_17 : decode cX4_isWord 17 = .ok (.aload_n 2, 1) := by decide +kernel
theorem dX4_isWord_18 : decode cX4_isWord 18 = .ok (.invokevirtual 165, 3) := by decide +kernel
theorem dX4_isWord_21 : decode cX4_isWord 21 = .ok (.if_icmp .eq 5, 3) := by decide +kernel
theorem dX4_isWord_24 : decode cX4_isWord 24 = .ok (.iconst 0, 1) := by decide +kernel
theorem dX4_isWord_25 : decode cX4_isWord 25 = .ok (.ireturn, 1) := by decide +kernel
theorem dX4_isWord_26 : decode cX4_isWord 26 = .ok (.iconst 0, 1) := by decide +kernel
theorem dX4_isWord_27 : decode cX4_isWord 27 = .ok (.istore_n 3, 1) := by decide +kernel
theorem dX4_isWord_28 : decode cX4_isWord 28 = .ok (.iload_n 3, 1) := by decide +kernel
theorem dX4_isWord_29 : decode cX4_isWord 29 = .ok (.aload_n 2, 1) := by decide +kernel
theorem dX4_isWord_30 : decode cX4_isWord 30 = .ok (.invokevirtual 165, 3) := by decide +kernel
theorem dX4_isWord_33 : decode cX4_isWord 33 = .ok (.if_icmp .ge 29, 3) := by decide +kernel
theorem dX4_isWord_36 : decode cX4_isWord 36 = .ok (.aload_n 1, 1) := by decide +kernel
theorem dX4_isWord_37 : decode cX4_isWord 37 = .ok (.aload_n 0, 1) := by decide +kernel
theorem dX4_isWord_38 : decode cX4_isWord 38 = .ok (.getfield 24, 3) := by decide +kernel
theorem dX4_isWord_41 : decode cX4_isWord 41 = .ok (.iload_n 3, 1) := by decide +kernel
theorem dX4_isWord_42 : decode cX4_isWord 42 = .ok (.iadd, 1) := by decide +kernel
theorem dX4_isWord_43 : decode cX4_isWord 43 = .ok (.invokevirtual 169, 3) := by decide +kernel
theorem dX4_isWord_46 : decode cX4_isWord 46 = .ok (.aload_n 2, 1) := by decide +kernel
theorem dX4_isWord_47 : decode cX4_isWord 47 = .ok (.iload_n 3, 1) := by decide +kernel
theorem dX4_isWord_48 : decode cX4_isWord 48 = .ok (.invokevirtual 174, 3) := by decide +kernel
theorem dX4_isWord_51 : decode cX4_isWord 51 = .ok (.if_icmp .eq 5, 3) := by decide +kernel
theorem dX4_isWord_54 : decode cX4_isWord 54 = .ok (.iconst 0, 1) := by decide +kernel
theorem dX4_isWord_55 : decode cX4_isWord 55 = .ok (.ireturn, 1) := by decide +kernel
theorem dX4_isWord_56 : decode cX4_isWord 56 = .ok (.iinc 3 1, 3) := by decide +kernel
theorem dX4_isWord_59 : decode cX4_isWord 59 = .ok (.goto (-31), 3) := by decide +kernel
theorem dX4_isWord_62 : decode cX4_isWord 62 = .ok (.iconst 1, 1) := by decide +kernel
theorem dX4_isWord_63 : decode cX4_isWord 63 = .ok (.ireturn, 1) := by decide +kernel
theorem dX4_advance_0 : decode cX4_advance 0 = .ok (.aload_n 0, 1) := by decide +kernel
theorem dX4_advance_1 : decode cX4_advance 1 = .ok (.aload_n 0, 1) := by decide +kernel
theorem dX4_advance_2 : decode cX4_advance 2 = .ok (.getfield 27, 3) := by decide +kernel
theorem dX4_advance_5 : decode cX4_advance 5 = .ok (.putfield 24, 3) := by decide +kernel
theorem dX4_advance_8 : decode cX4_advance 8 = .ok (.aload_n 0, 1) := by decide +kernel
theorem dX4_advance_9 : decode cX4_advance 9 = .ok (.getfield 24, 3) := by decide +kernel
theorem dX4_advance_12 : decode cX4_advance 12 = .ok (.aload_n 0, 1) := by decide +kernel
theorem dX4_advance_13 : decode cX4_advance 13 = .ok (.getfield 18, 3) := by decide +kernel
theorem dX4_advance_16 : decode cX4_advance 16 = .ok (.if_icmp .ge 42, 3) := by decide +kernel
theorem dX4_advance_19 : decode cX4_advance 19 = .ok (.aload_n 1, 1) := by decide +kernel
theorem dX4_advance_20 : decode cX4_advance 20 = .ok (.aload_n 0, 1) := by decide +kernel
theorem dX4_advance_21 : decode cX4_advance 21 = .ok (.getfield 24, 3) := by decide +kernel
theorem dX4_advance_24 : decode cX4_advance 24 = .ok (.invokevirtual 169, 3) := by decide +kernel
theorem dX4_advance_27 : decode cX4_advance 27 = .ok (.bipush 32, 2) := by decide +kernel
theorem dX4_advance_29 : decode cX4_advance 29 = .ok (.if_icmp .eq 16, 3) := by decide +kernel
theorem dX4_advance_32 : decode cX4_advance 32 = .ok (.aload_n 1, 1) := by decide +kernel
theorem dX4_advance_33 : decode cX4_advance 33 = .ok (.aload_n 0, 1) := by decide +kernel
theorem dX4_advance_34 : decode cX4_advance 34 = .ok (.getfield 24, 3) := by decide +kernel
theorem dX4_advance_37 : decode cX4_advance 37 = .ok (.invokevirtual 169, 3) := by decide +kernel
theorem dX4_advance_40 : decode cX4_advance 40 = .ok (.bipush 10, 2) := by decide +kernel
theorem dX4_advance_42 : decode cX4_advance 42 = .ok (.if_icmp .ne 16, 3) := by decide +kernel
theorem dX4_advance_45 : decode cX4_advance 45 = .ok (.aload_n 0, 1) := by decide +kernel
theorem dX4_advance_46 : decode cX4_advance 46 = .ok (.dup, 1) := by decide +kernel
theorem dX4_advance_47 : decode cX4_advance 47 = .ok (.getfield 24, 3) := by decide +kernel
theorem dX4_advance_50 : decode cX4_advance 50 = .ok (.iconst 1, 1) := by decide +kernel
theorem dX4_advance_51 : decode cX4_advance 51 = .ok (.iadd, 1) := by decide +kernel
theorem dX4_advance_52 : decode cX4_advance 52 = .ok (.putfield 24, 3) := by decide +kernel
theorem dX4_advance_55 : decode cX4_advance 55 = .ok (.goto (-47), 3) := by decide +kernel
theorem dX4_advance_58 : decode cX4_advance 58 = .ok (.aload_n 0, 1) := by decide +kernel
theorem dX4_advance_59 : decode cX4_advance 59 = .ok (.aload_n 0, 1) := by decide +kernel
theorem dX4_advance_60 : decode cX4_advance 60 = .ok (.getfield 24, 3) := by decide +kernel
theorem dX4_advance_63 : decode cX4_advance 63 = .ok (.putfield 27, 3) := by decide +kernel
theorem dX4_advance_66 : decode cX4_advance 66 = .ok (.aload_n 0, 1) := by decide +kernel
theorem dX4_advance_67 : decode cX4_advance 67 = .ok (.getfield 24, 3) := by decide +kernel
theorem dX4_advance_70 : decode cX4_advance 70 = .ok (.aload_n 0, 1) := by decide +kernel
theorem dX4_advance_71 : decode cX4_advance 71 = .ok (.getfield 18, 3) := by decide +kernel
theorem dX4_advance_74 : decode cX4_advance 74 = .ok (.if_icmp .lt 11, 3) := by decide +kernel
theorem dX4_advance_77 : decode cX4_advance 77 = .ok (.aload_n 0, 1) := by decide +kernel
theorem dX4_advance_78 : decode cX4_advance 78 = .ok (.iconst 0, 1) := by decide +kernel
theorem dX4_advance_79 : decode cX4_advance 79 = .ok (.putfield 21, 3) := by decide +kernel
theorem dX4_advance_82 : decode cX4_advance 82 = .ok (.goto 73, 3) := by decide +kernel
theorem dX4_advance_85 : decode cX4_advance 85 = .ok (.aload_n 1, 1) := by decide +kernel
theorem dX4_advance_86 : decode cX4_advance 86 = .ok (.aload_n 0, 1) := by decide +kernel
theorem dX4_advance_87 : decode cX4_advance 87 = .ok (.getfield 24, 3) := by decide +kernel
theorem dX4_advance_90 : decode cX4_advance 90 = .ok (.invokevirtual 178, 3) := by decide +kernel
theorem dX4_advance_93 : decode cX4_advance 93 = .ok (.ifCond .eq 11, 3) := by decide +kernel
theorem dX4_advance_96 : decode cX4_advance 96 = .ok (.aload_n 0, 1) := by decide +kernel
theorem dX4_advance_97 : decode cX4_advance 97 = .ok (.aload_n 1, 1) := by decide +kernel
theorem dX4_advance_98 : decode cX4_advance 98 = .ok (.invokevirtual 181, 3) := by decide +kernel
theorem dX4_advance_101 : decode cX4_advance 101 = .ok (.goto 54, 3) := by decide +kernel
theorem dX4_advance_104 : decode cX4_advance 104 = .ok (.aload_n 1, 1) := by decide +kernel
theorem dX4_advance_105 : decode cX4_advance 105 = .ok (.aload_n 0, 1) := by decide +kernel
theorem dX4_advance_106 : decode cX4_advance 106 = .ok (.getfield 24, 3) := by decide +kernel
theorem dX4_advance_109 : decode cX4_advance 109 = .ok (.invokevirtual 184, 3) := by decide +kernel
theorem dX4_advance_112 : decode cX4_advance 112 = .ok (.ifCond .eq 11, 3) := by decide +kernel
theorem dX4_advance_115 : decode cX4_advance 115 = .ok (.aload_n 0, 1) := by decide +kernel
theorem dX4_advance_116 : decode cX4_advance 116 = .ok (.aload_n 1, 1) := by decide +kernel
theorem dX4_advance_117 : decode cX4_advance 117 = .ok (.invokevirtual 187, 3) := by decide +kernel
theorem dX4_advance_120 : decode cX4_advance 120 = .ok (.goto 35, 3) := by decide +kernel
theorem dX4_advance_123 : decode cX4_advance 123 = .ok (.aload_n 0, 1) := by decide +kernel
theorem dX4_advance_124 : decode cX4_advance 124 = .ok (.dup, 1) := by decide +kernel
theorem dX4_advance_125 : decode cX4_advance 125 = .ok (.getfield 27, 3) := by decide +kernel
theorem dX4_advance_128 : decode cX4_advance 128 = .ok (.iconst 1, 1) := by decide +kernel
theorem dX4_advance_129 : decode cX4_advance 129 = .ok (.iadd, 1) := by decide +kernel
theorem dX4_advance_130 : decode cX4_advance 130 = .ok (.putfield 27, 3) := by decide +kernel
theorem dX4_advance_133 : decode cX4_advance 133 = .ok (.aload_n 0, 1) := by decide +kernel
theorem dX4_advance_134 : decode cX4_advance 134 = .ok (.aload_n 1, 1) := by decide +kernel
theorem dX4_advance_135 : decode cX4_advance 135 = .ok (.aload_n 0, 1) := by decide +kernel
theorem dX4_advance_136 : decode cX4_advance 136 = .ok (.getfield 24, 3) := by decide +kernel
theorem dX4_advance_139 : decode cX4_advance 139 = .ok (.invokevirtual 169, 3) := by decide +kernel
theorem dX4_advance_142 : decode cX4_advance 142 = .ok (.bipush 59, 2) := by decide +kernel
theorem dX4_advance_144 : decode cX4_advance 144 = .ok (.if_icmp .ne 7, 3) := by decide +kernel
theorem dX4_advance_147 : decode cX4_advance 147 = .ok (.iconst 3, 1) := by decide +kernel
theorem dX4_advance_148 : decode cX4_advance 148 = .ok (.goto 4, 3) := by decide +kernel
theorem dX4_advance_151 : decode cX4_advance 151 = .ok (.iconst 4, 1) := by decide +kernel
theorem dX4_advance_152 : decode cX4_advance 152 = .ok (.putfield 21, 3) := by decide +kernel
theorem dX4_advance_155 : decode cX4_advance 155 = .ok (.return_, 1) := by decide +kernel
theorem dX4_takeWord_0 : decode cX4_takeWord 0 = .ok (.aload_n 0, 1) := by decide +kernel
theorem dX4_takeWord_1 : decode cX4_takeWord 1 = .ok (.getfield 27, 3) := by decide +kernel
theorem dX4_takeWord_4 : decode cX4_takeWord 4 = .ok (.aload_n 0, 1) := by decide +kernel
theorem dX4_takeWord_5 : decode cX4_takeWord 5 = .ok (.getfield 18, 3) := by decide +kernel
theorem dX4_takeWord_8 : decode cX4_takeWord 8 = .ok (.if_icmp .ge 27, 3) := by decide +kernel
theorem dX4_takeWord_11 : decode cX4_takeWord 11 = .ok (.aload_n 1, 1) := by decide +kernel
theorem dX4_takeWord_12 : decode cX4_takeWord 12 = .ok (.aload_n 0, 1) := by decide +kernel
theorem dX4_takeWord_13 : decode cX4_takeWord 13 = .ok (.getfield 27, 3) := by decide +kernel
theorem dX4_takeWord_16 : decode cX4_takeWord 16 = .ok (.invokevirtual 178, 3) := by decide +kernel
theorem dX4_takeWord_19 : decode cX4_takeWord 19 = .ok (.ifCond .eq 16, 3) := by decide +kernel
theorem dX4_takeWord_22 : decode cX4_takeWord 22 = .ok (.aload_n 0, 1) := by decide +kernel
theorem dX4_takeWord_23 : decode cX4_takeWord 23 = .ok (.dup, 1) := by decide +kernel
theorem dX4_takeWord_24 : decode cX4_takeWord 24 = .ok (.getfield 27, 3) := by decide +kernel
theorem dX4_takeWord_27 : decode cX4_takeWord 27 = .ok (.iconst 1, 1) := by decide +kernel
theorem dX4_takeWord_28 : decode cX4_takeWord 28 = .ok (.iadd, 1) := by decide +kernel
theorem dX4_takeWord_29 : decode cX4_takeWord 29 = .ok (.putfield 27, 3) := by decide +kernel
theorem dX4_takeWord_32 : decode cX4_takeWord 32 = .ok (.goto (-32), 3) := by decide +kernel
theorem dX4_takeWord_35 : decode cX4_takeWord 35 = .ok (.aload_n 0, 1) := by decide +kernel
theorem dX4_takeWord_36 : decode cX4_takeWord 36 = .ok (.aload_n 0, 1) := by decide +kernel
theorem dX4_takeWord_37 : decode cX4_takeWord 37 = .ok (.getfield 27, 3) := by decide +kernel
theorem dX4_takeWord_40 : decode cX4_takeWord 40 = .ok (.aload_n 0, 1) := by decide +kernel
theorem dX4_takeWord_41 : decode cX4_takeWord 41 = .ok (.getfield 24, 3) := by decide +kernel
theorem dX4_takeWord_44 : decode cX4_takeWord 44 = .ok (.isub, 1) := by decide +kernel
theorem dX4_takeWord_45 : decode cX4_takeWord 45 = .ok (.bipush 8, 2) := by decide +kernel
theorem dX4_takeWord_47 : decode cX4_takeWord 47 = .ok (.if_icmp .gt 7, 3) := by decide +kernel
theorem dX4_takeWord_50 : decode cX4_takeWord 50 = .ok (.iconst 1, 1) := by decide +kernel
theorem dX4_takeWord_51 : decode cX4_takeWord 51 = .ok (.goto 4, 3) := by decide +kernel
theorem dX4_takeWord_54 : decode cX4_takeWord 54 = .ok (.iconst 4, 1) := by decide +kernel
theorem dX4_takeWord_55 : decode cX4_takeWord 55 = .ok (.putfield 21, 3) := by decide +kernel
theorem dX4_takeWord_58 : decode cX4_takeWord 58 = .ok (.aload_n 0, 1) := by decide +kernel
theorem dX4_takeWord_59 : decode cX4_takeWord 59 = .ok (.aload_n 1, 1) := by decide +kernel
theorem dX4_takeWord_60 : decode cX4_takeWord 60 = .ok (.aload_n 0, 1) := by decide +kernel
theorem dX4_takeWord_61 : decode cX4_takeWord 61 = .ok (.getfield 24, 3) := by decide +kernel
theorem dX4_takeWord_64 : decode cX4_takeWord 64 = .ok (.aload_n 0, 1) := by decide +kernel
theorem dX4_takeWord_65 : decode cX4_takeWord 65 = .ok (.getfield 27, 3) := by decide +kernel
theorem dX4_takeWord_68 : decode cX4_takeWord 68 = .ok (.invokevirtual 190, 3) := by decide +kernel
theorem dX4_takeWord_71 : decode cX4_takeWord 71 = .ok (.putfield 33, 3) := by decide +kernel
theorem dX4_takeWord_74 : decode cX4_takeWord 74 = .ok (.return_, 1) := by decide +kernel
theorem dX4_takeNumber_0 : decode cX4_takeNumber 0 = .ok (.aload_n 0, 1) := by decide +kernel
theorem dX4_takeNumber_1 : decode cX4_takeNumber 1 = .ok (.getfield 27, 3) := by decide +kernel
theorem dX4_takeNumber_4 : decode cX4_takeNumber 4 = .ok (.aload_n 0, 1) := by decide +kernel
theorem dX4_takeNumber_5 : decode cX4_takeNumber 5 = .ok (.getfield 18, 3) := by decide +kernel
theorem dX4_takeNumber_8 : decode cX4_takeNumber 8 = .ok (.if_icmp .ge 27, 3) := by decide +kernel
theorem dX4_takeNumber_11 : decode cX4_takeNumber 11 = .ok (.aload_n 1, 1) := by decide +kernel
theorem dX4_takeNumber_12 : decode cX4_takeNumber 12 = .ok (.aload_n 0, 1) := by decide +kernel
theorem dX4_takeNumber_13 : decode cX4_takeNumber 13 = .ok (.getfield 27, 3) := by decide +kernel
theorem dX4_takeNumber_16 : decode cX4_takeNumber 16 = .ok (.invokevirtual 184, 3) := by decide +kernel
theorem dX4_takeNumber_19 : decode cX4_takeNumber 19 = .ok (.ifCond .eq 16, 3) := by decide +kernel
theorem dX4_takeNumber_22 : decode cX4_takeNumber 22 = .ok (.aload_n 0, 1) := by decide +kernel
theorem dX4_takeNumber_23 : decode cX4_takeNumber 23 = .ok (.dup, 1) := by decide +kernel
theorem dX4_takeNumber_24 : decode cX4_takeNumber 24 = .ok (.getfield 27, 3) := by decide +kernel
theorem dX4_takeNumber_27 : decode cX4_takeNumber 27 = .ok (.iconst 1, 1) := by decide +kernel
theorem dX4_takeNumber_28 : decode cX4_takeNumber 28 = .ok (.iadd, 1) := by decide +kernel
theorem dX4_takeNumber_29 : decode cX4_takeNumber 29 = .ok (.putfield 27, 3) := by decide +kernel
theorem dX4_takeNumber_32 : decode cX4_takeNumber 32 = .ok (.goto (-32), 3) := by decide +kernel
theorem dX4_takeNumber_35 : decode cX4_takeNumber 35 = .ok (.aload_n 0, 1) := by decide +kernel
theorem dX4_takeNumber_36 : decode cX4_takeNumber 36 = .ok (.aload_n 0, 1) := by decide +kernel
theorem dX4_takeNumber_37 : decode cX4_takeNumber 37 = .ok (.getfield 27, 3) := by decide +kernel
theorem dX4_takeNumber_40 : decode cX4_takeNumber 40 = .ok (.aload_n 0, 1) := by decide +kernel
theorem dX4_takeNumber_41 : decode cX4_takeNumber 41 = .ok (.getfield 24, 3) := by decide +kernel
theorem dX4_takeNumber_44 : decode cX4_takeNumber 44 = .ok (.isub, 1) := by decide +kernel
theorem dX4_takeNumber_45 : decode cX4_takeNumber 45 = .ok (.iconst 3, 1) := by decide +kernel
theorem dX4_takeNumber_46 : decode cX4_takeNumber 46 = .ok (.if_icmp .gt 7, 3) := by decide +kernel
theorem dX4_takeNumber_49 : decode cX4_takeNumber 49 = .ok (.iconst 2, 1) := by decide +kernel
theorem dX4_takeNumber_50 : decode cX4_takeNumber 50 = .ok (.goto 4, 3) := by decide +kernel
theorem dX4_takeNumber_53 : decode cX4_takeNumber 53 = .ok (.iconst 4, 1) := by decide +kernel
theorem dX4_takeNumber_54 : decode cX4_takeNumber 54 = .ok (.putfield 21, 3) := by decide +kernel
theorem dX4_takeNumber_57 : decode cX4_takeNumber 57 = .ok (.aload_n 0, 1) := by decide +kernel
theorem dX4_takeNumber_58 : decode cX4_takeNumber 58 = .ok (.iconst 0, 1) := by decide +kernel
theorem dX4_takeNumber_59 : decode cX4_takeNumber 59 = .ok (.putfield 30, 3) := by decide +kernel
theorem dX4_takeNumber_62 : decode cX4_takeNumber 62 = .ok (.aload_n 0, 1) := by decide +kernel
theorem dX4_takeNumber_63 : decode cX4_takeNumber 63 = .ok (.getfield 24, 3) := by decide +kernel
theorem dX4_takeNumber_66 : decode cX4_takeNumber 66 = .ok (.istore_n 2, 1) := by decide +kernel
theorem dX4_takeNumber_67 : decode cX4_takeNumber 67 = .ok (.iload_n 2, 1) := by decide +kernel
theorem dX4_takeNumber_68 : decode cX4_takeNumber 68 = .ok (.aload_n 0, 1) := by decide +kernel
theorem dX4_takeNumber_69 : decode cX4_takeNumber 69 = .ok (.getfield 27, 3) := by decide +kernel
theorem dX4_takeNumber_72 : decode cX4_takeNumber 72 = .ok (.if_icmp .ge 39, 3) := by decide +kernel
theorem dX4_takeNumber_75 : decode cX4_takeNumber 75 = .ok (.iload_n 2, 1) := by decide +kernel
theorem dX4_takeNumber_76 : decode cX4_takeNumber 76 = .ok (.aload_n 0, 1) := by decide +kernel
theorem dX4_takeNumber_77 : decode cX4_takeNumber 77 = .ok (.getfield 24, 3) := by decide +kernel
theorem dX4_takeNumber_80 : decode cX4_takeNumber 80 = .ok (.iconst 3, 1) := by decide +kernel
theorem dX4_takeNumber_81 : decode cX4_takeNumber 81 = .ok (.iadd, 1) := by decide +kernel
theorem dX4_takeNumber_82 : decode cX4_takeNumber 82 = .ok (.if_icmp .ge 29, 3) := by decide +kernel
theorem dX4_takeNumber_85 : decode cX4_takeNumber 85 = .ok (.aload_n 0, 1) := by decide +kernel
theorem dX4_takeNumber_86 : decode cX4_takeNumber 86 = .ok (.aload_n 0, 1) := by decide +kernel
theorem dX4_takeNumber_87 : decode cX4_takeNumber 87 = .ok (.getfield 30, 3) := by decide +kernel
theorem dX4_takeNumber_90 : decode cX4_takeNumber 90 = .ok (.bipush 10, 2) := by decide +kernel
theorem dX4_takeNumber_92 : decode cX4_takeNumber 92 = .ok (.imul, 1) := by decide +kernel
theorem dX4_takeNumber_93 : decode cX4_takeNumber 93 = .ok (.aload_n 1, 1) := by decide +kernel
theorem dX4_takeNumber_94 : decode cX4_takeNumber 94 = .ok (.iload_n 2, 1) := by decide +kernel
theorem dX4_takeNumber_95 : decode cX4_takeNumber 95 = .ok (.invokevirtual 169, 3) := by decide +kernel
theorem dX4_takeNumber_98 : decode cX4_takeNumber 98 = .ok (.bipush 48, 2) := by decide +kernel
theorem dX4_takeNumber_100 : decode cX4_takeNumber 100 = .ok (.isub, 1) := by decide +kernel
theorem dX4_takeNumber_101 : decode cX4_takeNumber 101 = .ok (.iadd, 1) := by decide +kernel
theorem dX4_takeNumber_102 : decode cX4_takeNumber 102 = .ok (.putfield 30, 3) := by decide +kernel
theorem dX4_takeNumber_105 : decode cX4_takeNumber 105 = .ok (.iinc 2 1, 3) := by decide +kernel
theorem dX4_takeNumber_108 : decode cX4_takeNumber 108 = .ok (.goto (-41), 3) := by decide +kernel
theorem dX4_takeNumber_111 : decode cX4_takeNumber 111 = .ok (.return_, 1) := by decide +kernel
theorem dX5_init_0 : decode cX5_init 0 = .ok (.aload_n 0, 1) := by decide +kernel
theorem dX5_init_1 : decode cX5_init 1 = .ok (.invokespecial 3, 3) := by decide +kernel
theorem dX5_init_4 : decode cX5_init 4 = .ok (.aload_n 0, 1) := by decide +kernel
theorem dX5_init_5 : decode cX5_init 5 = .ok (.iconst 0, 1) := by decide +kernel
theorem dX5_init_6 : decode cX5_init 6 = .ok (.putfield 9, 3) := by decide +kernel
theorem dX5_init_9 : decode cX5_init 9 = .ok (.aload_n 0, 1) := by decide +kernel
theorem dX5_init_10 : decode cX5_init 10 = .ok (.bipush 12, 2) := by decide +kernel
theorem dX5_init_12 : decode cX5_init 12 = .ok (.newarray .int, 2) := by decide +kernel
theorem dX5_init_14 : decode cX5_init 14 = .ok (.putfield 15, 3) := by decide +kernel
theorem dX5_init_17 : decode cX5_init 17 = .ok (.aload_n 0, 1) := by decide +kernel
theorem dX5_init_18 : decode cX5_init 18 = .ok (.bipush 12, 2) := by decide +kernel
theorem dX5_init_20 : decode cX5_init 20 = .ok (.newarray .int, 2) := by decide +kernel
theorem dX5_init_22 : decode cX5_init 22 = .ok (.putfield 19, 3) := by decide +kernel
theorem dX5_init_25 : decode cX5_init 25 = .ok (.aload_n 0, 1) := by decide +kernel
theorem dX5_init_26 : decode cX5_init 26 = .ok (.bipush 12, 2) := by decide +kernel
theorem dX5_init_28 : decode cX5_init 28 = .ok (.newarray .int, 2) := by decide +kernel
theorem dX5_init_30 : decode cX5_init 30 = .ok (.putfield 22, 3) := by decide +kernel
theorem dX5_init_33 : decode cX5_init 33 = .ok (.aload_n 0, 1) := by decide +kernel
theorem dX5_init_34 : decode cX5_init 34 = .ok (.bipush 12, 2) := by decide +kernel
theorem dX5_init_36 : decode cX5_init 36 = .ok (.newarray .int, 2) := by decide +kernel
theorem dX5_init_38 : decode cX5_init 38 = .ok (.putfield 25, 3) := by decide +kernel
theorem dX5_init_41 : decode cX5_init 41 = .ok (.aload_n 0, 1) := by decide +kernel
theorem dX5_init_42 : decode cX5_init 42 = .ok (.bipush 120, 2) := by decide +kernel
theorem dX5_init_44 : decode cX5_init 44 = .ok (.newarray .int, 2) := by decide +kernel
theorem dX5_init_46 : decode cX5_init 46 = .ok (.putfield 28, 3) := by decide +kernel
theorem dX5_init_49 : decode cX5_init 49 = .ok (.aload_n 0, 1) := by decide +kernel
theorem dX5_init_50 : decode cX5_init 50 = .ok (.bipush 120, 2) := by decide +kernel
theorem dX5_init_52 : decode cX5_init 52 = .ok (.newarray .int, 2) := by decide +kernel
theorem dX5_init_54 : decode cX5_init 54 = .ok (.putfield 31, 3) := by decide +kernel
theorem dX5_init_57 : decode cX5_init 57 = .ok (.return_, 1) := by decide +kernel
theorem dX5_takeFrom_0 : decode cX5_takeFrom 0 = .ok (.aload_n 0, 1) := by decide +kernel
theorem dX5_takeFrom_1 : decode cX5_takeFrom 1 = .ok (.aload_n 1, 1) := by decide +kernel
theorem dX5_takeFrom_2 : decode cX5_takeFrom 2 = .ok (.getfield 9, 3) := by decide +kernel
theorem dX5_takeFrom_5 : decode cX5_takeFrom 5 = .ok (.putfield 9, 3) := by decide +kernel
theorem dX5_takeFrom_8 : decode cX5_takeFrom 8 = .ok (.aload_n 1, 1) := by decide +kernel
theorem dX5_takeFrom_9 : decode cX5_takeFrom 9 = .ok (.getfield 15, 3) := by decide +kernel
theorem dX5_takeFrom_12 : decode cX5_takeFrom 12 = .ok (.aload_n 0, 1) := by decide +kernel
theorem dX5_takeFrom_13 : decode cX5_takeFrom 13 = .ok (.getfield 15, 3) := by decide +kernel
theorem dX5_takeFrom_16 : decode cX5_takeFrom 16 = .ok (.invokestatic 34, 3) := by decide +kernel
theorem dX5_takeFrom_19 : decode cX5_takeFrom 19 = .ok (.aload_n 1, 1) := by decide +kernel
theorem dX5_takeFrom_20 : decode cX5_takeFrom 20 = .ok (.getfield 19, 3) := by decide +kernel
theorem dX5_takeFrom_23 : decode cX5_takeFrom 23 = .ok (.aload_n 0, 1) := by decide +kernel
theorem dX5_takeFrom_24 : decode cX5_takeFrom 24 = .ok (.getfield 19, 3) := by decide +kernel
theorem dX5_takeFrom_27 : decode cX5_takeFrom 27 = .ok (.invokestatic 34, 3) := by decide +kernel
theorem dX5_takeFrom_30 : decode cX5_takeFrom 30 = .ok (.aload_n 1, 1) := by decide +kernel
theorem dX5_takeFrom_31 : decode cX5_takeFrom 31 = .ok (.getfield 22, 3) := by decide +kernel
theorem dX5_takeFrom_34 : decode cX5_takeFrom 34 = .ok (.aload_n 0, 1) := by decide +kernel
theorem dX5_takeFrom_35 : decode cX5_takeFrom 35 = .ok (.getfield 22, 3) := by decide +kernel
theorem dX5_takeFrom_38 : decode cX5_takeFrom 38 = .ok (.invokestatic 34, 3) := by decide +kernel
theorem dX5_takeFrom_41 : decode cX5_takeFrom 41 = .ok (.aload_n 1, 1) := by decide +kernel
theorem dX5_takeFrom_42 : decode cX5_takeFrom 42 = .ok (.getfield 25, 3) := by decide +kernel
theorem dX5_takeFrom_45 : decode cX5_takeFrom 45 = .ok (.aload_n 0, 1) := by decide +kernel
theorem dX5_takeFrom_46 : decode cX5_takeFrom 46 = .ok (.getfield 25, 3) := by decide +kernel
theorem dX5_takeFrom_49 : decode cX5_takeFrom 49 = .ok (.invokestatic 34, 3) := by decide +kernel
theorem dX5_takeFrom_52 : decode cX5_takeFrom 52 = .ok (.aload_n 1, 1) := by decide +kernel
theorem dX5_takeFrom_53 : decode cX5_takeFrom 53 = .ok (.getfield 28, 3) := by decide +kernel
theorem dX5_takeFrom_56 : decode cX5_takeFrom 56 = .ok (.aload_n 0, 1) := by decide +kernel
theorem dX5_takeFrom_57 : decode cX5_takeFrom 57 = .ok (.getfield 28, 3) := by decide +kernel
theorem dX5_takeFrom_60 : decode cX5_takeFrom 60 = .ok (.invokestatic 34, 3) := by decide +kernel
theorem dX5_takeFrom_63 : decode cX5_takeFrom 63 = .ok (.aload_n 1, 1) := by decide +kernel
theorem dX5_takeFrom_64 : decode cX5_takeFrom 64 = .ok (.getfield 31, 3) := by decide +kernel
theorem dX5_takeFrom_67 : decode cX5_takeFrom 67 = .ok (.aload_n 0, 1) := by decide +kernel
theorem dX5_takeFrom_68 : decode cX5_takeFrom 68 = .ok (.getfield 31, 3) := by decide +kernel
theorem dX5_takeFrom_71 : decode cX5_takeFrom 71 = .ok (.invokestatic 34, 3) := by decide +kernel
theorem dX5_takeFrom_74 : decode cX5_takeFrom 74 = .ok (.return_, 1) := by decide +kernel
theorem dX5_latest_0 : decode cX5_latest 0 = .ok (.aload_n 0, 1) := by decide +kernel
theorem dX5_latest_1 : decode cX5_latest 1 = .ok (.getfield 9, 3) := by decide +kernel
theorem dX5_latest_4 : decode cX5_latest 4 = .ok (.iconst 1, 1) := by decide +kernel
theorem dX5_latest_5 : decode cX5_latest 5 = .ok (.isub, 1) := by decide +kernel
theorem dX5_latest_6 : decode cX5_latest 6 = .ok (.ireturn, 1) := by decide +kernel
theorem dX5_isOpen_0 : decode cX5_isOpen 0 = .ok (.aload_n 0, 1) := by decide +kernel
theorem dX5_isOpen_1 : decode cX5_isOpen 1 = .ok (.aload_n 0, 1) := by decide +kernel
theorem dX5_isOpen_2 : decode cX5_isOpen 2 = .ok (.invokevirtual 38, 3) := by decide +kernel
theorem dX5_isOpen_5 : decode cX5_isOpen 5 = .ok (.invokevirtual 42, 3) := by decide +kernel
theorem dX5_isOpen_8 : decode cX5_isOpen 8 = .ok (.ifCond .ne 7, 3) := by decide +kernel
theorem dX5_isOpen_11 : decode cX5_isOpen 11 = .ok (.iconst 1, 1) := by decide +kernel
theorem dX5_isOpen_12 : decode cX5_isOpen 12 = .ok (.goto 4, 3) := by decide +kernel
theorem dX5_isOpen_15 : decode cX5_isOpen 15 = .ok (.iconst 0, 1) := by decide +kernel
theorem dX5_isOpen_16 : decode cX5_isOpen 16 = .ok (.ireturn, 1) := by decide +kernel
theorem dX5_latestIsLost_0 : decode cX5_latestIsLost 0 = .ok (.aload_n 0, 1) := by decide +kernel
theorem dX5_latestIsLost_1 : decode cX5_latestIsLost 1 = .ok (.aload_n 0, 1) := by decide +kernel
theorem dX5_latestIsLost_2 : decode cX5_latestIsLost 2 = .ok (.invokevirtual 38, 3) := by decide +kernel
theorem dX5_latestIsLost_5 : decode cX5_latestIsLost 5 = .ok (.invokevirtual 42, 3) := by decide +kernel
theorem dX5_latestIsLost_8 : decode cX5_latestIsLost 8 = .ok (.iconst 2, 1) := by decide +kernel
theorem dX5_latestIsLost_9 : decode cX5_latestIsLost 9 = .ok (.if_icmp .ne 7, 3) := by decide +kernel
theorem dX5_latestIsLost_12 : decode cX5_latestIsLost 12 = .ok (.iconst 1, 1) := by decide +kernel
theorem dX5_latestIsLost_13 : decode cX5_latestIsLost 13 = .ok (.goto 4, 3) := by decide +kernel
theorem dX5_latestIsLost_16 : decode cX5_latestIsLost 16 = .ok (.iconst 0, 1) := by decide +kernel
theorem dX5_latestIsLost_17 : decode cX5_latestIsLost 17 = .ok (.ireturn, 1) := by decide +kernel
theorem dX5_oneMoreIsTooMany_0 : decode cX5_oneMoreIsTooMany 0 = .ok (.aload_n 0, 1) := by decide +kernel
theorem dX5_oneMoreIsTooMany_1 : decode cX5_oneMoreIsTooMany 1 = .ok (.invokevirtual 46, 3) := by decide +kernel
theorem dX5_oneMoreIsTooMany_4 : decode cX5_oneMoreIsTooMany 4 = .ok (.ifCond .ne 16, 3) := by decide +kernel
theorem dX5_oneMoreIsTooMany_7 : decode cX5_oneMoreIsTooMany 7 = .ok (.aload_n 0, 1) := by decide +kernel
theorem dX5_oneMoreIsTooMany_8 : decode cX5_oneMoreIsTooMany 8 = .ok (.getfield 9, 3) := by decide +kernel
theorem dX5_oneMoreIsTooMany_11 : decode cX5_oneMoreIsTooMany 11 = .ok (.bipush 12, 2) := by decide +kernel
theorem dX5_oneMoreIsTooMany_13 : decode cX5_oneMoreIsTooMany 13 = .ok (.if_icmp .lt 7, 3) := by decide +kernel
theorem dX5_oneMoreIsTooMany_16 : decode cX5_oneMoreIsTooMany 16 = .ok (.iconst 1, 1) := by decide +kernel
theorem dX5_oneMoreIsTooMany_17 : decode cX5_oneMoreIsTooMany 17 = .ok (.goto 4, 3) := by decide +kernel
theorem dX5_oneMoreIsTooMany_20 : decode cX5_oneMoreIsTooMany 20 = .ok (.iconst 0, 1) := by decide +kernel
theorem dX5_oneMoreIsTooMany_21 : decode cX5_oneMoreIsTooMany 21 = .ok (.ireturn, 1) := by decide +kernel
theorem dX5_stateOf_0 : decode cX5_stateOf 0 = .ok (.iload_n 1, 1) := by decide +kernel
theorem dX5_stateOf_1 : decode cX5_stateOf 1 = .ok (.aload_n 0, 1) := by decide +kernel
theorem dX5_stateOf_2 : decode cX5_stateOf 2 = .ok (.getfield 9, 3) := by decide +kernel
theorem dX5_stateOf_5 : decode cX5_stateOf 5 = .ok (.if_icmp .ge 15, 3) := by decide +kernel
theorem dX5_stateOf_8 : decode cX5_stateOf 8 = .ok (.aload_n 0, 1) := by decide +kernel
theorem dX5_stateOf_9 : decode cX5_stateOf 9 = .ok (.getfield 15, 3) := by decide +kernel
theorem dX5_stateOf_12 : decode cX5_stateOf 12 = .ok (.iload_n 1, 1) := by decide +kernel
theorem dX5_stateOf_13 : decode cX5_stateOf 13 = .ok (.iconst (-1), 1) := by decide +kernel
theorem dX5_stateOf_14 : decode cX5_stateOf 14 = .ok (.invokestatic 50, 3) := by decide +kernel
theorem dX5_stateOf_17 : decode cX5_stateOf 17 = .ok (.goto 4, 3) := by decide +kernel
theorem dX5_stateOf_20 : decode cX5_stateOf 20 = .ok (.iconst (-1), 1) := by decide +kernel
theorem dX5_stateOf_21 : decode cX5_stateOf 21 = .ok (.ireturn, 1) := by decide +kernel
theorem dX5_firstOf_0 : decode cX5_firstOf 0 = .ok (.aload_n 0, 1) := by decide +kernel
theorem dX5_firstOf_1 : decode cX5_firstOf 1 = .ok (.getfield 19, 3) := by decide +kernel
theorem dX5_firstOf_4 : decode cX5_firstOf 4 = .ok (.iload_n 1, 1) := by decide +kernel
theorem dX5_firstOf_5 : decode cX5_firstOf 5 = .ok (.iconst (-1), 1) := by decide +kernel
theorem dX5_firstOf_6 : decode cX5_firstOf 6 = .ok (.invokestatic 50, 3) := by decide +kernel
theorem dX5_firstOf_9 : decode cX5_firstOf 9 = .ok (.ireturn, 1) := by decide +kernel
theorem dX5_directoryOf_0 : decode cX5_directoryOf 0 = .ok (.aload_n 0, 1) := by decide +kernel
theorem dX5_directoryOf_1 : decode cX5_directoryOf 1 = .ok (.getfield 22, 3) := by decide +kernel
theorem dX5_directoryOf_4 : decode cX5_directoryOf 4 = .ok (.iload_n 1, 1) := by decide +kernel
theorem dX5_directoryOf_5 : decode cX5_directoryOf 5 = .ok (.iconst (-1), 1) := by decide +kernel
theorem dX5_directoryOf_6 : decode cX5_directoryOf 6 = .ok (.invokestatic 50, 3) := by decide +kernel
theorem dX5_directoryOf_9 : decode cX5_directoryOf 9 = .ok (.ireturn, 1) := by decide +kernel
theorem dX5_entriesOf_0 : decode cX5_entriesOf 0 = .ok (.aload_n 0, 1) := by decide +kernel
theorem dX5_entriesOf_1 : decode cX5_entriesOf 1 = .ok (.getfield 25, 3) := by decide +kernel
theorem dX5_entriesOf_4 : decode cX5_entriesOf 4 = .ok (.iload_n 1, 1) := by decide +kernel
theorem dX5_entriesOf_5 : decode cX5_entriesOf 5 = .ok (.iconst 0, 1) := by decide +kernel
theorem dX5_entriesOf_6 : decode cX5_entriesOf 6 = .ok (.invokestatic 50, 3) := by decide +kernel
theorem dX5_entriesOf_9 : decode cX5_entriesOf 9 = .ok (.ireturn, 1) := by decide +kernel
theorem dX5_fileIn_0 : decode cX5_fileIn 0 = .ok (.aload_n 0, 1) := by decide +kernel
theorem dX5_fileIn_1 : decode cX5_fileIn 1 = .ok (.getfield 28, 3) := by decide +kernel
theorem dX5_fileIn_4 : decode cX5_fileIn 4 = .ok (.iload_n 1, 1) := by decide +kernel
theorem dX5_fileIn_5 : decode cX5_fileIn 5 = .ok (.iconst (-1), 1) := by decide +kernel
theorem dX5_fileIn_6 : decode cX5_fileIn 6 = .ok (.invokestatic 50, 3) := by decide +kernel
theorem dX5_fileIn_9 : decode cX5_fileIn 9 = .ok (.ireturn, 1) := by decide +kernel
theorem dX5_versionIn_0 : decode cX5_versionIn 0 = .ok (.aload_n 0, 1) := by decide +kernel
theorem dX5_versionIn_1 : decode cX5_versionIn 1 = .ok (.getfield 31, 3) := by decide +kernel
theorem dX5_versionIn_4 : decode cX5_versionIn 4 = .ok (.iload_n 1, 1) := by decide +kernel
theorem dX5_versionIn_5 : decode cX5_versionIn 5 = .ok (.iconst (-1), 1) := by decide +kernel
theorem dX5_versionIn_6 : decode cX5_versionIn 6 = .ok (.invokestatic 50, 3) := by decide +kernel
theorem dX5_versionIn_9 : decode cX5_versionIn 9 = .ok (.ireturn, 1) := by decide +kernel
theorem dX5_begin_0 : decode cX5_begin 0 = .ok (.aload_n 0, 1) := by decide +kernel
theorem dX5_begin_1 : decode cX5_begin 1 = .ok (.getfield 9, 3) := by decide +kernel
theorem dX5_begin_4 : decode cX5_begin 4 = .ok (.istore_n 2, 1) := by decide +kernel
theorem dX5_begin_5 : decode cX5_begin 5 = .ok (.aload_n 0, 1) := by decide +kernel
theorem dX5_begin_6 : decode cX5_begin 6 = .ok (.dup, 1) := by decide +kernel
theorem dX5_begin_7 : decode cX5_begin 7 = .ok (.getfield 9, 3) := by decide +kernel
theorem dX5_begin_10 : decode cX5_begin 10 = .ok (.iconst 1, 1) := by decide +kernel
theorem dX5_begin_11 : decode cX5_begin 11 = .ok (.iadd, 1) := by decide +kernel
theorem dX5_begin_12 : decode cX5_begin 12 = .ok (.putfield 9, 3) := by decide +kernel
theorem dX5_begin_15 : decode cX5_begin 15 = .ok (.aload_n 0, 1) := by decide +kernel
theorem dX5_begin_16 : decode cX5_begin 16 = .ok (.getfield 15, 3) := by decide +kernel
theorem dX5_begin_19 : decode cX5_begin 19 = .ok (.iload_n 2, 1) := by decide +kernel
theorem dX5_begin_20 : decode cX5_begin 20 = .ok (.iconst 0, 1) := by decide +kernel
theorem dX5_begin_21 : decode cX5_begin 21 = .ok (.invokestatic 54, 3) := by decide +kernel
theorem dX5_begin_24 : decode cX5_begin 24 = .ok (.aload_n 0, 1) := by decide +kernel
theorem dX5_begin_25 : decode cX5_begin 25 = .ok (.getfield 19, 3) := by decide +kernel
theorem dX5_begin_28 : decode cX5_begin 28 = .ok (.iload_n 2, 1) := by decide +kernel
theorem dX5_begin_29 : decode cX5_begin 29 = .ok (.iload_n 1, 1) := by decide +kernel
theorem dX5_begin_30 : decode cX5_begin 30 = .ok (.invokestatic 54, 3) := by decide +kernel
theorem dX5_begin_33 : decode cX5_begin 33 = .ok (.aload_n 0, 1) := by decide +kernel
theorem dX5_begin_34 : decode cX5_begin 34 = .ok (.getfield 22, 3) := by decide +kernel
theorem dX5_begin_37 : decode cX5_begin 37 = .ok (.iload_n 2, 1) := by decide +kernel
theorem dX5_begin_38 : decode cX5_begin 38 = .ok (.iconst (-1), 1) := by decide +kernel
theorem dX5_begin_39 : decode cX5_begin 39 = .ok (.invokestatic 54, 3) := by decide +kernel
theorem dX5_begin_42 : decode cX5_begin 42 = .ok (.aload_n 0, 1) := by decide +kernel
theorem dX5_begin_43 : decode cX5_begin 43 = .ok (.getfield 25, 3) := by decide +kernel
theorem dX5_begin_46 : decode cX5_begin 46 = .ok (.iload_n 2, 1) := by decide +kernel
theorem dX5_begin_47 : decode cX5_begin 47 = .ok (.iconst 0, 1) := by decide +kernel
theorem dX5_begin_48 : decode cX5_begin 48 = .ok (.invokestatic 54, 3) := by decide +kernel
theorem dX5_begin_51 : decode cX5_begin 51 = .ok (.return_, 1) := by decide +kernel
theorem dX5_slotAt_0 : decode cX5_slotAt 0 = .ok (.iload_n 2, 1) := by decide +kernel
theorem dX5_slotAt_1 : decode cX5_slotAt 1 = .ok (.ifCond .lt 21, 3) := by decide +kernel
theorem dX5_slotAt_4 : decode cX5_slotAt 4 = .ok (.iload_n 2, 1) := by decide +kernel
theorem dX5_slotAt_5 : decode cX5_slotAt 5 = .ok (.aload_n 0, 1) := by decide +kernel
theorem dX5_slotAt_6 : decode cX5_slotAt 6 = .ok (.iload_n 1, 1) := by decide +kernel
theorem dX5_slotAt_7 : decode cX5_slotAt 7 = .ok (.invokevirtual 58, 3) := by decide +kernel
theorem dX5_slotAt_10 : decode cX5_slotAt 10 = .ok (.if_icmp .ge 12, 3) := by decide +kernel
theorem dX5_slotAt_13 : decode cX5_slotAt 13 = .ok (.iload_n 1, 1) := by decide +kernel
theorem dX5_slotAt_14 : decode cX5_slotAt 14 = .ok (.bipush 10, 2) := by decide +kernel
theorem dX5_slotAt_16 : decode cX5_slotAt 16 = .ok (.imul, 1) := by decide +kernel
theorem dX5_slotAt_17 : decode cX5_slotAt 17 = .ok (.iload_n 2, 1) := by decide +kernel
theorem dX5_slotAt_18 : decode cX5_slotAt 18 = .ok (.iadd, 1) := by decide +kernel
theorem dX5_slotAt_19 : decode cX5_slotAt 19 = .ok (.goto 4, 3) := by decide +kernel
theorem dX5_slotAt_22 : decode cX5_slotAt 22 = .ok (.iconst (-1), 1) := by decide +kernel
theorem dX5_slotAt_23 : decode cX5_slotAt 23 = .ok (.ireturn, 1) := by decide +kernel
theorem dX5_slotOfFile_0 : decode cX5_slotOfFile 0 = .ok (.iconst 0, 1) := by decide +kernel
theorem dX5_slotOfFile_1 : decode cX5_slotOfFile 1 = .ok (.istore_n 3, 1) := by decide +kernel
theorem dX5_slotOfFile_2 : decode cX5_slotOfFile 2 = .ok (.iload_n 3, 1) := by decide +kernel
theorem dX5_slotOfFile_3 : decode cX5_slotOfFile 3 = .ok (.aload_n 0, 1) := by decide +kernel
theorem dX5_slotOfFile_4 : decode cX5_slotOfFile 4 = .ok (.iload_n 1, 1) := by decide +kernel
theorem dX5_slotOfFile_5 : decode cX5_slotOfFile 5 = .ok (.invokevirtual 58, 3) := by decide +kernel
theorem dX5_slotOfFile_8 : decode cX5_slotOfFile 8 = .ok (.if_icmp .ge 30, 3) := by decide +kernel
theorem dX5_slotOfFile_11 : decode cX5_slotOfFile 11 = .ok (.aload_n 0, 1) := by decide +kernel
theorem dX5_slotOfFile_12 : decode cX5_slotOfFile 12 = .ok (.aload_n 0, 1) := by decide +kernel
theorem dX5_slotOfFile_13 : decode cX5_slotOfFile 13 = .ok (.iload_n 1, 1) := by decide +kernel
theorem dX5_slotOfFile_14 : decode cX5_slotOfFile 14 = .ok (.iload_n 3, 1) := by decide +kernel
theorem dX5_slotOfFile_15 : decode cX5_slotOfFile 15 = .ok (.invokevirtual 61, 3) := by decide +kernel
theorem dX5_slotOfFile_18 : decode cX5_slotOfFile 18 = .ok (.invokevirtual 65, 3) := by decide +kernel
theorem dX5_slotOfFile_21 : decode cX5_slotOfFile 21 = .ok (.iload_n 2, 1) := by decide +kernel
theorem dX5_slotOfFile_22 : decode cX5_slotOfFile 22 = .ok (.if_icmp .ne 10, 3) := by decide +kernel
theorem dX5_slotOfFile_25 : decode cX5_slotOfFile 25 = .ok (.aload_n 0, 1) := by decide +kernel
theorem dX5_slotOfFile_26 : decode cX5_slotOfFile 26 = .ok (.iload_n 1, 1) := by decide +kernel
theorem dX5_slotOfFile_27 : decode cX5_slotOfFile 27 = .ok (.iload_n 3, 1) := by decide +kernel
theorem dX5_slotOfFile_28 : decode cX5_slotOfFile 28 = .ok (.invokevirtual 61, 3) := by decide +kernel
theorem dX5_slotOfFile_31 : decode cX5_slotOfFile 31 = .ok (.ireturn, 1) := by decide +kernel
theorem dX5_slotOfFile_32 : decode cX5_slotOfFile 32 = .ok (.iinc 3 1, 3) := by decide +kernel
theorem dX5_slotOfFile_35 : decode cX5_slotOfFile 35 = .ok (.goto (-33), 3) := by decide +kernel
theorem dX5_slotOfFile_38 : decode cX5_slotOfFile 38 = .ok (.iconst (-1), 1) := by decide +kernel
theorem dX5_slotOfFile_39 : decode cX5_slotOfFile 39 = .ok (.ireturn, 1) := by decide +kernel
theorem dX5_enter_0 : decode cX5_enter 0 = .ok (.aload_n 0, 1) := by decide +kernel
theorem dX5_enter_1 : decode cX5_enter 1 = .ok (.aload_n 0, 1) := by decide +kernel
theorem dX5_enter_2 : decode cX5_enter 2 = .ok (.invokevirtual 38, 3) := by decide +kernel
theorem dX5_enter_5 : decode cX5_enter 5 = .ok (.iload_n 1, 1) := by decide +kernel
theorem dX5_enter_6 : decode cX5_enter 6 = .ok (.invokevirtual 68, 3) := by decide +kernel
theorem dX5_enter_9 : decode cX5_enter 9 = .ok (.istore_n 3, 1) := by decide +kernel
theorem dX5_enter_10 : decode cX5_enter 10 = .ok (.iload_n 3, 1) := by decide +kernel
theorem dX5_enter_11 : decode cX5_enter 11 = .ok (.iconst (-1), 1) := by decide +kernel
theorem dX5_enter_12 : decode cX5_enter 12 = .ok (.if_icmp .ne 43, 3) := by decide +kernel
theorem dX5_enter_15 : decode cX5_enter 15 = .ok (.aload_n 0, 1) := by decide +kernel
theorem dX5_enter_16 : decode cX5_enter 16 = .ok (.getfield 25, 3) := by decide +kernel
theorem dX5_enter_19 : decode cX5_enter 19 = .ok (.aload_n 0, 1) := by decide +kernel
theorem dX5_enter_20 : decode cX5_enter 20 = .ok (.invokevirtual 38, 3) := by decide +kernel
theorem dX5_enter_23 : decode cX5_enter 23 = .ok (.aload_n 0, 1) := by decide +kernel
theorem dX5_enter_24 : decode cX5_enter 24 = .ok (.aload_n 0, 1) := by decide +kernel
theorem dX5_enter_25 : decode cX5_enter 25 = .ok (.invokevirtual 38, 3) := by decide +kernel
theorem dX5_enter_28 : decode cX5_enter 28 = .ok (.invokevirtual 58, 3) := by decide +kernel
theorem dX5_enter_31 : decode cX5_enter 31 = .ok (.iconst 1, 1) := by decide +kernel
theorem dX5_enter_32 : decode cX5_enter 32 = .ok (.iadd, 1) := by decide +kernel
theorem dX5_enter_33 : decode cX5_enter 33 = .ok (.invokestatic 54, 3) := by decide +kernel
theorem dX5_enter_36 : decode cX5_enter 36 = .ok (.aload_n 0, 1) := by decide +kernel
theorem dX5_enter_37 : decode cX5_enter 37 = .ok (.aload_n 0, 1) := by decide +kernel
theorem dX5_enter_38 : decode cX5_enter 38 = .ok (.invokevirtual 38, 3) := by decide +kernel
theorem dX5_enter_41 : decode cX5_enter 41 = .ok (.aload_n 0, 1) := by decide +kernel
theorem dX5_enter_42 : decode cX5_enter 42 = .ok (.aload_n 0, 1) := by decide +kernel
theorem dX5_enter_43 : decode cX5_enter 43 = .ok (.invokevirtual 38, 3) := by decide +kernel
theorem dX5_enter_46 : decode cX5_enter 46 = .ok (.invokevirtual 58, 3) := by decide +kernel
theorem dX5_enter_49 : decode cX5_enter 49 = .ok (.iconst 1, 1) := by decide +kernel
theorem dX5_enter_50 : decode cX5_enter 50 = .ok (.isub, 1) := by decide +kernel
theorem dX5_enter_51 : decode cX5_enter 51 = .ok (.invokevirtual 61, 3) := by decide +kernel
theorem dX5_enter_54 : decode cX5_enter 54 = .ok (.istore_n 3, 1) := by decide +kernel
theorem dX5_enter_55 : decode cX5_enter 55 = .ok (.aload_n 0, 1) := by decide +kernel
theorem dX5_enter_56 : decode cX5_enter 56 = .ok (.getfield 28, 3) := by decide +kernel
theorem dX5_enter_59 : decode cX5_enter 59 = .ok (.iload_n 3, 1) := by decide +kernel
theorem dX5_enter_60 : decode cX5_enter 60 = .ok (.iload_n 1, 1) := by decide +kernel
theorem dX5_enter_61 : decode cX5_enter 61 = .ok (.invokestatic 54, 3) := by decide +kernel
theorem dX5_enter_64 : decode cX5_enter 64 = .ok (.aload_n 0, 1) := by decide +kernel
theorem dX5_enter_65 : decode cX5_enter 65 = .ok (.getfield 31, 3) := by decide +kernel
theorem dX5_enter_68 : decode cX5_enter 68 = .ok (.iload_n 3, 1) := by decide +kernel
theorem dX5_enter_69 : decode cX5_enter 69 = .ok (.iload_n 2, 1) := by decide +kernel
theorem dX5_enter_70 : decode cX5_enter 70 = .ok (.invokestatic 54, 3) := by decide +kernel
theorem dX5_enter_73 : decode cX5_enter 73 = .ok (.return_, 1) := by decide +kernel
theorem dX5_entriesWith_0 : decode cX5_entriesWith 0 = .ok (.aload_n 0, 1) := by decide +kernel
theorem dX5_entriesWith_1 : decode cX5_entriesWith 1 = .ok (.invokevirtual 46, 3) := by decide +kernel
theorem dX5_entriesWith_4 : decode cX5_entriesWith 4 = .ok (.ifCond .ne 5, 3) := by decide +kernel
theorem dX5_entriesWith_7 : decode cX5_entriesWith 7 = .ok (.iconst 1, 1) := by decide +kernel
theorem dX5_entriesWith_8 : decode cX5_entriesWith 8 = .ok (.ireturn, 1) := by decide +kernel
theorem dX5_entriesWith_9 : decode cX5_entriesWith 9 = .ok (.aload_n 0, 1) := by decide +kernel
theorem dX5_entriesWith_10 : decode cX5_entriesWith 10 = .ok (.aload_n 0, 1) := by decide +kernel
theorem dX5_entriesWith_11 : decode cX5_entriesWith 11 = .ok (.invokevirtual 38, 3) := by decide +kernel
theorem dX5_entriesWith_14 : decode cX5_entriesWith 14 = .ok (.invokevirtual 58, 3) := by decide +kernel
theorem dX5_entriesWith_17 : decode cX5_entriesWith 17 = .ok (.aload_n 0, 1) := by decide +kernel
theorem dX5_entriesWith_18 : decode cX5_entriesWith 18 = .ok (.aload_n 0, 1) := by decide +kernel
theorem dX5_entriesWith_19 : decode cX5_entriesWith 19 = .ok (.invokevirtual 38, 3) := by decide +kernel
theorem dX5_entriesWith_22 : decode cX5_entriesWith 22 = .ok (.iload_n 1, 1) := by decide +kernel
theorem dX5_entriesWith_23 : decode cX5_entriesWith 23 = .ok (.invokevirtual 68, 3) := by decide +kernel
theorem dX5_entriesWith_26 : decode cX5_entriesWith 26 = .ok (.iconst (-1), 1) := by decide +kernel
theorem dX5_entriesWith_27 : decode cX5_entriesWith 27 = .ok (.if_icmp .ne 7, 3) := by decide +kernel
theorem dX5_entriesWith_30 : decode cX5_entriesWith 30 = .ok (.iconst 1, 1) := by decide +kernel
theorem dX5_entriesWith_31 : decode cX5_entriesWith 31 = .ok (.goto 4, 3) := by decide +kernel
theorem dX5_entriesWith_34 : decode cX5_entriesWith 34 = .ok (.iconst 0, 1) := by decide +kernel
theorem dX5_entriesWith_35 : decode cX5_entriesWith 35 = .ok (.invokestatic 71, 3) := by decide +kernel
theorem dX5_entriesWith_38 : decode cX5_entriesWith 38 = .ok (.iadd, 1) := by decide +kernel
theorem dX5_entriesWith_39 : decode cX5_entriesWith 39 = .ok (.ireturn, 1) := by decide +kernel
theorem dX5_markClosed_0 : decode cX5_markClosed 0 = .ok (.aload_n 0, 1) := by decide +kernel
theorem dX5_markClosed_1 : decode cX5_markClosed 1 = .ok (.getfield 15, 3) := by decide +kernel
theorem dX5_markClosed_4 : decode cX5_markClosed 4 = .ok (.aload_n 0, 1) := by decide +kernel
theorem dX5_markClosed_5 : decode cX5_markClosed 5 = .ok (.invokevirtual 38, 3) := by decide +kernel
theorem dX5_markClosed_8 : decode cX5_markClosed 8 = .ok (.iconst 1, 1) := by decide +kernel
theorem dX5_markClosed_9 : decode cX5_markClosed 9 = .ok (.invokestatic 54, 3) := by decide +kernel
theorem dX5_markClosed_12 : decode cX5_markClosed 12 = .ok (.aload_n 0, 1) := by decide +kernel
theorem dX5_markClosed_13 : decode cX5_markClosed 13 = .ok (.getfield 22, 3) := by decide +kernel
theorem dX5_markClosed_16 : decode cX5_markClosed 16 = .ok (.aload_n 0, 1) := by decide +kernel
theorem dX5_markClosed_17 : decode cX5_markClosed 17 = .ok (.invokevirtual 38, 3) := by decide +kernel
theorem dX5_markClosed_20 : decode cX5_markClosed 20 = .ok (.iload_n 1, 1) := by decide +kernel
theorem dX5_markClosed_21 : decode cX5_markClosed 21 = .ok (.invokestatic 54, 3) := by decide +kernel
theorem dX5_markClosed_24 : decode cX5_markClosed 24 = .ok (.return_, 1) := by decide +kernel
theorem dX5_markLost_0 : decode cX5_markLost 0 = .ok (.aload_n 0, 1) := by decide +kernel
theorem dX5_markLost_1 : decode cX5_markLost 1 = .ok (.getfield 15, 3) := by decide +kernel
theorem dX5_markLost_4 : decode cX5_markLost 4 = .ok (.aload_n 0, 1) := by decide +kernel
theorem dX5_markLost_5 : decode cX5_markLost 5 = .ok (.invokevirtual 38, 3) := by decide +kernel
theorem dX5_markLost_8 : decode cX5_markLost 8 = .ok (.iconst 2, 1) := by decide +kernel
theorem dX5_markLost_9 : decode cX5_markLost 9 = .ok (.invokestatic 54, 3) := by decide +kernel
theorem dX5_markLost_12 : decode cX5_markLost 12 = .ok (.aload_n 0, 1) := by decide +kernel
theorem dX5_markLost_13 : decode cX5_markLost 13 = .ok (.getfield 25, 3) := by decide +kernel
theorem dX5_markLost_16 : decode cX5_markLost 16 = .ok (.aload_n 0, 1) := by decide +kernel
theorem dX5_markLost_17 : decode cX5_markLost 17 = .ok (.invokevirtual 38, 3) := by decide +kernel
theorem dX5_markLost_20 : decode cX5_markLost 20 = .ok (.iconst 0, 1) := by decide +kernel
theorem dX5_markLost_21 : decode cX5_markLost 21 = .ok (.invokestatic 54, 3) := by decide +kernel
theorem dX5_markLost_24 : decode cX5_markLost 24 = .ok (.return_, 1) := by decide +kernel
theorem dX5_linkOf_0 : decode cX5_linkOf 0 = .ok (.aload_n 0, 1) := by decide +kernel
theorem dX5_linkOf_1 : decode cX5_linkOf 1 = .ok (.iload_n 1, 1) := by decide +kernel
theorem dX5_linkOf_2 : decode cX5_linkOf 2 = .ok (.invokevirtual 75, 3) := by decide +kernel
theorem dX5_linkOf_5 : decode cX5_linkOf 5 = .ok (.iconst (-1), 1) := by decide +kernel
theorem dX5_linkOf_6 : decode cX5_linkOf 6 = .ok (.if_icmp .ne 5, 3) := by decide +kernel
theorem dX5_linkOf_9 : decode cX5_linkOf 9 = .ok (.iconst (-1), 1) := by decide +kernel
theorem dX5_linkOf_10 : decode cX5_linkOf 10 = .ok (.ireturn, 1) := by decide +kernel
theorem dX5_linkOf_11 : decode cX5_linkOf 11 = .ok (.iload_n 1, 1) := by decide +kernel
theorem dX5_linkOf_12 : decode cX5_linkOf 12 = .ok (.iconst 1, 1) := by decide +kernel
theorem dX5_linkOf_13 : decode cX5_linkOf 13 = .ok (.isub, 1) := by decide +kernel
theorem dX5_linkOf_14 : decode cX5_linkOf 14 = .ok (.istore_n 2, 1) := by decide +kernel
theorem dX5_linkOf_15 : decode cX5_linkOf 15 = .ok (.iload_n 2, 1) := by decide +kernel
theorem dX5_linkOf_16 : decode cX5_linkOf 16 = .ok (.ifCond .lt 20, 3) := by decide +kernel
theorem dX5_linkOf_19 : decode cX5_linkOf 19 = .ok (.aload_n 0, 1) := by decide +kernel
theorem dX5_linkOf_20 : decode cX5_linkOf 20 = .ok (.iload_n 2, 1) := by decide +kernel
theorem dX5_linkOf_21 : decode cX5_linkOf 21 = .ok (.invokevirtual 42, 3) := by decide +kernel
theorem dX5_linkOf_24 : decode cX5_linkOf 24 = .ok (.iconst 1, 1) := by decide +kernel
theorem dX5_linkOf_25 : decode cX5_linkOf 25 = .ok (.if_icmp .ne 5, 3) := by decide +kernel
theorem dX5_linkOf_28 : decode cX5_linkOf 28 = .ok (.iload_n 2, 1) := by decide +kernel
theorem dX5_linkOf_29 : decode cX5_linkOf 29 = .ok (.ireturn, 1) := by decide +kernel
theorem dX5_linkOf_30 : decode cX5_linkOf 30 = .ok (.iinc 2 (-1), 3) := by decide +kernel
theorem dX5_linkOf_33 : decode cX5_linkOf 33 = .ok (.goto (-18), 3) := by decide +kernel
theorem dX5_linkOf_36 : decode cX5_linkOf 36 = .ok (.iconst (-1), 1) := by decide +kernel
theorem dX5_linkOf_37 : decode cX5_linkOf 37 = .ok (.ireturn, 1) := by decide +kernel
theorem dX6_init_0 : decode cX6_init 0 = .ok (.aload_n 0, 1) := by decide +kernel
theorem dX6_init_1 : decode cX6_init 1 = .ok (.invokespecial 3, 3) := by decide +kernel
theorem dX6_init_4 : decode cX6_init 4 = .ok (.aload_n 0, 1) := by decide +kernel
theorem dX6_init_5 : decode cX6_init 5 = .ok (.iconst 2, 1) := by decide +kernel
theorem dX6_init_6 : decode cX6_init 6 = .ok (.newarray .boolean, 2) := by decide +kernel
theorem dX6_init_8 : decode cX6_init 8 = .ok (.putfield 9, 3) := by decide +kernel
theorem dX6_init_11 : decode cX6_init 11 = .ok (.aload_n 0, 1) := by decide +kernel
theorem dX6_init_12 : decode cX6_init 12 = .ok (.iconst 2, 1) := by decide +kernel
theorem dX6_init_13 : decode cX6_init 13 = .ok (.anewarray 15, 3) := by decide +kernel
theorem dX6_init_16 : decode cX6_init 16 = .ok (.putfield 17, 3) := by decide +kernel
theorem dX6_init_19 : decode cX6_init 19 = .ok (.return_, 1) := by decide +kernel
theorem dX6_clear_0 : decode cX6_clear 0 = .ok (.aload_n 0, 1) := by decide +kernel
theorem dX6_clear_1 : decode cX6_clear 1 = .ok (.getfield 9, 3) := by decide +kernel
theorem dX6_clear_4 : decode cX6_clear 4 = .ok (.iconst 0, 1) := by decide +kernel
theorem dX6_clear_5 : decode cX6_clear 5 = .ok (.invokestatic 21, 3) := by decide +kernel
theorem dX6_clear_8 : decode cX6_clear 8 = .ok (.return_, 1) := by decide +kernel
theorem dX6_isStored_0 : decode cX6_isStored 0 = .ok (.aload_n 0, 1) := by decide +kernel
theorem dX6_isStored_1 : decode cX6_isStored 1 = .ok (.getfield 9, 3) := by decide +kernel
theorem dX6_isStored_4 : decode cX6_isStored 4 = .ok (.iload_n 1, 1) := by decide +kernel
theorem dX6_isStored_5 : decode cX6_isStored 5 = .ok (.invokestatic 25, 3) := by decide +kernel
theorem dX6_isStored_8 : decode cX6_isStored 8 = .ok (.ireturn, 1) := by decide +kernel
theorem dX6_store_0 : decode cX6_store 0 = .ok (.aload_n 0, 1) := by decide +kernel
theorem dX6_store_1 : decode cX6_store 1 = .ok (.getfield 9, 3) := by decide +kernel
theorem dX6_store_4 : decode cX6_store 4 = .ok (.iload_n 1, 1) := by decide +kernel
theorem dX6_store_5 : decode cX6_store 5 = .ok (.iconst 1, 1) := by decide +kernel
theorem dX6_store_6 : decode cX6_store 6 = .ok (.invokestatic 29, 3) := by decide +kernel
theorem dX6_store_9 : decode cX6_store 9 = .ok (.aload_n 0, 1) := by decide +kernel
theorem dX6_store_10 : decode cX6_store 10 = .ok (.getfield 17, 3) := by decide +kernel
theorem dX6_store_13 : decode cX6_store 13 = .ok (.iload_n 1, 1) := by decide +kernel
theorem dX6_store_14 : decode cX6_store 14 = .ok (.aload_n 2, 1) := by decide +kernel
theorem dX6_store_15 : decode cX6_store 15 = .ok (.invokestatic 33, 3) := by decide +kernel
theorem dX6_store_18 : decode cX6_store 18 = .ok (.return_, 1) := by decide +kernel
theorem dX6_load_0 : decode cX6_load 0 = .ok (.aload_n 0, 1) := by decide +kernel
theorem dX6_load_1 : decode cX6_load 1 = .ok (.getfield 17, 3) := by decide +kernel
theorem dX6_load_4 : decode cX6_load 4 = .ok (.iload_n 1, 1) := by decide +kernel
theorem dX6_load_5 : decode cX6_load 5 = .ok (.aload_n 2, 1) := by decide +kernel
theorem dX6_load_6 : decode cX6_load 6 = .ok (.invokestatic 37, 3) := by decide +kernel
theorem dX6_load_9 : decode cX6_load 9 = .ok (.return_, 1) := by decide +kernel
theorem dX7_init_0 : decode cX7_init 0 = .ok (.aload_n 0, 1) := by decide +kernel
theorem dX7_init_1 : decode cX7_init 1 = .ok (.invokespecial 3, 3) := by decide +kernel
theorem dX7_init_4 : decode cX7_init 4 = .ok (.aload_n 0, 1) := by decide +kernel
theorem dX7_init_5 : decode cX7_init 5 = .ok (.iconst 0, 1) := by decide +kernel
theorem dX7_init_6 : decode cX7_init 6 = .ok (.putfield 9, 3) := by decide +kernel
theorem dX7_init_9 : decode cX7_init 9 = .ok (.aload_n 0, 1) := by decide +kernel
theorem dX7_init_10 : decode cX7_init 10 = .ok (.bipush 96, 2) := by decide +kernel
theorem dX7_init_12 : decode cX7_init 12 = .ok (.newarray .int, 2) := by decide +kernel
theorem dX7_init_14 : decode cX7_init 14 = .ok (.putfield 15, 3) := by decide +kernel
theorem dX7_init_17 : decode cX7_init 17 = .ok (.aload_n 0, 1) := by decide +kernel
theorem dX7_init_18 : decode cX7_init 18 = .ok (.bipush 96, 2) := by decide +kernel
theorem dX7_init_20 : decode cX7_init 20 = .ok (.newarray .int, 2) := by decide +kernel
theorem dX7_init_22 : decode cX7_init 22 = .ok (.putfield 19, 3) := by decide +kernel
theorem dX7_init_25 : decode cX7_init 25 = .ok (.aload_n 0, 1) := by decide +kernel
theorem dX7_init_26 : decode cX7_init 26 = .ok (.bipush 96, 2) := by decide +kernel
theorem dX7_init_28 : decode cX7_init 28 = .ok (.newarray .int, 2) := by decide +kernel
theorem dX7_init_30 : decode cX7_init 30 = .ok (.putfield 22, 3) := by decide +kernel
theorem dX7_init_33 : decode cX7_init 33 = .ok (.aload_n 0, 1) := by decide +kernel
theorem dX7_init_34 : decode cX7_init 34 = .ok (.bipush 96, 2) := by decide +kernel
theorem dX7_init_36 : decode cX7_init 36 = .ok (.newarray .int, 2) := by decide +kernel
theorem dX7_init_38 : decode cX7_init 38 = .ok (.putfield 25, 3) := by decide +kernel
theorem dX7_init_41 : decode cX7_init 41 = .ok (.aload_n 0, 1) := by decide +kernel
theorem dX7_init_42 : decode cX7_init 42 = .ok (.bipush 96, 2) := by decide +kernel
theorem dX7_init_44 : decode cX7_init 44 = .ok (.newarray .int, 2) := by decide +kernel
theorem dX7_init_46 : decode cX7_init 46 = .ok (.putfield 28, 3) := by decide +kernel
theorem dX7_init_49 : decode cX7_init 49 = .ok (.return_, 1) := by decide +kernel
theorem dX7_takeFrom_0 : decode cX7_takeFrom 0 = .ok (.aload_n 0, 1) := by decide +kernel
theorem dX7_takeFrom_1 : decode cX7_takeFrom 1 = .ok (.aload_n 1, 1) := by decide +kernel
theorem dX7_takeFrom_2 : decode cX7_takeFrom 2 = .ok (.getfield 9, 3) := by decide +kernel
theorem dX7_takeFrom_5 : decode cX7_takeFrom 5 = .ok (.putfield 9, 3) := by decide +kernel
theorem dX7_takeFrom_8 : decode cX7_takeFrom 8 = .ok (.aload_n 1, 1) := by decide +kernel
theorem dX7_takeFrom_9 : decode cX7_takeFrom 9 = .ok (.getfield 15, 3) := by decide +kernel
theorem dX7_takeFrom_12 : decode cX7_takeFrom 12 = .ok (.aload_n 0, 1) := by decide +kernel
theorem dX7_takeFrom_13 : decode cX7_takeFrom 13 = .ok (.getfield 15, 3) := by decide +kernel
theorem dX7_takeFrom_16 : decode cX7_takeFrom 16 = .ok (.invokestatic 31, 3) := by decide +kernel
theorem dX7_takeFrom_19 : decode cX7_takeFrom 19 = .ok (.aload_n 1, 1) := by decide +kernel
theorem dX7_takeFrom_20 : decode cX7_takeFrom 20 = .ok (.getfield 19, 3) := by decide +kernel
theorem dX7_takeFrom_23 : decode cX7_takeFrom 23 = .ok (.aload_n 0, 1) := by decide +kernel
theorem dX7_takeFrom_24 : decode cX7_takeFrom 24 = .ok (.getfield 19, 3) := by decide +kernel
theorem dX7_takeFrom_27 : decode cX7_takeFrom 27 = .ok (.invokestatic 31, 3) := by decide +kernel
theorem dX7_takeFrom_30 : decode cX7_takeFrom 30 = .ok (.aload_n 1, 1) := by decide +kernel
theorem dX7_takeFrom_31 : decode cX7_takeFrom 31 = .ok (.getfield 22, 3) := by decide +kernel
theorem dX7_takeFrom_34 : decode cX7_takeFrom 34 = .ok (.aload_n 0, 1) := by decide +kernel
theorem dX7_takeFrom_35 : decode cX7_takeFrom 35 = .ok (.getfield 22, 3) := by decide +kernel
theorem dX7_takeFrom_38 : decode cX7_takeFrom 38 = .ok (.invokestatic 31, 3) := by decide +kernel
theorem dX7_takeFrom_41 : decode cX7_takeFrom 41 = .ok (.aload_n 1, 1) := by decide +kernel
theorem dX7_takeFrom_42 : decode cX7_takeFrom 42 = .ok (.getfield 25, 3) := by decide +kernel
theorem dX7_takeFrom_45 : decode cX7_takeFrom 45 = .ok (.aload_n 0, 1) := by decide +kernel
theorem dX7_takeFrom_46 : decode cX7_takeFrom 46 = .ok (.getfield 25, 3) := by decide +kernel
theorem dX7_takeFrom_49 : decode cX7_takeFrom 49 = .ok (.invokestatic 31, 3) := by decide +kernel
theorem dX7_takeFrom_52 : decode cX7_takeFrom 52 = .ok (.aload_n 1, 1) := by decide +kernel
theorem dX7_takeFrom_53 : decode cX7_takeFrom 53 = .ok (.getfield 28, 3) := by decide +kernel
theorem dX7_takeFrom_56 : decode cX7_takeFrom 56 = .ok (.aload_n 0, 1) := by decide +kernel
theorem dX7_takeFrom_57 : decode cX7_takeFrom 57 = .ok (.getfield 28, 3) := by decide +kernel
theorem dX7_takeFrom_60 : decode cX7_takeFrom 60 = .ok (.invokestatic 31, 3) := by decide +kernel
theorem dX7_takeFrom_63 : decode cX7_takeFrom 63 = .ok (.return_, 1) := by decide +kernel
theorem dX7_add_0 : decode cX7_add 0 = .ok (.aload_n 0, 1) := by decide +kernel
theorem dX7_add_1 : decode cX7_add 1 = .ok (.getfield 9, 3) := by decide +kernel
theorem dX7_add_4 : decode cX7_add 4 = .ok (.istore 6, 2) := by decide +kernel
theorem dX7_add_6 : decode cX7_add 6 = .ok (.aload_n 0, 1) := by decide +kernel
theorem dX7_add_7 : decode cX7_add 7 = .ok (.dup, 1) := by decide +kernel
theorem dX7_add_8 : decode cX7_add 8 = .ok (.getfield 9, 3) := by decide +kernel
theorem dX7_add_11 : decode cX7_add 11 = .ok (.iconst 1, 1) := by decide +kernel
theorem dX7_add_12 : decode cX7_add 12 = .ok (.iadd, 1) := by decide +kernel
theorem dX7_add_13 : decode cX7_add 13 = .ok (.putfield 9, 3) := by decide +kernel
theorem dX7_add_16 : decode cX7_add 16 = .ok (.aload_n 0, 1) := by decide +kernel
theorem dX7_add_17 : decode cX7_add 17 = .ok (.getfield 15, 3) := by decide +kernel
theorem dX7_add_20 : decode cX7_add 20 = .ok (.iload 6, 2) := by decide +kernel
theorem dX7_add_22 : decode cX7_add 22 = .ok (.iload_n 1, 1) := by decide +kernel
theorem dX7_add_23 : decode cX7_add 23 = .ok (.invokestatic 35, 3) := by decide +kernel
theorem dX7_add_26 : decode cX7_add 26 = .ok (.aload_n 0, 1) := by decide +kernel
theorem dX7_add_27 : decode cX7_add 27 = .ok (.getfield 19, 3) := by decide +kernel
theorem dX7_add_30 : decode cX7_add 30 = .ok (.iload 6, 2) := by decide +kernel
theorem dX7_add_32 : decode cX7_add 32 = .ok (.iload_n 2, 1) := by decide +kernel
theorem dX7_add_33 : decode cX7_add 33 = .ok (.invokestatic 35, 3) := by decide +kernel
theorem dX7_add_36 : decode cX7_add 36 = .ok (.aload_n 0, 1) := by decide +kernel
theorem dX7_add_37 : decode cX7_add 37 = .ok (.getfield 22, 3) := by decide +kernel
theorem dX7_add_40 : decode cX7_add 40 = .ok (.iload 6, 2) := by decide +kernel
theorem dX7_add_42 : decode cX7_add 42 = .ok (.iload_n 3, 1) := by decide +kernel
theorem dX7_add_43 : decode cX7_add 43 = .ok (.invokestatic 35, 3) := by decide +kernel
theorem dX7_add_46 : decode cX7_add 46 = .ok (.aload_n 0, 1) := by decide +kernel
theorem dX7_add_47 : decode cX7_add 47 = .ok (.getfield 25, 3) := by decide +kernel
theorem dX7_add_50 : decode cX7_add 50 = .ok (.iload 6, 2) := by decide +kernel
theorem dX7_add_52 : decode cX7_add 52 = .ok (.iload 4, 2) := by decide +kernel
theorem dX7_add_54 : decode cX7_add 54 = .ok (.invokestatic 35, 3) := by decide +kernel
theorem dX7_add_57 : decode cX7_add 57 = .ok (.aload_n 0, 1) := by decide +kernel
theorem dX7_add_58 : decode cX7_add 58 = .ok (.getfield 28, 3) := by decide +kernel
theorem dX7_add_61 : decode cX7_add 61 = .ok (.iload 6, 2) := by decide +kernel
theorem dX7_add_63 : decode cX7_add 63 = .ok (.iload 5, 2) := by decide +kernel
theorem dX7_add_65 : decode cX7_add 65 = .ok (.invokestatic 35, 3) := by decide +kernel
theorem dX7_add_68 : decode cX7_add 68 = .ok (.iload 6, 2) := by decide +kernel
theorem dX7_add_70 : decode cX7_add 70 = .ok (.ireturn, 1) := by decide +kernel
theorem dX7_fileOf_0 : decode cX7_fileOf 0 = .ok (.aload_n 0, 1) := by decide +kernel
theorem dX7_fileOf_1 : decode cX7_fileOf 1 = .ok (.getfield 15, 3) := by decide +kernel
theorem dX7_fileOf_4 : decode cX7_fileOf 4 = .ok (.iload_n 1, 1) := by decide +kernel
theorem dX7_fileOf_5 : decode cX7_fileOf 5 = .ok (.iconst (-1), 1) := by decide +kernel
theorem dX7_fileOf_6 : decode cX7_fileOf 6 = .ok (.invokestatic 39, 3) := by decide +kernel
theorem dX7_fileOf_9 : decode cX7_fileOf 9 = .ok (.ireturn, 1) := by decide +kernel
theorem dX7_firstOf_0 : decode cX7_firstOf 0 = .ok (.aload_n 0, 1) := by decide +kernel
theorem dX7_firstOf_1 : decode cX7_firstOf 1 = .ok (.getfield 19, 3) := by decide +kernel
theorem dX7_firstOf_4 : decode cX7_firstOf 4 = .ok (.iload_n 1, 1) := by decide +kernel
theorem dX7_firstOf_5 : decode cX7_firstOf 5 = .ok (.iconst (-1), 1) := by decide +kernel
theorem dX7_firstOf_6 : decode cX7_firstOf 6 = .ok (.invokestatic 39, 3) := by decide +kernel
theorem dX7_firstOf_9 : decode cX7_firstOf 9 = .ok (.ireturn, 1) := by decide +kernel
theorem dX7_lengthOf_0 : decode cX7_lengthOf 0 = .ok (.aload_n 0, 1) := by decide +kernel
theorem dX7_lengthOf_1 : decode cX7_lengthOf 1 = .ok (.getfield 22, 3) := by decide +kernel
theorem dX7_lengthOf_4 : decode cX7_lengthOf 4 = .ok (.iload_n 1, 1) := by decide +kernel
theorem dX7_lengthOf_5 : decode cX7_lengthOf 5 = .ok (.iconst 0, 1) := by decide +kernel
theorem dX7_lengthOf_6 : decode cX7_lengthOf 6 = .ok (.invokestatic 39, 3) := by decide +kernel
theorem dX7_lengthOf_9 : decode cX7_lengthOf 9 = .ok (.ireturn, 1) := by decide +kernel
theorem dX7_tagOf_0 : decode cX7_tagOf 0 = .ok (.aload_n 0, 1) := by decide +kernel
theorem dX7_tagOf_1 : decode cX7_tagOf 1 = .ok (.getfield 25, 3) := by decide +kernel
theorem dX7_tagOf_4 : decode cX7_tagOf 4 = .ok (.iload_n 1, 1) := by decide +kernel
theorem dX7_tagOf_5 : decode cX7_tagOf 5 = .ok (.iconst (-1), 1) := by decide +kernel
theorem dX7_tagOf_6 : decode cX7_tagOf 6 = .ok (.invokestatic 39, 3) := by decide +kernel
theorem dX7_tagOf_9 : decode cX7_tagOf 9 = .ok (.ireturn, 1) := by decide +kernel
theorem dX7_writerOf_0 : decode cX7_writerOf 0 = .ok (.aload_n 0, 1) := by decide +kernel
theorem dX7_writerOf_1 : decode cX7_writerOf 1 = .ok (.getfield 28, 3) := by decide +kernel
theorem dX7_writerOf_4 : decode cX7_writerOf 4 = .ok (.iload_n 1, 1) := by decide +kernel
theorem dX7_writerOf_5 : decode cX7_writerOf 5 = .ok (.iconst (-1), 1) := by decide +kernel
theorem dX7_writerOf_6 : decode cX7_writerOf 6 = .ok (.invokestatic 39, 3) := by decide +kernel
theorem dX7_writerOf_9 : decode cX7_writerOf 9 = .ok (.ireturn, 1) := by decide +kernel
theorem dX7_countOf_0 : decode cX7_countOf 0 = .ok (.iconst 0, 1) := by decide +kernel
theorem dX7_countOf_1 : decode cX7_countOf 1 = .ok (.istore_n 2, 1) := by decide +kernel
theorem dX7_countOf_2 : decode cX7_countOf 2 = .ok (.iconst 0, 1) := by decide +kernel
theorem dX7_countOf_3 : decode cX7_countOf 3 = .ok (.istore_n 3, 1) := by decide +kernel
theorem dX7_countOf_4 : decode cX7_countOf 4 = .ok (.iload_n 3, 1) := by decide +kernel
theorem dX7_countOf_5 : decode cX7_countOf 5 = .ok (.aload_n 0, 1) := by decide +kernel
theorem dX7_countOf_6 : decode cX7_countOf 6 = .ok (.getfield 9, 3) := by decide +kernel
theorem dX7_countOf_9 : decode cX7_countOf 9 = .ok (.if_icmp .ge 29, 3) := by decide +kernel
theorem dX7_countOf_12 : decode cX7_countOf 12 = .ok (.iload_n 2, 1) := by decide +kernel
theorem dX7_countOf_13 : decode cX7_countOf 13 = .ok (.aload_n 0, 1) := by decide +kernel
theorem dX7_countOf_14 : decode cX7_countOf 14 = .ok (.iload_n 3, 1) := by decide +kernel
theorem dX7_countOf_15 : decode cX7_countOf 15 = .ok (.invokevirtual 43, 3) := by decide +kernel
theorem dX7_countOf_18 : decode cX7_countOf 18 = .ok (.iload_n 1, 1) := by decide +kernel
theorem dX7_countOf_19 : decode cX7_countOf 19 = .ok (.if_icmp .ne 7, 3) := by decide +kernel
theorem dX7_countOf_22 : decode cX7_countOf 22 = .ok (.iconst 1, 1) := by decide +kernel
theorem dX7_countOf_23 : decode cX7_countOf 23 = .ok (.goto 4, 3) := by decide +kernel
theorem dX7_countOf_26 : decode cX7_countOf 26 = .ok (.iconst 0, 1) := by decide +kernel
theorem dX7_countOf_27 : decode cX7_countOf 27 = .ok (.invokestatic 47, 3) := by decide +kernel
theorem dX7_countOf_30 : decode cX7_countOf 30 = .ok (.iadd, 1) := by decide +kernel
theorem dX7_countOf_31 : decode cX7_countOf 31 = .ok (.istore_n 2, 1) := by decide +kernel
theorem dX7_countOf_32 : decode cX7_countOf 32 = .ok (.iinc 3 1, 3) := by decide +kernel
theorem dX7_countOf_35 : decode cX7_countOf 35 = .ok (.goto (-31), 3) := by decide +kernel
theorem dX7_countOf_38 : decode cX7_countOf 38 = .ok (.iload_n 2, 1) := by decide +kernel
theorem dX7_countOf_39 : decode cX7_countOf 39 = .ok (.ireturn, 1) := by decide +kernel
theorem dX8_init_0 : decode cX8_init 0 = .ok (.aload_n 0, 1) := by decide +kernel
theorem dX8_init_1 : decode cX8_init 1 = .ok (.invokespecial 3, 3) := by decide +kernel
theorem dX8_init_4 : decode cX8_init 4 = .ok (.aload_n 0, 1) := by decide +kernel
theorem dX8_init_5 : decode cX8_init 5 = .ok (.iconst 0, 1) := by decide +kernel
theorem dX8_init_6 : decode cX8_init 6 = .ok (.putfield 9, 3) := by decide +kernel
theorem dX8_init_9 : decode cX8_init 9 = .ok (.aload_n 0, 1) := by decide +kernel
theorem dX8_init_10 : decode cX8_init 10 = .ok (.bipush 12, 2) := by decide +kernel
theorem dX8_init_12 : decode cX8_init 12 = .ok (.newarray .boolean, 2) := by decide +kernel
theorem dX8_init_14 : decode cX8_init 14 = .ok (.putfield 15, 3) := by decide +kernel
theorem dX8_init_17 : decode cX8_init 17 = .ok (.aload_n 0, 1) := by decide +kernel
theorem dX8_init_18 : decode cX8_init 18 = .ok (.bipush 10, 2) := by decide +kernel
theorem dX8_init_20 : decode cX8_init 20 = .ok (.newarray .int, 2) := by decide +kernel
theorem dX8_init_22 : decode cX8_init 22 = .ok (.putfield 19, 3) := by decide +kernel
theorem dX8_init_25 : decode cX8_init 25 = .ok (.aload_n 0, 1) := by decide +kernel
theorem dX8_init_26 : decode cX8_init 26 = .ok (.bipush 10, 2) := by decide +kernel
theorem dX8_init_28 : decode cX8_init 28 = .ok (.newarray .int, 2) := by decide +kernel
theorem dX8_init_30 : decode cX8_init 30 = .ok (.putfield 23, 3) := by decide +kernel
theorem dX8_init_33 : decode cX8_init 33 = .ok (.aload_n 0, 1) := by decide +kernel
theorem dX8_init_34 : decode cX8_init 34 = .ok (.bipush 10, 2) := by decide +kernel
theorem dX8_init_36 : decode cX8_init 36 = .ok (.newarray .boolean, 2) := by decide +kernel
theorem dX8_init_38 : decode cX8_init 38 = .ok (.putfield 26, 3) := by decide +kernel
theorem dX8_init_41 : decode cX8_init 41 = .ok (.return_, 1) := by decide +kernel
theorem dX8_update_0 : decode cX8_update 0 = .ok (.aload_n 0, 1) := by decide +kernel
