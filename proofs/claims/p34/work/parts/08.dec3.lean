theorem dX0_canRelocate_61 : decode cX0_canRelocate 61 = .ok (.iload 4, 2) := by decide +kernel
theorem dX0_canRelocate_63 : decode cX0_canRelocate 63 = .ok (.invokevirtual 69, 3) := by decide +kernel
theorem dX0_canRelocate_66 : decode cX0_canRelocate 66 = .ok (.ifCond .ne 16, 3) := by decide +kernel
theorem dX0_canRelocate_69 : decode cX0_canRelocate 69 = .ok (.aload_n 0, 1) := by decide +kernel
theorem dX0_canRelocate_70 : decode cX0_canRelocate 70 = .ok (.iload 4, 2) := by decide +kernel
theorem dX0_canRelocate_72 : decode cX0_canRelocate 72 = .ok (.invokevirtual 73, 3) := by decide +kernel
theorem dX0_canRelocate_75 : decode cX0_canRelocate 75 = .ok (.ifCond .ne 7, 3) := by decide +kernel
theorem dX0_canRelocate_78 : decode cX0_canRelocate 78 = .ok (.iconst 1, 1) := by decide +kernel
theorem dX0_canRelocate_79 : decode cX0_canRelocate 79 = .ok (.goto 4, 3) := by decide +kernel
theorem dX0_canRelocate_82 : decode cX0_canRelocate 82 = .ok (.iconst 0, 1) := by decide +kernel
theorem dX0_canRelocate_83 : decode cX0_canRelocate 83 = .ok (.invokestatic 77, 3) := by decide +kernel
theorem dX0_canRelocate_86 : decode cX0_canRelocate 86 = .ok (.iadd, 1) := by decide +kernel
theorem dX0_canRelocate_87 : decode cX0_canRelocate 87 = .ok (.istore_n 3, 1) := by decide +kernel
theorem dX0_canRelocate_88 : decode cX0_canRelocate 88 = .ok (.iinc 4 1, 3) := by decide +kernel
theorem dX0_canRelocate_91 : decode cX0_canRelocate 91 = .ok (.goto (-41), 3) := by decide +kernel
theorem dX0_canRelocate_94 : decode cX0_canRelocate 94 = .ok (.iload_n 2, 1) := by decide +kernel
theorem dX0_canRelocate_95 : decode cX0_canRelocate 95 = .ok (.iload_n 3, 1) := by decide +kernel
theorem dX0_canRelocate_96 : decode cX0_canRelocate 96 = .ok (.if_icmp .gt 7, 3) := by decide +kernel
theorem dX0_canRelocate_99 : decode cX0_canRelocate 99 = .ok (.iconst 1, 1) := by decide +kernel
theorem dX0_canRelocate_100 : decode cX0_canRelocate 100 = .ok (.goto 4, 3) := by decide +kernel
theorem dX0_canRelocate_103 : decode cX0_canRelocate 103 = .ok (.iconst 0, 1) := by decide +kernel
theorem dX0_canRelocate_104 : decode cX0_canRelocate 104 = .ok (.ireturn, 1) := by decide +kernel
theorem dX0_writeNext_0 : decode cX0_writeNext 0 = .ok (.aload_n 0, 1) := by decide +kernel
theorem dX0_writeNext_1 : decode cX0_writeNext 1 = .ok (.getfield 18, 3) := by decide +kernel
theorem dX0_writeNext_4 : decode cX0_writeNext 4 = .ok (.istore 5, 2) := by decide +kernel
theorem dX0_writeNext_6 : decode cX0_writeNext 6 = .ok (.aload_n 0, 1) := by decide +kernel
theorem dX0_writeNext_7 : decode cX0_writeNext 7 = .ok (.dup, 1) := by decide +kernel
theorem dX0_writeNext_8 : decode cX0_writeNext 8 = .ok (.getfield 18, 3) := by decide +kernel
theorem dX0_writeNext_11 : decode cX0_writeNext 11 = .ok (.iconst 1, 1) := by decide +kernel
theorem dX0_writeNext_12 : decode cX0_writeNext 12 = .ok (.iadd, 1) := by decide +kernel
theorem dX0_writeNext_13 : decode cX0_writeNext 13 = .ok (.putfield 18, 3) := by decide +kernel
theorem dX0_writeNext_16 : decode cX0_writeNext 16 = .ok (.iload 5, 2) := by decide +kernel
theorem dX0_writeNext_18 : decode cX0_writeNext 18 = .ok (.istore 6, 2) := by decide +kernel
theorem dX0_writeNext_20 : decode cX0_writeNext 20 = .ok (.aload_n 0, 1) := by decide +kernel
theorem dX0_writeNext_21 : decode cX0_writeNext 21 = .ok (.iload 5, 2) := by decide +kernel
theorem dX0_writeNext_23 : decode cX0_writeNext 23 = .ok (.invokevirtual 73, 3) := by decide +kernel
theorem dX0_writeNext_26 : decode cX0_writeNext 26 = .ok (.ifCond .eq 41, 3) := by decide +kernel
theorem dX0_writeNext_29 : decode cX0_writeNext 29 = .ok (.aload_n 0, 1) := by decide +kernel
theorem dX0_writeNext_30 : decode cX0_writeNext 30 = .ok (.getfield 21, 3) := by decide +kernel
theorem dX0_writeNext_33 : decode cX0_writeNext 33 = .ok (.iload 5, 2) := by decide +kernel
theorem dX0_writeNext_35 : decode cX0_writeNext 35 = .ok (.iconst 3, 1) := by decide +kernel
theorem dX0_writeNext_36 : decode cX0_writeNext 36 = .ok (.invokestatic 94, 3) := by decide +kernel
theorem dX0_writeNext_39 : decode cX0_writeNext 39 = .ok (.aload_n 0, 1) := by decide +kernel
theorem dX0_writeNext_40 : decode cX0_writeNext 40 = .ok (.getfield 32, 3) := by decide +kernel
theorem dX0_writeNext_43 : decode cX0_writeNext 43 = .ok (.iload 5, 2) := by decide +kernel
theorem dX0_writeNext_45 : decode cX0_writeNext 45 = .ok (.iload_n 2, 1) := by decide +kernel
theorem dX0_writeNext_46 : decode cX0_writeNext 46 = .ok (.invokestatic 94, 3) := by decide +kernel
theorem dX0_writeNext_49 : decode cX0_writeNext 49 = .ok (.aload_n 0, 1) := by decide +kernel
theorem dX0_writeNext_50 : decode cX0_writeNext 50 = .ok (.iload_n 2, 1) := by decide +kernel
theorem dX0_writeNext_51 : decode cX0_writeNext 51 = .ok (.invokevirtual 98, 3) := by decide +kernel
theorem dX0_writeNext_54 : decode cX0_writeNext 54 = .ok (.istore 6, 2) := by decide +kernel
theorem dX0_writeNext_56 : decode cX0_writeNext 56 = .ok (.aload_n 0, 1) := by decide +kernel
theorem dX0_writeNext_57 : decode cX0_writeNext 57 = .ok (.getfield 41, 3) := by decide +kernel
theorem dX0_writeNext_60 : decode cX0_writeNext 60 = .ok (.iload 6, 2) := by decide +kernel
theorem dX0_writeNext_62 : decode cX0_writeNext 62 = .ok (.iload 5, 2) := by decide +kernel
theorem dX0_writeNext_64 : decode cX0_writeNext 64 = .ok (.invokestatic 94, 3) := by decide +kernel
theorem dX0_writeNext_67 : decode cX0_writeNext 67 = .ok (.aload_n 0, 1) := by decide +kernel
theorem dX0_writeNext_68 : decode cX0_writeNext 68 = .ok (.getfield 44, 3) := by decide +kernel
theorem dX0_writeNext_71 : decode cX0_writeNext 71 = .ok (.iload 5, 2) := by decide +kernel
theorem dX0_writeNext_73 : decode cX0_writeNext 73 = .ok (.iload 6, 2) := by decide +kernel
theorem dX0_writeNext_75 : decode cX0_writeNext 75 = .ok (.invokestatic 94, 3) := by decide +kernel
theorem dX0_writeNext_78 : decode cX0_writeNext 78 = .ok (.aload_n 0, 1) := by decide +kernel
theorem dX0_writeNext_79 : decode cX0_writeNext 79 = .ok (.getfield 21, 3) := by decide +kernel
theorem dX0_writeNext_82 : decode cX0_writeNext 82 = .ok (.iload 6, 2) := by decide +kernel
theorem dX0_writeNext_84 : decode cX0_writeNext 84 = .ok (.iload_n 1, 1) := by decide +kernel
theorem dX0_writeNext_85 : decode cX0_writeNext 85 = .ok (.invokestatic 94, 3) := by decide +kernel
theorem dX0_writeNext_88 : decode cX0_writeNext 88 = .ok (.aload_n 0, 1) := by decide +kernel
theorem dX0_writeNext_89 : decode cX0_writeNext 89 = .ok (.getfield 32, 3) := by decide +kernel
theorem dX0_writeNext_92 : decode cX0_writeNext 92 = .ok (.iload 6, 2) := by decide +kernel
theorem dX0_writeNext_94 : decode cX0_writeNext 94 = .ok (.iload_n 2, 1) := by decide +kernel
theorem dX0_writeNext_95 : decode cX0_writeNext 95 = .ok (.invokestatic 94, 3) := by decide +kernel
theorem dX0_writeNext_98 : decode cX0_writeNext 98 = .ok (.aload_n 0, 1) := by decide +kernel
theorem dX0_writeNext_99 : decode cX0_writeNext 99 = .ok (.getfield 35, 3) := by decide +kernel
theorem dX0_writeNext_102 : decode cX0_writeNext 102 = .ok (.iload 6, 2) := by decide +kernel
theorem dX0_writeNext_104 : decode cX0_writeNext 104 = .ok (.iload_n 3, 1) := by decide +kernel
theorem dX0_writeNext_105 : decode cX0_writeNext 105 = .ok (.invokestatic 94, 3) := by decide +kernel
theorem dX0_writeNext_108 : decode cX0_writeNext 108 = .ok (.aload_n 0, 1) := by decide +kernel
theorem dX0_writeNext_109 : decode cX0_writeNext 109 = .ok (.getfield 38, 3) := by decide +kernel
theorem dX0_writeNext_112 : decode cX0_writeNext 112 = .ok (.iload 6, 2) := by decide +kernel
theorem dX0_writeNext_114 : decode cX0_writeNext 114 = .ok (.iload 4, 2) := by decide +kernel
theorem dX0_writeNext_116 : decode cX0_writeNext 116 = .ok (.invokestatic 94, 3) := by decide +kernel
theorem dX0_writeNext_119 : decode cX0_writeNext 119 = .ok (.return_, 1) := by decide +kernel
theorem dX0_takeSpare_0 : decode cX0_takeSpare 0 = .ok (.aload_n 0, 1) := by decide +kernel
theorem dX0_takeSpare_1 : decode cX0_takeSpare 1 = .ok (.getfield 15, 3) := by decide +kernel
theorem dX0_takeSpare_4 : decode cX0_takeSpare 4 = .ok (.istore_n 2, 1) := by decide +kernel
theorem dX0_takeSpare_5 : decode cX0_takeSpare 5 = .ok (.iload_n 2, 1) := by decide +kernel
theorem dX0_takeSpare_6 : decode cX0_takeSpare 6 = .ok (.aload_n 0, 1) := by decide +kernel
theorem dX0_takeSpare_7 : decode cX0_takeSpare 7 = .ok (.getfield 9, 3) := by decide +kernel
theorem dX0_takeSpare_10 : decode cX0_takeSpare 10 = .ok (.if_icmp .ge 45, 3) := by decide +kernel
theorem dX0_takeSpare_13 : decode cX0_takeSpare 13 = .ok (.aload_n 0, 1) := by decide +kernel
theorem dX0_takeSpare_14 : decode cX0_takeSpare 14 = .ok (.iload_n 2, 1) := by decide +kernel
theorem dX0_takeSpare_15 : decode cX0_takeSpare 15 = .ok (.invokevirtual 69, 3) := by decide +kernel
theorem dX0_takeSpare_18 : decode cX0_takeSpare 18 = .ok (.ifCond .ne 31, 3) := by decide +kernel
theorem dX0_takeSpare_21 : decode cX0_takeSpare 21 = .ok (.aload_n 0, 1) := by decide +kernel
theorem dX0_takeSpare_22 : decode cX0_takeSpare 22 = .ok (.iload_n 2, 1) := by decide +kernel
theorem dX0_takeSpare_23 : decode cX0_takeSpare 23 = .ok (.invokevirtual 73, 3) := by decide +kernel
theorem dX0_takeSpare_26 : decode cX0_takeSpare 26 = .ok (.ifCond .ne 5, 3) := by decide +kernel
theorem dX0_takeSpare_29 : decode cX0_takeSpare 29 = .ok (.iload_n 2, 1) := by decide +kernel
theorem dX0_takeSpare_30 : decode cX0_takeSpare 30 = .ok (.ireturn, 1) := by decide +kernel
theorem dX0_takeSpare_31 : decode cX0_takeSpare 31 = .ok (.aload_n 0, 1) := by decide +kernel
theorem dX0_takeSpare_32 : decode cX0_takeSpare 32 = .ok (.getfield 21, 3) := by decide +kernel
theorem dX0_takeSpare_35 : decode cX0_takeSpare 35 = .ok (.iload_n 2, 1) := by decide +kernel
theorem dX0_takeSpare_36 : decode cX0_takeSpare 36 = .ok (.iconst 3, 1) := by decide +kernel
theorem dX0_takeSpare_37 : decode cX0_takeSpare 37 = .ok (.invokestatic 94, 3) := by decide +kernel
theorem dX0_takeSpare_40 : decode cX0_takeSpare 40 = .ok (.aload_n 0, 1) := by decide +kernel
theorem dX0_takeSpare_41 : decode cX0_takeSpare 41 = .ok (.getfield 32, 3) := by decide +kernel
theorem dX0_takeSpare_44 : decode cX0_takeSpare 44 = .ok (.iload_n 2, 1) := by decide +kernel
theorem dX0_takeSpare_45 : decode cX0_takeSpare 45 = .ok (.iload_n 1, 1) := by decide +kernel
theorem dX0_takeSpare_46 : decode cX0_takeSpare 46 = .ok (.invokestatic 94, 3) := by decide +kernel
theorem dX0_takeSpare_49 : decode cX0_takeSpare 49 = .ok (.iinc 2 1, 3) := by decide +kernel
theorem dX0_takeSpare_52 : decode cX0_takeSpare 52 = .ok (.goto (-47), 3) := by decide +kernel
theorem dX0_takeSpare_55 : decode cX0_takeSpare 55 = .ok (.iconst (-1), 1) := by decide +kernel
theorem dX0_takeSpare_56 : decode cX0_takeSpare 56 = .ok (.ireturn, 1) := by decide +kernel
theorem dX0_canRead_0 : decode cX0_canRead 0 = .ok (.iload_n 1, 1) := by decide +kernel
theorem dX0_canRead_1 : decode cX0_canRead 1 = .ok (.istore_n 3, 1) := by decide +kernel
theorem dX0_canRead_2 : decode cX0_canRead 2 = .ok (.iload_n 3, 1) := by decide +kernel
theorem dX0_canRead_3 : decode cX0_canRead 3 = .ok (.ifCond .lt 45, 3) := by decide +kernel
theorem dX0_canRead_6 : decode cX0_canRead 6 = .ok (.iload_n 3, 1) := by decide +kernel
theorem dX0_canRead_7 : decode cX0_canRead 7 = .ok (.iload_n 1, 1) := by decide +kernel
theorem dX0_canRead_8 : decode cX0_canRead 8 = .ok (.iload_n 2, 1) := by decide +kernel
theorem dX0_canRead_9 : decode cX0_canRead 9 = .ok (.iadd, 1) := by decide +kernel
theorem dX0_canRead_10 : decode cX0_canRead 10 = .ok (.if_icmp .ge 38, 3) := by decide +kernel
theorem dX0_canRead_13 : decode cX0_canRead 13 = .ok (.iload_n 3, 1) := by decide +kernel
theorem dX0_canRead_14 : decode cX0_canRead 14 = .ok (.aload_n 0, 1) := by decide +kernel
theorem dX0_canRead_15 : decode cX0_canRead 15 = .ok (.getfield 15, 3) := by decide +kernel
theorem dX0_canRead_18 : decode cX0_canRead 18 = .ok (.if_icmp .ge 30, 3) := by decide +kernel
theorem dX0_canRead_21 : decode cX0_canRead 21 = .ok (.aload_n 0, 1) := by decide +kernel
theorem dX0_canRead_22 : decode cX0_canRead 22 = .ok (.getfield 29, 3) := by decide +kernel
theorem dX0_canRead_25 : decode cX0_canRead 25 = .ok (.aload_n 0, 1) := by decide +kernel
theorem dX0_canRead_26 : decode cX0_canRead 26 = .ok (.getfield 44, 3) := by decide +kernel
theorem dX0_canRead_29 : decode cX0_canRead 29 = .ok (.iload_n 3, 1) := by decide +kernel
theorem dX0_canRead_30 : decode cX0_canRead 30 = .ok (.iconst (-1), 1) := by decide +kernel
theorem dX0_canRead_31 : decode cX0_canRead 31 = .ok (.invokestatic 61, 3) := by decide +kernel
theorem dX0_canRead_34 : decode cX0_canRead 34 = .ok (.invokestatic 65, 3) := by decide +kernel
theorem dX0_canRead_37 : decode cX0_canRead 37 = .ok (.ifCond .eq 5, 3) := by decide +kernel
theorem dX0_canRead_40 : decode cX0_canRead 40 = .ok (.iconst 0, 1) := by decide +kernel
theorem dX0_canRead_41 : decode cX0_canRead 41 = .ok (.ireturn, 1) := by decide +kernel
theorem dX0_canRead_42 : decode cX0_canRead 42 = .ok (.iinc 3 1, 3) := by decide +kernel
theorem dX0_canRead_45 : decode cX0_canRead 45 = .ok (.goto (-43), 3) := by decide +kernel
theorem dX0_canRead_48 : decode cX0_canRead 48 = .ok (.iload_n 1, 1) := by decide +kernel
theorem dX0_canRead_49 : decode cX0_canRead 49 = .ok (.iconst (-1), 1) := by decide +kernel
theorem dX0_canRead_50 : decode cX0_canRead 50 = .ok (.if_icmp .eq 7, 3) := by decide +kernel
theorem dX0_canRead_53 : decode cX0_canRead 53 = .ok (.iconst 1, 1) := by decide +kernel
theorem dX0_canRead_54 : decode cX0_canRead 54 = .ok (.goto 4, 3) := by decide +kernel
theorem dX0_canRead_57 : decode cX0_canRead 57 = .ok (.iconst 0, 1) := by decide +kernel
theorem dX0_canRead_58 : decode cX0_canRead 58 = .ok (.ireturn, 1) := by decide +kernel
theorem dX0_makeBad_0 : decode cX0_makeBad 0 = .ok (.aload_n 0, 1) := by decide +kernel
theorem dX0_makeBad_1 : decode cX0_makeBad 1 = .ok (.getfield 25, 3) := by decide +kernel
theorem dX0_makeBad_4 : decode cX0_makeBad 4 = .ok (.iload_n 1, 1) := by decide +kernel
theorem dX0_makeBad_5 : decode cX0_makeBad 5 = .ok (.iconst 1, 1) := by decide +kernel
theorem dX0_makeBad_6 : decode cX0_makeBad 6 = .ok (.invokestatic 101, 3) := by decide +kernel
theorem dX0_makeBad_9 : decode cX0_makeBad 9 = .ok (.return_, 1) := by decide +kernel
theorem dX0_damage_0 : decode cX0_damage 0 = .ok (.aload_n 0, 1) := by decide +kernel
theorem dX0_damage_1 : decode cX0_damage 1 = .ok (.iload_n 1, 1) := by decide +kernel
theorem dX0_damage_2 : decode cX0_damage 2 = .ok (.invokevirtual 69, 3) := by decide +kernel
theorem dX0_damage_5 : decode cX0_damage 5 = .ok (.ifCond .ne 10, 3) := by decide +kernel
theorem dX0_damage_8 : decode cX0_damage 8 = .ok (.aload_n 0, 1) := by decide +kernel
theorem dX0_damage_9 : decode cX0_damage 9 = .ok (.getfield 25, 3) := by decide +kernel
theorem dX0_damage_12 : decode cX0_damage 12 = .ok (.goto 7, 3) := by decide +kernel
theorem dX0_damage_15 : decode cX0_damage 15 = .ok (.aload_n 0, 1) := by decide +kernel
theorem dX0_damage_16 : decode cX0_damage 16 = .ok (.getfield 29, 3) := by decide +kernel
theorem dX0_damage_19 : decode cX0_damage 19 = .ok (.astore_n 2, 1) := by decide +kernel
theorem dX0_damage_20 : decode cX0_damage 20 = .ok (.aload_n 2, 1) := by decide +kernel
theorem dX0_damage_21 : decode cX0_damage 21 = .ok (.iload_n 1, 1) := by decide +kernel
theorem dX0_damage_22 : decode cX0_damage 22 = .ok (.invokestatic 65, 3) := by decide +kernel
theorem dX0_damage_25 : decode cX0_damage 25 = .ok (.istore_n 3, 1) := by decide +kernel
theorem dX0_damage_26 : decode cX0_damage 26 = .ok (.aload_n 2, 1) := by decide +kernel
theorem dX0_damage_27 : decode cX0_damage 27 = .ok (.iload_n 1, 1) := by decide +kernel
theorem dX0_damage_28 : decode cX0_damage 28 = .ok (.iconst 1, 1) := by decide +kernel
theorem dX0_damage_29 : decode cX0_damage 29 = .ok (.invokestatic 101, 3) := by decide +kernel
theorem dX0_damage_32 : decode cX0_damage 32 = .ok (.iload_n 3, 1) := by decide +kernel
theorem dX0_damage_33 : decode cX0_damage 33 = .ok (.ifCond .ne 7, 3) := by decide +kernel
theorem dX0_damage_36 : decode cX0_damage 36 = .ok (.iconst 1, 1) := by decide +kernel
theorem dX0_damage_37 : decode cX0_damage 37 = .ok (.goto 4, 3) := by decide +kernel
theorem dX0_damage_40 : decode cX0_damage 40 = .ok (.iconst 0, 1) := by decide +kernel
theorem dX0_damage_41 : decode cX0_damage 41 = .ok (.ireturn, 1) := by decide +kernel
theorem dX1_init_0 : decode cX1_init 0 = .ok (.aload_n 0, 1) := by decide +kernel
theorem dX1_init_1 : decode cX1_init 1 = .ok (.invokespecial 3, 3) := by decide +kernel
theorem dX1_init_4 : decode cX1_init 4 = .ok (.aload_n 0, 1) := by decide +kernel
theorem dX1_init_5 : decode cX1_init 5 = .ok (.new 9, 3) := by decide +kernel
theorem dX1_init_8 : decode cX1_init 8 = .ok (.dup, 1) := by decide +kernel
theorem dX1_init_9 : decode cX1_init 9 = .ok (.invokespecial 11, 3) := by decide +kernel
theorem dX1_init_12 : decode cX1_init 12 = .ok (.putfield 12, 3) := by decide +kernel
theorem dX1_init_15 : decode cX1_init 15 = .ok (.aload_n 0, 1) := by decide +kernel
theorem dX1_init_16 : decode cX1_init 16 = .ok (.new 18, 3) := by decide +kernel
theorem dX1_init_19 : decode cX1_init 19 = .ok (.dup, 1) := by decide +kernel
theorem dX1_init_20 : decode cX1_init 20 = .ok (.invokespecial 20, 3) := by decide +kernel
theorem dX1_init_23 : decode cX1_init 23 = .ok (.putfield 21, 3) := by decide +kernel
theorem dX1_init_26 : decode cX1_init 26 = .ok (.aload_n 0, 1) := by decide +kernel
theorem dX1_init_27 : decode cX1_init 27 = .ok (.new 25, 3) := by decide +kernel
theorem dX1_init_30 : decode cX1_init 30 = .ok (.dup, 1) := by decide +kernel
theorem dX1_init_31 : decode cX1_init 31 = .ok (.invokespecial 27, 3) := by decide +kernel
theorem dX1_init_34 : decode cX1_init 34 = .ok (.putfield 28, 3) := by decide +kernel
theorem dX1_init_37 : decode cX1_init 37 = .ok (.aload_n 0, 1) := by decide +kernel
theorem dX1_init_38 : decode cX1_init 38 = .ok (.iconst 0, 1) := by decide +kernel
theorem dX1_init_39 : decode cX1_init 39 = .ok (.putfield 32, 3) := by decide +kernel
theorem dX1_init_42 : decode cX1_init 42 = .ok (.aload_n 0, 1) := by decide +kernel
theorem dX1_init_43 : decode cX1_init 43 = .ok (.bipush 10, 2) := by decide +kernel
theorem dX1_init_45 : decode cX1_init 45 = .ok (.newarray .long, 2) := by decide +kernel
theorem dX1_init_47 : decode cX1_init 47 = .ok (.putfield 36, 3) := by decide +kernel
theorem dX1_init_50 : decode cX1_init 50 = .ok (.aload_n 0, 1) := by decide +kernel
theorem dX1_init_51 : decode cX1_init 51 = .ok (.iconst 0, 1) := by decide +kernel
theorem dX1_init_52 : decode cX1_init 52 = .ok (.putfield 40, 3) := by decide +kernel
theorem dX1_init_55 : decode cX1_init 55 = .ok (.aload_n 0, 1) := by decide +kernel
theorem dX1_init_56 : decode cX1_init 56 = .ok (.new 44, 3) := by decide +kernel
theorem dX1_init_59 : decode cX1_init 59 = .ok (.dup, 1) := by decide +kernel
theorem dX1_init_60 : decode cX1_init 60 = .ok (.invokespecial 46, 3) := by decide +kernel
theorem dX1_init_63 : decode cX1_init 63 = .ok (.putfield 47, 3) := by decide +kernel
theorem dX1_init_66 : decode cX1_init 66 = .ok (.return_, 1) := by decide +kernel
theorem dX1_format_0 : decode cX1_format 0 = .ok (.aload_n 0, 1) := by decide +kernel
theorem dX1_format_1 : decode cX1_format 1 = .ok (.getfield 12, 3) := by decide +kernel
theorem dX1_format_4 : decode cX1_format 4 = .ok (.iload_n 1, 1) := by decide +kernel
theorem dX1_format_5 : decode cX1_format 5 = .ok (.iload_n 2, 1) := by decide +kernel
theorem dX1_format_6 : decode cX1_format 6 = .ok (.invokevirtual 51, 3) := by decide +kernel
theorem dX1_format_9 : decode cX1_format 9 = .ok (.aload_n 0, 1) := by decide +kernel
theorem dX1_format_10 : decode cX1_format 10 = .ok (.getfield 21, 3) := by decide +kernel
theorem dX1_format_13 : decode cX1_format 13 = .ok (.iconst 0, 1) := by decide +kernel
theorem dX1_format_14 : decode cX1_format 14 = .ok (.putfield 55, 3) := by decide +kernel
theorem dX1_format_17 : decode cX1_format 17 = .ok (.aload_n 0, 1) := by decide +kernel
theorem dX1_format_18 : decode cX1_format 18 = .ok (.getfield 28, 3) := by decide +kernel
theorem dX1_format_21 : decode cX1_format 21 = .ok (.iconst 0, 1) := by decide +kernel
theorem dX1_format_22 : decode cX1_format 22 = .ok (.putfield 58, 3) := by decide +kernel
theorem dX1_format_25 : decode cX1_format 25 = .ok (.aload_n 0, 1) := by decide +kernel
theorem dX1_format_26 : decode cX1_format 26 = .ok (.iconst 0, 1) := by decide +kernel
theorem dX1_format_27 : decode cX1_format 27 = .ok (.putfield 32, 3) := by decide +kernel
theorem dX1_format_30 : decode cX1_format 30 = .ok (.aload_n 0, 1) := by decide +kernel
theorem dX1_format_31 : decode cX1_format 31 = .ok (.iconst 0, 1) := by decide +kernel
theorem dX1_format_32 : decode cX1_format 32 = .ok (.putfield 40, 3) := by decide +kernel
theorem dX1_format_35 : decode cX1_format 35 = .ok (.return_, 1) := by decide +kernel
theorem dX1_begin_0 : decode cX1_begin 0 = .ok (.aload_n 0, 1) := by decide +kernel
theorem dX1_begin_1 : decode cX1_begin 1 = .ok (.aload_n 1, 1) := by decide +kernel
theorem dX1_begin_2 : decode cX1_begin 2 = .ok (.getfield 59, 3) := by decide +kernel
theorem dX1_begin_5 : decode cX1_begin 5 = .ok (.aload_n 1, 1) := by decide +kernel
theorem dX1_begin_6 : decode cX1_begin 6 = .ok (.getfield 63, 3) := by decide +kernel
theorem dX1_begin_9 : decode cX1_begin 9 = .ok (.invokevirtual 66, 3) := by decide +kernel
theorem dX1_begin_12 : decode cX1_begin 12 = .ok (.aload_n 0, 1) := by decide +kernel
theorem dX1_begin_13 : decode cX1_begin 13 = .ok (.aload_n 1, 1) := by decide +kernel
theorem dX1_begin_14 : decode cX1_begin 14 = .ok (.getfield 67, 3) := by decide +kernel
theorem dX1_begin_17 : decode cX1_begin 17 = .ok (.putfield 32, 3) := by decide +kernel
theorem dX1_begin_20 : decode cX1_begin 20 = .ok (.aload_n 1, 1) := by decide +kernel
theorem dX1_begin_21 : decode cX1_begin 21 = .ok (.getfield 68, 3) := by decide +kernel
theorem dX1_begin_24 : decode cX1_begin 24 = .ok (.aload_n 0, 1) := by decide +kernel
theorem dX1_begin_25 : decode cX1_begin 25 = .ok (.getfield 36, 3) := by decide +kernel
theorem dX1_begin_28 : decode cX1_begin 28 = .ok (.invokestatic 69, 3) := by decide +kernel
theorem dX1_begin_31 : decode cX1_begin 31 = .ok (.return_, 1) := by decide +kernel
theorem dX1_reasonAgainstStatement_0 : decode cX1_reasonAgainstStatement 0 = .ok (.aload_n 1, 1) := by decide +kernel
theorem dX1_reasonAgainstStatement_1 : decode cX1_reasonAgainstStatement 1 = .ok (.iload_n 2, 1) := by decide +kernel
theorem dX1_reasonAgainstStatement_2 : decode cX1_reasonAgainstStatement 2 = .ok (.invokevirtual 73, 3) := by decide +kernel
theorem dX1_reasonAgainstStatement_5 : decode cX1_reasonAgainstStatement 5 = .ok (.tableswitch 57 1 3 #[27, 42, 52], 27) := by decide +kernel
theorem dX1_reasonAgainstStatement_32 : decode cX1_reasonAgainstStatement 32 = .ok (.aload_n 0, 1) := by decide +kernel
theorem dX1_reasonAgainstStatement_33 : decode cX1_reasonAgainstStatement 33 = .ok (.aload_n 1, 1) := by decide +kernel
theorem dX1_reasonAgainstStatement_34 : decode cX1_reasonAgainstStatement 34 = .ok (.iload_n 2, 1) := by decide +kernel
theorem dX1_reasonAgainstStatement_35 : decode cX1_reasonAgainstStatement 35 = .ok (.invokevirtual 77, 3) := by decide +kernel
theorem dX1_reasonAgainstStatement_38 : decode cX1_reasonAgainstStatement 38 = .ok (.aload_n 1, 1) := by decide +kernel
theorem dX1_reasonAgainstStatement_39 : decode cX1_reasonAgainstStatement 39 = .ok (.iload_n 2, 1) := by decide +kernel
theorem dX1_reasonAgainstStatement_40 : decode cX1_reasonAgainstStatement 40 = .ok (.invokevirtual 80, 3) := by decide +kernel
theorem dX1_reasonAgainstStatement_43 : decode cX1_reasonAgainstStatement 43 = .ok (.invokevirtual 83, 3) := by decide +kernel
theorem dX1_reasonAgainstStatement_46 : decode cX1_reasonAgainstStatement 46 = .ok (.ireturn, 1) := by decide +kernel
theorem dX1_reasonAgainstStatement_47 : decode cX1_reasonAgainstStatement 47 = .ok (.aload_n 0, 1) := by decide +kernel
theorem dX1_reasonAgainstStatement_48 : decode cX1_reasonAgainstStatement 48 = .ok (.aload_n 1, 1) := by decide +kernel
theorem dX1_reasonAgainstStatement_49 : decode cX1_reasonAgainstStatement 49 = .ok (.iload_n 2, 1) := by decide +kernel
theorem dX1_reasonAgainstStatement_50 : decode cX1_reasonAgainstStatement 50 = .ok (.invokevirtual 77, 3) := by decide +kernel
theorem dX1_reasonAgainstStatement_53 : decode cX1_reasonAgainstStatement 53 = .ok (.invokevirtual 87, 3) := by decide +kernel
theorem dX1_reasonAgainstStatement_56 : decode cX1_reasonAgainstStatement 56 = .ok (.ireturn, 1) := by decide +kernel
theorem dX1_reasonAgainstStatement_57 : decode cX1_reasonAgainstStatement 57 = .ok (.aload_n 0, 1) := by decide +kernel
theorem dX1_reasonAgainstStatement_58 : decode cX1_reasonAgainstStatement 58 = .ok (.invokevirtual 90, 3) := by decide +kernel
theorem dX1_reasonAgainstStatement_61 : decode cX1_reasonAgainstStatement 61 = .ok (.ireturn, 1) := by decide +kernel
theorem dX1_reasonAgainstStatement_62 : decode cX1_reasonAgainstStatement 62 = .ok (.iconst 0, 1) := by decide +kernel
theorem dX1_reasonAgainstStatement_63 : decode cX1_reasonAgainstStatement 63 = .ok (.ireturn, 1) := by decide +kernel
theorem dX1_doStatement_0 : decode cX1_doStatement 0 = .ok (.aload_n 1, 1) := by decide +kernel
theorem dX1_doStatement_1 : decode cX1_doStatement 1 = .ok (.iload_n 2, 1) := by decide +kernel
theorem dX1_doStatement_2 : decode cX1_doStatement 2 = .ok (.invokevirtual 73, 3) := by decide +kernel
theorem dX1_doStatement_5 : decode cX1_doStatement 5 = .ok (.tableswitch 70 1 3 #[27, 50, 62], 27) := by decide +kernel
theorem dX1_doStatement_32 : decode cX1_doStatement 32 = .ok (.aload_n 0, 1) := by decide +kernel
theorem dX1_doStatement_33 : decode cX1_doStatement 33 = .ok (.aload_n 1, 1) := by decide +kernel
theorem dX1_doStatement_34 : decode cX1_doStatement 34 = .ok (.iload_n 2, 1) := by decide +kernel
theorem dX1_doStatement_35 : decode cX1_doStatement 35 = .ok (.invokevirtual 77, 3) := by decide +kernel
theorem dX1_doStatement_38 : decode cX1_doStatement 38 = .ok (.aload_n 1, 1) := by decide +kernel
theorem dX1_doStatement_39 : decode cX1_doStatement 39 = .ok (.iload_n 2, 1) := by decide +kernel
theorem dX1_doStatement_40 : decode cX1_doStatement 40 = .ok (.invokevirtual 80, 3) := by decide +kernel
theorem dX1_doStatement_43 : decode cX1_doStatement 43 = .ok (.aload_n 1, 1) := by decide +kernel
theorem dX1_doStatement_44 : decode cX1_doStatement 44 = .ok (.iload_n 2, 1) := by decide +kernel
theorem dX1_doStatement_45 : decode cX1_doStatement 45 = .ok (.invokevirtual 94, 3) := by decide +kernel
theorem dX1_doStatement_48 : decode cX1_doStatement 48 = .ok (.invokevirtual 97, 3) := by decide +kernel
theorem dX1_doStatement_51 : decode cX1_doStatement 51 = .ok (.pop, 1) := by decide +kernel
theorem dX1_doStatement_52 : decode cX1_doStatement 52 = .ok (.goto 35, 3) := by decide +kernel
theorem dX1_doStatement_55 : decode cX1_doStatement 55 = .ok (.aload_n 0, 1) := by decide +kernel
theorem dX1_doStatement_56 : decode cX1_doStatement 56 = .ok (.aload_n 1, 1) := by decide +kernel
theorem dX1_doStatement_57 : decode cX1_doStatement 57 = .ok (.iload_n 2, 1) := by decide +kernel
theorem dX1_doStatement_58 : decode cX1_doStatement 58 = .ok (.invokevirtual 77, 3) := by decide +kernel
theorem dX1_doStatement_61 : decode cX1_doStatement 61 = .ok (.invokevirtual 101, 3) := by decide +kernel
theorem dX1_doStatement_64 : decode cX1_doStatement 64 = .ok (.goto 23, 3) := by decide +kernel
theorem dX1_doStatement_67 : decode cX1_doStatement 67 = .ok (.aload_n 0, 1) := by decide +kernel
theorem dX1_doStatement_68 : decode cX1_doStatement 68 = .ok (.invokevirtual 105, 3) := by decide +kernel
theorem dX1_doStatement_71 : decode cX1_doStatement 71 = .ok (.pop, 1) := by decide +kernel
theorem dX1_doStatement_72 : decode cX1_doStatement 72 = .ok (.goto 15, 3) := by decide +kernel
theorem dX1_doStatement_75 : decode cX1_doStatement 75 = .ok (.aload_n 0, 1) := by decide +kernel
theorem dX1_doStatement_76 : decode cX1_doStatement 76 = .ok (.getfield 12, 3) := by decide +kernel
theorem dX1_doStatement_79 : decode cX1_doStatement 79 = .ok (.aload_n 1, 1) := by decide +kernel
theorem dX1_doStatement_80 : decode cX1_doStatement 80 = .ok (.iload_n 2, 1) := by decide +kernel
theorem dX1_doStatement_81 : decode cX1_doStatement 81 = .ok (.invokevirtual 77, 3) := by decide +kernel
theorem dX1_doStatement_84 : decode cX1_doStatement 84 = .ok (.invokevirtual 108, 3) := by decide +kernel
theorem dX1_doStatement_87 : decode cX1_doStatement 87 = .ok (.return_, 1) := by decide +kernel
theorem dX1_takeFrom_0 : decode cX1_takeFrom 0 = .ok (.aload_n 0, 1) := by decide +kernel
theorem dX1_takeFrom_1 : decode cX1_takeFrom 1 = .ok (.getfield 12, 3) := by decide +kernel
theorem dX1_takeFrom_4 : decode cX1_takeFrom 4 = .ok (.aload_n 1, 1) := by decide +kernel
theorem dX1_takeFrom_5 : decode cX1_takeFrom 5 = .ok (.getfield 12, 3) := by decide +kernel
theorem dX1_takeFrom_8 : decode cX1_takeFrom 8 = .ok (.invokevirtual 111, 3) := by decide +kernel
theorem dX1_takeFrom_11 : decode cX1_takeFrom 11 = .ok (.aload_n 0, 1) := by decide +kernel
theorem dX1_takeFrom_12 : decode cX1_takeFrom 12 = .ok (.getfield 21, 3) := by decide +kernel
theorem dX1_takeFrom_15 : decode cX1_takeFrom 15 = .ok (.aload_n 1, 1) := by decide +kernel
theorem dX1_takeFrom_16 : decode cX1_takeFrom 16 = .ok (.getfield 21, 3) := by decide +kernel
theorem dX1_takeFrom_19 : decode cX1_takeFrom 19 = .ok (.invokevirtual 115, 3) := by decide +kernel
theorem dX1_takeFrom_22 : decode cX1_takeFrom 22 = .ok (.aload_n 0, 1) := by decide +kernel
theorem dX1_takeFrom_23 : decode cX1_takeFrom 23 = .ok (.getfield 28, 3) := by decide +kernel
theorem dX1_takeFrom_26 : decode cX1_takeFrom 26 = .ok (.aload_n 1, 1) := by decide +kernel
theorem dX1_takeFrom_27 : decode cX1_takeFrom 27 = .ok (.getfield 28, 3) := by decide +kernel
theorem dX1_takeFrom_30 : decode cX1_takeFrom 30 = .ok (.invokevirtual 118, 3) := by decide +kernel
theorem dX1_takeFrom_33 : decode cX1_takeFrom 33 = .ok (.aload_n 0, 1) := by decide +kernel
theorem dX1_takeFrom_34 : decode cX1_takeFrom 34 = .ok (.aload_n 1, 1) := by decide +kernel
theorem dX1_takeFrom_35 : decode cX1_takeFrom 35 = .ok (.getfield 32, 3) := by decide +kernel
theorem dX1_takeFrom_38 : decode cX1_takeFrom 38 = .ok (.putfield 32, 3) := by decide +kernel
theorem dX1_takeFrom_41 : decode cX1_takeFrom 41 = .ok (.aload_n 1, 1) := by decide +kernel
theorem dX1_takeFrom_42 : decode cX1_takeFrom 42 = .ok (.getfield 36, 3) := by decide +kernel
theorem dX1_takeFrom_45 : decode cX1_takeFrom 45 = .ok (.aload_n 0, 1) := by decide +kernel
theorem dX1_takeFrom_46 : decode cX1_takeFrom 46 = .ok (.getfield 36, 3) := by decide +kernel
theorem dX1_takeFrom_49 : decode cX1_takeFrom 49 = .ok (.invokestatic 69, 3) := by decide +kernel
theorem dX1_takeFrom_52 : decode cX1_takeFrom 52 = .ok (.aload_n 0, 1) := by decide +kernel
theorem dX1_takeFrom_53 : decode cX1_takeFrom 53 = .ok (.aload_n 1, 1) := by decide +kernel
theorem dX1_takeFrom_54 : decode cX1_takeFrom 54 = .ok (.getfield 40, 3) := by decide +kernel
theorem dX1_takeFrom_57 : decode cX1_takeFrom 57 = .ok (.putfield 40, 3) := by decide +kernel
theorem dX1_takeFrom_60 : decode cX1_takeFrom 60 = .ok (.return_, 1) := by decide +kernel
theorem dX1_canReadVersion_0 : decode cX1_canReadVersion 0 = .ok (.aload_n 0, 1) := by decide +kernel
theorem dX1_canReadVersion_1 : decode cX1_canReadVersion 1 = .ok (.getfield 12, 3) := by decide +kernel
theorem dX1_canReadVersion_4 : decode cX1_canReadVersion 4 = .ok (.aload_n 0, 1) := by decide +kernel
theorem dX1_canReadVersion_5 : decode cX1_canReadVersion 5 = .ok (.getfield 21, 3) := by decide +kernel
theorem dX1_canReadVersion_8 : decode cX1_canReadVersion 8 = .ok (.iload_n 1, 1) := by decide +kernel
theorem dX1_canReadVersion_9 : decode cX1_canReadVersion 9 = .ok (.invokevirtual 125, 3) := by decide +kernel
theorem dX1_canReadVersion_12 : decode cX1_canReadVersion 12 = .ok (.aload_n 0, 1) := by decide +kernel
theorem dX1_canReadVersion_13 : decode cX1_canReadVersion 13 = .ok (.getfield 21, 3) := by decide +kernel
theorem dX1_canReadVersion_16 : decode cX1_canReadVersion 16 = .ok (.iload_n 1, 1) := by decide +kernel
theorem dX1_canReadVersion_17 : decode cX1_canReadVersion 17 = .ok (.invokevirtual 128, 3) := by decide +kernel
theorem dX1_canReadVersion_20 : decode cX1_canReadVersion 20 = .ok (.invokevirtual 129, 3) := by decide +kernel
theorem dX1_canReadVersion_23 : decode cX1_canReadVersion 23 = .ok (.ireturn, 1) := by decide +kernel
theorem dX1_relocatedBlock_0 : decode cX1_relocatedBlock 0 = .ok (.iconst 0, 1) := by decide +kernel
theorem dX1_relocatedBlock_1 : decode cX1_relocatedBlock 1 = .ok (.istore_n 2, 1) := by decide +kernel
theorem dX1_relocatedBlock_2 : decode cX1_relocatedBlock 2 = .ok (.iconst 0, 1) := by decide +kernel
theorem dX1_relocatedBlock_3 : decode cX1_relocatedBlock 3 = .ok (.istore_n 3, 1) := by decide +kernel
theorem dX1_relocatedBlock_4 : decode cX1_relocatedBlock 4 = .ok (.iload_n 1, 1) := by decide +kernel
theorem dX1_relocatedBlock_5 : decode cX1_relocatedBlock 5 = .ok (.ifCond .lt 61, 3) := by decide +kernel
theorem dX1_relocatedBlock_8 : decode cX1_relocatedBlock 8 = .ok (.iload_n 3, 1) := by decide +kernel
theorem dX1_relocatedBlock_9 : decode cX1_relocatedBlock 9 = .ok (.aload_n 0, 1) := by decide +kernel
theorem dX1_relocatedBlock_10 : decode cX1_relocatedBlock 10 = .ok (.getfield 12, 3) := by decide +kernel
theorem dX1_relocatedBlock_13 : decode cX1_relocatedBlock 13 = .ok (.getfield 133, 3) := by decide +kernel
theorem dX1_relocatedBlock_16 : decode cX1_relocatedBlock 16 = .ok (.if_icmp .ge 50, 3) := by decide +kernel
theorem dX1_relocatedBlock_19 : decode cX1_relocatedBlock 19 = .ok (.aload_n 0, 1) := by decide +kernel
theorem dX1_relocatedBlock_20 : decode cX1_relocatedBlock 20 = .ok (.getfield 12, 3) := by decide +kernel
theorem dX1_relocatedBlock_23 : decode cX1_relocatedBlock 23 = .ok (.iload_n 3, 1) := by decide +kernel
theorem dX1_relocatedBlock_24 : decode cX1_relocatedBlock 24 = .ok (.invokevirtual 136, 3) := by decide +kernel
theorem dX1_relocatedBlock_27 : decode cX1_relocatedBlock 27 = .ok (.iconst 3, 1) := by decide +kernel
theorem dX1_relocatedBlock_28 : decode cX1_relocatedBlock 28 = .ok (.if_icmp .ne 32, 3) := by decide +kernel
theorem dX1_relocatedBlock_31 : decode cX1_relocatedBlock 31 = .ok (.aload_n 0, 1) := by decide +kernel
theorem dX1_relocatedBlock_32 : decode cX1_relocatedBlock 32 = .ok (.getfield 28, 3) := by decide +kernel
theorem dX1_relocatedBlock_35 : decode cX1_relocatedBlock 35 = .ok (.aload_n 0, 1) := by decide +kernel
theorem dX1_relocatedBlock_36 : decode cX1_relocatedBlock 36 = .ok (.getfield 12, 3) := by decide +kernel
theorem dX1_relocatedBlock_39 : decode cX1_relocatedBlock 39 = .ok (.iload_n 3, 1) := by decide +kernel
theorem dX1_relocatedBlock_40 : decode cX1_relocatedBlock 40 = .ok (.invokevirtual 137, 3) := by decide +kernel
theorem dX1_relocatedBlock_43 : decode cX1_relocatedBlock 43 = .ok (.invokevirtual 140, 3) := by decide +kernel
theorem dX1_relocatedBlock_46 : decode cX1_relocatedBlock 46 = .ok (.iconst 2, 1) := by decide +kernel
theorem dX1_relocatedBlock_47 : decode cX1_relocatedBlock 47 = .ok (.if_icmp .eq 13, 3) := by decide +kernel
theorem dX1_relocatedBlock_50 : decode cX1_relocatedBlock 50 = .ok (.iload_n 2, 1) := by decide +kernel
theorem dX1_relocatedBlock_51 : decode cX1_relocatedBlock 51 = .ok (.iload_n 1, 1) := by decide +kernel
theorem dX1_relocatedBlock_52 : decode cX1_relocatedBlock 52 = .ok (.if_icmp .ne 5, 3) := by decide +kernel
theorem dX1_relocatedBlock_55 : decode cX1_relocatedBlock 55 = .ok (.iload_n 3, 1) := by decide +kernel
theorem dX1_relocatedBlock_56 : decode cX1_relocatedBlock 56 = .ok (.ireturn, 1) := by decide +kernel
theorem dX1_relocatedBlock_57 : decode cX1_relocatedBlock 57 = .ok (.iinc 2 1, 3) := by decide +kernel
theorem dX1_relocatedBlock_60 : decode cX1_relocatedBlock 60 = .ok (.iinc 3 1, 3) := by decide +kernel
theorem dX1_relocatedBlock_63 : decode cX1_relocatedBlock 63 = .ok (.goto (-59), 3) := by decide +kernel
theorem dX1_relocatedBlock_66 : decode cX1_relocatedBlock 66 = .ok (.iconst (-1), 1) := by decide +kernel
theorem dX1_relocatedBlock_67 : decode cX1_relocatedBlock 67 = .ok (.ireturn, 1) := by decide +kernel
theorem dX1_filesLostBy_0 : decode cX1_filesLostBy 0 = .ok (.aload_n 0, 1) := by decide +kernel
theorem dX1_filesLostBy_1 : decode cX1_filesLostBy 1 = .ok (.getfield 12, 3) := by decide +kernel
theorem dX1_filesLostBy_4 : decode cX1_filesLostBy 4 = .ok (.iload_n 1, 1) := by decide +kernel
theorem dX1_filesLostBy_5 : decode cX1_filesLostBy 5 = .ok (.invokevirtual 136, 3) := by decide +kernel
theorem dX1_filesLostBy_8 : decode cX1_filesLostBy 8 = .ok (.ifCond .eq 14, 3) := by decide +kernel
theorem dX1_filesLostBy_11 : decode cX1_filesLostBy 11 = .ok (.aload_n 0, 1) := by decide +kernel
theorem dX1_filesLostBy_12 : decode cX1_filesLostBy 12 = .ok (.getfield 12, 3) := by decide +kernel
theorem dX1_filesLostBy_15 : decode cX1_filesLostBy 15 = .ok (.iload_n 1, 1) := by decide +kernel
theorem dX1_filesLostBy_16 : decode cX1_filesLostBy 16 = .ok (.invokevirtual 143, 3) := by decide +kernel
theorem dX1_filesLostBy_19 : decode cX1_filesLostBy 19 = .ok (.ifCond .eq 5, 3) := by decide +kernel
theorem dX1_filesLostBy_22 : decode cX1_filesLostBy 22 = .ok (.iconst 0, 1) := by decide +kernel
theorem dX1_filesLostBy_23 : decode cX1_filesLostBy 23 = .ok (.ireturn, 1) := by decide +kernel
theorem dX1_filesLostBy_24 : decode cX1_filesLostBy 24 = .ok (.aload_n 0, 1) := by decide +kernel
theorem dX1_filesLostBy_25 : decode cX1_filesLostBy 25 = .ok (.getfield 12, 3) := by decide +kernel
theorem dX1_filesLostBy_28 : decode cX1_filesLostBy 28 = .ok (.getfield 147, 3) := by decide +kernel
theorem dX1_filesLostBy_31 : decode cX1_filesLostBy 31 = .ok (.iload_n 1, 1) := by decide +kernel
theorem dX1_filesLostBy_32 : decode cX1_filesLostBy 32 = .ok (.iconst 1, 1) := by decide +kernel
theorem dX1_filesLostBy_33 : decode cX1_filesLostBy 33 = .ok (.invokestatic 151, 3) := by decide +kernel
theorem dX1_filesLostBy_36 : decode cX1_filesLostBy 36 = .ok (.aload_n 3, 1) := by decide +kernel
theorem dX1_filesLostBy_37 : decode cX1_filesLostBy 37 = .ok (.aload_n 0, 1) := by decide +kernel
theorem dX1_filesLostBy_38 : decode cX1_filesLostBy 38 = .ok (.invokevirtual 155, 3) := by decide +kernel
theorem dX1_filesLostBy_41 : decode cX1_filesLostBy 41 = .ok (.pop, 1) := by decide +kernel
theorem dX1_filesLostBy_42 : decode cX1_filesLostBy 42 = .ok (.aload_n 0, 1) := by decide +kernel
theorem dX1_filesLostBy_43 : decode cX1_filesLostBy 43 = .ok (.getfield 12, 3) := by decide +kernel
theorem dX1_filesLostBy_46 : decode cX1_filesLostBy 46 = .ok (.getfield 147, 3) := by decide +kernel
theorem dX1_filesLostBy_49 : decode cX1_filesLostBy 49 = .ok (.iload_n 1, 1) := by decide +kernel
theorem dX1_filesLostBy_50 : decode cX1_filesLostBy 50 = .ok (.iconst 0, 1) := by decide +kernel
theorem dX1_filesLostBy_51 : decode cX1_filesLostBy 51 = .ok (.invokestatic 151, 3) := by decide +kernel
theorem dX1_filesLostBy_54 : decode cX1_filesLostBy 54 = .ok (.iconst 0, 1) := by decide +kernel
theorem dX1_filesLostBy_55 : decode cX1_filesLostBy 55 = .ok (.istore 4, 2) := by decide +kernel
theorem dX1_filesLostBy_57 : decode cX1_filesLostBy 57 = .ok (.iconst 0, 1) := by decide +kernel
theorem dX1_filesLostBy_58 : decode cX1_filesLostBy 58 = .ok (.istore 5, 2) := by decide +kernel
theorem dX1_filesLostBy_60 : decode cX1_filesLostBy 60 = .ok (.iload 5, 2) := by decide +kernel
theorem dX1_filesLostBy_62 : decode cX1_filesLostBy 62 = .ok (.aload_n 0, 1) := by decide +kernel
theorem dX1_filesLostBy_63 : decode cX1_filesLostBy 63 = .ok (.getfield 32, 3) := by decide +kernel
theorem dX1_filesLostBy_66 : decode cX1_filesLostBy 66 = .ok (.if_icmp .ge 40, 3) := by decide +kernel
theorem dX1_filesLostBy_69 : decode cX1_filesLostBy 69 = .ok (.iload 4, 2) := by decide +kernel
theorem dX1_filesLostBy_71 : decode cX1_filesLostBy 71 = .ok (.aload_n 2, 1) := by decide +kernel
theorem dX1_filesLostBy_72 : decode cX1_filesLostBy 72 = .ok (.iload 5, 2) := by decide +kernel
theorem dX1_filesLostBy_74 : decode cX1_filesLostBy 74 = .ok (.invokevirtual 159, 3) := by decide +kernel
theorem dX1_filesLostBy_77 : decode cX1_filesLostBy 77 = .ok (.ifCond .eq 16, 3) := by decide +kernel
theorem dX1_filesLostBy_80 : decode cX1_filesLostBy 80 = .ok (.aload_n 3, 1) := by decide +kernel
theorem dX1_filesLostBy_81 : decode cX1_filesLostBy 81 = .ok (.iload 5, 2) := by decide +kernel
theorem dX1_filesLostBy_83 : decode cX1_filesLostBy 83 = .ok (.invokevirtual 159, 3) := by decide +kernel
theorem dX1_filesLostBy_86 : decode cX1_filesLostBy 86 = .ok (.ifCond .ne 7, 3) := by decide +kernel
theorem dX1_filesLostBy_89 : decode cX1_filesLostBy 89 = .ok (.iconst 1, 1) := by decide +kernel
theorem dX1_filesLostBy_90 : decode cX1_filesLostBy 90 = .ok (.goto 4, 3) := by decide +kernel
theorem dX1_filesLostBy_93 : decode cX1_filesLostBy 93 = .ok (.iconst 0, 1) := by decide +kernel
theorem dX1_filesLostBy_94 : decode cX1_filesLostBy 94 = .ok (.invokestatic 162, 3) := by decide +kernel
theorem dX1_filesLostBy_97 : decode cX1_filesLostBy 97 = .ok (.iadd, 1) := by decide +kernel
theorem dX1_filesLostBy_98 : decode cX1_filesLostBy 98 = .ok (.istore 4, 2) := by decide +kernel
theorem dX1_filesLostBy_100 : decode cX1_filesLostBy 100 = .ok (.iinc 5 1, 3) := by decide +kernel
theorem dX1_filesLostBy_103 : decode cX1_filesLostBy 103 = .ok (.goto (-43), 3) := by decide +kernel
theorem dX1_filesLostBy_106 : decode cX1_filesLostBy 106 = .ok (.iload 4, 2) := by decide +kernel
theorem dX1_filesLostBy_108 : decode cX1_filesLostBy 108 = .ok (.ireturn, 1) := by decide +kernel
theorem dX1_blocksUsed_0 : decode cX1_blocksUsed 0 = .ok (.aload_n 0, 1) := by decide +kernel
theorem dX1_blocksUsed_1 : decode cX1_blocksUsed 1 = .ok (.getfield 47, 3) := by decide +kernel
theorem dX1_blocksUsed_4 : decode cX1_blocksUsed 4 = .ok (.aload_n 0, 1) := by decide +kernel
theorem dX1_blocksUsed_5 : decode cX1_blocksUsed 5 = .ok (.invokevirtual 155, 3) := by decide +kernel
theorem dX1_blocksUsed_8 : decode cX1_blocksUsed 8 = .ok (.astore_n 3, 1) := by decide +kernel
theorem dX1_blocksUsed_9 : decode cX1_blocksUsed 9 = .ok (.iconst 0, 1) := by decide +kernel
theorem dX1_blocksUsed_10 : decode cX1_blocksUsed 10 = .ok (.istore 4, 2) := by decide +kernel
theorem dX1_blocksUsed_12 : decode cX1_blocksUsed 12 = .ok (.iconst 0, 1) := by decide +kernel
theorem dX1_blocksUsed_13 : decode cX1_blocksUsed 13 = .ok (.istore 5, 2) := by decide +kernel
theorem dX1_blocksUsed_15 : decode cX1_blocksUsed 15 = .ok (.iload 5, 2) := by decide +kernel
theorem dX1_blocksUsed_17 : decode cX1_blocksUsed 17 = .ok (.aload_n 0, 1) := by decide +kernel
theorem dX1_blocksUsed_18 : decode cX1_blocksUsed 18 = .ok (.getfield 12, 3) := by decide +kernel
theorem dX1_blocksUsed_21 : decode cX1_blocksUsed 21 = .ok (.getfield 166, 3) := by decide +kernel
theorem dX1_blocksUsed_24 : decode cX1_blocksUsed 24 = .ok (.if_icmp .ge 63, 3) := by decide +kernel
theorem dX1_blocksUsed_27 : decode cX1_blocksUsed 27 = .ok (.iload_n 1, 1) := by decide +kernel
theorem dX1_blocksUsed_28 : decode cX1_blocksUsed 28 = .ok (.iconst (-1), 1) := by decide +kernel
theorem dX1_blocksUsed_29 : decode cX1_blocksUsed 29 = .ok (.if_icmp .eq 16, 3) := by decide +kernel
theorem dX1_blocksUsed_32 : decode cX1_blocksUsed 32 = .ok (.aload_n 0, 1) := by decide +kernel
theorem dX1_blocksUsed_33 : decode cX1_blocksUsed 33 = .ok (.getfield 12, 3) := by decide +kernel
theorem dX1_blocksUsed_36 : decode cX1_blocksUsed 36 = .ok (.iload 5, 2) := by decide +kernel
theorem dX1_blocksUsed_38 : decode cX1_blocksUsed 38 = .ok (.invokevirtual 137, 3) := by decide +kernel
theorem dX1_blocksUsed_41 : decode cX1_blocksUsed 41 = .ok (.iload_n 1, 1) := by decide +kernel
theorem dX1_blocksUsed_42 : decode cX1_blocksUsed 42 = .ok (.if_icmp .ne 7, 3) := by decide +kernel
theorem dX1_blocksUsed_45 : decode cX1_blocksUsed 45 = .ok (.iconst 1, 1) := by decide +kernel
theorem dX1_blocksUsed_46 : decode cX1_blocksUsed 46 = .ok (.goto 4, 3) := by decide +kernel
theorem dX1_blocksUsed_49 : decode cX1_blocksUsed 49 = .ok (.iconst 0, 1) := by decide +kernel
theorem dX1_blocksUsed_50 : decode cX1_blocksUsed 50 = .ok (.istore 6, 2) := by decide +kernel
theorem dX1_blocksUsed_52 : decode cX1_blocksUsed 52 = .ok (.iload 4, 2) := by decide +kernel
theorem dX1_blocksUsed_54 : decode cX1_blocksUsed 54 = .ok (.iload 6, 2) := by decide +kernel
theorem dX1_blocksUsed_56 : decode cX1_blocksUsed 56 = .ok (.ifCond .eq 18, 3) := by decide +kernel
theorem dX1_blocksUsed_59 : decode cX1_blocksUsed 59 = .ok (.aload_n 0, 1) := by decide +kernel
theorem dX1_blocksUsed_60 : decode cX1_blocksUsed 60 = .ok (.iload 5, 2) := by decide +kernel
theorem dX1_blocksUsed_62 : decode cX1_blocksUsed 62 = .ok (.aload_n 3, 1) := by decide +kernel
theorem dX1_blocksUsed_63 : decode cX1_blocksUsed 63 = .ok (.invokevirtual 167, 3) := by decide +kernel
theorem dX1_blocksUsed_66 : decode cX1_blocksUsed 66 = .ok (.iload_n 2, 1) := by decide +kernel
theorem dX1_blocksUsed_67 : decode cX1_blocksUsed 67 = .ok (.if_icmp .ne 7, 3) := by decide +kernel
theorem dX1_blocksUsed_70 : decode cX1_blocksUsed 70 = .ok (.iconst 1, 1) := by decide +kernel
theorem dX1_blocksUsed_71 : decode cX1_blocksUsed 71 = .ok (.goto 4, 3) := by decide +kernel
theorem dX1_blocksUsed_74 : decode cX1_blocksUsed 74 = .ok (.iconst 0, 1) := by decide +kernel
theorem dX1_blocksUsed_75 : decode cX1_blocksUsed 75 = .ok (.invokestatic 162, 3) := by decide +kernel
theorem dX1_blocksUsed_78 : decode cX1_blocksUsed 78 = .ok (.iadd, 1) := by decide +kernel
theorem dX1_blocksUsed_79 : decode cX1_blocksUsed 79 = .ok (.istore 4, 2) := by decide +kernel
theorem dX1_blocksUsed_81 : decode cX1_blocksUsed 81 = .ok (.iinc 5 1, 3) := by decide +kernel
theorem dX1_blocksUsed_84 : decode cX1_blocksUsed 84 = .ok (.goto (-69), 3) := by decide +kernel
theorem dX1_blocksUsed_87 : decode cX1_blocksUsed 87 = .ok (.iload 4, 2) := by decide +kernel
theorem dX1_blocksUsed_89 : decode cX1_blocksUsed 89 = .ok (.ireturn, 1) := by decide +kernel
theorem dX1_useOf_0 : decode cX1_useOf 0 = .ok (.aload_n 0, 1) := by decide +kernel
theorem dX1_useOf_1 : decode cX1_useOf 1 = .ok (.getfield 12, 3) := by decide +kernel
theorem dX1_useOf_4 : decode cX1_useOf 4 = .ok (.iload_n 1, 1) := by decide +kernel
theorem dX1_useOf_5 : decode cX1_useOf 5 = .ok (.invokevirtual 136, 3) := by decide +kernel
theorem dX1_useOf_8 : decode cX1_useOf 8 = .ok (.tableswitch 38 0 3 #[32, 38, 34, 36], 32) := by decide +kernel
theorem dX1_useOf_40 : decode cX1_useOf 40 = .ok (.iconst 0, 1) := by decide +kernel
theorem dX1_useOf_41 : decode cX1_useOf 41 = .ok (.ireturn, 1) := by decide +kernel
theorem dX1_useOf_42 : decode cX1_useOf 42 = .ok (.iconst 3, 1) := by decide +kernel
theorem dX1_useOf_43 : decode cX1_useOf 43 = .ok (.ireturn, 1) := by decide +kernel
theorem dX1_useOf_44 : decode cX1_useOf 44 = .ok (.iconst 4, 1) := by decide +kernel
theorem dX1_useOf_45 : decode cX1_useOf 45 = .ok (.ireturn, 1) := by decide +kernel
theorem dX1_useOf_46 : decode cX1_useOf 46 = .ok (.aload_n 0, 1) := by decide +kernel
theorem dX1_useOf_47 : decode cX1_useOf 47 = .ok (.getfield 12, 3) := by decide +kernel
theorem dX1_useOf_50 : decode cX1_useOf 50 = .ok (.iload_n 1, 1) := by decide +kernel
theorem dX1_useOf_51 : decode cX1_useOf 51 = .ok (.invokevirtual 171, 3) := by decide +kernel
theorem dX1_useOf_54 : decode cX1_useOf 54 = .ok (.istore_n 3, 1) := by decide +kernel
theorem dX1_useOf_55 : decode cX1_useOf 55 = .ok (.aload_n 2, 1) := by decide +kernel
theorem dX1_useOf_56 : decode cX1_useOf 56 = .ok (.aload_n 0, 1) := by decide +kernel
theorem dX1_useOf_57 : decode cX1_useOf 57 = .ok (.getfield 21, 3) := by decide +kernel
theorem dX1_useOf_60 : decode cX1_useOf 60 = .ok (.iload_n 3, 1) := by decide +kernel
theorem dX1_useOf_61 : decode cX1_useOf 61 = .ok (.invokevirtual 174, 3) := by decide +kernel
theorem dX1_useOf_64 : decode cX1_useOf 64 = .ok (.invokevirtual 177, 3) := by decide +kernel
theorem dX1_useOf_67 : decode cX1_useOf 67 = .ok (.iload_n 3, 1) := by decide +kernel
theorem dX1_useOf_68 : decode cX1_useOf 68 = .ok (.if_icmp .ne 7, 3) := by decide +kernel
theorem dX1_useOf_71 : decode cX1_useOf 71 = .ok (.iconst 1, 1) := by decide +kernel
theorem dX1_useOf_72 : decode cX1_useOf 72 = .ok (.goto 4, 3) := by decide +kernel
theorem dX1_useOf_75 : decode cX1_useOf 75 = .ok (.iconst 2, 1) := by decide +kernel
theorem dX1_useOf_76 : decode cX1_useOf 76 = .ok (.ireturn, 1) := by decide +kernel
theorem dX1_reasonAgainstWrite_0 : decode cX1_reasonAgainstWrite 0 = .ok (.aload_n 0, 1) := by decide +kernel
theorem dX1_reasonAgainstWrite_1 : decode cX1_reasonAgainstWrite 1 = .ok (.getfield 28, 3) := by decide +kernel
theorem dX1_reasonAgainstWrite_4 : decode cX1_reasonAgainstWrite 4 = .ok (.invokevirtual 180, 3) := by decide +kernel
theorem dX1_reasonAgainstWrite_7 : decode cX1_reasonAgainstWrite 7 = .ok (.ifCond .eq 5, 3) := by decide +kernel
theorem dX1_reasonAgainstWrite_10 : decode cX1_reasonAgainstWrite 10 = .ok (.iconst 3, 1) := by decide +kernel
theorem dX1_reasonAgainstWrite_11 : decode cX1_reasonAgainstWrite 11 = .ok (.ireturn, 1) := by decide +kernel
theorem dX1_reasonAgainstWrite_12 : decode cX1_reasonAgainstWrite 12 = .ok (.aload_n 0, 1) := by decide +kernel
theorem dX1_reasonAgainstWrite_13 : decode cX1_reasonAgainstWrite 13 = .ok (.getfield 12, 3) := by decide +kernel
theorem dX1_reasonAgainstWrite_16 : decode cX1_reasonAgainstWrite 16 = .ok (.iload_n 2, 1) := by decide +kernel
theorem dX1_reasonAgainstWrite_17 : decode cX1_reasonAgainstWrite 17 = .ok (.aload_n 0, 1) := by decide +kernel
theorem dX1_reasonAgainstWrite_18 : decode cX1_reasonAgainstWrite 18 = .ok (.getfield 28, 3) := by decide +kernel
theorem dX1_reasonAgainstWrite_21 : decode cX1_reasonAgainstWrite 21 = .ok (.iload_n 1, 1) := by decide +kernel
theorem dX1_reasonAgainstWrite_22 : decode cX1_reasonAgainstWrite 22 = .ok (.invokevirtual 184, 3) := by decide +kernel
theorem dX1_reasonAgainstWrite_25 : decode cX1_reasonAgainstWrite 25 = .ok (.invokestatic 187, 3) := by decide +kernel
theorem dX1_reasonAgainstWrite_28 : decode cX1_reasonAgainstWrite 28 = .ok (.iadd, 1) := by decide +kernel
theorem dX1_reasonAgainstWrite_29 : decode cX1_reasonAgainstWrite 29 = .ok (.invokevirtual 190, 3) := by decide +kernel
theorem dX1_reasonAgainstWrite_32 : decode cX1_reasonAgainstWrite 32 = .ok (.ifCond .ne 5, 3) := by decide +kernel
theorem dX1_reasonAgainstWrite_35 : decode cX1_reasonAgainstWrite 35 = .ok (.iconst 4, 1) := by decide +kernel
theorem dX1_reasonAgainstWrite_36 : decode cX1_reasonAgainstWrite 36 = .ok (.ireturn, 1) := by decide +kernel
theorem dX1_reasonAgainstWrite_37 : decode cX1_reasonAgainstWrite 37 = .ok (.aload_n 0, 1) := by decide +kernel
theorem dX1_reasonAgainstWrite_38 : decode cX1_reasonAgainstWrite 38 = .ok (.getfield 12, 3) := by decide +kernel
theorem dX1_reasonAgainstWrite_41 : decode cX1_reasonAgainstWrite 41 = .ok (.iload_n 2, 1) := by decide +kernel
theorem dX1_reasonAgainstWrite_42 : decode cX1_reasonAgainstWrite 42 = .ok (.invokevirtual 193, 3) := by decide +kernel
theorem dX1_reasonAgainstWrite_45 : decode cX1_reasonAgainstWrite 45 = .ok (.ifCond .eq 7, 3) := by decide +kernel
theorem dX1_reasonAgainstWrite_48 : decode cX1_reasonAgainstWrite 48 = .ok (.iconst 0, 1) := by decide +kernel
theorem dX1_reasonAgainstWrite_49 : decode cX1_reasonAgainstWrite 49 = .ok (.goto 4, 3) := by decide +kernel
theorem dX1_reasonAgainstWrite_52 : decode cX1_reasonAgainstWrite 52 = .ok (.iconst 5, 1) := by decide +kernel
theorem dX1_reasonAgainstWrite_53 : decode cX1_reasonAgainstWrite 53 = .ok (.ireturn, 1) := by decide +kernel
theorem dX1_reasonAgainstErase_0 : decode cX1_reasonAgainstErase 0 = .ok (.aload_n 0, 1) := by decide +kernel
theorem dX1_reasonAgainstErase_1 : decode cX1_reasonAgainstErase 1 = .ok (.getfield 47, 3) := by decide +kernel
theorem dX1_reasonAgainstErase_4 : decode cX1_reasonAgainstErase 4 = .ok (.aload_n 0, 1) := by decide +kernel
theorem dX1_reasonAgainstErase_5 : decode cX1_reasonAgainstErase 5 = .ok (.invokevirtual 155, 3) := by decide +kernel
theorem dX1_reasonAgainstErase_8 : decode cX1_reasonAgainstErase 8 = .ok (.iload_n 1, 1) := by decide +kernel
theorem dX1_reasonAgainstErase_9 : decode cX1_reasonAgainstErase 9 = .ok (.invokevirtual 177, 3) := by decide +kernel
theorem dX1_reasonAgainstErase_12 : decode cX1_reasonAgainstErase 12 = .ok (.iconst (-1), 1) := by decide +kernel
theorem dX1_reasonAgainstErase_13 : decode cX1_reasonAgainstErase 13 = .ok (.if_icmp .ne 5, 3) := by decide +kernel
theorem dX1_reasonAgainstErase_16 : decode cX1_reasonAgainstErase 16 = .ok (.iconst 2, 1) := by decide +kernel
theorem dX1_reasonAgainstErase_17 : decode cX1_reasonAgainstErase 17 = .ok (.ireturn, 1) := by decide +kernel
theorem dX1_reasonAgainstErase_18 : decode cX1_reasonAgainstErase 18 = .ok (.aload_n 0, 1) := by decide +kernel
theorem dX1_reasonAgainstErase_19 : decode cX1_reasonAgainstErase 19 = .ok (.getfield 28, 3) := by decide +kernel
theorem dX1_reasonAgainstErase_22 : decode cX1_reasonAgainstErase 22 = .ok (.invokevirtual 180, 3) := by decide +kernel
theorem dX1_reasonAgainstErase_25 : decode cX1_reasonAgainstErase 25 = .ok (.ifCond .eq 5, 3) := by decide +kernel
theorem dX1_reasonAgainstErase_28 : decode cX1_reasonAgainstErase 28 = .ok (.iconst 3, 1) := by decide +kernel
theorem dX1_reasonAgainstErase_29 : decode cX1_reasonAgainstErase 29 = .ok (.ireturn, 1) := by decide +kernel
theorem dX1_reasonAgainstErase_30 : decode cX1_reasonAgainstErase 30 = .ok (.aload_n 0, 1) := by decide +kernel
theorem dX1_reasonAgainstErase_31 : decode cX1_reasonAgainstErase 31 = .ok (.getfield 12, 3) := by decide +kernel
theorem dX1_reasonAgainstErase_34 : decode cX1_reasonAgainstErase 34 = .ok (.aload_n 0, 1) := by decide +kernel
theorem dX1_reasonAgainstErase_35 : decode cX1_reasonAgainstErase 35 = .ok (.getfield 28, 3) := by decide +kernel
theorem dX1_reasonAgainstErase_38 : decode cX1_reasonAgainstErase 38 = .ok (.iload_n 1, 1) := by decide +kernel
theorem dX1_reasonAgainstErase_39 : decode cX1_reasonAgainstErase 39 = .ok (.invokevirtual 184, 3) := by decide +kernel
theorem dX1_reasonAgainstErase_42 : decode cX1_reasonAgainstErase 42 = .ok (.invokestatic 187, 3) := by decide +kernel
theorem dX1_reasonAgainstErase_45 : decode cX1_reasonAgainstErase 45 = .ok (.invokevirtual 190, 3) := by decide +kernel
theorem dX1_reasonAgainstErase_48 : decode cX1_reasonAgainstErase 48 = .ok (.ifCond .eq 7, 3) := by decide +kernel
theorem dX1_reasonAgainstErase_51 : decode cX1_reasonAgainstErase 51 = .ok (.iconst 0, 1) := by decide +kernel
theorem dX1_reasonAgainstErase_52 : decode cX1_reasonAgainstErase 52 = .ok (.goto 4, 3) := by decide +kernel
theorem dX1_reasonAgainstErase_55 : decode cX1_reasonAgainstErase 55 = .ok (.iconst 4, 1) := by decide +kernel
theorem dX1_reasonAgainstErase_56 : decode cX1_reasonAgainstErase 56 = .ok (.ireturn, 1) := by decide +kernel
theorem dX1_reasonAgainstClose_0 : decode cX1_reasonAgainstClose 0 = .ok (.aload_n 0, 1) := by decide +kernel
theorem dX1_reasonAgainstClose_1 : decode cX1_reasonAgainstClose 1 = .ok (.getfield 28, 3) := by decide +kernel
theorem dX1_reasonAgainstClose_4 : decode cX1_reasonAgainstClose 4 = .ok (.invokevirtual 196, 3) := by decide +kernel
theorem dX1_reasonAgainstClose_7 : decode cX1_reasonAgainstClose 7 = .ok (.ifCond .ne 5, 3) := by decide +kernel
theorem dX1_reasonAgainstClose_10 : decode cX1_reasonAgainstClose 10 = .ok (.iconst 1, 1) := by decide +kernel
theorem dX1_reasonAgainstClose_11 : decode cX1_reasonAgainstClose 11 = .ok (.ireturn, 1) := by decide +kernel
theorem dX1_reasonAgainstClose_12 : decode cX1_reasonAgainstClose 12 = .ok (.aload_n 0, 1) := by decide +kernel
theorem dX1_reasonAgainstClose_13 : decode cX1_reasonAgainstClose 13 = .ok (.aload_n 0, 1) := by decide +kernel
theorem dX1_reasonAgainstClose_14 : decode cX1_reasonAgainstClose 14 = .ok (.getfield 28, 3) := by decide +kernel
theorem dX1_reasonAgainstClose_17 : decode cX1_reasonAgainstClose 17 = .ok (.aload_n 0, 1) := by decide +kernel
theorem dX1_reasonAgainstClose_18 : decode cX1_reasonAgainstClose 18 = .ok (.getfield 28, 3) := by decide +kernel
theorem dX1_reasonAgainstClose_21 : decode cX1_reasonAgainstClose 21 = .ok (.invokevirtual 199, 3) := by decide +kernel
theorem dX1_reasonAgainstClose_24 : decode cX1_reasonAgainstClose 24 = .ok (.invokevirtual 202, 3) := by decide +kernel
theorem dX1_reasonAgainstClose_27 : decode cX1_reasonAgainstClose 27 = .ok (.invokevirtual 205, 3) := by decide +kernel
theorem dX1_reasonAgainstClose_30 : decode cX1_reasonAgainstClose 30 = .ok (.ireturn, 1) := by decide +kernel
theorem dX1_reasonAgainstCrash_0 : decode cX1_reasonAgainstCrash 0 = .ok (.aload_n 0, 1) := by decide +kernel
theorem dX1_reasonAgainstCrash_1 : decode cX1_reasonAgainstCrash 1 = .ok (.getfield 28, 3) := by decide +kernel
theorem dX1_reasonAgainstCrash_4 : decode cX1_reasonAgainstCrash 4 = .ok (.invokevirtual 196, 3) := by decide +kernel
theorem dX1_reasonAgainstCrash_7 : decode cX1_reasonAgainstCrash 7 = .ok (.ifCond .eq 7, 3) := by decide +kernel
theorem dX1_reasonAgainstCrash_10 : decode cX1_reasonAgainstCrash 10 = .ok (.iconst 0, 1) := by decide +kernel
theorem dX1_reasonAgainstCrash_11 : decode cX1_reasonAgainstCrash 11 = .ok (.goto 4, 3) := by decide +kernel
theorem dX1_reasonAgainstCrash_14 : decode cX1_reasonAgainstCrash 14 = .ok (.iconst 1, 1) := by decide +kernel
theorem dX1_reasonAgainstCrash_15 : decode cX1_reasonAgainstCrash 15 = .ok (.ireturn, 1) := by decide +kernel
theorem dX1_reasonAgainstRecover_0 : decode cX1_reasonAgainstRecover 0 = .ok (.aload_n 0, 1) := by decide +kernel
theorem dX1_reasonAgainstRecover_1 : decode cX1_reasonAgainstRecover 1 = .ok (.invokevirtual 208, 3) := by decide +kernel
theorem dX1_reasonAgainstRecover_4 : decode cX1_reasonAgainstRecover 4 = .ok (.istore_n 1, 1) := by decide +kernel
theorem dX1_reasonAgainstRecover_5 : decode cX1_reasonAgainstRecover 5 = .ok (.iload_n 1, 1) := by decide +kernel
theorem dX1_reasonAgainstRecover_6 : decode cX1_reasonAgainstRecover 6 = .ok (.ifCond .ne 5, 3) := by decide +kernel
theorem dX1_reasonAgainstRecover_9 : decode cX1_reasonAgainstRecover 9 = .ok (.iconst 2, 1) := by decide +kernel
theorem dX1_reasonAgainstRecover_10 : decode cX1_reasonAgainstRecover 10 = .ok (.ireturn, 1) := by decide +kernel
theorem dX1_reasonAgainstRecover_11 : decode cX1_reasonAgainstRecover 11 = .ok (.aload_n 0, 1) := by decide +kernel
theorem dX1_reasonAgainstRecover_12 : decode cX1_reasonAgainstRecover 12 = .ok (.getfield 28, 3) := by decide +kernel
theorem dX1_reasonAgainstRecover_15 : decode cX1_reasonAgainstRecover 15 = .ok (.invokevirtual 180, 3) := by decide +kernel
theorem dX1_reasonAgainstRecover_18 : decode cX1_reasonAgainstRecover 18 = .ok (.ifCond .eq 7, 3) := by decide +kernel
theorem dX1_reasonAgainstRecover_21 : decode cX1_reasonAgainstRecover 21 = .ok (.iconst 3, 1) := by decide +kernel
theorem dX1_reasonAgainstRecover_22 : decode cX1_reasonAgainstRecover 22 = .ok (.goto 8, 3) := by decide +kernel
theorem dX1_reasonAgainstRecover_25 : decode cX1_reasonAgainstRecover 25 = .ok (.aload_n 0, 1) := by decide +kernel
theorem dX1_reasonAgainstRecover_26 : decode cX1_reasonAgainstRecover 26 = .ok (.iload_n 1, 1) := by decide +kernel
theorem dX1_reasonAgainstRecover_27 : decode cX1_reasonAgainstRecover 27 = .ok (.invokevirtual 205, 3) := by decide +kernel
theorem dX1_reasonAgainstRecover_30 : decode cX1_reasonAgainstRecover 30 = .ok (.ireturn, 1) := by decide +kernel
theorem dX1_reasonAgainstDirectory_0 : decode cX1_reasonAgainstDirectory 0 = .ok (.iload_n 1, 1) := by decide +kernel
theorem dX1_reasonAgainstDirectory_1 : decode cX1_reasonAgainstDirectory 1 = .ok (.invokestatic 187, 3) := by decide +kernel
theorem dX1_reasonAgainstDirectory_4 : decode cX1_reasonAgainstDirectory 4 = .ok (.istore_n 2, 1) := by decide +kernel
theorem dX1_reasonAgainstDirectory_5 : decode cX1_reasonAgainstDirectory 5 = .ok (.aload_n 0, 1) := by decide +kernel
theorem dX1_reasonAgainstDirectory_6 : decode cX1_reasonAgainstDirectory 6 = .ok (.getfield 12, 3) := by decide +kernel
theorem dX1_reasonAgainstDirectory_9 : decode cX1_reasonAgainstDirectory 9 = .ok (.iload_n 2, 1) := by decide +kernel
theorem dX1_reasonAgainstDirectory_10 : decode cX1_reasonAgainstDirectory 10 = .ok (.invokevirtual 190, 3) := by decide +kernel
theorem dX1_reasonAgainstDirectory_13 : decode cX1_reasonAgainstDirectory 13 = .ok (.ifCond .ne 5, 3) := by decide +kernel
theorem dX1_reasonAgainstDirectory_16 : decode cX1_reasonAgainstDirectory 16 = .ok (.iconst 4, 1) := by decide +kernel
theorem dX1_reasonAgainstDirectory_17 : decode cX1_reasonAgainstDirectory 17 = .ok (.ireturn, 1) := by decide +kernel
theorem dX1_reasonAgainstDirectory_18 : decode cX1_reasonAgainstDirectory 18 = .ok (.aload_n 0, 1) := by decide +kernel
theorem dX1_reasonAgainstDirectory_19 : decode cX1_reasonAgainstDirectory 19 = .ok (.getfield 12, 3) := by decide +kernel
theorem dX1_reasonAgainstDirectory_22 : decode cX1_reasonAgainstDirectory 22 = .ok (.iload_n 2, 1) := by decide +kernel
theorem dX1_reasonAgainstDirectory_23 : decode cX1_reasonAgainstDirectory 23 = .ok (.invokevirtual 193, 3) := by decide +kernel
theorem dX1_reasonAgainstDirectory_26 : decode cX1_reasonAgainstDirectory 26 = .ok (.ifCond .eq 7, 3) := by decide +kernel
theorem dX1_reasonAgainstDirectory_29 : decode cX1_reasonAgainstDirectory 29 = .ok (.iconst 0, 1) := by decide +kernel
theorem dX1_reasonAgainstDirectory_30 : decode cX1_reasonAgainstDirectory 30 = .ok (.goto 4, 3) := by decide +kernel
theorem dX1_reasonAgainstDirectory_33 : decode cX1_reasonAgainstDirectory 33 = .ok (.iconst 5, 1) := by decide +kernel
theorem dX1_reasonAgainstDirectory_34 : decode cX1_reasonAgainstDirectory 34 = .ok (.ireturn, 1) := by decide +kernel
theorem dX1_writeVersion_0 : decode cX1_writeVersion 0 = .ok (.aload_n 0, 1) := by decide +kernel
theorem dX1_writeVersion_1 : decode cX1_writeVersion 1 = .ok (.invokevirtual 211, 3) := by decide +kernel
theorem dX1_writeVersion_4 : decode cX1_writeVersion 4 = .ok (.aload_n 0, 1) := by decide +kernel
theorem dX1_writeVersion_5 : decode cX1_writeVersion 5 = .ok (.getfield 28, 3) := by decide +kernel
theorem dX1_writeVersion_8 : decode cX1_writeVersion 8 = .ok (.invokevirtual 199, 3) := by decide +kernel
theorem dX1_writeVersion_11 : decode cX1_writeVersion 11 = .ok (.istore 4, 2) := by decide +kernel
theorem dX1_writeVersion_13 : decode cX1_writeVersion 13 = .ok (.aload_n 0, 1) := by decide +kernel
theorem dX1_writeVersion_14 : decode cX1_writeVersion 14 = .ok (.getfield 21, 3) := by decide +kernel
theorem dX1_writeVersion_17 : decode cX1_writeVersion 17 = .ok (.iload_n 1, 1) := by decide +kernel
theorem dX1_writeVersion_18 : decode cX1_writeVersion 18 = .ok (.aload_n 0, 1) := by decide +kernel
theorem dX1_writeVersion_19 : decode cX1_writeVersion 19 = .ok (.getfield 12, 3) := by decide +kernel
theorem dX1_writeVersion_22 : decode cX1_writeVersion 22 = .ok (.getfield 214, 3) := by decide +kernel
theorem dX1_writeVersion_25 : decode cX1_writeVersion 25 = .ok (.iload_n 2, 1) := by decide +kernel
theorem dX1_writeVersion_26 : decode cX1_writeVersion 26 = .ok (.iload_n 3, 1) := by decide +kernel
theorem dX1_writeVersion_27 : decode cX1_writeVersion 27 = .ok (.iload 4, 2) := by decide +kernel
theorem dX1_writeVersion_29 : decode cX1_writeVersion 29 = .ok (.invokevirtual 217, 3) := by decide +kernel
theorem dX1_writeVersion_32 : decode cX1_writeVersion 32 = .ok (.istore 5, 2) := by decide +kernel
theorem dX1_writeVersion_34 : decode cX1_writeVersion 34 = .ok (.iconst 0, 1) := by decide +kernel
theorem dX1_writeVersion_35 : decode cX1_writeVersion 35 = .ok (.istore 6, 2) := by decide +kernel
theorem dX1_writeVersion_37 : decode cX1_writeVersion 37 = .ok (.iload 6, 2) := by decide +kernel
theorem dX1_writeVersion_39 : decode cX1_writeVersion 39 = .ok (.iload_n 2, 1) := by decide +kernel
theorem dX1_writeVersion_40 : decode cX1_writeVersion 40 = .ok (.if_icmp .ge 23, 3) := by decide +kernel
theorem dX1_writeVersion_43 : decode cX1_writeVersion 43 = .ok (.aload_n 0, 1) := by decide +kernel
theorem dX1_writeVersion_44 : decode cX1_writeVersion 44 = .ok (.getfield 12, 3) := by decide +kernel
theorem dX1_writeVersion_47 : decode cX1_writeVersion 47 = .ok (.iconst 1, 1) := by decide +kernel
theorem dX1_writeVersion_48 : decode cX1_writeVersion 48 = .ok (.iload 4, 2) := by decide +kernel
theorem dX1_writeVersion_50 : decode cX1_writeVersion 50 = .ok (.iload 5, 2) := by decide +kernel
theorem dX1_writeVersion_52 : decode cX1_writeVersion 52 = .ok (.iload 6, 2) := by decide +kernel
theorem dX1_writeVersion_54 : decode cX1_writeVersion 54 = .ok (.invokevirtual 221, 3) := by decide +kernel
theorem dX1_writeVersion_57 : decode cX1_writeVersion 57 = .ok (.iinc 6 1, 3) := by decide +kernel
theorem dX1_writeVersion_60 : decode cX1_writeVersion 60 = .ok (.goto (-23), 3) := by decide +kernel
theorem dX1_writeVersion_63 : decode cX1_writeVersion 63 = .ok (.aload_n 0, 1) := by decide +kernel
theorem dX1_writeVersion_64 : decode cX1_writeVersion 64 = .ok (.getfield 28, 3) := by decide +kernel
theorem dX1_writeVersion_67 : decode cX1_writeVersion 67 = .ok (.iload_n 1, 1) := by decide +kernel
theorem dX1_writeVersion_68 : decode cX1_writeVersion 68 = .ok (.iload 5, 2) := by decide +kernel
theorem dX1_writeVersion_70 : decode cX1_writeVersion 70 = .ok (.invokevirtual 225, 3) := by decide +kernel
theorem dX1_writeVersion_73 : decode cX1_writeVersion 73 = .ok (.iload 5, 2) := by decide +kernel
theorem dX1_writeVersion_75 : decode cX1_writeVersion 75 = .ok (.ireturn, 1) := by decide +kernel
theorem dX1_eraseFile_0 : decode cX1_eraseFile 0 = .ok (.aload_n 0, 1) := by decide +kernel
theorem dX1_eraseFile_1 : decode cX1_eraseFile 1 = .ok (.invokevirtual 211, 3) := by decide +kernel
theorem dX1_eraseFile_4 : decode cX1_eraseFile 4 = .ok (.aload_n 0, 1) := by decide +kernel
theorem dX1_eraseFile_5 : decode cX1_eraseFile 5 = .ok (.getfield 28, 3) := by decide +kernel
theorem dX1_eraseFile_8 : decode cX1_eraseFile 8 = .ok (.iload_n 1, 1) := by decide +kernel
theorem dX1_eraseFile_9 : decode cX1_eraseFile 9 = .ok (.iconst (-1), 1) := by decide +kernel
theorem dX1_eraseFile_10 : decode cX1_eraseFile 10 = .ok (.invokevirtual 225, 3) := by decide +kernel
theorem dX1_eraseFile_13 : decode cX1_eraseFile 13 = .ok (.return_, 1) := by decide +kernel
theorem dX1_beginIfNeeded_0 : decode cX1_beginIfNeeded 0 = .ok (.aload_n 0, 1) := by decide +kernel
theorem dX1_beginIfNeeded_1 : decode cX1_beginIfNeeded 1 = .ok (.getfield 28, 3) := by decide +kernel
theorem dX1_beginIfNeeded_4 : decode cX1_beginIfNeeded 4 = .ok (.invokevirtual 196, 3) := by decide +kernel
theorem dX1_beginIfNeeded_7 : decode cX1_beginIfNeeded 7 = .ok (.ifCond .ne 17, 3) := by decide +kernel
theorem dX1_beginIfNeeded_10 : decode cX1_beginIfNeeded 10 = .ok (.aload_n 0, 1) := by decide +kernel
theorem dX1_beginIfNeeded_11 : decode cX1_beginIfNeeded 11 = .ok (.getfield 28, 3) := by decide +kernel
theorem dX1_beginIfNeeded_14 : decode cX1_beginIfNeeded 14 = .ok (.aload_n 0, 1) := by decide +kernel
theorem dX1_beginIfNeeded_15 : decode cX1_beginIfNeeded 15 = .ok (.getfield 12, 3) := by decide +kernel
theorem dX1_beginIfNeeded_18 : decode cX1_beginIfNeeded 18 = .ok (.getfield 214, 3) := by decide +kernel
theorem dX1_beginIfNeeded_21 : decode cX1_beginIfNeeded 21 = .ok (.invokevirtual 228, 3) := by decide +kernel
theorem dX1_beginIfNeeded_24 : decode cX1_beginIfNeeded 24 = .ok (.return_, 1) := by decide +kernel
theorem dX1_closeSession_0 : decode cX1_closeSession 0 = .ok (.aload_n 0, 1) := by decide +kernel
theorem dX1_closeSession_1 : decode cX1_closeSession 1 = .ok (.getfield 28, 3) := by decide +kernel
theorem dX1_closeSession_4 : decode cX1_closeSession 4 = .ok (.invokevirtual 199, 3) := by decide +kernel
theorem dX1_closeSession_7 : decode cX1_closeSession 7 = .ok (.istore_n 1, 1) := by decide +kernel
theorem dX1_closeSession_8 : decode cX1_closeSession 8 = .ok (.aload_n 0, 1) := by decide +kernel
theorem dX1_closeSession_9 : decode cX1_closeSession 9 = .ok (.getfield 12, 3) := by decide +kernel
theorem dX1_closeSession_12 : decode cX1_closeSession 12 = .ok (.getfield 214, 3) := by decide +kernel
theorem dX1_closeSession_15 : decode cX1_closeSession 15 = .ok (.istore_n 2, 1) := by decide +kernel
theorem dX1_closeSession_16 : decode cX1_closeSession 16 = .ok (.aload_n 0, 1) := by decide +kernel
theorem dX1_closeSession_17 : decode cX1_closeSession 17 = .ok (.getfield 28, 3) := by decide +kernel
theorem dX1_closeSession_20 : decode cX1_closeSession 20 = .ok (.iload_n 1, 1) := by decide +kernel
theorem dX1_closeSession_21 : decode cX1_closeSession 21 = .ok (.invokevirtual 202, 3) := by decide +kernel
theorem dX1_closeSession_24 : decode cX1_closeSession 24 = .ok (.invokestatic 187, 3) := by decide +kernel
theorem dX1_closeSession_27 : decode cX1_closeSession 27 = .ok (.istore_n 3, 1) := by decide +kernel
theorem dX1_closeSession_28 : decode cX1_closeSession 28 = .ok (.iconst 0, 1) := by decide +kernel
theorem dX1_closeSession_29 : decode cX1_closeSession 29 = .ok (.istore 4, 2) := by decide +kernel
theorem dX1_closeSession_31 : decode cX1_closeSession 31 = .ok (.iload 4, 2) := by decide +kernel
theorem dX1_closeSession_33 : decode cX1_closeSession 33 = .ok (.iload_n 3, 1) := by decide +kernel
theorem dX1_closeSession_34 : decode cX1_closeSession 34 = .ok (.if_icmp .ge 21, 3) := by decide +kernel
theorem dX1_closeSession_37 : decode cX1_closeSession 37 = .ok (.aload_n 0, 1) := by decide +kernel
theorem dX1_closeSession_38 : decode cX1_closeSession 38 = .ok (.getfield 12, 3) := by decide +kernel
theorem dX1_closeSession_41 : decode cX1_closeSession 41 = .ok (.iconst 2, 1) := by decide +kernel
theorem dX1_closeSession_42 : decode cX1_closeSession 42 = .ok (.iload_n 1, 1) := by decide +kernel
theorem dX1_closeSession_43 : decode cX1_closeSession 43 = .ok (.iconst (-1), 1) := by decide +kernel
theorem dX1_closeSession_44 : decode cX1_closeSession 44 = .ok (.iload 4, 2) := by decide +kernel
theorem dX1_closeSession_46 : decode cX1_closeSession 46 = .ok (.invokevirtual 221, 3) := by decide +kernel
theorem dX1_closeSession_49 : decode cX1_closeSession 49 = .ok (.iinc 4 1, 3) := by decide +kernel
theorem dX1_closeSession_52 : decode cX1_closeSession 52 = .ok (.goto (-21), 3) := by decide +kernel
theorem dX1_closeSession_55 : decode cX1_closeSession 55 = .ok (.aload_n 0, 1) := by decide +kernel
theorem dX1_closeSession_56 : decode cX1_closeSession 56 = .ok (.getfield 28, 3) := by decide +kernel
theorem dX1_closeSession_59 : decode cX1_closeSession 59 = .ok (.iload_n 2, 1) := by decide +kernel
theorem dX1_closeSession_60 : decode cX1_closeSession 60 = .ok (.iload_n 3, 1) := by decide +kernel
theorem dX1_closeSession_61 : decode cX1_closeSession 61 = .ok (.invokevirtual 231, 3) := by decide +kernel
theorem dX1_closeSession_64 : decode cX1_closeSession 64 = .ok (.iload_n 1, 1) := by decide +kernel
theorem dX1_closeSession_65 : decode cX1_closeSession 65 = .ok (.ireturn, 1) := by decide +kernel
theorem dX1_loseSession_0 : decode cX1_loseSession 0 = .ok (.aload_n 0, 1) := by decide +kernel
theorem dX1_loseSession_1 : decode cX1_loseSession 1 = .ok (.getfield 28, 3) := by decide +kernel
theorem dX1_loseSession_4 : decode cX1_loseSession 4 = .ok (.invokevirtual 234, 3) := by decide +kernel
theorem dX1_loseSession_7 : decode cX1_loseSession 7 = .ok (.aload_n 0, 1) := by decide +kernel
theorem dX1_loseSession_8 : decode cX1_loseSession 8 = .ok (.getfield 12, 3) := by decide +kernel
theorem dX1_loseSession_11 : decode cX1_loseSession 11 = .ok (.aload_n 0, 1) := by decide +kernel
theorem dX1_loseSession_12 : decode cX1_loseSession 12 = .ok (.getfield 28, 3) := by decide +kernel
theorem dX1_loseSession_15 : decode cX1_loseSession 15 = .ok (.invokevirtual 199, 3) := by decide +kernel
theorem dX1_loseSession_18 : decode cX1_loseSession 18 = .ok (.invokevirtual 237, 3) := by decide +kernel
theorem dX1_loseSession_21 : decode cX1_loseSession 21 = .ok (.ireturn, 1) := by decide +kernel
theorem dX1_recoverSession_0 : decode cX1_recoverSession 0 = .ok (.aload_n 0, 1) := by decide +kernel
theorem dX1_recoverSession_1 : decode cX1_recoverSession 1 = .ok (.getfield 28, 3) := by decide +kernel
theorem dX1_recoverSession_4 : decode cX1_recoverSession 4 = .ok (.invokevirtual 199, 3) := by decide +kernel
theorem dX1_recoverSession_7 : decode cX1_recoverSession 7 = .ok (.istore_n 1, 1) := by decide +kernel
theorem dX1_recoverSession_8 : decode cX1_recoverSession 8 = .ok (.aload_n 0, 1) := by decide +kernel
theorem dX1_recoverSession_9 : decode cX1_recoverSession 9 = .ok (.getfield 28, 3) := by decide +kernel
theorem dX1_recoverSession_12 : decode cX1_recoverSession 12 = .ok (.invokevirtual 240, 3) := by decide +kernel
theorem dX1_recoverSession_15 : decode cX1_recoverSession 15 = .ok (.aload_n 0, 1) := by decide +kernel
theorem dX1_recoverSession_16 : decode cX1_recoverSession 16 = .ok (.getfield 28, 3) := by decide +kernel
theorem dX1_recoverSession_19 : decode cX1_recoverSession 19 = .ok (.aload_n 0, 1) := by decide +kernel
theorem dX1_recoverSession_20 : decode cX1_recoverSession 20 = .ok (.getfield 12, 3) := by decide +kernel
theorem dX1_recoverSession_23 : decode cX1_recoverSession 23 = .ok (.getfield 214, 3) := by decide +kernel
theorem dX1_recoverSession_26 : decode cX1_recoverSession 26 = .ok (.invokevirtual 228, 3) := by decide +kernel
theorem dX1_recoverSession_29 : decode cX1_recoverSession 29 = .ok (.iconst 0, 1) := by decide +kernel
theorem dX1_recoverSession_30 : decode cX1_recoverSession 30 = .ok (.istore_n 2, 1) := by decide +kernel
theorem dX1_recoverSession_31 : decode cX1_recoverSession 31 = .ok (.iload_n 2, 1) := by decide +kernel
theorem dX1_recoverSession_32 : decode cX1_recoverSession 32 = .ok (.aload_n 0, 1) := by decide +kernel
theorem dX1_recoverSession_33 : decode cX1_recoverSession 33 = .ok (.getfield 21, 3) := by decide +kernel
theorem dX1_recoverSession_36 : decode cX1_recoverSession 36 = .ok (.getfield 55, 3) := by decide +kernel
theorem dX1_recoverSession_39 : decode cX1_recoverSession 39 = .ok (.if_icmp .ge 37, 3) := by decide +kernel
theorem dX1_recoverSession_42 : decode cX1_recoverSession 42 = .ok (.aload_n 0, 1) := by decide +kernel
theorem dX1_recoverSession_43 : decode cX1_recoverSession 43 = .ok (.getfield 21, 3) := by decide +kernel
theorem dX1_recoverSession_46 : decode cX1_recoverSession 46 = .ok (.iload_n 2, 1) := by decide +kernel
theorem dX1_recoverSession_47 : decode cX1_recoverSession 47 = .ok (.invokevirtual 174, 3) := by decide +kernel
theorem dX1_recoverSession_50 : decode cX1_recoverSession 50 = .ok (.istore_n 3, 1) := by decide +kernel
theorem dX1_recoverSession_51 : decode cX1_recoverSession 51 = .ok (.aload_n 0, 1) := by decide +kernel
theorem dX1_recoverSession_52 : decode cX1_recoverSession 52 = .ok (.iload_n 3, 1) := by decide +kernel
theorem dX1_recoverSession_53 : decode cX1_recoverSession 53 = .ok (.iload_n 1, 1) := by decide +kernel
theorem dX1_recoverSession_54 : decode cX1_recoverSession 54 = .ok (.invokevirtual 243, 3) := by decide +kernel
theorem dX1_recoverSession_57 : decode cX1_recoverSession 57 = .ok (.iload_n 2, 1) := by decide +kernel
theorem dX1_recoverSession_58 : decode cX1_recoverSession 58 = .ok (.if_icmp .ne 12, 3) := by decide +kernel
theorem dX1_recoverSession_61 : decode cX1_recoverSession 61 = .ok (.aload_n 0, 1) := by decide +kernel
theorem dX1_recoverSession_62 : decode cX1_recoverSession 62 = .ok (.getfield 28, 3) := by decide +kernel
theorem dX1_recoverSession_65 : decode cX1_recoverSession 65 = .ok (.iload_n 3, 1) := by decide +kernel
theorem dX1_recoverSession_66 : decode cX1_recoverSession 66 = .ok (.iload_n 2, 1) := by decide +kernel
theorem dX1_recoverSession_67 : decode cX1_recoverSession 67 = .ok (.invokevirtual 225, 3) := by decide +kernel
theorem dX1_recoverSession_70 : decode cX1_recoverSession 70 = .ok (.iinc 2 1, 3) := by decide +kernel
theorem dX1_recoverSession_73 : decode cX1_recoverSession 73 = .ok (.goto (-42), 3) := by decide +kernel
theorem dX1_recoverSession_76 : decode cX1_recoverSession 76 = .ok (.aload_n 0, 1) := by decide +kernel
theorem dX1_recoverSession_77 : decode cX1_recoverSession 77 = .ok (.invokevirtual 105, 3) := by decide +kernel
theorem dX1_recoverSession_80 : decode cX1_recoverSession 80 = .ok (.pop, 1) := by decide +kernel
theorem dX1_recoverSession_81 : decode cX1_recoverSession 81 = .ok (.aload_n 0, 1) := by decide +kernel
theorem dX1_recoverSession_82 : decode cX1_recoverSession 82 = .ok (.getfield 28, 3) := by decide +kernel
theorem dX1_recoverSession_85 : decode cX1_recoverSession 85 = .ok (.aload_n 0, 1) := by decide +kernel
theorem dX1_recoverSession_86 : decode cX1_recoverSession 86 = .ok (.getfield 28, 3) := by decide +kernel
theorem dX1_recoverSession_89 : decode cX1_recoverSession 89 = .ok (.invokevirtual 199, 3) := by decide +kernel
theorem dX1_recoverSession_92 : decode cX1_recoverSession 92 = .ok (.invokevirtual 202, 3) := by decide +kernel
theorem dX1_recoverSession_95 : decode cX1_recoverSession 95 = .ok (.ireturn, 1) := by decide +kernel
theorem dX1_recoverableVersions_0 : decode cX1_recoverableVersions 0 = .ok (.iconst 0, 1) := by decide +kernel
theorem dX1_recoverableVersions_1 : decode cX1_recoverableVersions 1 = .ok (.istore_n 1, 1) := by decide +kernel
theorem dX1_recoverableVersions_2 : decode cX1_recoverableVersions 2 = .ok (.iconst 0, 1) := by decide +kernel
theorem dX1_recoverableVersions_3 : decode cX1_recoverableVersions 3 = .ok (.istore_n 2, 1) := by decide +kernel
theorem dX1_recoverableVersions_4 : decode cX1_recoverableVersions 4 = .ok (.aload_n 0, 1) := by decide +kernel
theorem dX1_recoverableVersions_5 : decode cX1_recoverableVersions 5 = .ok (.getfield 28, 3) := by decide +kernel
theorem dX1_recoverableVersions_8 : decode cX1_recoverableVersions 8 = .ok (.invokevirtual 246, 3) := by decide +kernel
theorem dX1_recoverableVersions_11 : decode cX1_recoverableVersions 11 = .ok (.ifCond .eq 44, 3) := by decide +kernel
theorem dX1_recoverableVersions_14 : decode cX1_recoverableVersions 14 = .ok (.iload_n 2, 1) := by decide +kernel
theorem dX1_recoverableVersions_15 : decode cX1_recoverableVersions 15 = .ok (.aload_n 0, 1) := by decide +kernel
theorem dX1_recoverableVersions_16 : decode cX1_recoverableVersions 16 = .ok (.getfield 32, 3) := by decide +kernel
theorem dX1_recoverableVersions_19 : decode cX1_recoverableVersions 19 = .ok (.if_icmp .ge 36, 3) := by decide +kernel
theorem dX1_recoverableVersions_22 : decode cX1_recoverableVersions 22 = .ok (.iload_n 1, 1) := by decide +kernel
theorem dX1_recoverableVersions_23 : decode cX1_recoverableVersions 23 = .ok (.aload_n 0, 1) := by decide +kernel
theorem dX1_recoverableVersions_24 : decode cX1_recoverableVersions 24 = .ok (.iload_n 2, 1) := by decide +kernel
theorem dX1_recoverableVersions_25 : decode cX1_recoverableVersions 25 = .ok (.aload_n 0, 1) := by decide +kernel
theorem dX1_recoverableVersions_26 : decode cX1_recoverableVersions 26 = .ok (.getfield 28, 3) := by decide +kernel
theorem dX1_recoverableVersions_29 : decode cX1_recoverableVersions 29 = .ok (.invokevirtual 199, 3) := by decide +kernel
theorem dX1_recoverableVersions_32 : decode cX1_recoverableVersions 32 = .ok (.invokevirtual 243, 3) := by decide +kernel
theorem dX1_recoverableVersions_35 : decode cX1_recoverableVersions 35 = .ok (.iconst (-1), 1) := by decide +kernel
theorem dX1_recoverableVersions_36 : decode cX1_recoverableVersions 36 = .ok (.if_icmp .eq 7, 3) := by decide +kernel
theorem dX1_recoverableVersions_39 : decode cX1_recoverableVersions 39 = .ok (.iconst 1, 1) := by decide +kernel
theorem dX1_recoverableVersions_40 : decode cX1_recoverableVersions 40 = .ok (.goto 4, 3) := by decide +kernel
theorem dX1_recoverableVersions_43 : decode cX1_recoverableVersions 43 = .ok (.iconst 0, 1) := by decide +kernel
theorem dX1_recoverableVersions_44 : decode cX1_recoverableVersions 44 = .ok (.invokestatic 162, 3) := by decide +kernel
theorem dX1_recoverableVersions_47 : decode cX1_recoverableVersions 47 = .ok (.iadd, 1) := by decide +kernel
theorem dX1_recoverableVersions_48 : decode cX1_recoverableVersions 48 = .ok (.istore_n 1, 1) := by decide +kernel
theorem dX1_recoverableVersions_49 : decode cX1_recoverableVersions 49 = .ok (.iinc 2 1, 3) := by decide +kernel
theorem dX1_recoverableVersions_52 : decode cX1_recoverableVersions 52 = .ok (.goto (-48), 3) := by decide +kernel
theorem dX1_recoverableVersions_55 : decode cX1_recoverableVersions 55 = .ok (.iload_n 1, 1) := by decide +kernel
theorem dX1_recoverableVersions_56 : decode cX1_recoverableVersions 56 = .ok (.ireturn, 1) := by decide +kernel
theorem dX1_recoverableVersionOf_0 : decode cX1_recoverableVersionOf 0 = .ok (.aload_n 0, 1) := by decide +kernel
theorem dX1_recoverableVersionOf_1 : decode cX1_recoverableVersionOf 1 = .ok (.getfield 21, 3) := by decide +kernel
theorem dX1_recoverableVersionOf_4 : decode cX1_recoverableVersionOf 4 = .ok (.getfield 55, 3) := by decide +kernel
theorem dX1_recoverableVersionOf_7 : decode cX1_recoverableVersionOf 7 = .ok (.iconst 1, 1) := by decide +kernel
theorem dX1_recoverableVersionOf_8 : decode cX1_recoverableVersionOf 8 = .ok (.isub, 1) := by decide +kernel
theorem dX1_recoverableVersionOf_9 : decode cX1_recoverableVersionOf 9 = .ok (.istore_n 3, 1) := by decide +kernel
theorem dX1_recoverableVersionOf_10 : decode cX1_recoverableVersionOf 10 = .ok (.iload_n 3, 1) := by decide +kernel
theorem dX1_recoverableVersionOf_11 : decode cX1_recoverableVersionOf 11 = .ok (.ifCond .lt 55, 3) := by decide +kernel
theorem dX1_recoverableVersionOf_14 : decode cX1_recoverableVersionOf 14 = .ok (.aload_n 0, 1) := by decide +kernel
theorem dX1_recoverableVersionOf_15 : decode cX1_recoverableVersionOf 15 = .ok (.getfield 21, 3) := by decide +kernel
theorem dX1_recoverableVersionOf_18 : decode cX1_recoverableVersionOf 18 = .ok (.iload_n 3, 1) := by decide +kernel
theorem dX1_recoverableVersionOf_19 : decode cX1_recoverableVersionOf 19 = .ok (.invokevirtual 174, 3) := by decide +kernel
theorem dX1_recoverableVersionOf_22 : decode cX1_recoverableVersionOf 22 = .ok (.iload_n 1, 1) := by decide +kernel
theorem dX1_recoverableVersionOf_23 : decode cX1_recoverableVersionOf 23 = .ok (.if_icmp .ne 19, 3) := by decide +kernel
theorem dX1_recoverableVersionOf_26 : decode cX1_recoverableVersionOf 26 = .ok (.aload_n 0, 1) := by decide +kernel
theorem dX1_recoverableVersionOf_27 : decode cX1_recoverableVersionOf 27 = .ok (.getfield 21, 3) := by decide +kernel
theorem dX1_recoverableVersionOf_30 : decode cX1_recoverableVersionOf 30 = .ok (.iload_n 3, 1) := by decide +kernel
theorem dX1_recoverableVersionOf_31 : decode cX1_recoverableVersionOf 31 = .ok (.invokevirtual 249, 3) := by decide +kernel
theorem dX1_recoverableVersionOf_34 : decode cX1_recoverableVersionOf 34 = .ok (.iload_n 2, 1) := by decide +kernel
theorem dX1_recoverableVersionOf_35 : decode cX1_recoverableVersionOf 35 = .ok (.if_icmp .ne 7, 3) := by decide +kernel
theorem dX1_recoverableVersionOf_38 : decode cX1_recoverableVersionOf 38 = .ok (.iconst 1, 1) := by decide +kernel
theorem dX1_recoverableVersionOf_39 : decode cX1_recoverableVersionOf 39 = .ok (.goto 4, 3) := by decide +kernel
theorem dX1_recoverableVersionOf_42 : decode cX1_recoverableVersionOf 42 = .ok (.iconst 0, 1) := by decide +kernel
theorem dX1_recoverableVersionOf_43 : decode cX1_recoverableVersionOf 43 = .ok (.istore 4, 2) := by decide +kernel
theorem dX1_recoverableVersionOf_45 : decode cX1_recoverableVersionOf 45 = .ok (.iload 4, 2) := by decide +kernel
theorem dX1_recoverableVersionOf_47 : decode cX1_recoverableVersionOf 47 = .ok (.ifCond .eq 13, 3) := by decide +kernel
theorem dX1_recoverableVersionOf_50 : decode cX1_recoverableVersionOf 50 = .ok (.aload_n 0, 1) := by decide +kernel
theorem dX1_recoverableVersionOf_51 : decode cX1_recoverableVersionOf 51 = .ok (.iload_n 3, 1) := by decide +kernel
theorem dX1_recoverableVersionOf_52 : decode cX1_recoverableVersionOf 52 = .ok (.invokevirtual 250, 3) := by decide +kernel
theorem dX1_recoverableVersionOf_55 : decode cX1_recoverableVersionOf 55 = .ok (.ifCond .eq 5, 3) := by decide +kernel
theorem dX1_recoverableVersionOf_58 : decode cX1_recoverableVersionOf 58 = .ok (.iload_n 3, 1) := by decide +kernel
theorem dX1_recoverableVersionOf_59 : decode cX1_recoverableVersionOf 59 = .ok (.ireturn, 1) := by decide +kernel
theorem dX1_recoverableVersionOf_60 : decode cX1_recoverableVersionOf 60 = .ok (.iinc 3 (-1), 3) := by decide +kernel
theorem dX1_recoverableVersionOf_63 : decode cX1_recoverableVersionOf 63 = .ok (.goto (-53), 3) := by decide +kernel
theorem dX1_recoverableVersionOf_66 : decode cX1_recoverableVersionOf 66 = .ok (.iconst (-1), 1) := by decide +kernel
theorem dX1_recoverableVersionOf_67 : decode cX1_recoverableVersionOf 67 = .ok (.ireturn, 1) := by decide +kernel
theorem dX10_init_0 : decode cX10_init 0 = .ok (.aload_n 0, 1) := by decide +kernel
theorem dX10_init_1 : decode cX10_init 1 = .ok (.invokespecial 1, 3) := by decide +kernel
theorem dX10_init_4 : decode cX10_init 4 = .ok (.aload_n 0, 1) := by decide +kernel
theorem dX10_init_5 : decode cX10_init 5 = .ok (.bipush 96, 2) := by decide +kernel
theorem dX10_init_7 : decode cX10_init 7 = .ok (.newarray .int, 2) := by decide +kernel
theorem dX10_init_9 : decode cX10_init 9 = .ok (.putfield 7, 3) := by decide +kernel
theorem dX10_init_12 : decode cX10_init 12 = .ok (.aload_n 0, 1) := by decide +kernel
theorem dX10_init_13 : decode cX10_init 13 = .ok (.bipush 96, 2) := by decide +kernel
theorem dX10_init_15 : decode cX10_init 15 = .ok (.newarray .int, 2) := by decide +kernel
theorem dX10_init_17 : decode cX10_init 17 = .ok (.putfield 13, 3) := by decide +kernel
theorem dX10_init_20 : decode cX10_init 20 = .ok (.aload_n 0, 1) := by decide +kernel
theorem dX10_init_21 : decode cX10_init 21 = .ok (.bipush 96, 2) := by decide +kernel
theorem dX10_init_23 : decode cX10_init 23 = .ok (.newarray .int, 2) := by decide +kernel
theorem dX10_init_25 : decode cX10_init 25 = .ok (.putfield 16, 3) := by decide +kernel
theorem dX10_init_28 : decode cX10_init 28 = .ok (.aload_n 0, 1) := by decide +kernel
theorem dX10_init_29 : decode cX10_init 29 = .ok (.bipush 96, 2) := by decide +kernel
theorem dX10_init_31 : decode cX10_init 31 = .ok (.newarray .int, 2) := by decide +kernel
theorem dX10_init_33 : decode cX10_init 33 = .ok (.putfield 19, 3) := by decide +kernel
theorem dX10_init_36 : decode cX10_init 36 = .ok (.aload_n 0, 1) := by decide +kernel
theorem dX10_init_37 : decode cX10_init 37 = .ok (.bipush 96, 2) := by decide +kernel
theorem dX10_init_39 : decode cX10_init 39 = .ok (.newarray .int, 2) := by decide +kernel
theorem dX10_init_41 : decode cX10_init 41 = .ok (.putfield 22, 3) := by decide +kernel
theorem dX10_init_44 : decode cX10_init 44 = .ok (.aload_n 0, 1) := by decide +kernel
theorem dX10_init_45 : decode cX10_init 45 = .ok (.bipush 96, 2) := by decide +kernel
theorem dX10_init_47 : decode cX10_init 47 = .ok (.newarray .boolean, 2) := by decide +kernel
theorem dX10_init_49 : decode cX10_init 49 = .ok (.putfield 25, 3) := by decide +kernel
theorem dX10_init_52 : decode cX10_init 52 = .ok (.aload_n 0, 1) := by decide +kernel
theorem dX10_init_53 : decode cX10_init 53 = .ok (.bipush 96, 2) := by decide +kernel
theorem dX10_init_55 : decode cX10_init 55 = .ok (.newarray .boolean, 2) := by decide +kernel
theorem dX10_init_57 : decode cX10_init 57 = .ok (.putfield 29, 3) := by decide +kernel
theorem dX10_init_60 : decode cX10_init 60 = .ok (.aload_n 0, 1) := by decide +kernel
theorem dX10_init_61 : decode cX10_init 61 = .ok (.bipush 96, 2) := by decide +kernel
theorem dX10_init_63 : decode cX10_init 63 = .ok (.anewarray 32, 3) := by decide +kernel
theorem dX10_init_66 : decode cX10_init 66 = .ok (.putfield 34, 3) := by decide +kernel
theorem dX10_init_69 : decode cX10_init 69 = .ok (.aload_n 0, 1) := by decide +kernel
theorem dX10_init_70 : decode cX10_init 70 = .ok (.bipush 96, 2) := by decide +kernel
theorem dX10_init_72 : decode cX10_init 72 = .ok (.anewarray 32, 3) := by decide +kernel
theorem dX10_init_75 : decode cX10_init 75 = .ok (.putfield 38, 3) := by decide +kernel
theorem dX10_init_78 : decode cX10_init 78 = .ok (.aload_n 0, 1) := by decide +kernel
theorem dX10_init_79 : decode cX10_init 79 = .ok (.bipush 12, 2) := by decide +kernel
theorem dX10_init_81 : decode cX10_init 81 = .ok (.anewarray 41, 3) := by decide +kernel
theorem dX10_init_84 : decode cX10_init 84 = .ok (.putfield 43, 3) := by decide +kernel
theorem dX10_init_87 : decode cX10_init 87 = .ok (.iconst 0, 1) := by decide +kernel
theorem dX10_init_88 : decode cX10_init 88 = .ok (.istore_n 1, 1) := by decide +kernel
theorem dX10_init_89 : decode cX10_init 89 = .ok (.iload_n 1, 1) := by decide +kernel
theorem dX10_init_90 : decode cX10_init 90 = .ok (.bipush 96, 2) := by decide +kernel
theorem dX10_init_92 : decode cX10_init 92 = .ok (.if_icmp .ge 37, 3) := by decide +kernel
theorem dX10_init_95 : decode cX10_init 95 = .ok (.aload_n 0, 1) := by decide +kernel
theorem dX10_init_96 : decode cX10_init 96 = .ok (.getfield 13, 3) := by decide +kernel
theorem dX10_init_99 : decode cX10_init 99 = .ok (.iload_n 1, 1) := by decide +kernel
theorem dX10_init_100 : decode cX10_init 100 = .ok (.iconst (-1), 1) := by decide +kernel
theorem dX10_init_101 : decode cX10_init 101 = .ok (.iastore, 1) := by decide +kernel
theorem dX10_init_102 : decode cX10_init 102 = .ok (.aload_n 0, 1) := by decide +kernel
theorem dX10_init_103 : decode cX10_init 103 = .ok (.getfield 16, 3) := by decide +kernel
theorem dX10_init_106 : decode cX10_init 106 = .ok (.iload_n 1, 1) := by decide +kernel
theorem dX10_init_107 : decode cX10_init 107 = .ok (.iconst (-1), 1) := by decide +kernel
theorem dX10_init_108 : decode cX10_init 108 = .ok (.iastore, 1) := by decide +kernel
theorem dX10_init_109 : decode cX10_init 109 = .ok (.aload_n 0, 1) := by decide +kernel
theorem dX10_init_110 : decode cX10_init 110 = .ok (.getfield 19, 3) := by decide +kernel
theorem dX10_init_113 : decode cX10_init 113 = .ok (.iload_n 1, 1) := by decide +kernel
theorem dX10_init_114 : decode cX10_init 114 = .ok (.iconst (-1), 1) := by decide +kernel
theorem dX10_init_115 : decode cX10_init 115 = .ok (.iastore, 1) := by decide +kernel
theorem dX10_init_116 : decode cX10_init 116 = .ok (.aload_n 0, 1) := by decide +kernel
theorem dX10_init_117 : decode cX10_init 117 = .ok (.getfield 22, 3) := by decide +kernel
theorem dX10_init_120 : decode cX10_init 120 = .ok (.iload_n 1, 1) := by decide +kernel
theorem dX10_init_121 : decode cX10_init 121 = .ok (.iconst (-1), 1) := by decide +kernel
theorem dX10_init_122 : decode cX10_init 122 = .ok (.iastore, 1) := by decide +kernel
theorem dX10_init_123 : decode cX10_init 123 = .ok (.iinc 1 1, 3) := by decide +kernel
theorem dX10_init_126 : decode cX10_init 126 = .ok (.goto (-37), 3) := by decide +kernel
theorem dX10_init_129 : decode cX10_init 129 = .ok (.return_, 1) := by decide +kernel
theorem dX10_main_0 : decode cX10_main 0 = .ok (.aload_n 0, 1) := by decide +kernel
theorem dX10_main_1 : decode cX10_main 1 = .ok (.getfield 47, 3) := by decide +kernel
theorem dX10_main_4 : decode cX10_main 4 = .ok (.aload_n 0, 1) := by decide +kernel
theorem dX10_main_5 : decode cX10_main 5 = .ok (.getfield 51, 3) := by decide +kernel
theorem dX10_main_8 : decode cX10_main 8 = .ok (.isub, 1) := by decide +kernel
theorem dX10_main_9 : decode cX10_main 9 = .ok (.ireturn, 1) := by decide +kernel
theorem dX10_open_0 : decode cX10_open 0 = .ok (.aload_n 0, 1) := by decide +kernel
theorem dX10_open_1 : decode cX10_open 1 = .ok (.getfield 54, 3) := by decide +kernel
theorem dX10_open_4 : decode cX10_open 4 = .ok (.ifCond .le 34, 3) := by decide +kernel
theorem dX10_open_7 : decode cX10_open 7 = .ok (.aload_n 0, 1) := by decide +kernel
theorem dX10_open_8 : decode cX10_open 8 = .ok (.getfield 43, 3) := by decide +kernel
theorem dX10_open_11 : decode cX10_open 11 = .ok (.aload_n 0, 1) := by decide +kernel
theorem dX10_open_12 : decode cX10_open 12 = .ok (.getfield 54, 3) := by decide +kernel
theorem dX10_open_15 : decode cX10_open 15 = .ok (.iconst 1, 1) := by decide +kernel
theorem dX10_open_16 : decode cX10_open 16 = .ok (.isub, 1) := by decide +kernel
theorem dX10_open_17 : decode cX10_open 17 = .ok (.aaload, 1) := by decide +kernel
theorem dX10_open_18 : decode cX10_open 18 = .ok (.getfield 57, 3) := by decide +kernel
theorem dX10_open_21 : decode cX10_open 21 = .ok (.ifCond .ne 17, 3) := by decide +kernel
theorem dX10_open_24 : decode cX10_open 24 = .ok (.aload_n 0, 1) := by decide +kernel
theorem dX10_open_25 : decode cX10_open 25 = .ok (.getfield 43, 3) := by decide +kernel
theorem dX10_open_28 : decode cX10_open 28 = .ok (.aload_n 0, 1) := by decide +kernel
theorem dX10_open_29 : decode cX10_open 29 = .ok (.getfield 54, 3) := by decide +kernel
theorem dX10_open_32 : decode cX10_open 32 = .ok (.iconst 1, 1) := by decide +kernel
theorem dX10_open_33 : decode cX10_open 33 = .ok (.isub, 1) := by decide +kernel
theorem dX10_open_34 : decode cX10_open 34 = .ok (.aaload, 1) := by decide +kernel
theorem dX10_open_35 : decode cX10_open 35 = .ok (.goto 4, 3) := by decide +kernel
theorem dX10_open_38 : decode cX10_open 38 = .ok (.aconst_null, 1) := by decide +kernel
theorem dX10_open_39 : decode cX10_open 39 = .ok (.areturn, 1) := by decide +kernel
theorem dX10_put_0 : decode cX10_put 0 = .ok (.aload_n 0, 1) := by decide +kernel
theorem dX10_put_1 : decode cX10_put 1 = .ok (.getfield 7, 3) := by decide +kernel
theorem dX10_put_4 : decode cX10_put 4 = .ok (.iload_n 1, 1) := by decide +kernel
theorem dX10_put_5 : decode cX10_put 5 = .ok (.iload_n 2, 1) := by decide +kernel
theorem dX10_put_6 : decode cX10_put 6 = .ok (.iastore, 1) := by decide +kernel
theorem dX10_put_7 : decode cX10_put 7 = .ok (.aload_n 0, 1) := by decide +kernel
theorem dX10_put_8 : decode cX10_put 8 = .ok (.getfield 13, 3) := by decide +kernel
theorem dX10_put_11 : decode cX10_put 11 = .ok (.iload_n 1, 1) := by decide +kernel
theorem dX10_put_12 : decode cX10_put 12 = .ok (.aload_n 0, 1) := by decide +kernel
theorem dX10_put_13 : decode cX10_put 13 = .ok (.getfield 54, 3) := by decide +kernel
theorem dX10_put_16 : decode cX10_put 16 = .ok (.iconst 1, 1) := by decide +kernel
theorem dX10_put_17 : decode cX10_put 17 = .ok (.isub, 1) := by decide +kernel
theorem dX10_put_18 : decode cX10_put 18 = .ok (.iastore, 1) := by decide +kernel
theorem dX10_put_19 : decode cX10_put 19 = .ok (.aload_n 0, 1) := by decide +kernel
theorem dX10_put_20 : decode cX10_put 20 = .ok (.getfield 34, 3) := by decide +kernel
theorem dX10_put_23 : decode cX10_put 23 = .ok (.iload_n 1, 1) := by decide +kernel
theorem dX10_put_24 : decode cX10_put 24 = .ok (.aload_n 3, 1) := by decide +kernel
theorem dX10_put_25 : decode cX10_put 25 = .ok (.aastore, 1) := by decide +kernel
theorem dX10_put_26 : decode cX10_put 26 = .ok (.aload_n 0, 1) := by decide +kernel
theorem dX10_put_27 : decode cX10_put 27 = .ok (.getfield 16, 3) := by decide +kernel
theorem dX10_put_30 : decode cX10_put 30 = .ok (.iload_n 1, 1) := by decide +kernel
theorem dX10_put_31 : decode cX10_put 31 = .ok (.iload 4, 2) := by decide +kernel
theorem dX10_put_33 : decode cX10_put 33 = .ok (.iastore, 1) := by decide +kernel
theorem dX10_put_34 : decode cX10_put 34 = .ok (.return_, 1) := by decide +kernel
theorem dX10_burn_0 : decode cX10_burn 0 = .ok (.aload_n 0, 1) := by decide +kernel
theorem dX10_burn_1 : decode cX10_burn 1 = .ok (.dup, 1) := by decide +kernel
theorem dX10_burn_2 : decode cX10_burn 2 = .ok (.getfield 60, 3) := by decide +kernel
theorem dX10_burn_5 : decode cX10_burn 5 = .ok (.dup_x1, 1) := by decide +kernel
theorem dX10_burn_6 : decode cX10_burn 6 = .ok (.iconst 1, 1) := by decide +kernel
theorem dX10_burn_7 : decode cX10_burn 7 = .ok (.iadd, 1) := by decide +kernel
theorem dX10_burn_8 : decode cX10_burn 8 = .ok (.putfield 60, 3) := by decide +kernel
theorem dX10_burn_11 : decode cX10_burn 11 = .ok (.istore 4, 2) := by decide +kernel
theorem dX10_burn_13 : decode cX10_burn 13 = .ok (.aload_n 0, 1) := by decide +kernel
theorem dX10_burn_14 : decode cX10_burn 14 = .ok (.getfield 25, 3) := by decide +kernel
theorem dX10_burn_17 : decode cX10_burn 17 = .ok (.iload 4, 2) := by decide +kernel
theorem dX10_burn_19 : decode cX10_burn 19 = .ok (.baload, 1) := by decide +kernel
theorem dX10_burn_20 : decode cX10_burn 20 = .ok (.ifCond .ne 15, 3) := by decide +kernel
theorem dX10_burn_23 : decode cX10_burn 23 = .ok (.aload_n 0, 1) := by decide +kernel
theorem dX10_burn_24 : decode cX10_burn 24 = .ok (.iload 4, 2) := by decide +kernel
theorem dX10_burn_26 : decode cX10_burn 26 = .ok (.iload_n 1, 1) := by decide +kernel
theorem dX10_burn_27 : decode cX10_burn 27 = .ok (.aload_n 2, 1) := by decide +kernel
theorem dX10_burn_28 : decode cX10_burn 28 = .ok (.iload_n 3, 1) := by decide +kernel
theorem dX10_burn_29 : decode cX10_burn 29 = .ok (.invokevirtual 63, 3) := by decide +kernel
theorem dX10_burn_32 : decode cX10_burn 32 = .ok (.iload 4, 2) := by decide +kernel
theorem dX10_burn_34 : decode cX10_burn 34 = .ok (.ireturn, 1) := by decide +kernel
theorem dX10_burn_35 : decode cX10_burn 35 = .ok (.aload_n 0, 1) := by decide +kernel
theorem dX10_burn_36 : decode cX10_burn 36 = .ok (.iload 4, 2) := by decide +kernel
theorem dX10_burn_38 : decode cX10_burn 38 = .ok (.iconst 3, 1) := by decide +kernel
theorem dX10_burn_39 : decode cX10_burn 39 = .ok (.aconst_null, 1) := by decide +kernel
theorem dX10_burn_40 : decode cX10_burn 40 = .ok (.iconst (-1), 1) := by decide +kernel
theorem dX10_burn_41 : decode cX10_burn 41 = .ok (.invokevirtual 63, 3) := by decide +kernel
theorem dX10_burn_44 : decode cX10_burn 44 = .ok (.aload_n 0, 1) := by decide +kernel
theorem dX10_burn_45 : decode cX10_burn 45 = .ok (.invokevirtual 67, 3) := by decide +kernel
theorem dX10_burn_48 : decode cX10_burn 48 = .ok (.istore 5, 2) := by decide +kernel
theorem dX10_burn_50 : decode cX10_burn 50 = .ok (.iload 5, 2) := by decide +kernel
theorem dX10_burn_52 : decode cX10_burn 52 = .ok (.aload_n 0, 1) := by decide +kernel
theorem dX10_burn_53 : decode cX10_burn 53 = .ok (.getfield 47, 3) := by decide +kernel
theorem dX10_burn_56 : decode cX10_burn 56 = .ok (.if_icmp .ge 74, 3) := by decide +kernel
theorem dX10_burn_59 : decode cX10_burn 59 = .ok (.aload_n 0, 1) := by decide +kernel
theorem dX10_burn_60 : decode cX10_burn 60 = .ok (.getfield 7, 3) := by decide +kernel
theorem dX10_burn_63 : decode cX10_burn 63 = .ok (.iload 5, 2) := by decide +kernel
theorem dX10_burn_65 : decode cX10_burn 65 = .ok (.iaload, 1) := by decide +kernel
theorem dX10_burn_66 : decode cX10_burn 66 = .ok (.ifCond .eq 6, 3) := by decide +kernel
theorem dX10_burn_69 : decode cX10_burn 69 = .ok (.goto 55, 3) := by decide +kernel
theorem dX10_burn_72 : decode cX10_burn 72 = .ok (.aload_n 0, 1) := by decide +kernel
theorem dX10_burn_73 : decode cX10_burn 73 = .ok (.getfield 25, 3) := by decide +kernel
theorem dX10_burn_76 : decode cX10_burn 76 = .ok (.iload 5, 2) := by decide +kernel
theorem dX10_burn_78 : decode cX10_burn 78 = .ok (.baload, 1) := by decide +kernel
theorem dX10_burn_79 : decode cX10_burn 79 = .ok (.ifCond .eq 15, 3) := by decide +kernel
theorem dX10_burn_82 : decode cX10_burn 82 = .ok (.aload_n 0, 1) := by decide +kernel
theorem dX10_burn_83 : decode cX10_burn 83 = .ok (.iload 5, 2) := by decide +kernel
theorem dX10_burn_85 : decode cX10_burn 85 = .ok (.iconst 3, 1) := by decide +kernel
theorem dX10_burn_86 : decode cX10_burn 86 = .ok (.aconst_null, 1) := by decide +kernel
theorem dX10_burn_87 : decode cX10_burn 87 = .ok (.iconst (-1), 1) := by decide +kernel
theorem dX10_burn_88 : decode cX10_burn 88 = .ok (.invokevirtual 63, 3) := by decide +kernel
theorem dX10_burn_91 : decode cX10_burn 91 = .ok (.goto 33, 3) := by decide +kernel
theorem dX10_burn_94 : decode cX10_burn 94 = .ok (.aload_n 0, 1) := by decide +kernel
theorem dX10_burn_95 : decode cX10_burn 95 = .ok (.iload 5, 2) := by decide +kernel
theorem dX10_burn_97 : decode cX10_burn 97 = .ok (.iload_n 1, 1) := by decide +kernel
theorem dX10_burn_98 : decode cX10_burn 98 = .ok (.aload_n 2, 1) := by decide +kernel
theorem dX10_burn_99 : decode cX10_burn 99 = .ok (.iload_n 3, 1) := by decide +kernel
theorem dX10_burn_100 : decode cX10_burn 100 = .ok (.invokevirtual 63, 3) := by decide +kernel
theorem dX10_burn_103 : decode cX10_burn 103 = .ok (.aload_n 0, 1) := by decide +kernel
theorem dX10_burn_104 : decode cX10_burn 104 = .ok (.getfield 19, 3) := by decide +kernel
theorem dX10_burn_107 : decode cX10_burn 107 = .ok (.iload 5, 2) := by decide +kernel
theorem dX10_burn_109 : decode cX10_burn 109 = .ok (.iload 4, 2) := by decide +kernel
theorem dX10_burn_111 : decode cX10_burn 111 = .ok (.iastore, 1) := by decide +kernel
theorem dX10_burn_112 : decode cX10_burn 112 = .ok (.aload_n 0, 1) := by decide +kernel
theorem dX10_burn_113 : decode cX10_burn 113 = .ok (.getfield 22, 3) := by decide +kernel
theorem dX10_burn_116 : decode cX10_burn 116 = .ok (.iload 4, 2) := by decide +kernel
theorem dX10_burn_118 : decode cX10_burn 118 = .ok (.iload 5, 2) := by decide +kernel
theorem dX10_burn_120 : decode cX10_burn 120 = .ok (.iastore, 1) := by decide +kernel
theorem dX10_burn_121 : decode cX10_burn 121 = .ok (.iload 5, 2) := by decide +kernel
theorem dX10_burn_123 : decode cX10_burn 123 = .ok (.ireturn, 1) := by decide +kernel
theorem dX10_burn_124 : decode cX10_burn 124 = .ok (.iinc 5 1, 3) := by decide +kernel
theorem dX10_burn_127 : decode cX10_burn 127 = .ok (.goto (-77), 3) := by decide +kernel
theorem dX10_burn_130 : decode cX10_burn 130 = .ok (.iconst (-1), 1) := by decide +kernel
theorem dX10_burn_131 : decode cX10_burn 131 = .ok (.ireturn, 1) := by decide +kernel
theorem dX10_spares_0 : decode cX10_spares 0 = .ok (.iconst 0, 1) := by decide +kernel
theorem dX10_spares_1 : decode cX10_spares 1 = .ok (.istore_n 2, 1) := by decide +kernel
theorem dX10_spares_2 : decode cX10_spares 2 = .ok (.iconst 0, 1) := by decide +kernel
theorem dX10_spares_3 : decode cX10_spares 3 = .ok (.istore_n 3, 1) := by decide +kernel
theorem dX10_spares_4 : decode cX10_spares 4 = .ok (.aload_n 0, 1) := by decide +kernel
theorem dX10_spares_5 : decode cX10_spares 5 = .ok (.invokevirtual 67, 3) := by decide +kernel
theorem dX10_spares_8 : decode cX10_spares 8 = .ok (.istore 4, 2) := by decide +kernel
theorem dX10_spares_10 : decode cX10_spares 10 = .ok (.iload 4, 2) := by decide +kernel
theorem dX10_spares_12 : decode cX10_spares 12 = .ok (.aload_n 0, 1) := by decide +kernel
theorem dX10_spares_13 : decode cX10_spares 13 = .ok (.getfield 47, 3) := by decide +kernel
theorem dX10_spares_16 : decode cX10_spares 16 = .ok (.if_icmp .ge 32, 3) := by decide +kernel
theorem dX10_spares_19 : decode cX10_spares 19 = .ok (.aload_n 0, 1) := by decide +kernel
theorem dX10_spares_20 : decode cX10_spares 20 = .ok (.getfield 7, 3) := by decide +kernel
theorem dX10_spares_23 : decode cX10_spares 23 = .ok (.iload 4, 2) := by decide +kernel
theorem dX10_spares_25 : decode cX10_spares 25 = .ok (.iaload, 1) := by decide +kernel
theorem dX10_spares_26 : decode cX10_spares 26 = .ok (.ifCond .ne 16, 3) := by decide +kernel
theorem dX10_spares_29 : decode cX10_spares 29 = .ok (.aload_n 0, 1) := by decide +kernel
theorem dX10_spares_30 : decode cX10_spares 30 = .ok (.getfield 25, 3) := by decide +kernel
theorem dX10_spares_33 : decode cX10_spares 33 = .ok (.iload 4, 2) := by decide +kernel
theorem dX10_spares_35 : decode cX10_spares 35 = .ok (.baload, 1) := by decide +kernel
theorem dX10_spares_36 : decode cX10_spares 36 = .ok (.ifCond .ne 6, 3) := by decide +kernel
theorem dX10_spares_39 : decode cX10_spares 39 = .ok (.iinc 2 1, 3) := by decide +kernel
theorem dX10_spares_42 : decode cX10_spares 42 = .ok (.iinc 4 1, 3) := by decide +kernel
theorem dX10_spares_45 : decode cX10_spares 45 = .ok (.goto (-35), 3) := by decide +kernel
theorem dX10_spares_48 : decode cX10_spares 48 = .ok (.iconst 0, 1) := by decide +kernel
theorem dX10_spares_49 : decode cX10_spares 49 = .ok (.istore 4, 2) := by decide +kernel
theorem dX10_spares_51 : decode cX10_spares 51 = .ok (.iload 4, 2) := by decide +kernel
theorem dX10_spares_53 : decode cX10_spares 53 = .ok (.iload_n 1, 1) := by decide +kernel
theorem dX10_spares_54 : decode cX10_spares 54 = .ok (.if_icmp .ge 27, 3) := by decide +kernel
theorem dX10_spares_57 : decode cX10_spares 57 = .ok (.aload_n 0, 1) := by decide +kernel
theorem dX10_spares_58 : decode cX10_spares 58 = .ok (.getfield 25, 3) := by decide +kernel
theorem dX10_spares_61 : decode cX10_spares 61 = .ok (.aload_n 0, 1) := by decide +kernel
theorem dX10_spares_62 : decode cX10_spares 62 = .ok (.getfield 60, 3) := by decide +kernel
theorem dX10_spares_65 : decode cX10_spares 65 = .ok (.iload 4, 2) := by decide +kernel
theorem dX10_spares_67 : decode cX10_spares 67 = .ok (.iadd, 1) := by decide +kernel
theorem dX10_spares_68 : decode cX10_spares 68 = .ok (.baload, 1) := by decide +kernel
theorem dX10_spares_69 : decode cX10_spares 69 = .ok (.ifCond .eq 6, 3) := by decide +kernel
theorem dX10_spares_72 : decode cX10_spares 72 = .ok (.iinc 3 1, 3) := by decide +kernel
theorem dX10_spares_75 : decode cX10_spares 75 = .ok (.iinc 4 1, 3) := by decide +kernel
theorem dX10_spares_78 : decode cX10_spares 78 = .ok (.goto (-27), 3) := by decide +kernel
theorem dX10_spares_81 : decode cX10_spares 81 = .ok (.iload_n 3, 1) := by decide +kernel
theorem dX10_spares_82 : decode cX10_spares 82 = .ok (.iload_n 2, 1) := by decide +kernel
theorem dX10_spares_83 : decode cX10_spares 83 = .ok (.if_icmp .gt 7, 3) := by decide +kernel
theorem dX10_spares_86 : decode cX10_spares 86 = .ok (.iconst 1, 1) := by decide +kernel
theorem dX10_spares_87 : decode cX10_spares 87 = .ok (.goto 4, 3) := by decide +kernel
theorem dX10_spares_90 : decode cX10_spares 90 = .ok (.iconst 0, 1) := by decide +kernel
theorem dX10_spares_91 : decode cX10_spares 91 = .ok (.ireturn, 1) := by decide +kernel
theorem dX10_why_0 : decode cX10_why 0 = .ok (.aload_n 0, 1) := by decide +kernel
theorem dX10_why_1 : decode cX10_why 1 = .ok (.getfield 60, 3) := by decide +kernel
theorem dX10_why_4 : decode cX10_why 4 = .ok (.iload_n 1, 1) := by decide +kernel
theorem dX10_why_5 : decode cX10_why 5 = .ok (.iadd, 1) := by decide +kernel
theorem dX10_why_6 : decode cX10_why 6 = .ok (.iload_n 2, 1) := by decide +kernel
theorem dX10_why_7 : decode cX10_why 7 = .ok (.iconst 3, 1) := by decide +kernel
theorem dX10_why_8 : decode cX10_why 8 = .ok (.iadd, 1) := by decide +kernel
theorem dX10_why_9 : decode cX10_why 9 = .ok (.iconst 4, 1) := by decide +kernel
theorem dX10_why_10 : decode cX10_why 10 = .ok (.idiv, 1) := by decide +kernel
theorem dX10_why_11 : decode cX10_why 11 = .ok (.iadd, 1) := by decide +kernel
theorem dX10_why_12 : decode cX10_why 12 = .ok (.aload_n 0, 1) := by decide +kernel
theorem dX10_why_13 : decode cX10_why 13 = .ok (.invokevirtual 67, 3) := by decide +kernel
theorem dX10_why_16 : decode cX10_why 16 = .ok (.if_icmp .le 7, 3) := by decide +kernel
theorem dX10_why_19 : decode cX10_why 19 = .ok (.iconst 4, 1) := by decide +kernel
theorem dX10_why_20 : decode cX10_why 20 = .ok (.goto 16, 3) := by decide +kernel
theorem dX10_why_23 : decode cX10_why 23 = .ok (.aload_n 0, 1) := by decide +kernel
theorem dX10_why_24 : decode cX10_why 24 = .ok (.iload_n 1, 1) := by decide +kernel
theorem dX10_why_25 : decode cX10_why 25 = .ok (.invokevirtual 71, 3) := by decide +kernel
theorem dX10_why_28 : decode cX10_why 28 = .ok (.ifCond .eq 7, 3) := by decide +kernel
theorem dX10_why_31 : decode cX10_why 31 = .ok (.iconst 0, 1) := by decide +kernel
theorem dX10_why_32 : decode cX10_why 32 = .ok (.goto 4, 3) := by decide +kernel
theorem dX10_why_35 : decode cX10_why 35 = .ok (.iconst 5, 1) := by decide +kernel
theorem dX10_why_36 : decode cX10_why 36 = .ok (.ireturn, 1) := by decide +kernel
theorem dX10_entriesWith_0 : decode cX10_entriesWith 0 = .ok (.aload_n 0, 1) := by decide +kernel
theorem dX10_entriesWith_1 : decode cX10_entriesWith 1 = .ok (.invokevirtual 75, 3) := by decide +kernel
theorem dX10_entriesWith_4 : decode cX10_entriesWith 4 = .ok (.astore_n 2, 1) := by decide +kernel
theorem dX10_entriesWith_5 : decode cX10_entriesWith 5 = .ok (.aload_n 2, 1) := by decide +kernel
theorem dX10_entriesWith_6 : decode cX10_entriesWith 6 = .ok (.ifnonnull 7, 3) := by decide +kernel
theorem dX10_entriesWith_9 : decode cX10_entriesWith 9 = .ok (.iconst 1, 1) := by decide +kernel
theorem dX10_entriesWith_10 : decode cX10_entriesWith 10 = .ok (.goto 21, 3) := by decide +kernel
theorem dX10_entriesWith_13 : decode cX10_entriesWith 13 = .ok (.aload_n 2, 1) := by decide +kernel
theorem dX10_entriesWith_14 : decode cX10_entriesWith 14 = .ok (.getfield 79, 3) := by decide +kernel
theorem dX10_entriesWith_17 : decode cX10_entriesWith 17 = .ok (.aload_n 2, 1) := by decide +kernel
theorem dX10_entriesWith_18 : decode cX10_entriesWith 18 = .ok (.iload_n 1, 1) := by decide +kernel
theorem dX10_entriesWith_19 : decode cX10_entriesWith 19 = .ok (.invokevirtual 82, 3) := by decide +kernel
theorem dX10_entriesWith_22 : decode cX10_entriesWith 22 = .ok (.ifCond .ge 7, 3) := by decide +kernel
theorem dX10_entriesWith_25 : decode cX10_entriesWith 25 = .ok (.iconst 1, 1) := by decide +kernel
theorem dX10_entriesWith_26 : decode cX10_entriesWith 26 = .ok (.goto 4, 3) := by decide +kernel
theorem dX10_entriesWith_29 : decode cX10_entriesWith 29 = .ok (.iconst 0, 1) := by decide +kernel
theorem dX10_entriesWith_30 : decode cX10_entriesWith 30 = .ok (.iadd, 1) := by decide +kernel
theorem dX10_entriesWith_31 : decode cX10_entriesWith 31 = .ok (.ireturn, 1) := by decide +kernel
theorem dX10_whyWrite_0 : decode cX10_whyWrite 0 = .ok (.aload_n 0, 1) := by decide +kernel
theorem dX10_whyWrite_1 : decode cX10_whyWrite 1 = .ok (.invokevirtual 75, 3) := by decide +kernel
theorem dX10_whyWrite_4 : decode cX10_whyWrite 4 = .ok (.ifnonnull 16, 3) := by decide +kernel
theorem dX10_whyWrite_7 : decode cX10_whyWrite 7 = .ok (.aload_n 0, 1) := by decide +kernel
theorem dX10_whyWrite_8 : decode cX10_whyWrite 8 = .ok (.getfield 54, 3) := by decide +kernel
theorem dX10_whyWrite_11 : decode cX10_whyWrite 11 = .ok (.bipush 12, 2) := by decide +kernel
theorem dX10_whyWrite_13 : decode cX10_whyWrite 13 = .ok (.if_icmp .ne 7, 3) := by decide +kernel
theorem dX10_whyWrite_16 : decode cX10_whyWrite 16 = .ok (.iconst 3, 1) := by decide +kernel
theorem dX10_whyWrite_17 : decode cX10_whyWrite 17 = .ok (.goto 13, 3) := by decide +kernel
theorem dX10_whyWrite_20 : decode cX10_whyWrite 20 = .ok (.aload_n 0, 1) := by decide +kernel
theorem dX10_whyWrite_21 : decode cX10_whyWrite 21 = .ok (.iload_n 2, 1) := by decide +kernel
theorem dX10_whyWrite_22 : decode cX10_whyWrite 22 = .ok (.aload_n 0, 1) := by decide +kernel
theorem dX10_whyWrite_23 : decode cX10_whyWrite 23 = .ok (.iload_n 1, 1) := by decide +kernel
theorem dX10_whyWrite_24 : decode cX10_whyWrite 24 = .ok (.invokevirtual 86, 3) := by decide +kernel
theorem dX10_whyWrite_27 : decode cX10_whyWrite 27 = .ok (.invokevirtual 89, 3) := by decide +kernel
theorem dX10_whyWrite_30 : decode cX10_whyWrite 30 = .ok (.ireturn, 1) := by decide +kernel
theorem dX10_whyErase_0 : decode cX10_whyErase 0 = .ok (.aload_n 0, 1) := by decide +kernel
theorem dX10_whyErase_1 : decode cX10_whyErase 1 = .ok (.iload_n 1, 1) := by decide +kernel
theorem dX10_whyErase_2 : decode cX10_whyErase 2 = .ok (.bipush 12, 2) := by decide +kernel
theorem dX10_whyErase_4 : decode cX10_whyErase 4 = .ok (.invokevirtual 93, 3) := by decide +kernel
theorem dX10_whyErase_7 : decode cX10_whyErase 7 = .ok (.astore_n 2, 1) := by decide +kernel
theorem dX10_whyErase_8 : decode cX10_whyErase 8 = .ok (.aload_n 2, 1) := by decide +kernel
theorem dX10_whyErase_9 : decode cX10_whyErase 9 = .ok (.ifnull 16, 3) := by decide +kernel
theorem dX10_whyErase_12 : decode cX10_whyErase 12 = .ok (.aload_n 2, 1) := by decide +kernel
theorem dX10_whyErase_13 : decode cX10_whyErase 13 = .ok (.getfield 97, 3) := by decide +kernel
theorem dX10_whyErase_16 : decode cX10_whyErase 16 = .ok (.aload_n 2, 1) := by decide +kernel
theorem dX10_whyErase_17 : decode cX10_whyErase 17 = .ok (.iload_n 1, 1) := by decide +kernel
theorem dX10_whyErase_18 : decode cX10_whyErase 18 = .ok (.invokevirtual 82, 3) := by decide +kernel
theorem dX10_whyErase_21 : decode cX10_whyErase 21 = .ok (.aaload, 1) := by decide +kernel
theorem dX10_whyErase_22 : decode cX10_whyErase 22 = .ok (.ifnonnull 5, 3) := by decide +kernel
theorem dX10_whyErase_25 : decode cX10_whyErase 25 = .ok (.iconst 2, 1) := by decide +kernel
theorem dX10_whyErase_26 : decode cX10_whyErase 26 = .ok (.ireturn, 1) := by decide +kernel
theorem dX10_whyErase_27 : decode cX10_whyErase 27 = .ok (.aload_n 0, 1) := by decide +kernel
theorem dX10_whyErase_28 : decode cX10_whyErase 28 = .ok (.invokevirtual 75, 3) := by decide +kernel
theorem dX10_whyErase_31 : decode cX10_whyErase 31 = .ok (.ifnonnull 16, 3) := by decide +kernel
theorem dX10_whyErase_34 : decode cX10_whyErase 34 = .ok (.aload_n 0, 1) := by decide +kernel
theorem dX10_whyErase_35 : decode cX10_whyErase 35 = .ok (.getfield 54, 3) := by decide +kernel
theorem dX10_whyErase_38 : decode cX10_whyErase 38 = .ok (.bipush 12, 2) := by decide +kernel
theorem dX10_whyErase_40 : decode cX10_whyErase 40 = .ok (.if_icmp .ne 7, 3) := by decide +kernel
theorem dX10_whyErase_43 : decode cX10_whyErase 43 = .ok (.iconst 3, 1) := by decide +kernel
theorem dX10_whyErase_44 : decode cX10_whyErase 44 = .ok (.goto 13, 3) := by decide +kernel
theorem dX10_whyErase_47 : decode cX10_whyErase 47 = .ok (.aload_n 0, 1) := by decide +kernel
theorem dX10_whyErase_48 : decode cX10_whyErase 48 = .ok (.iconst 0, 1) := by decide +kernel
theorem dX10_whyErase_49 : decode cX10_whyErase 49 = .ok (.aload_n 0, 1) := by decide +kernel
theorem dX10_whyErase_50 : decode cX10_whyErase 50 = .ok (.iload_n 1, 1) := by decide +kernel
theorem dX10_whyErase_51 : decode cX10_whyErase 51 = .ok (.invokevirtual 86, 3) := by decide +kernel
theorem dX10_whyErase_54 : decode cX10_whyErase 54 = .ok (.invokevirtual 89, 3) := by decide +kernel
theorem dX10_whyErase_57 : decode cX10_whyErase 57 = .ok (.ireturn, 1) := by decide +kernel
theorem dX10_whyClose_0 : decode cX10_whyClose 0 = .ok (.aload_n 0, 1) := by decide +kernel
theorem dX10_whyClose_1 : decode cX10_whyClose 1 = .ok (.invokevirtual 75, 3) := by decide +kernel
theorem dX10_whyClose_4 : decode cX10_whyClose 4 = .ok (.astore_n 1, 1) := by decide +kernel
theorem dX10_whyClose_5 : decode cX10_whyClose 5 = .ok (.aload_n 1, 1) := by decide +kernel
theorem dX10_whyClose_6 : decode cX10_whyClose 6 = .ok (.ifnonnull 5, 3) := by decide +kernel
theorem dX10_whyClose_9 : decode cX10_whyClose 9 = .ok (.iconst 1, 1) := by decide +kernel
theorem dX10_whyClose_10 : decode cX10_whyClose 10 = .ok (.ireturn, 1) := by decide +kernel
theorem dX10_whyClose_11 : decode cX10_whyClose 11 = .ok (.aload_n 0, 1) := by decide +kernel
theorem dX10_whyClose_12 : decode cX10_whyClose 12 = .ok (.getfield 60, 3) := by decide +kernel
theorem dX10_whyClose_15 : decode cX10_whyClose 15 = .ok (.aload_n 1, 1) := by decide +kernel
theorem dX10_whyClose_16 : decode cX10_whyClose 16 = .ok (.invokevirtual 100, 3) := by decide +kernel
theorem dX10_whyClose_19 : decode cX10_whyClose 19 = .ok (.iadd, 1) := by decide +kernel
theorem dX10_whyClose_20 : decode cX10_whyClose 20 = .ok (.aload_n 0, 1) := by decide +kernel
theorem dX10_whyClose_21 : decode cX10_whyClose 21 = .ok (.invokevirtual 67, 3) := by decide +kernel
theorem dX10_whyClose_24 : decode cX10_whyClose 24 = .ok (.if_icmp .le 7, 3) := by decide +kernel
theorem dX10_whyClose_27 : decode cX10_whyClose 27 = .ok (.iconst 4, 1) := by decide +kernel
theorem dX10_whyClose_28 : decode cX10_whyClose 28 = .ok (.goto 19, 3) := by decide +kernel
theorem dX10_whyClose_31 : decode cX10_whyClose 31 = .ok (.aload_n 0, 1) := by decide +kernel
theorem dX10_whyClose_32 : decode cX10_whyClose 32 = .ok (.aload_n 1, 1) := by decide +kernel
theorem dX10_whyClose_33 : decode cX10_whyClose 33 = .ok (.invokevirtual 100, 3) := by decide +kernel
theorem dX10_whyClose_36 : decode cX10_whyClose 36 = .ok (.invokevirtual 71, 3) := by decide +kernel
theorem dX10_whyClose_39 : decode cX10_whyClose 39 = .ok (.ifCond .eq 7, 3) := by decide +kernel
theorem dX10_whyClose_42 : decode cX10_whyClose 42 = .ok (.iconst 0, 1) := by decide +kernel
theorem dX10_whyClose_43 : decode cX10_whyClose 43 = .ok (.goto 4, 3) := by decide +kernel
theorem dX10_whyClose_46 : decode cX10_whyClose 46 = .ok (.iconst 5, 1) := by decide +kernel
theorem dX10_whyClose_47 : decode cX10_whyClose 47 = .ok (.ireturn, 1) := by decide +kernel
theorem dX10_begins_0 : decode cX10_begins 0 = .ok (.new 41, 3) := by decide +kernel
theorem dX10_begins_3 : decode cX10_begins 3 = .ok (.dup, 1) := by decide +kernel
theorem dX10_begins_4 : decode cX10_begins 4 = .ok (.invokespecial 103, 3) := by decide +kernel
theorem dX10_begins_7 : decode cX10_begins 7 = .ok (.astore_n 1, 1) := by decide +kernel
theorem dX10_begins_8 : decode cX10_begins 8 = .ok (.aload_n 1, 1) := by decide +kernel
theorem dX10_begins_9 : decode cX10_begins 9 = .ok (.aload_n 0, 1) := by decide +kernel
theorem dX10_begins_10 : decode cX10_begins 10 = .ok (.getfield 60, 3) := by decide +kernel
theorem dX10_begins_13 : decode cX10_begins 13 = .ok (.putfield 104, 3) := by decide +kernel
theorem dX10_begins_16 : decode cX10_begins 16 = .ok (.aload_n 0, 1) := by decide +kernel
theorem dX10_begins_17 : decode cX10_begins 17 = .ok (.getfield 43, 3) := by decide +kernel
theorem dX10_begins_20 : decode cX10_begins 20 = .ok (.aload_n 0, 1) := by decide +kernel
theorem dX10_begins_21 : decode cX10_begins 21 = .ok (.dup, 1) := by decide +kernel
theorem dX10_begins_22 : decode cX10_begins 22 = .ok (.getfield 54, 3) := by decide +kernel
theorem dX10_begins_25 : decode cX10_begins 25 = .ok (.dup_x1, 1) := by decide +kernel
theorem dX10_begins_26 : decode cX10_begins 26 = .ok (.iconst 1, 1) := by decide +kernel
theorem dX10_begins_27 : decode cX10_begins 27 = .ok (.iadd, 1) := by decide +kernel
theorem dX10_begins_28 : decode cX10_begins 28 = .ok (.putfield 54, 3) := by decide +kernel
theorem dX10_begins_31 : decode cX10_begins 31 = .ok (.aload_n 1, 1) := by decide +kernel
theorem dX10_begins_32 : decode cX10_begins 32 = .ok (.aastore, 1) := by decide +kernel
theorem dX10_begins_33 : decode cX10_begins 33 = .ok (.aload_n 1, 1) := by decide +kernel
theorem dX10_begins_34 : decode cX10_begins 34 = .ok (.areturn, 1) := by decide +kernel
theorem dX10_write_0 : decode cX10_write 0 = .ok (.aload_n 0, 1) := by decide +kernel
theorem dX10_write_1 : decode cX10_write 1 = .ok (.invokevirtual 75, 3) := by decide +kernel
theorem dX10_write_4 : decode cX10_write 4 = .ok (.ifnonnull 10, 3) := by decide +kernel
theorem dX10_write_7 : decode cX10_write 7 = .ok (.aload_n 0, 1) := by decide +kernel
theorem dX10_write_8 : decode cX10_write 8 = .ok (.invokevirtual 107, 3) := by decide +kernel
theorem dX10_write_11 : decode cX10_write 11 = .ok (.goto 7, 3) := by decide +kernel
theorem dX10_write_14 : decode cX10_write 14 = .ok (.aload_n 0, 1) := by decide +kernel
theorem dX10_write_15 : decode cX10_write 15 = .ok (.invokevirtual 75, 3) := by decide +kernel
theorem dX10_write_18 : decode cX10_write 18 = .ok (.astore 4, 2) := by decide +kernel
theorem dX10_write_20 : decode cX10_write 20 = .ok (.new 32, 3) := by decide +kernel
theorem dX10_write_23 : decode cX10_write 23 = .ok (.dup, 1) := by decide +kernel
theorem dX10_write_24 : decode cX10_write 24 = .ok (.invokespecial 110, 3) := by decide +kernel
theorem dX10_write_27 : decode cX10_write 27 = .ok (.astore 5, 2) := by decide +kernel
theorem dX10_write_29 : decode cX10_write 29 = .ok (.aload 5, 2) := by decide +kernel
theorem dX10_write_31 : decode cX10_write 31 = .ok (.iload_n 1, 1) := by decide +kernel
theorem dX10_write_32 : decode cX10_write 32 = .ok (.putfield 111, 3) := by decide +kernel
theorem dX10_write_35 : decode cX10_write 35 = .ok (.aload 5, 2) := by decide +kernel
theorem dX10_write_37 : decode cX10_write 37 = .ok (.aload_n 0, 1) := by decide +kernel
theorem dX10_write_38 : decode cX10_write 38 = .ok (.getfield 114, 3) := by decide +kernel
theorem dX10_write_41 : decode cX10_write 41 = .ok (.putfield 117, 3) := by decide +kernel
theorem dX10_write_44 : decode cX10_write 44 = .ok (.aload 5, 2) := by decide +kernel
theorem dX10_write_46 : decode cX10_write 46 = .ok (.aload_n 0, 1) := by decide +kernel
theorem dX10_write_47 : decode cX10_write 47 = .ok (.getfield 60, 3) := by decide +kernel
theorem dX10_write_50 : decode cX10_write 50 = .ok (.putfield 119, 3) := by decide +kernel
theorem dX10_write_53 : decode cX10_write 53 = .ok (.aload 5, 2) := by decide +kernel
theorem dX10_write_55 : decode cX10_write 55 = .ok (.iload_n 2, 1) := by decide +kernel
theorem dX10_write_56 : decode cX10_write 56 = .ok (.putfield 120, 3) := by decide +kernel
theorem dX10_write_59 : decode cX10_write 59 = .ok (.aload 5, 2) := by decide +kernel
theorem dX10_write_61 : decode cX10_write 61 = .ok (.iload_n 3, 1) := by decide +kernel
theorem dX10_write_62 : decode cX10_write 62 = .ok (.putfield 123, 3) := by decide +kernel
theorem dX10_write_65 : decode cX10_write 65 = .ok (.aload 5, 2) := by decide +kernel
theorem dX10_write_67 : decode cX10_write 67 = .ok (.aload_n 0, 1) := by decide +kernel
theorem dX10_write_68 : decode cX10_write 68 = .ok (.getfield 54, 3) := by decide +kernel
theorem dX10_write_71 : decode cX10_write 71 = .ok (.iconst 1, 1) := by decide +kernel
theorem dX10_write_72 : decode cX10_write 72 = .ok (.isub, 1) := by decide +kernel
theorem dX10_write_73 : decode cX10_write 73 = .ok (.putfield 126, 3) := by decide +kernel
theorem dX10_write_76 : decode cX10_write 76 = .ok (.aload_n 0, 1) := by decide +kernel
theorem dX10_write_77 : decode cX10_write 77 = .ok (.getfield 38, 3) := by decide +kernel
theorem dX10_write_80 : decode cX10_write 80 = .ok (.aload_n 0, 1) := by decide +kernel
theorem dX10_write_81 : decode cX10_write 81 = .ok (.dup, 1) := by decide +kernel
theorem dX10_write_82 : decode cX10_write 82 = .ok (.getfield 114, 3) := by decide +kernel
theorem dX10_write_85 : decode cX10_write 85 = .ok (.dup_x1, 1) := by decide +kernel
theorem dX10_write_86 : decode cX10_write 86 = .ok (.iconst 1, 1) := by decide +kernel
theorem dX10_write_87 : decode cX10_write 87 = .ok (.iadd, 1) := by decide +kernel
theorem dX10_write_88 : decode cX10_write 88 = .ok (.putfield 114, 3) := by decide +kernel
theorem dX10_write_91 : decode cX10_write 91 = .ok (.aload 5, 2) := by decide +kernel
theorem dX10_write_93 : decode cX10_write 93 = .ok (.aastore, 1) := by decide +kernel
theorem dX10_write_94 : decode cX10_write 94 = .ok (.iconst 0, 1) := by decide +kernel
theorem dX10_write_95 : decode cX10_write 95 = .ok (.istore 6, 2) := by decide +kernel
theorem dX10_write_97 : decode cX10_write 97 = .ok (.iload 6, 2) := by decide +kernel
theorem dX10_write_99 : decode cX10_write 99 = .ok (.iload_n 2, 1) := by decide +kernel
theorem dX10_write_100 : decode cX10_write 100 = .ok (.if_icmp .ge 26, 3) := by decide +kernel
theorem dX10_write_103 : decode cX10_write 103 = .ok (.aload 5, 2) := by decide +kernel
theorem dX10_write_105 : decode cX10_write 105 = .ok (.getfield 128, 3) := by decide +kernel
theorem dX10_write_108 : decode cX10_write 108 = .ok (.iload 6, 2) := by decide +kernel
theorem dX10_write_110 : decode cX10_write 110 = .ok (.aload_n 0, 1) := by decide +kernel
theorem dX10_write_111 : decode cX10_write 111 = .ok (.iconst 1, 1) := by decide +kernel
theorem dX10_write_112 : decode cX10_write 112 = .ok (.aload 5, 2) := by decide +kernel
theorem dX10_write_114 : decode cX10_write 114 = .ok (.iload 6, 2) := by decide +kernel
theorem dX10_write_116 : decode cX10_write 116 = .ok (.invokevirtual 131, 3) := by decide +kernel
theorem dX10_write_119 : decode cX10_write 119 = .ok (.iastore, 1) := by decide +kernel
theorem dX10_write_120 : decode cX10_write 120 = .ok (.iinc 6 1, 3) := by decide +kernel
theorem dX10_write_123 : decode cX10_write 123 = .ok (.goto (-26), 3) := by decide +kernel
theorem dX10_write_126 : decode cX10_write 126 = .ok (.aload 4, 2) := by decide +kernel
theorem dX10_write_128 : decode cX10_write 128 = .ok (.iload_n 1, 1) := by decide +kernel
theorem dX10_write_129 : decode cX10_write 129 = .ok (.aload 5, 2) := by decide +kernel
theorem dX10_write_131 : decode cX10_write 131 = .ok (.invokevirtual 135, 3) := by decide +kernel
theorem dX10_write_134 : decode cX10_write 134 = .ok (.aload 5, 2) := by decide +kernel
theorem dX10_write_136 : decode cX10_write 136 = .ok (.getfield 117, 3) := by decide +kernel
theorem dX10_write_139 : decode cX10_write 139 = .ok (.ireturn, 1) := by decide +kernel
theorem dX10_erase_0 : decode cX10_erase 0 = .ok (.aload_n 0, 1) := by decide +kernel
theorem dX10_erase_1 : decode cX10_erase 1 = .ok (.invokevirtual 75, 3) := by decide +kernel
theorem dX10_erase_4 : decode cX10_erase 4 = .ok (.ifnonnull 10, 3) := by decide +kernel
theorem dX10_erase_7 : decode cX10_erase 7 = .ok (.aload_n 0, 1) := by decide +kernel
theorem dX10_erase_8 : decode cX10_erase 8 = .ok (.invokevirtual 107, 3) := by decide +kernel
theorem dX10_erase_11 : decode cX10_erase 11 = .ok (.goto 7, 3) := by decide +kernel
theorem dX10_erase_14 : decode cX10_erase 14 = .ok (.aload_n 0, 1) := by decide +kernel
theorem dX10_erase_15 : decode cX10_erase 15 = .ok (.invokevirtual 75, 3) := by decide +kernel
theorem dX10_erase_18 : decode cX10_erase 18 = .ok (.iload_n 1, 1) := by decide +kernel
theorem dX10_erase_19 : decode cX10_erase 19 = .ok (.aconst_null, 1) := by decide +kernel
theorem dX10_erase_20 : decode cX10_erase 20 = .ok (.invokevirtual 135, 3) := by decide +kernel
theorem dX10_erase_23 : decode cX10_erase 23 = .ok (.return_, 1) := by decide +kernel
theorem dX10_close_0 : decode cX10_close 0 = .ok (.aload_n 0, 1) := by decide +kernel
theorem dX10_close_1 : decode cX10_close 1 = .ok (.invokevirtual 75, 3) := by decide +kernel
theorem dX10_close_4 : decode cX10_close 4 = .ok (.astore_n 1, 1) := by decide +kernel
theorem dX10_close_5 : decode cX10_close 5 = .ok (.aload_n 1, 1) := by decide +kernel
theorem dX10_close_6 : decode cX10_close 6 = .ok (.aload_n 0, 1) := by decide +kernel
theorem dX10_close_7 : decode cX10_close 7 = .ok (.getfield 60, 3) := by decide +kernel
theorem dX10_close_10 : decode cX10_close 10 = .ok (.putfield 139, 3) := by decide +kernel
theorem dX10_close_13 : decode cX10_close 13 = .ok (.aload_n 1, 1) := by decide +kernel
theorem dX10_close_14 : decode cX10_close 14 = .ok (.aload_n 1, 1) := by decide +kernel
theorem dX10_close_15 : decode cX10_close 15 = .ok (.invokevirtual 100, 3) := by decide +kernel
theorem dX10_close_18 : decode cX10_close 18 = .ok (.putfield 142, 3) := by decide +kernel
theorem dX10_close_21 : decode cX10_close 21 = .ok (.aload_n 0, 1) := by decide +kernel
theorem dX10_close_22 : decode cX10_close 22 = .ok (.getfield 54, 3) := by decide +kernel
theorem dX10_close_25 : decode cX10_close 25 = .ok (.iconst 2, 1) := by decide +kernel
theorem dX10_close_26 : decode cX10_close 26 = .ok (.isub, 1) := by decide +kernel
theorem dX10_close_27 : decode cX10_close 27 = .ok (.istore_n 2, 1) := by decide +kernel
theorem dX10_close_28 : decode cX10_close 28 = .ok (.iload_n 2, 1) := by decide +kernel
theorem dX10_close_29 : decode cX10_close 29 = .ok (.ifCond .lt 34, 3) := by decide +kernel
theorem dX10_close_32 : decode cX10_close 32 = .ok (.aload_n 1, 1) := by decide +kernel
theorem dX10_close_33 : decode cX10_close 33 = .ok (.getfield 145, 3) := by decide +kernel
theorem dX10_close_36 : decode cX10_close 36 = .ok (.ifCond .ge 27, 3) := by decide +kernel
theorem dX10_close_39 : decode cX10_close 39 = .ok (.aload_n 0, 1) := by decide +kernel
theorem dX10_close_40 : decode cX10_close 40 = .ok (.getfield 43, 3) := by decide +kernel
theorem dX10_close_43 : decode cX10_close 43 = .ok (.iload_n 2, 1) := by decide +kernel
theorem dX10_close_44 : decode cX10_close 44 = .ok (.aaload, 1) := by decide +kernel
theorem dX10_close_45 : decode cX10_close 45 = .ok (.getfield 57, 3) := by decide +kernel
theorem dX10_close_48 : decode cX10_close 48 = .ok (.iconst 1, 1) := by decide +kernel
theorem dX10_close_49 : decode cX10_close 49 = .ok (.if_icmp .ne 8, 3) := by decide +kernel
theorem dX10_close_52 : decode cX10_close 52 = .ok (.aload_n 1, 1) := by decide +kernel
theorem dX10_close_53 : decode cX10_close 53 = .ok (.iload_n 2, 1) := by decide +kernel
theorem dX10_close_54 : decode cX10_close 54 = .ok (.putfield 145, 3) := by decide +kernel
theorem dX10_close_57 : decode cX10_close 57 = .ok (.iinc 2 (-1), 3) := by decide +kernel
theorem dX10_close_60 : decode cX10_close 60 = .ok (.goto (-32), 3) := by decide +kernel
theorem dX10_close_63 : decode cX10_close 63 = .ok (.iconst 0, 1) := by decide +kernel
theorem dX10_close_64 : decode cX10_close 64 = .ok (.istore_n 2, 1) := by decide +kernel
theorem dX10_close_65 : decode cX10_close 65 = .ok (.iload_n 2, 1) := by decide +kernel
theorem dX10_close_66 : decode cX10_close 66 = .ok (.aload_n 1, 1) := by decide +kernel
theorem dX10_close_67 : decode cX10_close 67 = .ok (.getfield 142, 3) := by decide +kernel
theorem dX10_close_70 : decode cX10_close 70 = .ok (.if_icmp .ge 22, 3) := by decide +kernel
theorem dX10_close_73 : decode cX10_close 73 = .ok (.aload_n 1, 1) := by decide +kernel
theorem dX10_close_74 : decode cX10_close 74 = .ok (.getfield 148, 3) := by decide +kernel
theorem dX10_close_77 : decode cX10_close 77 = .ok (.iload_n 2, 1) := by decide +kernel
theorem dX10_close_78 : decode cX10_close 78 = .ok (.aload_n 0, 1) := by decide +kernel
theorem dX10_close_79 : decode cX10_close 79 = .ok (.iconst 2, 1) := by decide +kernel
theorem dX10_close_80 : decode cX10_close 80 = .ok (.aconst_null, 1) := by decide +kernel
theorem dX10_close_81 : decode cX10_close 81 = .ok (.iload_n 2, 1) := by decide +kernel
theorem dX10_close_82 : decode cX10_close 82 = .ok (.invokevirtual 131, 3) := by decide +kernel
theorem dX10_close_85 : decode cX10_close 85 = .ok (.iastore, 1) := by decide +kernel
theorem dX10_close_86 : decode cX10_close 86 = .ok (.iinc 2 1, 3) := by decide +kernel
theorem dX10_close_89 : decode cX10_close 89 = .ok (.goto (-24), 3) := by decide +kernel
theorem dX10_close_92 : decode cX10_close 92 = .ok (.aload_n 1, 1) := by decide +kernel
theorem dX10_close_93 : decode cX10_close 93 = .ok (.iconst 1, 1) := by decide +kernel
theorem dX10_close_94 : decode cX10_close 94 = .ok (.putfield 57, 3) := by decide +kernel
theorem dX10_close_97 : decode cX10_close 97 = .ok (.return_, 1) := by decide +kernel
theorem dX10_reads_0 : decode cX10_reads 0 = .ok (.aload_n 1, 1) := by decide +kernel
theorem dX10_reads_1 : decode cX10_reads 1 = .ok (.getfield 139, 3) := by decide +kernel
theorem dX10_reads_4 : decode cX10_reads 4 = .ok (.ifCond .lt 7, 3) := by decide +kernel
theorem dX10_reads_7 : decode cX10_reads 7 = .ok (.iconst 1, 1) := by decide +kernel
theorem dX10_reads_8 : decode cX10_reads 8 = .ok (.goto 4, 3) := by decide +kernel
theorem dX10_reads_11 : decode cX10_reads 11 = .ok (.iconst 0, 1) := by decide +kernel
theorem dX10_reads_12 : decode cX10_reads 12 = .ok (.istore_n 2, 1) := by decide +kernel
theorem dX10_reads_13 : decode cX10_reads 13 = .ok (.iconst 0, 1) := by decide +kernel
theorem dX10_reads_14 : decode cX10_reads 14 = .ok (.istore_n 3, 1) := by decide +kernel
theorem dX10_reads_15 : decode cX10_reads 15 = .ok (.iload_n 3, 1) := by decide +kernel
theorem dX10_reads_16 : decode cX10_reads 16 = .ok (.aload_n 1, 1) := by decide +kernel
theorem dX10_reads_17 : decode cX10_reads 17 = .ok (.getfield 142, 3) := by decide +kernel
theorem dX10_reads_20 : decode cX10_reads 20 = .ok (.if_icmp .ge 33, 3) := by decide +kernel
theorem dX10_reads_23 : decode cX10_reads 23 = .ok (.iload_n 2, 1) := by decide +kernel
theorem dX10_reads_24 : decode cX10_reads 24 = .ok (.ifCond .eq 21, 3) := by decide +kernel
theorem dX10_reads_27 : decode cX10_reads 27 = .ok (.aload_n 0, 1) := by decide +kernel
theorem dX10_reads_28 : decode cX10_reads 28 = .ok (.getfield 29, 3) := by decide +kernel
theorem dX10_reads_31 : decode cX10_reads 31 = .ok (.aload_n 1, 1) := by decide +kernel
theorem dX10_reads_32 : decode cX10_reads 32 = .ok (.getfield 148, 3) := by decide +kernel
theorem dX10_reads_35 : decode cX10_reads 35 = .ok (.iload_n 3, 1) := by decide +kernel
theorem dX10_reads_36 : decode cX10_reads 36 = .ok (.iaload, 1) := by decide +kernel
theorem dX10_reads_37 : decode cX10_reads 37 = .ok (.baload, 1) := by decide +kernel
theorem dX10_reads_38 : decode cX10_reads 38 = .ok (.ifCond .ne 7, 3) := by decide +kernel
theorem dX10_reads_41 : decode cX10_reads 41 = .ok (.iconst 1, 1) := by decide +kernel
theorem dX10_reads_42 : decode cX10_reads 42 = .ok (.goto 4, 3) := by decide +kernel
theorem dX10_reads_45 : decode cX10_reads 45 = .ok (.iconst 0, 1) := by decide +kernel
theorem dX10_reads_46 : decode cX10_reads 46 = .ok (.istore_n 2, 1) := by decide +kernel
theorem dX10_reads_47 : decode cX10_reads 47 = .ok (.iinc 3 1, 3) := by decide +kernel
theorem dX10_reads_50 : decode cX10_reads 50 = .ok (.goto (-35), 3) := by decide +kernel
theorem dX10_reads_53 : decode cX10_reads 53 = .ok (.iload_n 2, 1) := by decide +kernel
theorem dX10_reads_54 : decode cX10_reads 54 = .ok (.ireturn, 1) := by decide +kernel
theorem dX10_reads__0 : decode cX10_reads_ 0 = .ok (.iconst 1, 1) := by decide +kernel
theorem dX10_reads__1 : decode cX10_reads_ 1 = .ok (.istore_n 2, 1) := by decide +kernel
theorem dX10_reads__2 : decode cX10_reads_ 2 = .ok (.iconst 0, 1) := by decide +kernel
theorem dX10_reads__3 : decode cX10_reads_ 3 = .ok (.istore_n 3, 1) := by decide +kernel
theorem dX10_reads__4 : decode cX10_reads_ 4 = .ok (.iload_n 3, 1) := by decide +kernel
theorem dX10_reads__5 : decode cX10_reads_ 5 = .ok (.aload_n 1, 1) := by decide +kernel
theorem dX10_reads__6 : decode cX10_reads_ 6 = .ok (.getfield 120, 3) := by decide +kernel
theorem dX10_reads__9 : decode cX10_reads_ 9 = .ok (.if_icmp .ge 33, 3) := by decide +kernel
theorem dX10_reads__12 : decode cX10_reads_ 12 = .ok (.iload_n 2, 1) := by decide +kernel
theorem dX10_reads__13 : decode cX10_reads_ 13 = .ok (.ifCond .eq 21, 3) := by decide +kernel
theorem dX10_reads__16 : decode cX10_reads_ 16 = .ok (.aload_n 0, 1) := by decide +kernel
theorem dX10_reads__17 : decode cX10_reads_ 17 = .ok (.getfield 29, 3) := by decide +kernel
theorem dX10_reads__20 : decode cX10_reads_ 20 = .ok (.aload_n 1, 1) := by decide +kernel
theorem dX10_reads__21 : decode cX10_reads_ 21 = .ok (.getfield 128, 3) := by decide +kernel
theorem dX10_reads__24 : decode cX10_reads_ 24 = .ok (.iload_n 3, 1) := by decide +kernel
theorem dX10_reads__25 : decode cX10_reads_ 25 = .ok (.iaload, 1) := by decide +kernel
theorem dX10_reads__26 : decode cX10_reads_ 26 = .ok (.baload, 1) := by decide +kernel
theorem dX10_reads__27 : decode cX10_reads_ 27 = .ok (.ifCond .ne 7, 3) := by decide +kernel
theorem dX10_reads__30 : decode cX10_reads_ 30 = .ok (.iconst 1, 1) := by decide +kernel
theorem dX10_reads__31 : decode cX10_reads_ 31 = .ok (.goto 4, 3) := by decide +kernel
theorem dX10_reads__34 : decode cX10_reads_ 34 = .ok (.iconst 0, 1) := by decide +kernel
theorem dX10_reads__35 : decode cX10_reads_ 35 = .ok (.istore_n 2, 1) := by decide +kernel
theorem dX10_reads__36 : decode cX10_reads_ 36 = .ok (.iinc 3 1, 3) := by decide +kernel
theorem dX10_reads__39 : decode cX10_reads_ 39 = .ok (.goto (-35), 3) := by decide +kernel
theorem dX10_reads__42 : decode cX10_reads_ 42 = .ok (.iload_n 2, 1) := by decide +kernel
theorem dX10_reads__43 : decode cX10_reads_ 43 = .ok (.ireturn, 1) := by decide +kernel
theorem dX10_reaches_0 : decode cX10_reaches 0 = .ok (.aload_n 0, 1) := by decide +kernel
theorem dX10_reaches_1 : decode cX10_reaches 1 = .ok (.getfield 43, 3) := by decide +kernel
theorem dX10_reaches_4 : decode cX10_reaches 4 = .ok (.iload_n 1, 1) := by decide +kernel
theorem dX10_reaches_5 : decode cX10_reaches 5 = .ok (.aaload, 1) := by decide +kernel
theorem dX10_reaches_6 : decode cX10_reaches 6 = .ok (.getfield 57, 3) := by decide +kernel
theorem dX10_reaches_9 : decode cX10_reaches 9 = .ok (.ifCond .ne 5, 3) := by decide +kernel
theorem dX10_reaches_12 : decode cX10_reaches 12 = .ok (.iconst 1, 1) := by decide +kernel
theorem dX10_reaches_13 : decode cX10_reaches 13 = .ok (.ireturn, 1) := by decide +kernel
theorem dX10_reaches_14 : decode cX10_reaches 14 = .ok (.aload_n 0, 1) := by decide +kernel
theorem dX10_reaches_15 : decode cX10_reaches 15 = .ok (.getfield 43, 3) := by decide +kernel
theorem dX10_reaches_18 : decode cX10_reaches 18 = .ok (.iload_n 1, 1) := by decide +kernel
theorem dX10_reaches_19 : decode cX10_reaches 19 = .ok (.aaload, 1) := by decide +kernel
theorem dX10_reaches_20 : decode cX10_reaches 20 = .ok (.getfield 57, 3) := by decide +kernel
theorem dX10_reaches_23 : decode cX10_reaches 23 = .ok (.iconst 1, 1) := by decide +kernel
theorem dX10_reaches_24 : decode cX10_reaches 24 = .ok (.if_icmp .ne 16, 3) := by decide +kernel
theorem dX10_reaches_27 : decode cX10_reaches 27 = .ok (.aload_n 0, 1) := by decide +kernel
theorem dX10_reaches_28 : decode cX10_reaches 28 = .ok (.aload_n 0, 1) := by decide +kernel
theorem dX10_reaches_29 : decode cX10_reaches 29 = .ok (.getfield 43, 3) := by decide +kernel
theorem dX10_reaches_32 : decode cX10_reaches 32 = .ok (.iload_n 1, 1) := by decide +kernel
theorem dX10_reaches_33 : decode cX10_reaches 33 = .ok (.aaload, 1) := by decide +kernel
theorem dX10_reaches_34 : decode cX10_reaches 34 = .ok (.invokevirtual 149, 3) := by decide +kernel
theorem dX10_reaches_37 : decode cX10_reaches 37 = .ok (.ifCond .ne 5, 3) := by decide +kernel
theorem dX10_reaches_40 : decode cX10_reaches 40 = .ok (.iconst 0, 1) := by decide +kernel
theorem dX10_reaches_41 : decode cX10_reaches 41 = .ok (.ireturn, 1) := by decide +kernel
theorem dX10_reaches_42 : decode cX10_reaches 42 = .ok (.iload_n 1, 1) := by decide +kernel
theorem dX10_reaches_43 : decode cX10_reaches 43 = .ok (.iconst 1, 1) := by decide +kernel
theorem dX10_reaches_44 : decode cX10_reaches 44 = .ok (.iadd, 1) := by decide +kernel
theorem dX10_reaches_45 : decode cX10_reaches 45 = .ok (.istore_n 2, 1) := by decide +kernel
theorem dX10_reaches_46 : decode cX10_reaches 46 = .ok (.iload_n 2, 1) := by decide +kernel
theorem dX10_reaches_47 : decode cX10_reaches 47 = .ok (.aload_n 0, 1) := by decide +kernel
theorem dX10_reaches_48 : decode cX10_reaches 48 = .ok (.getfield 54, 3) := by decide +kernel
theorem dX10_reaches_51 : decode cX10_reaches 51 = .ok (.if_icmp .ge 44, 3) := by decide +kernel
theorem dX10_reaches_54 : decode cX10_reaches 54 = .ok (.aload_n 0, 1) := by decide +kernel
theorem dX10_reaches_55 : decode cX10_reaches 55 = .ok (.getfield 153, 3) := by decide +kernel
theorem dX10_reaches_58 : decode cX10_reaches 58 = .ok (.ifCond .ne 37, 3) := by decide +kernel
theorem dX10_reaches_61 : decode cX10_reaches 61 = .ok (.aload_n 0, 1) := by decide +kernel
theorem dX10_reaches_62 : decode cX10_reaches 62 = .ok (.getfield 43, 3) := by decide +kernel
theorem dX10_reaches_65 : decode cX10_reaches 65 = .ok (.iload_n 2, 1) := by decide +kernel
theorem dX10_reaches_66 : decode cX10_reaches 66 = .ok (.aaload, 1) := by decide +kernel
theorem dX10_reaches_67 : decode cX10_reaches 67 = .ok (.getfield 57, 3) := by decide +kernel
theorem dX10_reaches_70 : decode cX10_reaches 70 = .ok (.iconst 1, 1) := by decide +kernel
theorem dX10_reaches_71 : decode cX10_reaches 71 = .ok (.if_icmp .ne 18, 3) := by decide +kernel
theorem dX10_reaches_74 : decode cX10_reaches 74 = .ok (.aload_n 0, 1) := by decide +kernel
theorem dX10_reaches_75 : decode cX10_reaches 75 = .ok (.aload_n 0, 1) := by decide +kernel
theorem dX10_reaches_76 : decode cX10_reaches 76 = .ok (.getfield 43, 3) := by decide +kernel
theorem dX10_reaches_79 : decode cX10_reaches 79 = .ok (.iload_n 2, 1) := by decide +kernel
theorem dX10_reaches_80 : decode cX10_reaches 80 = .ok (.aaload, 1) := by decide +kernel
theorem dX10_reaches_81 : decode cX10_reaches 81 = .ok (.invokevirtual 149, 3) := by decide +kernel
theorem dX10_reaches_84 : decode cX10_reaches 84 = .ok (.ifCond .ne 5, 3) := by decide +kernel
theorem dX10_reaches_87 : decode cX10_reaches 87 = .ok (.iconst 0, 1) := by decide +kernel
theorem dX10_reaches_88 : decode cX10_reaches 88 = .ok (.ireturn, 1) := by decide +kernel
theorem dX10_reaches_89 : decode cX10_reaches 89 = .ok (.iinc 2 1, 3) := by decide +kernel
theorem dX10_reaches_92 : decode cX10_reaches 92 = .ok (.goto (-46), 3) := by decide +kernel
theorem dX10_reaches_95 : decode cX10_reaches 95 = .ok (.iconst 1, 1) := by decide +kernel
theorem dX10_reaches_96 : decode cX10_reaches 96 = .ok (.ireturn, 1) := by decide +kernel
theorem dX10_counting_0 : decode cX10_counting 0 = .ok (.aload_n 0, 1) := by decide +kernel
theorem dX10_counting_1 : decode cX10_counting 1 = .ok (.getfield 54, 3) := by decide +kernel
theorem dX10_counting_4 : decode cX10_counting 4 = .ok (.iconst 1, 1) := by decide +kernel
theorem dX10_counting_5 : decode cX10_counting 5 = .ok (.isub, 1) := by decide +kernel
theorem dX10_counting_6 : decode cX10_counting 6 = .ok (.istore_n 3, 1) := by decide +kernel
theorem dX10_counting_7 : decode cX10_counting 7 = .ok (.iload_n 3, 1) := by decide +kernel
theorem dX10_counting_8 : decode cX10_counting 8 = .ok (.ifCond .lt 42, 3) := by decide +kernel
theorem dX10_counting_11 : decode cX10_counting 11 = .ok (.iload_n 3, 1) := by decide +kernel
theorem dX10_counting_12 : decode cX10_counting 12 = .ok (.iload_n 2, 1) := by decide +kernel
theorem dX10_counting_13 : decode cX10_counting 13 = .ok (.if_icmp .ge 31, 3) := by decide +kernel
theorem dX10_counting_16 : decode cX10_counting 16 = .ok (.aload_n 0, 1) := by decide +kernel
theorem dX10_counting_17 : decode cX10_counting 17 = .ok (.iload_n 3, 1) := by decide +kernel
theorem dX10_counting_18 : decode cX10_counting 18 = .ok (.invokevirtual 157, 3) := by decide +kernel
theorem dX10_counting_21 : decode cX10_counting 21 = .ok (.ifCond .eq 23, 3) := by decide +kernel
theorem dX10_counting_24 : decode cX10_counting 24 = .ok (.aload_n 0, 1) := by decide +kernel
theorem dX10_counting_25 : decode cX10_counting 25 = .ok (.getfield 43, 3) := by decide +kernel
theorem dX10_counting_28 : decode cX10_counting 28 = .ok (.iload_n 3, 1) := by decide +kernel
theorem dX10_counting_29 : decode cX10_counting 29 = .ok (.aaload, 1) := by decide +kernel
theorem dX10_counting_30 : decode cX10_counting 30 = .ok (.iload_n 1, 1) := by decide +kernel
theorem dX10_counting_31 : decode cX10_counting 31 = .ok (.invokevirtual 82, 3) := by decide +kernel
theorem dX10_counting_34 : decode cX10_counting 34 = .ok (.ifCond .lt 10, 3) := by decide +kernel
theorem dX10_counting_37 : decode cX10_counting 37 = .ok (.aload_n 0, 1) := by decide +kernel
theorem dX10_counting_38 : decode cX10_counting 38 = .ok (.getfield 43, 3) := by decide +kernel
theorem dX10_counting_41 : decode cX10_counting 41 = .ok (.iload_n 3, 1) := by decide +kernel
theorem dX10_counting_42 : decode cX10_counting 42 = .ok (.aaload, 1) := by decide +kernel
theorem dX10_counting_43 : decode cX10_counting 43 = .ok (.areturn, 1) := by decide +kernel
theorem dX10_counting_44 : decode cX10_counting 44 = .ok (.iinc 3 (-1), 3) := by decide +kernel
theorem dX10_counting_47 : decode cX10_counting 47 = .ok (.goto (-40), 3) := by decide +kernel
theorem dX10_counting_50 : decode cX10_counting 50 = .ok (.aconst_null, 1) := by decide +kernel
theorem dX10_counting_51 : decode cX10_counting 51 = .ok (.areturn, 1) := by decide +kernel
theorem dX10_version_0 : decode cX10_version 0 = .ok (.aload_n 0, 1) := by decide +kernel
