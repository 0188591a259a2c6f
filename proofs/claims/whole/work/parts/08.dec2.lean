theorem dL_law_1790 : decode cL_law 1790 = .ok (.ireturn, 1) := by decide +kernel
theorem dX0_init_0 : decode cX0_init 0 = .ok (.aload_n 0, 1) := by decide +kernel
theorem dX0_init_1 : decode cX0_init 1 = .ok (.invokespecial 3, 3) := by decide +kernel
theorem dX0_init_4 : decode cX0_init 4 = .ok (.aload_n 0, 1) := by decide +kernel
theorem dX0_init_5 : decode cX0_init 5 = .ok (.iconst 0, 1) := by decide +kernel
theorem dX0_init_6 : decode cX0_init 6 = .ok (.putfield 9, 3) := by decide +kernel
theorem dX0_init_9 : decode cX0_init 9 = .ok (.aload_n 0, 1) := by decide +kernel
theorem dX0_init_10 : decode cX0_init 10 = .ok (.iconst 0, 1) := by decide +kernel
theorem dX0_init_11 : decode cX0_init 11 = .ok (.putfield 15, 3) := by decide +kernel
theorem dX0_init_14 : decode cX0_init 14 = .ok (.aload_n 0, 1) := by decide +kernel
theorem dX0_init_15 : decode cX0_init 15 = .ok (.iconst 0, 1) := by decide +kernel
theorem dX0_init_16 : decode cX0_init 16 = .ok (.putfield 18, 3) := by decide +kernel
theorem dX0_init_19 : decode cX0_init 19 = .ok (.aload_n 0, 1) := by decide +kernel
theorem dX0_init_20 : decode cX0_init 20 = .ok (.bipush 96, 2) := by decide +kernel
theorem dX0_init_22 : decode cX0_init 22 = .ok (.newarray .int, 2) := by decide +kernel
theorem dX0_init_24 : decode cX0_init 24 = .ok (.putfield 21, 3) := by decide +kernel
theorem dX0_init_27 : decode cX0_init 27 = .ok (.aload_n 0, 1) := by decide +kernel
theorem dX0_init_28 : decode cX0_init 28 = .ok (.bipush 96, 2) := by decide +kernel
theorem dX0_init_30 : decode cX0_init 30 = .ok (.newarray .boolean, 2) := by decide +kernel
theorem dX0_init_32 : decode cX0_init 32 = .ok (.putfield 25, 3) := by decide +kernel
theorem dX0_init_35 : decode cX0_init 35 = .ok (.aload_n 0, 1) := by decide +kernel
theorem dX0_init_36 : decode cX0_init 36 = .ok (.bipush 96, 2) := by decide +kernel
theorem dX0_init_38 : decode cX0_init 38 = .ok (.newarray .boolean, 2) := by decide +kernel
theorem dX0_init_40 : decode cX0_init 40 = .ok (.putfield 29, 3) := by decide +kernel
theorem dX0_init_43 : decode cX0_init 43 = .ok (.aload_n 0, 1) := by decide +kernel
theorem dX0_init_44 : decode cX0_init 44 = .ok (.bipush 96, 2) := by decide +kernel
theorem dX0_init_46 : decode cX0_init 46 = .ok (.newarray .int, 2) := by decide +kernel
theorem dX0_init_48 : decode cX0_init 48 = .ok (.putfield 32, 3) := by decide +kernel
theorem dX0_init_51 : decode cX0_init 51 = .ok (.aload_n 0, 1) := by decide +kernel
theorem dX0_init_52 : decode cX0_init 52 = .ok (.bipush 96, 2) := by decide +kernel
theorem dX0_init_54 : decode cX0_init 54 = .ok (.newarray .int, 2) := by decide +kernel
theorem dX0_init_56 : decode cX0_init 56 = .ok (.putfield 35, 3) := by decide +kernel
theorem dX0_init_59 : decode cX0_init 59 = .ok (.aload_n 0, 1) := by decide +kernel
theorem dX0_init_60 : decode cX0_init 60 = .ok (.bipush 96, 2) := by decide +kernel
theorem dX0_init_62 : decode cX0_init 62 = .ok (.newarray .int, 2) := by decide +kernel
theorem dX0_init_64 : decode cX0_init 64 = .ok (.putfield 38, 3) := by decide +kernel
theorem dX0_init_67 : decode cX0_init 67 = .ok (.aload_n 0, 1) := by decide +kernel
theorem dX0_init_68 : decode cX0_init 68 = .ok (.bipush 96, 2) := by decide +kernel
theorem dX0_init_70 : decode cX0_init 70 = .ok (.newarray .int, 2) := by decide +kernel
theorem dX0_init_72 : decode cX0_init 72 = .ok (.putfield 41, 3) := by decide +kernel
theorem dX0_init_75 : decode cX0_init 75 = .ok (.aload_n 0, 1) := by decide +kernel
theorem dX0_init_76 : decode cX0_init 76 = .ok (.bipush 96, 2) := by decide +kernel
theorem dX0_init_78 : decode cX0_init 78 = .ok (.newarray .int, 2) := by decide +kernel
theorem dX0_init_80 : decode cX0_init 80 = .ok (.putfield 44, 3) := by decide +kernel
theorem dX0_init_83 : decode cX0_init 83 = .ok (.return_, 1) := by decide +kernel
theorem dX0_format_0 : decode cX0_format 0 = .ok (.aload_n 0, 1) := by decide +kernel
theorem dX0_format_1 : decode cX0_format 1 = .ok (.iload_n 1, 1) := by decide +kernel
theorem dX0_format_2 : decode cX0_format 2 = .ok (.putfield 9, 3) := by decide +kernel
theorem dX0_format_5 : decode cX0_format 5 = .ok (.aload_n 0, 1) := by decide +kernel
theorem dX0_format_6 : decode cX0_format 6 = .ok (.iload_n 1, 1) := by decide +kernel
theorem dX0_format_7 : decode cX0_format 7 = .ok (.iload_n 2, 1) := by decide +kernel
theorem dX0_format_8 : decode cX0_format 8 = .ok (.isub, 1) := by decide +kernel
theorem dX0_format_9 : decode cX0_format 9 = .ok (.putfield 15, 3) := by decide +kernel
theorem dX0_format_12 : decode cX0_format 12 = .ok (.aload_n 0, 1) := by decide +kernel
theorem dX0_format_13 : decode cX0_format 13 = .ok (.iconst 0, 1) := by decide +kernel
theorem dX0_format_14 : decode cX0_format 14 = .ok (.putfield 18, 3) := by decide +kernel
theorem dX0_format_17 : decode cX0_format 17 = .ok (.aload_n 0, 1) := by decide +kernel
theorem dX0_format_18 : decode cX0_format 18 = .ok (.getfield 21, 3) := by decide +kernel
theorem dX0_format_21 : decode cX0_format 21 = .ok (.iconst 0, 1) := by decide +kernel
theorem dX0_format_22 : decode cX0_format 22 = .ok (.invokestatic 47, 3) := by decide +kernel
theorem dX0_format_25 : decode cX0_format 25 = .ok (.aload_n 0, 1) := by decide +kernel
theorem dX0_format_26 : decode cX0_format 26 = .ok (.getfield 25, 3) := by decide +kernel
theorem dX0_format_29 : decode cX0_format 29 = .ok (.iconst 0, 1) := by decide +kernel
theorem dX0_format_30 : decode cX0_format 30 = .ok (.invokestatic 51, 3) := by decide +kernel
theorem dX0_format_33 : decode cX0_format 33 = .ok (.aload_n 0, 1) := by decide +kernel
theorem dX0_format_34 : decode cX0_format 34 = .ok (.getfield 29, 3) := by decide +kernel
theorem dX0_format_37 : decode cX0_format 37 = .ok (.iconst 0, 1) := by decide +kernel
theorem dX0_format_38 : decode cX0_format 38 = .ok (.invokestatic 51, 3) := by decide +kernel
theorem dX0_format_41 : decode cX0_format 41 = .ok (.aload_n 0, 1) := by decide +kernel
theorem dX0_format_42 : decode cX0_format 42 = .ok (.getfield 32, 3) := by decide +kernel
theorem dX0_format_45 : decode cX0_format 45 = .ok (.iconst (-1), 1) := by decide +kernel
theorem dX0_format_46 : decode cX0_format 46 = .ok (.invokestatic 47, 3) := by decide +kernel
theorem dX0_format_49 : decode cX0_format 49 = .ok (.aload_n 0, 1) := by decide +kernel
theorem dX0_format_50 : decode cX0_format 50 = .ok (.getfield 35, 3) := by decide +kernel
theorem dX0_format_53 : decode cX0_format 53 = .ok (.iconst (-1), 1) := by decide +kernel
theorem dX0_format_54 : decode cX0_format 54 = .ok (.invokestatic 47, 3) := by decide +kernel
theorem dX0_format_57 : decode cX0_format 57 = .ok (.aload_n 0, 1) := by decide +kernel
theorem dX0_format_58 : decode cX0_format 58 = .ok (.getfield 38, 3) := by decide +kernel
theorem dX0_format_61 : decode cX0_format 61 = .ok (.iconst (-1), 1) := by decide +kernel
theorem dX0_format_62 : decode cX0_format 62 = .ok (.invokestatic 47, 3) := by decide +kernel
theorem dX0_format_65 : decode cX0_format 65 = .ok (.aload_n 0, 1) := by decide +kernel
theorem dX0_format_66 : decode cX0_format 66 = .ok (.getfield 41, 3) := by decide +kernel
theorem dX0_format_69 : decode cX0_format 69 = .ok (.iconst (-1), 1) := by decide +kernel
theorem dX0_format_70 : decode cX0_format 70 = .ok (.invokestatic 47, 3) := by decide +kernel
theorem dX0_format_73 : decode cX0_format 73 = .ok (.aload_n 0, 1) := by decide +kernel
theorem dX0_format_74 : decode cX0_format 74 = .ok (.getfield 44, 3) := by decide +kernel
theorem dX0_format_77 : decode cX0_format 77 = .ok (.iconst (-1), 1) := by decide +kernel
theorem dX0_format_78 : decode cX0_format 78 = .ok (.invokestatic 47, 3) := by decide +kernel
theorem dX0_format_81 : decode cX0_format 81 = .ok (.return_, 1) := by decide +kernel
theorem dX0_takeFrom_0 : decode cX0_takeFrom 0 = .ok (.aload_n 0, 1) := by decide +kernel
theorem dX0_takeFrom_1 : decode cX0_takeFrom 1 = .ok (.aload_n 1, 1) := by decide +kernel
theorem dX0_takeFrom_2 : decode cX0_takeFrom 2 = .ok (.getfield 9, 3) := by decide +kernel
theorem dX0_takeFrom_5 : decode cX0_takeFrom 5 = .ok (.putfield 9, 3) := by decide +kernel
theorem dX0_takeFrom_8 : decode cX0_takeFrom 8 = .ok (.aload_n 0, 1) := by decide +kernel
theorem dX0_takeFrom_9 : decode cX0_takeFrom 9 = .ok (.aload_n 1, 1) := by decide +kernel
theorem dX0_takeFrom_10 : decode cX0_takeFrom 10 = .ok (.getfield 15, 3) := by decide +kernel
theorem dX0_takeFrom_13 : decode cX0_takeFrom 13 = .ok (.putfield 15, 3) := by decide +kernel
theorem dX0_takeFrom_16 : decode cX0_takeFrom 16 = .ok (.aload_n 0, 1) := by decide +kernel
theorem dX0_takeFrom_17 : decode cX0_takeFrom 17 = .ok (.aload_n 1, 1) := by decide +kernel
theorem dX0_takeFrom_18 : decode cX0_takeFrom 18 = .ok (.getfield 18, 3) := by decide +kernel
theorem dX0_takeFrom_21 : decode cX0_takeFrom 21 = .ok (.putfield 18, 3) := by decide +kernel
theorem dX0_takeFrom_24 : decode cX0_takeFrom 24 = .ok (.aload_n 1, 1) := by decide +kernel
theorem dX0_takeFrom_25 : decode cX0_takeFrom 25 = .ok (.getfield 21, 3) := by decide +kernel
theorem dX0_takeFrom_28 : decode cX0_takeFrom 28 = .ok (.aload_n 0, 1) := by decide +kernel
theorem dX0_takeFrom_29 : decode cX0_takeFrom 29 = .ok (.getfield 21, 3) := by decide +kernel
theorem dX0_takeFrom_32 : decode cX0_takeFrom 32 = .ok (.invokestatic 54, 3) := by decide +kernel
theorem dX0_takeFrom_35 : decode cX0_takeFrom 35 = .ok (.aload_n 1, 1) := by decide +kernel
theorem dX0_takeFrom_36 : decode cX0_takeFrom 36 = .ok (.getfield 25, 3) := by decide +kernel
theorem dX0_takeFrom_39 : decode cX0_takeFrom 39 = .ok (.aload_n 0, 1) := by decide +kernel
theorem dX0_takeFrom_40 : decode cX0_takeFrom 40 = .ok (.getfield 25, 3) := by decide +kernel
theorem dX0_takeFrom_43 : decode cX0_takeFrom 43 = .ok (.invokestatic 58, 3) := by decide +kernel
theorem dX0_takeFrom_46 : decode cX0_takeFrom 46 = .ok (.aload_n 1, 1) := by decide +kernel
theorem dX0_takeFrom_47 : decode cX0_takeFrom 47 = .ok (.getfield 29, 3) := by decide +kernel
theorem dX0_takeFrom_50 : decode cX0_takeFrom 50 = .ok (.aload_n 0, 1) := by decide +kernel
theorem dX0_takeFrom_51 : decode cX0_takeFrom 51 = .ok (.getfield 29, 3) := by decide +kernel
theorem dX0_takeFrom_54 : decode cX0_takeFrom 54 = .ok (.invokestatic 58, 3) := by decide +kernel
theorem dX0_takeFrom_57 : decode cX0_takeFrom 57 = .ok (.aload_n 1, 1) := by decide +kernel
theorem dX0_takeFrom_58 : decode cX0_takeFrom 58 = .ok (.getfield 32, 3) := by decide +kernel
theorem dX0_takeFrom_61 : decode cX0_takeFrom 61 = .ok (.aload_n 0, 1) := by decide +kernel
theorem dX0_takeFrom_62 : decode cX0_takeFrom 62 = .ok (.getfield 32, 3) := by decide +kernel
theorem dX0_takeFrom_65 : decode cX0_takeFrom 65 = .ok (.invokestatic 54, 3) := by decide +kernel
theorem dX0_takeFrom_68 : decode cX0_takeFrom 68 = .ok (.aload_n 1, 1) := by decide +kernel
theorem dX0_takeFrom_69 : decode cX0_takeFrom 69 = .ok (.getfield 35, 3) := by decide +kernel
theorem dX0_takeFrom_72 : decode cX0_takeFrom 72 = .ok (.aload_n 0, 1) := by decide +kernel
theorem dX0_takeFrom_73 : decode cX0_takeFrom 73 = .ok (.getfield 35, 3) := by decide +kernel
theorem dX0_takeFrom_76 : decode cX0_takeFrom 76 = .ok (.invokestatic 54, 3) := by decide +kernel
theorem dX0_takeFrom_79 : decode cX0_takeFrom 79 = .ok (.aload_n 1, 1) := by decide +kernel
theorem dX0_takeFrom_80 : decode cX0_takeFrom 80 = .ok (.getfield 38, 3) := by decide +kernel
theorem dX0_takeFrom_83 : decode cX0_takeFrom 83 = .ok (.aload_n 0, 1) := by decide +kernel
theorem dX0_takeFrom_84 : decode cX0_takeFrom 84 = .ok (.getfield 38, 3) := by decide +kernel
theorem dX0_takeFrom_87 : decode cX0_takeFrom 87 = .ok (.invokestatic 54, 3) := by decide +kernel
theorem dX0_takeFrom_90 : decode cX0_takeFrom 90 = .ok (.aload_n 1, 1) := by decide +kernel
theorem dX0_takeFrom_91 : decode cX0_takeFrom 91 = .ok (.getfield 41, 3) := by decide +kernel
theorem dX0_takeFrom_94 : decode cX0_takeFrom 94 = .ok (.aload_n 0, 1) := by decide +kernel
theorem dX0_takeFrom_95 : decode cX0_takeFrom 95 = .ok (.getfield 41, 3) := by decide +kernel
theorem dX0_takeFrom_98 : decode cX0_takeFrom 98 = .ok (.invokestatic 54, 3) := by decide +kernel
theorem dX0_takeFrom_101 : decode cX0_takeFrom 101 = .ok (.aload_n 1, 1) := by decide +kernel
theorem dX0_takeFrom_102 : decode cX0_takeFrom 102 = .ok (.getfield 44, 3) := by decide +kernel
theorem dX0_takeFrom_105 : decode cX0_takeFrom 105 = .ok (.aload_n 0, 1) := by decide +kernel
theorem dX0_takeFrom_106 : decode cX0_takeFrom 106 = .ok (.getfield 44, 3) := by decide +kernel
theorem dX0_takeFrom_109 : decode cX0_takeFrom 109 = .ok (.invokestatic 54, 3) := by decide +kernel
theorem dX0_takeFrom_112 : decode cX0_takeFrom 112 = .ok (.return_, 1) := by decide +kernel
theorem dX0_kindOf_0 : decode cX0_kindOf 0 = .ok (.aload_n 0, 1) := by decide +kernel
theorem dX0_kindOf_1 : decode cX0_kindOf 1 = .ok (.getfield 21, 3) := by decide +kernel
theorem dX0_kindOf_4 : decode cX0_kindOf 4 = .ok (.iload_n 1, 1) := by decide +kernel
theorem dX0_kindOf_5 : decode cX0_kindOf 5 = .ok (.iconst 0, 1) := by decide +kernel
theorem dX0_kindOf_6 : decode cX0_kindOf 6 = .ok (.invokestatic 61, 3) := by decide +kernel
theorem dX0_kindOf_9 : decode cX0_kindOf 9 = .ok (.ireturn, 1) := by decide +kernel
theorem dX0_writerOf_0 : decode cX0_writerOf 0 = .ok (.aload_n 0, 1) := by decide +kernel
theorem dX0_writerOf_1 : decode cX0_writerOf 1 = .ok (.getfield 32, 3) := by decide +kernel
theorem dX0_writerOf_4 : decode cX0_writerOf 4 = .ok (.iload_n 1, 1) := by decide +kernel
theorem dX0_writerOf_5 : decode cX0_writerOf 5 = .ok (.iconst (-1), 1) := by decide +kernel
theorem dX0_writerOf_6 : decode cX0_writerOf 6 = .ok (.invokestatic 61, 3) := by decide +kernel
theorem dX0_writerOf_9 : decode cX0_writerOf 9 = .ok (.ireturn, 1) := by decide +kernel
theorem dX0_dataVersionOf_0 : decode cX0_dataVersionOf 0 = .ok (.aload_n 0, 1) := by decide +kernel
theorem dX0_dataVersionOf_1 : decode cX0_dataVersionOf 1 = .ok (.getfield 35, 3) := by decide +kernel
theorem dX0_dataVersionOf_4 : decode cX0_dataVersionOf 4 = .ok (.iload_n 1, 1) := by decide +kernel
theorem dX0_dataVersionOf_5 : decode cX0_dataVersionOf 5 = .ok (.iconst (-1), 1) := by decide +kernel
theorem dX0_dataVersionOf_6 : decode cX0_dataVersionOf 6 = .ok (.invokestatic 61, 3) := by decide +kernel
theorem dX0_dataVersionOf_9 : decode cX0_dataVersionOf 9 = .ok (.ireturn, 1) := by decide +kernel
theorem dX0_placeOf_0 : decode cX0_placeOf 0 = .ok (.aload_n 0, 1) := by decide +kernel
theorem dX0_placeOf_1 : decode cX0_placeOf 1 = .ok (.getfield 44, 3) := by decide +kernel
theorem dX0_placeOf_4 : decode cX0_placeOf 4 = .ok (.iload_n 1, 1) := by decide +kernel
theorem dX0_placeOf_5 : decode cX0_placeOf 5 = .ok (.iconst (-1), 1) := by decide +kernel
theorem dX0_placeOf_6 : decode cX0_placeOf 6 = .ok (.invokestatic 61, 3) := by decide +kernel
theorem dX0_placeOf_9 : decode cX0_placeOf 9 = .ok (.ireturn, 1) := by decide +kernel
theorem dX0_isBad_0 : decode cX0_isBad 0 = .ok (.aload_n 0, 1) := by decide +kernel
theorem dX0_isBad_1 : decode cX0_isBad 1 = .ok (.getfield 25, 3) := by decide +kernel
theorem dX0_isBad_4 : decode cX0_isBad 4 = .ok (.iload_n 1, 1) := by decide +kernel
theorem dX0_isBad_5 : decode cX0_isBad 5 = .ok (.invokestatic 65, 3) := by decide +kernel
theorem dX0_isBad_8 : decode cX0_isBad 8 = .ok (.ireturn, 1) := by decide +kernel
theorem dX0_isUnreadable_0 : decode cX0_isUnreadable 0 = .ok (.aload_n 0, 1) := by decide +kernel
theorem dX0_isUnreadable_1 : decode cX0_isUnreadable 1 = .ok (.getfield 29, 3) := by decide +kernel
theorem dX0_isUnreadable_4 : decode cX0_isUnreadable 4 = .ok (.iload_n 1, 1) := by decide +kernel
theorem dX0_isUnreadable_5 : decode cX0_isUnreadable 5 = .ok (.invokestatic 65, 3) := by decide +kernel
theorem dX0_isUnreadable_8 : decode cX0_isUnreadable 8 = .ok (.ireturn, 1) := by decide +kernel
theorem dX0_property_0 : decode cX0_property 0 = .ok (.iload_n 2, 1) := by decide +kernel
theorem dX0_property_1 : decode cX0_property 1 = .ok (.tableswitch 85 0 5 #[39, 45, 54, 63, 69, 75], 39) := by decide +kernel
theorem dX0_property_40 : decode cX0_property 40 = .ok (.aload_n 0, 1) := by decide +kernel
theorem dX0_property_41 : decode cX0_property 41 = .ok (.iload_n 1, 1) := by decide +kernel
theorem dX0_property_42 : decode cX0_property 42 = .ok (.invokevirtual 69, 3) := by decide +kernel
theorem dX0_property_45 : decode cX0_property 45 = .ok (.ireturn, 1) := by decide +kernel
theorem dX0_property_46 : decode cX0_property 46 = .ok (.aload_n 0, 1) := by decide +kernel
theorem dX0_property_47 : decode cX0_property 47 = .ok (.iload_n 1, 1) := by decide +kernel
theorem dX0_property_48 : decode cX0_property 48 = .ok (.invokevirtual 73, 3) := by decide +kernel
theorem dX0_property_51 : decode cX0_property 51 = .ok (.invokestatic 77, 3) := by decide +kernel
theorem dX0_property_54 : decode cX0_property 54 = .ok (.ireturn, 1) := by decide +kernel
theorem dX0_property_55 : decode cX0_property 55 = .ok (.aload_n 0, 1) := by decide +kernel
theorem dX0_property_56 : decode cX0_property 56 = .ok (.iload_n 1, 1) := by decide +kernel
theorem dX0_property_57 : decode cX0_property 57 = .ok (.invokevirtual 81, 3) := by decide +kernel
theorem dX0_property_60 : decode cX0_property 60 = .ok (.invokestatic 77, 3) := by decide +kernel
theorem dX0_property_63 : decode cX0_property 63 = .ok (.ireturn, 1) := by decide +kernel
theorem dX0_property_64 : decode cX0_property 64 = .ok (.aload_n 0, 1) := by decide +kernel
theorem dX0_property_65 : decode cX0_property 65 = .ok (.iload_n 1, 1) := by decide +kernel
theorem dX0_property_66 : decode cX0_property 66 = .ok (.invokevirtual 84, 3) := by decide +kernel
theorem dX0_property_69 : decode cX0_property 69 = .ok (.ireturn, 1) := by decide +kernel
theorem dX0_property_70 : decode cX0_property 70 = .ok (.aload_n 0, 1) := by decide +kernel
theorem dX0_property_71 : decode cX0_property 71 = .ok (.iload_n 1, 1) := by decide +kernel
theorem dX0_property_72 : decode cX0_property 72 = .ok (.invokevirtual 87, 3) := by decide +kernel
theorem dX0_property_75 : decode cX0_property 75 = .ok (.ireturn, 1) := by decide +kernel
theorem dX0_property_76 : decode cX0_property 76 = .ok (.aload_n 0, 1) := by decide +kernel
theorem dX0_property_77 : decode cX0_property 77 = .ok (.getfield 38, 3) := by decide +kernel
theorem dX0_property_80 : decode cX0_property 80 = .ok (.iload_n 1, 1) := by decide +kernel
theorem dX0_property_81 : decode cX0_property 81 = .ok (.iconst (-1), 1) := by decide +kernel
theorem dX0_property_82 : decode cX0_property 82 = .ok (.invokestatic 61, 3) := by decide +kernel
theorem dX0_property_85 : decode cX0_property 85 = .ok (.ireturn, 1) := by decide +kernel
theorem dX0_property_86 : decode cX0_property 86 = .ok (.aload_n 0, 1) := by decide +kernel
theorem dX0_property_87 : decode cX0_property 87 = .ok (.getfield 41, 3) := by decide +kernel
theorem dX0_property_90 : decode cX0_property 90 = .ok (.iload_n 1, 1) := by decide +kernel
theorem dX0_property_91 : decode cX0_property 91 = .ok (.iconst (-1), 1) := by decide +kernel
theorem dX0_property_92 : decode cX0_property 92 = .ok (.invokestatic 61, 3) := by decide +kernel
theorem dX0_property_95 : decode cX0_property 95 = .ok (.ireturn, 1) := by decide +kernel
theorem dX0_emptySpares_0 : decode cX0_emptySpares 0 = .ok (.iconst 0, 1) := by decide +kernel
theorem dX0_emptySpares_1 : decode cX0_emptySpares 1 = .ok (.istore_n 1, 1) := by decide +kernel
theorem dX0_emptySpares_2 : decode cX0_emptySpares 2 = .ok (.aload_n 0, 1) := by decide +kernel
theorem dX0_emptySpares_3 : decode cX0_emptySpares 3 = .ok (.getfield 15, 3) := by decide +kernel
theorem dX0_emptySpares_6 : decode cX0_emptySpares 6 = .ok (.istore_n 2, 1) := by decide +kernel
theorem dX0_emptySpares_7 : decode cX0_emptySpares 7 = .ok (.iload_n 2, 1) := by decide +kernel
theorem dX0_emptySpares_8 : decode cX0_emptySpares 8 = .ok (.aload_n 0, 1) := by decide +kernel
theorem dX0_emptySpares_9 : decode cX0_emptySpares 9 = .ok (.getfield 9, 3) := by decide +kernel
theorem dX0_emptySpares_12 : decode cX0_emptySpares 12 = .ok (.if_icmp .ge 28, 3) := by decide +kernel
theorem dX0_emptySpares_15 : decode cX0_emptySpares 15 = .ok (.iload_n 1, 1) := by decide +kernel
theorem dX0_emptySpares_16 : decode cX0_emptySpares 16 = .ok (.aload_n 0, 1) := by decide +kernel
theorem dX0_emptySpares_17 : decode cX0_emptySpares 17 = .ok (.iload_n 2, 1) := by decide +kernel
theorem dX0_emptySpares_18 : decode cX0_emptySpares 18 = .ok (.invokevirtual 69, 3) := by decide +kernel
theorem dX0_emptySpares_21 : decode cX0_emptySpares 21 = .ok (.ifCond .ne 7, 3) := by decide +kernel
theorem dX0_emptySpares_24 : decode cX0_emptySpares 24 = .ok (.iconst 1, 1) := by decide +kernel
theorem dX0_emptySpares_25 : decode cX0_emptySpares 25 = .ok (.goto 4, 3) := by decide +kernel
theorem dX0_emptySpares_28 : decode cX0_emptySpares 28 = .ok (.iconst 0, 1) := by decide +kernel
theorem dX0_emptySpares_29 : decode cX0_emptySpares 29 = .ok (.invokestatic 77, 3) := by decide +kernel
theorem dX0_emptySpares_32 : decode cX0_emptySpares 32 = .ok (.iadd, 1) := by decide +kernel
theorem dX0_emptySpares_33 : decode cX0_emptySpares 33 = .ok (.istore_n 1, 1) := by decide +kernel
theorem dX0_emptySpares_34 : decode cX0_emptySpares 34 = .ok (.iinc 2 1, 3) := by decide +kernel
theorem dX0_emptySpares_37 : decode cX0_emptySpares 37 = .ok (.goto (-30), 3) := by decide +kernel
theorem dX0_emptySpares_40 : decode cX0_emptySpares 40 = .ok (.iload_n 1, 1) := by decide +kernel
theorem dX0_emptySpares_41 : decode cX0_emptySpares 41 = .ok (.ireturn, 1) := by decide +kernel
theorem dX0_badOnes_0 : decode cX0_badOnes 0 = .ok (.iconst 0, 1) := by decide +kernel
theorem dX0_badOnes_1 : decode cX0_badOnes 1 = .ok (.istore_n 1, 1) := by decide +kernel
theorem dX0_badOnes_2 : decode cX0_badOnes 2 = .ok (.iconst 0, 1) := by decide +kernel
theorem dX0_badOnes_3 : decode cX0_badOnes 3 = .ok (.istore_n 2, 1) := by decide +kernel
theorem dX0_badOnes_4 : decode cX0_badOnes 4 = .ok (.iload_n 2, 1) := by decide +kernel
theorem dX0_badOnes_5 : decode cX0_badOnes 5 = .ok (.aload_n 0, 1) := by decide +kernel
theorem dX0_badOnes_6 : decode cX0_badOnes 6 = .ok (.getfield 9, 3) := by decide +kernel
theorem dX0_badOnes_9 : decode cX0_badOnes 9 = .ok (.if_icmp .ge 20, 3) := by decide +kernel
theorem dX0_badOnes_12 : decode cX0_badOnes 12 = .ok (.iload_n 1, 1) := by decide +kernel
theorem dX0_badOnes_13 : decode cX0_badOnes 13 = .ok (.aload_n 0, 1) := by decide +kernel
theorem dX0_badOnes_14 : decode cX0_badOnes 14 = .ok (.iload_n 2, 1) := by decide +kernel
theorem dX0_badOnes_15 : decode cX0_badOnes 15 = .ok (.invokevirtual 73, 3) := by decide +kernel
theorem dX0_badOnes_18 : decode cX0_badOnes 18 = .ok (.invokestatic 77, 3) := by decide +kernel
theorem dX0_badOnes_21 : decode cX0_badOnes 21 = .ok (.iadd, 1) := by decide +kernel
theorem dX0_badOnes_22 : decode cX0_badOnes 22 = .ok (.istore_n 1, 1) := by decide +kernel
theorem dX0_badOnes_23 : decode cX0_badOnes 23 = .ok (.iinc 2 1, 3) := by decide +kernel
theorem dX0_badOnes_26 : decode cX0_badOnes 26 = .ok (.goto (-22), 3) := by decide +kernel
theorem dX0_badOnes_29 : decode cX0_badOnes 29 = .ok (.iload_n 1, 1) := by decide +kernel
theorem dX0_badOnes_30 : decode cX0_badOnes 30 = .ok (.ireturn, 1) := by decide +kernel
theorem dX0_mainBlocksOf_0 : decode cX0_mainBlocksOf 0 = .ok (.aload_n 0, 1) := by decide +kernel
theorem dX0_mainBlocksOf_1 : decode cX0_mainBlocksOf 1 = .ok (.iload_n 1, 1) := by decide +kernel
theorem dX0_mainBlocksOf_2 : decode cX0_mainBlocksOf 2 = .ok (.iconst 0, 1) := by decide +kernel
theorem dX0_mainBlocksOf_3 : decode cX0_mainBlocksOf 3 = .ok (.aload_n 0, 1) := by decide +kernel
theorem dX0_mainBlocksOf_4 : decode cX0_mainBlocksOf 4 = .ok (.getfield 15, 3) := by decide +kernel
theorem dX0_mainBlocksOf_7 : decode cX0_mainBlocksOf 7 = .ok (.invokevirtual 90, 3) := by decide +kernel
theorem dX0_mainBlocksOf_10 : decode cX0_mainBlocksOf 10 = .ok (.ireturn, 1) := by decide +kernel
theorem dX0_spareBlocksOf_0 : decode cX0_spareBlocksOf 0 = .ok (.aload_n 0, 1) := by decide +kernel
theorem dX0_spareBlocksOf_1 : decode cX0_spareBlocksOf 1 = .ok (.iload_n 1, 1) := by decide +kernel
theorem dX0_spareBlocksOf_2 : decode cX0_spareBlocksOf 2 = .ok (.aload_n 0, 1) := by decide +kernel
theorem dX0_spareBlocksOf_3 : decode cX0_spareBlocksOf 3 = .ok (.getfield 15, 3) := by decide +kernel
theorem dX0_spareBlocksOf_6 : decode cX0_spareBlocksOf 6 = .ok (.aload_n 0, 1) := by decide +kernel
theorem dX0_spareBlocksOf_7 : decode cX0_spareBlocksOf 7 = .ok (.getfield 9, 3) := by decide +kernel
theorem dX0_spareBlocksOf_10 : decode cX0_spareBlocksOf 10 = .ok (.invokevirtual 90, 3) := by decide +kernel
theorem dX0_spareBlocksOf_13 : decode cX0_spareBlocksOf 13 = .ok (.ireturn, 1) := by decide +kernel
theorem dX0_blocksOf_0 : decode cX0_blocksOf 0 = .ok (.iconst 0, 1) := by decide +kernel
theorem dX0_blocksOf_1 : decode cX0_blocksOf 1 = .ok (.istore 4, 2) := by decide +kernel
theorem dX0_blocksOf_3 : decode cX0_blocksOf 3 = .ok (.iload_n 2, 1) := by decide +kernel
theorem dX0_blocksOf_4 : decode cX0_blocksOf 4 = .ok (.istore 5, 2) := by decide +kernel
theorem dX0_blocksOf_6 : decode cX0_blocksOf 6 = .ok (.iload 5, 2) := by decide +kernel
theorem dX0_blocksOf_8 : decode cX0_blocksOf 8 = .ok (.iload_n 3, 1) := by decide +kernel
theorem dX0_blocksOf_9 : decode cX0_blocksOf 9 = .ok (.if_icmp .ge 32, 3) := by decide +kernel
theorem dX0_blocksOf_12 : decode cX0_blocksOf 12 = .ok (.iload 4, 2) := by decide +kernel
theorem dX0_blocksOf_14 : decode cX0_blocksOf 14 = .ok (.aload_n 0, 1) := by decide +kernel
theorem dX0_blocksOf_15 : decode cX0_blocksOf 15 = .ok (.iload 5, 2) := by decide +kernel
theorem dX0_blocksOf_17 : decode cX0_blocksOf 17 = .ok (.invokevirtual 84, 3) := by decide +kernel
theorem dX0_blocksOf_20 : decode cX0_blocksOf 20 = .ok (.iload_n 1, 1) := by decide +kernel
theorem dX0_blocksOf_21 : decode cX0_blocksOf 21 = .ok (.if_icmp .ne 7, 3) := by decide +kernel
theorem dX0_blocksOf_24 : decode cX0_blocksOf 24 = .ok (.iconst 1, 1) := by decide +kernel
theorem dX0_blocksOf_25 : decode cX0_blocksOf 25 = .ok (.goto 4, 3) := by decide +kernel
theorem dX0_blocksOf_28 : decode cX0_blocksOf 28 = .ok (.iconst 0, 1) := by decide +kernel
theorem dX0_blocksOf_29 : decode cX0_blocksOf 29 = .ok (.invokestatic 77, 3) := by decide +kernel
theorem dX0_blocksOf_32 : decode cX0_blocksOf 32 = .ok (.iadd, 1) := by decide +kernel
theorem dX0_blocksOf_33 : decode cX0_blocksOf 33 = .ok (.istore 4, 2) := by decide +kernel
theorem dX0_blocksOf_35 : decode cX0_blocksOf 35 = .ok (.iinc 5 1, 3) := by decide +kernel
theorem dX0_blocksOf_38 : decode cX0_blocksOf 38 = .ok (.goto (-32), 3) := by decide +kernel
theorem dX0_blocksOf_41 : decode cX0_blocksOf 41 = .ok (.iload 4, 2) := by decide +kernel
theorem dX0_blocksOf_43 : decode cX0_blocksOf 43 = .ok (.ireturn, 1) := by decide +kernel
theorem dX0_hasRoomFor_0 : decode cX0_hasRoomFor 0 = .ok (.aload_n 0, 1) := by decide +kernel
theorem dX0_hasRoomFor_1 : decode cX0_hasRoomFor 1 = .ok (.getfield 18, 3) := by decide +kernel
theorem dX0_hasRoomFor_4 : decode cX0_hasRoomFor 4 = .ok (.iload_n 1, 1) := by decide +kernel
theorem dX0_hasRoomFor_5 : decode cX0_hasRoomFor 5 = .ok (.iadd, 1) := by decide +kernel
theorem dX0_hasRoomFor_6 : decode cX0_hasRoomFor 6 = .ok (.aload_n 0, 1) := by decide +kernel
theorem dX0_hasRoomFor_7 : decode cX0_hasRoomFor 7 = .ok (.getfield 15, 3) := by decide +kernel
theorem dX0_hasRoomFor_10 : decode cX0_hasRoomFor 10 = .ok (.if_icmp .gt 7, 3) := by decide +kernel
theorem dX0_hasRoomFor_13 : decode cX0_hasRoomFor 13 = .ok (.iconst 1, 1) := by decide +kernel
theorem dX0_hasRoomFor_14 : decode cX0_hasRoomFor 14 = .ok (.goto 4, 3) := by decide +kernel
theorem dX0_hasRoomFor_17 : decode cX0_hasRoomFor 17 = .ok (.iconst 0, 1) := by decide +kernel
theorem dX0_hasRoomFor_18 : decode cX0_hasRoomFor 18 = .ok (.ireturn, 1) := by decide +kernel
theorem dX0_canRelocate_0 : decode cX0_canRelocate 0 = .ok (.iconst 0, 1) := by decide +kernel
theorem dX0_canRelocate_1 : decode cX0_canRelocate 1 = .ok (.istore_n 2, 1) := by decide +kernel
theorem dX0_canRelocate_2 : decode cX0_canRelocate 2 = .ok (.aload_n 0, 1) := by decide +kernel
theorem dX0_canRelocate_3 : decode cX0_canRelocate 3 = .ok (.getfield 18, 3) := by decide +kernel
theorem dX0_canRelocate_6 : decode cX0_canRelocate 6 = .ok (.istore_n 3, 1) := by decide +kernel
theorem dX0_canRelocate_7 : decode cX0_canRelocate 7 = .ok (.iload_n 3, 1) := by decide +kernel
theorem dX0_canRelocate_8 : decode cX0_canRelocate 8 = .ok (.aload_n 0, 1) := by decide +kernel
theorem dX0_canRelocate_9 : decode cX0_canRelocate 9 = .ok (.getfield 18, 3) := by decide +kernel
theorem dX0_canRelocate_12 : decode cX0_canRelocate 12 = .ok (.iload_n 1, 1) := by decide +kernel
theorem dX0_canRelocate_13 : decode cX0_canRelocate 13 = .ok (.iadd, 1) := by decide +kernel
theorem dX0_canRelocate_14 : decode cX0_canRelocate 14 = .ok (.if_icmp .ge 28, 3) := by decide +kernel
theorem dX0_canRelocate_17 : decode cX0_canRelocate 17 = .ok (.iload_n 3, 1) := by decide +kernel
theorem dX0_canRelocate_18 : decode cX0_canRelocate 18 = .ok (.aload_n 0, 1) := by decide +kernel
theorem dX0_canRelocate_19 : decode cX0_canRelocate 19 = .ok (.getfield 15, 3) := by decide +kernel
theorem dX0_canRelocate_22 : decode cX0_canRelocate 22 = .ok (.if_icmp .ge 20, 3) := by decide +kernel
theorem dX0_canRelocate_25 : decode cX0_canRelocate 25 = .ok (.iload_n 2, 1) := by decide +kernel
theorem dX0_canRelocate_26 : decode cX0_canRelocate 26 = .ok (.aload_n 0, 1) := by decide +kernel
theorem dX0_canRelocate_27 : decode cX0_canRelocate 27 = .ok (.iload_n 3, 1) := by decide +kernel
theorem dX0_canRelocate_28 : decode cX0_canRelocate 28 = .ok (.invokevirtual 73, 3) := by decide +kernel
theorem dX0_canRelocate_31 : decode cX0_canRelocate 31 = .ok (.invokestatic 77, 3) := by decide +kernel
theorem dX0_canRelocate_34 : decode cX0_canRelocate 34 = .ok (.iadd, 1) := by decide +kernel
theorem dX0_canRelocate_35 : decode cX0_canRelocate 35 = .ok (.istore_n 2, 1) := by decide +kernel
theorem dX0_canRelocate_36 : decode cX0_canRelocate 36 = .ok (.iinc 3 1, 3) := by decide +kernel
theorem dX0_canRelocate_39 : decode cX0_canRelocate 39 = .ok (.goto (-32), 3) := by decide +kernel
theorem dX0_canRelocate_42 : decode cX0_canRelocate 42 = .ok (.iconst 0, 1) := by decide +kernel
theorem dX0_canRelocate_43 : decode cX0_canRelocate 43 = .ok (.istore_n 3, 1) := by decide +kernel
theorem dX0_canRelocate_44 : decode cX0_canRelocate 44 = .ok (.aload_n 0, 1) := by decide +kernel
theorem dX0_canRelocate_45 : decode cX0_canRelocate 45 = .ok (.getfield 15, 3) := by decide +kernel
theorem dX0_canRelocate_48 : decode cX0_canRelocate 48 = .ok (.istore 4, 2) := by decide +kernel
theorem dX0_canRelocate_50 : decode cX0_canRelocate 50 = .ok (.iload 4, 2) := by decide +kernel
theorem dX0_canRelocate_52 : decode cX0_canRelocate 52 = .ok (.aload_n 0, 1) := by decide +kernel
theorem dX0_canRelocate_53 : decode cX0_canRelocate 53 = .ok (.getfield 9, 3) := by decide +kernel
theorem dX0_canRelocate_56 : decode cX0_canRelocate 56 = .ok (.if_icmp .ge 38, 3) := by decide +kernel
theorem dX0_canRelocate_59 : decode cX0_canRelocate 59 = .ok (.iload_n 3, 1) := by decide +kernel
theorem dX0_canRelocate_60 : decode cX0_canRelocate 60 = .ok (.aload_n 0, 1) := by decide +kernel
theorem dX0_canRelocate_61 : decode cX0_canRelocate 61 = .ok (.iload 4, 2) := by decide +kernel
theorem dX0_canRelocate_63 : decode cX0_canRelocate 63 = .ok (.invokevirtual 69, 3) := by decide +kernel
theorem dX0_canRelocate_66 : decode cX0_canRelocate 66 = .ok (.ifCond .ne 16, 3) := by decide +kernel
theorem dX0_canRelocate_69 : decode cX0_canRelocate 69 = .ok (.aload_n 0, 1) := by decide +kernel
theorem dX0_canRelocate_70 : decode cX0_canRelocate 70 = .ok (.iload 4, 2) := by decide +kernel
theorem dX0_canRelocate_72 : decode cX0_canRelocate 72 = .ok (.invokevirtual 73, 3) := by decide +kernel
theorem dX0_canRelocate_75 : decode cX0_canRelocate 75 = .ok (.ifCond .ne 7, 3) := by decide +kernel
theorem dX0_canRelocate_78 : decode cX0_canRelocate 78 = .ok (.iconst 1, 1) := by decide +kernel
theorem dX0_canRelocate_79 : decode cX0_canRelocate 79 = .ok (.goto 4, 3) := by decide +kernel
theorem dX0_canRelocate_82 : decode cX0_canRelocate 82 = .ok (.iconst 0, 1) := by decide +kernel
theorem dX0_canRelocate_83 : decode cX0_canRelocate 83 = .ok (.invokestatic 77, 3) := by decide +kernel
theorem dX0_canRelocate_86 : decode cX0_canRelocate 86 = .ok (.iadd, 1) := by decide +kernel
theorem dX0_canRelocate_87 : decode cX0_canRelocate 87 = .ok (.istore_n 3, 1) := by decide +kernel
theorem dX0_canRelocate_88 : decode cX0_canRelocate 88 = .ok (.iinc 4 1, 3) := by decide +kernel
theorem dX0_canRelocate_91 : decode cX0_canRelocate 91 = .ok (.goto (-41), 3) := by decide +kernel
theorem dX0_canRelocate_94 : decode cX0_canRelocate 94 = .ok (.iload_n 2, 1) := by decide +kernel
theorem dX0_canRelocate_95 : decode cX0_canRelocate 95 = .ok (.iload_n 3, 1) := by decide +kernel
theorem dX0_canRelocate_96 : decode cX0_canRelocate 96 = .ok (.if_icmp .gt 7, 3) := by decide +kernel
theorem dX0_canRelocate_99 : decode cX0_canRelocate 99 = .ok (.iconst 1, 1) := by decide +kernel
theorem dX0_canRelocate_100 : decode cX0_canRelocate 100 = .ok (.goto 4, 3) := by decide +kernel
theorem dX0_canRelocate_103 : decode cX0_canRelocate 103 = .ok (.iconst 0, 1) := by decide +kernel
theorem dX0_canRelocate_104 : decode cX0_canRelocate 104 = .ok (.ireturn, 1) := by decide +kernel
theorem dX0_writeNext_0 : decode cX0_writeNext 0 = .ok (.aload_n 0, 1) := by decide +kernel
theorem dX0_writeNext_1 : decode cX0_writeNext 1 = .ok (.getfield 18, 3) := by decide +kernel
theorem dX0_writeNext_4 : decode cX0_writeNext 4 = .ok (.istore 5, 2) := by decide +kernel
theorem dX0_writeNext_6 : decode cX0_writeNext 6 = .ok (.aload_n 0, 1) := by decide +kernel
theorem dX0_writeNext_7 : decode cX0_writeNext 7 = .ok (.dup, 1) := by decide +kernel
theorem dX0_writeNext_8 : decode cX0_writeNext 8 = .ok (.getfield 18, 3) := by decide +kernel
theorem dX0_writeNext_11 : decode cX0_writeNext 11 = .ok (.iconst 1, 1) := by decide +kernel
theorem dX0_writeNext_12 : decode cX0_writeNext 12 = .ok (.iadd, 1) := by decide +kernel
theorem dX0_writeNext_13 : decode cX0_writeNext 13 = .ok (.putfield 18, 3) := by decide +kernel
theorem dX0_writeNext_16 : decode cX0_writeNext 16 = .ok (.iload 5, 2) := by decide +kernel
theorem dX0_writeNext_18 : decode cX0_writeNext 18 = .ok (.istore 6, 2) := by decide +kernel
theorem dX0_writeNext_20 : decode cX0_writeNext 20 = .ok (.aload_n 0, 1) := by decide +kernel
theorem dX0_writeNext_21 : decode cX0_writeNext 21 = .ok (.iload 5, 2) := by decide +kernel
theorem dX0_writeNext_23 : decode cX0_writeNext 23 = .ok (.invokevirtual 73, 3) := by decide +kernel
theorem dX0_writeNext_26 : decode cX0_writeNext 26 = .ok (.ifCond .eq 41, 3) := by decide +kernel
theorem dX0_writeNext_29 : decode cX0_writeNext 29 = .ok (.aload_n 0, 1) := by decide +kernel
theorem dX0_writeNext_30 : decode cX0_writeNext 30 = .ok (.getfield 21, 3) := by decide +kernel
theorem dX0_writeNext_33 : decode cX0_writeNext 33 = .ok (.iload 5, 2) := by decide +kernel
theorem dX0_writeNext_35 : decode cX0_writeNext 35 = .ok (.iconst 3, 1) := by decide +kernel
theorem dX0_writeNext_36 : decode cX0_writeNext 36 = .ok (.invokestatic 94, 3) := by decide +kernel
theorem dX0_writeNext_39 : decode cX0_writeNext 39 = .ok (.aload_n 0, 1) := by decide +kernel
theorem dX0_writeNext_40 : decode cX0_writeNext 40 = .ok (.getfield 32, 3) := by decide +kernel
theorem dX0_writeNext_43 : decode cX0_writeNext 43 = .ok (.iload 5, 2) := by decide +kernel
theorem dX0_writeNext_45 : decode cX0_writeNext 45 = .ok (.iload_n 2, 1) := by decide +kernel
theorem dX0_writeNext_46 : decode cX0_writeNext 46 = .ok (.invokestatic 94, 3) := by decide +kernel
theorem dX0_writeNext_49 : decode cX0_writeNext 49 = .ok (.aload_n 0, 1) := by decide +kernel
theorem dX0_writeNext_50 : decode cX0_writeNext 50 = .ok (.iload_n 2, 1) := by decide +kernel
theorem dX0_writeNext_51 : decode cX0_writeNext 51 = .ok (.invokevirtual 98, 3) := by decide +kernel
theorem dX0_writeNext_54 : decode cX0_writeNext 54 = .ok (.istore 6, 2) := by decide +kernel
theorem dX0_writeNext_56 : decode cX0_writeNext 56 = .ok (.aload_n 0, 1) := by decide +kernel
theorem dX0_writeNext_57 : decode cX0_writeNext 57 = .ok (.getfield 41, 3) := by decide +kernel
theorem dX0_writeNext_60 : decode cX0_writeNext 60 = .ok (.iload 6, 2) := by decide +kernel
theorem dX0_writeNext_62 : decode cX0_writeNext 62 = .ok (.iload 5, 2) := by decide +kernel
theorem dX0_writeNext_64 : decode cX0_writeNext 64 = .ok (.invokestatic 94, 3) := by decide +kernel
theorem dX0_writeNext_67 : decode cX0_writeNext 67 = .ok (.aload_n 0, 1) := by decide +kernel
theorem dX0_writeNext_68 : decode cX0_writeNext 68 = .ok (.getfield 44, 3) := by decide +kernel
theorem dX0_writeNext_71 : decode cX0_writeNext 71 = .ok (.iload 5, 2) := by decide +kernel
theorem dX0_writeNext_73 : decode cX0_writeNext 73 = .ok (.iload 6, 2) := by decide +kernel
theorem dX0_writeNext_75 : decode cX0_writeNext 75 = .ok (.invokestatic 94, 3) := by decide +kernel
theorem dX0_writeNext_78 : decode cX0_writeNext 78 = .ok (.aload_n 0, 1) := by decide +kernel
theorem dX0_writeNext_79 : decode cX0_writeNext 79 = .ok (.getfield 21, 3) := by decide +kernel
theorem dX0_writeNext_82 : decode cX0_writeNext 82 = .ok (.iload 6, 2) := by decide +kernel
theorem dX0_writeNext_84 : decode cX0_writeNext 84 = .ok (.iload_n 1, 1) := by decide +kernel
theorem dX0_writeNext_85 : decode cX0_writeNext 85 = .ok (.invokestatic 94, 3) := by decide +kernel
theorem dX0_writeNext_88 : decode cX0_writeNext 88 = .ok (.aload_n 0, 1) := by decide +kernel
theorem dX0_writeNext_89 : decode cX0_writeNext 89 = .ok (.getfield 32, 3) := by decide +kernel
theorem dX0_writeNext_92 : decode cX0_writeNext 92 = .ok (.iload 6, 2) := by decide +kernel
theorem dX0_writeNext_94 : decode cX0_writeNext 94 = .ok (.iload_n 2, 1) := by decide +kernel
theorem dX0_writeNext_95 : decode cX0_writeNext 95 = .ok (.invokestatic 94, 3) := by decide +kernel
theorem dX0_writeNext_98 : decode cX0_writeNext 98 = .ok (.aload_n 0, 1) := by decide +kernel
theorem dX0_writeNext_99 : decode cX0_writeNext 99 = .ok (.getfield 35, 3) := by decide +kernel
theorem dX0_writeNext_102 : decode cX0_writeNext 102 = .ok (.iload 6, 2) := by decide +kernel
theorem dX0_writeNext_104 : decode cX0_writeNext 104 = .ok (.iload_n 3, 1) := by decide +kernel
theorem dX0_writeNext_105 : decode cX0_writeNext 105 = .ok (.invokestatic 94, 3) := by decide +kernel
theorem dX0_writeNext_108 : decode cX0_writeNext 108 = .ok (.aload_n 0, 1) := by decide +kernel
theorem dX0_writeNext_109 : decode cX0_writeNext 109 = .ok (.getfield 38, 3) := by decide +kernel
theorem dX0_writeNext_112 : decode cX0_writeNext 112 = .ok (.iload 6, 2) := by decide +kernel
theorem dX0_writeNext_114 : decode cX0_writeNext 114 = .ok (.iload 4, 2) := by decide +kernel
theorem dX0_writeNext_116 : decode cX0_writeNext 116 = .ok (.invokestatic 94, 3) := by decide +kernel
theorem dX0_writeNext_119 : decode cX0_writeNext 119 = .ok (.return_, 1) := by decide +kernel
theorem dX0_takeSpare_0 : decode cX0_takeSpare 0 = .ok (.aload_n 0, 1) := by decide +kernel
theorem dX0_takeSpare_1 : decode cX0_takeSpare 1 = .ok (.getfield 15, 3) := by decide +kernel
theorem dX0_takeSpare_4 : decode cX0_takeSpare 4 = .ok (.istore_n 2, 1) := by decide +kernel
theorem dX0_takeSpare_5 : decode cX0_takeSpare 5 = .ok (.iload_n 2, 1) := by decide +kernel
theorem dX0_takeSpare_6 : decode cX0_takeSpare 6 = .ok (.aload_n 0, 1) := by decide +kernel
theorem dX0_takeSpare_7 : decode cX0_takeSpare 7 = .ok (.getfield 9, 3) := by decide +kernel
theorem dX0_takeSpare_10 : decode cX0_takeSpare 10 = .ok (.if_icmp .ge 45, 3) := by decide +kernel
theorem dX0_takeSpare_13 : decode cX0_takeSpare 13 = .ok (.aload_n 0, 1) := by decide +kernel
theorem dX0_takeSpare_14 : decode cX0_takeSpare 14 = .ok (.iload_n 2, 1) := by decide +kernel
theorem dX0_takeSpare_15 : decode cX0_takeSpare 15 = .ok (.invokevirtual 69, 3) := by decide +kernel
theorem dX0_takeSpare_18 : decode cX0_takeSpare 18 = .ok (.ifCond .ne 31, 3) := by decide +kernel
theorem dX0_takeSpare_21 : decode cX0_takeSpare 21 = .ok (.aload_n 0, 1) := by decide +kernel
theorem dX0_takeSpare_22 : decode cX0_takeSpare 22 = .ok (.iload_n 2, 1) := by decide +kernel
theorem dX0_takeSpare_23 : decode cX0_takeSpare 23 = .ok (.invokevirtual 73, 3) := by decide +kernel
theorem dX0_takeSpare_26 : decode cX0_takeSpare 26 = .ok (.ifCond .ne 5, 3) := by decide +kernel
theorem dX0_takeSpare_29 : decode cX0_takeSpare 29 = .ok (.iload_n 2, 1) := by decide +kernel
theorem dX0_takeSpare_30 : decode cX0_takeSpare 30 = .ok (.ireturn, 1) := by decide +kernel
theorem dX0_takeSpare_31 : decode cX0_takeSpare 31 = .ok (.aload_n 0, 1) := by decide +kernel
theorem dX0_takeSpare_32 : decode cX0_takeSpare 32 = .ok (.getfield 21, 3) := by decide +kernel
theorem dX0_takeSpare_35 : decode cX0_takeSpare 35 = .ok (.iload_n 2, 1) := by decide +kernel
theorem dX0_takeSpare_36 : decode cX0_takeSpare 36 = .ok (.iconst 3, 1) := by decide +kernel
theorem dX0_takeSpare_37 : decode cX0_takeSpare 37 = .ok (.invokestatic 94, 3) := by decide +kernel
theorem dX0_takeSpare_40 : decode cX0_takeSpare 40 = .ok (.aload_n 0, 1) := by decide +kernel
theorem dX0_takeSpare_41 : decode cX0_takeSpare 41 = .ok (.getfield 32, 3) := by decide +kernel
theorem dX0_takeSpare_44 : decode cX0_takeSpare 44 = .ok (.iload_n 2, 1) := by decide +kernel
theorem dX0_takeSpare_45 : decode cX0_takeSpare 45 = .ok (.iload_n 1, 1) := by decide +kernel
theorem dX0_takeSpare_46 : decode cX0_takeSpare 46 = .ok (.invokestatic 94, 3) := by decide +kernel
theorem dX0_takeSpare_49 : decode cX0_takeSpare 49 = .ok (.iinc 2 1, 3) := by decide +kernel
theorem dX0_takeSpare_52 : decode cX0_takeSpare 52 = .ok (.goto (-47), 3) := by decide +kernel
theorem dX0_takeSpare_55 : decode cX0_takeSpare 55 = .ok (.iconst (-1), 1) := by decide +kernel
theorem dX0_takeSpare_56 : decode cX0_takeSpare 56 = .ok (.ireturn, 1) := by decide +kernel
theorem dX0_canRead_0 : decode cX0_canRead 0 = .ok (.iload_n 1, 1) := by decide +kernel
theorem dX0_canRead_1 : decode cX0_canRead 1 = .ok (.istore_n 3, 1) := by decide +kernel
theorem dX0_canRead_2 : decode cX0_canRead 2 = .ok (.iload_n 3, 1) := by decide +kernel
theorem dX0_canRead_3 : decode cX0_canRead 3 = .ok (.ifCond .lt 45, 3) := by decide +kernel
theorem dX0_canRead_6 : decode cX0_canRead 6 = .ok (.iload_n 3, 1) := by decide +kernel
theorem dX0_canRead_7 : decode cX0_canRead 7 = .ok (.iload_n 1, 1) := by decide +kernel
theorem dX0_canRead_8 : decode cX0_canRead 8 = .ok (.iload_n 2, 1) := by decide +kernel
theorem dX0_canRead_9 : decode cX0_canRead 9 = .ok (.iadd, 1) := by decide +kernel
theorem dX0_canRead_10 : decode cX0_canRead 10 = .ok (.if_icmp .ge 38, 3) := by decide +kernel
theorem dX0_canRead_13 : decode cX0_canRead 13 = .ok (.iload_n 3, 1) := by decide +kernel
theorem dX0_canRead_14 : decode cX0_canRead 14 = .ok (.aload_n 0, 1) := by decide +kernel
theorem dX0_canRead_15 : decode cX0_canRead 15 = .ok (.getfield 15, 3) := by decide +kernel
theorem dX0_canRead_18 : decode cX0_canRead 18 = .ok (.if_icmp .ge 30, 3) := by decide +kernel
theorem dX0_canRead_21 : decode cX0_canRead 21 = .ok (.aload_n 0, 1) := by decide +kernel
theorem dX0_canRead_22 : decode cX0_canRead 22 = .ok (.getfield 29, 3) := by decide +kernel
theorem dX0_canRead_25 : decode cX0_canRead 25 = .ok (.aload_n 0, 1) := by decide +kernel
theorem dX0_canRead_26 : decode cX0_canRead 26 = .ok (.getfield 44, 3) := by decide +kernel
theorem dX0_canRead_29 : decode cX0_canRead 29 = .ok (.iload_n 3, 1) := by decide +kernel
theorem dX0_canRead_30 : decode cX0_canRead 30 = .ok (.iconst (-1), 1) := by decide +kernel
theorem dX0_canRead_31 : decode cX0_canRead 31 = .ok (.invokestatic 61, 3) := by decide +kernel
theorem dX0_canRead_34 : decode cX0_canRead 34 = .ok (.invokestatic 65, 3) := by decide +kernel
theorem dX0_canRead_37 : decode cX0_canRead 37 = .ok (.ifCond .eq 5, 3) := by decide +kernel
theorem dX0_canRead_40 : decode cX0_canRead 40 = .ok (.iconst 0, 1) := by decide +kernel
theorem dX0_canRead_41 : decode cX0_canRead 41 = .ok (.ireturn, 1) := by decide +kernel
theorem dX0_canRead_42 : decode cX0_canRead 42 = .ok (.iinc 3 1, 3) := by decide +kernel
theorem dX0_canRead_45 : decode cX0_canRead 45 = .ok (.goto (-43), 3) := by decide +kernel
theorem dX0_canRead_48 : decode cX0_canRead 48 = .ok (.iload_n 1, 1) := by decide +kernel
theorem dX0_canRead_49 : decode cX0_canRead 49 = .ok (.iconst (-1), 1) := by decide +kernel
theorem dX0_canRead_50 : decode cX0_canRead 50 = .ok (.if_icmp .eq 7, 3) := by decide +kernel
theorem dX0_canRead_53 : decode cX0_canRead 53 = .ok (.iconst 1, 1) := by decide +kernel
theorem dX0_canRead_54 : decode cX0_canRead 54 = .ok (.goto 4, 3) := by decide +kernel
theorem dX0_canRead_57 : decode cX0_canRead 57 = .ok (.iconst 0, 1) := by decide +kernel
theorem dX0_canRead_58 : decode cX0_canRead 58 = .ok (.ireturn, 1) := by decide +kernel
theorem dX0_makeBad_0 : decode cX0_makeBad 0 = .ok (.aload_n 0, 1) := by decide +kernel
theorem dX0_makeBad_1 : decode cX0_makeBad 1 = .ok (.getfield 25, 3) := by decide +kernel
theorem dX0_makeBad_4 : decode cX0_makeBad 4 = .ok (.iload_n 1, 1) := by decide +kernel
theorem dX0_makeBad_5 : decode cX0_makeBad 5 = .ok (.iconst 1, 1) := by decide +kernel
theorem dX0_makeBad_6 : decode cX0_makeBad 6 = .ok (.invokestatic 101, 3) := by decide +kernel
theorem dX0_makeBad_9 : decode cX0_makeBad 9 = .ok (.return_, 1) := by decide +kernel
theorem dX0_damage_0 : decode cX0_damage 0 = .ok (.aload_n 0, 1) := by decide +kernel
theorem dX0_damage_1 : decode cX0_damage 1 = .ok (.iload_n 1, 1) := by decide +kernel
theorem dX0_damage_2 : decode cX0_damage 2 = .ok (.invokevirtual 69, 3) := by decide +kernel
theorem dX0_damage_5 : decode cX0_damage 5 = .ok (.ifCond .ne 10, 3) := by decide +kernel
theorem dX0_damage_8 : decode cX0_damage 8 = .ok (.aload_n 0, 1) := by decide +kernel
theorem dX0_damage_9 : decode cX0_damage 9 = .ok (.getfield 25, 3) := by decide +kernel
theorem dX0_damage_12 : decode cX0_damage 12 = .ok (.goto 7, 3) := by decide +kernel
theorem dX0_damage_15 : decode cX0_damage 15 = .ok (.aload_n 0, 1) := by decide +kernel
theorem dX0_damage_16 : decode cX0_damage 16 = .ok (.getfield 29, 3) := by decide +kernel
theorem dX0_damage_19 : decode cX0_damage 19 = .ok (.astore_n 2, 1) := by decide +kernel
theorem dX0_damage_20 : decode cX0_damage 20 = .ok (.aload_n 2, 1) := by decide +kernel
theorem dX0_damage_21 : decode cX0_damage 21 = .ok (.iload_n 1, 1) := by decide +kernel
theorem dX0_damage_22 : decode cX0_damage 22 = .ok (.invokestatic 65, 3) := by decide +kernel
theorem dX0_damage_25 : decode cX0_damage 25 = .ok (.istore_n 3, 1) := by decide +kernel
theorem dX0_damage_26 : decode cX0_damage 26 = .ok (.aload_n 2, 1) := by decide +kernel
theorem dX0_damage_27 : decode cX0_damage 27 = .ok (.iload_n 1, 1) := by decide +kernel
theorem dX0_damage_28 : decode cX0_damage 28 = .ok (.iconst 1, 1) := by decide +kernel
theorem dX0_damage_29 : decode cX0_damage 29 = .ok (.invokestatic 101, 3) := by decide +kernel
theorem dX0_damage_32 : decode cX0_damage 32 = .ok (.iload_n 3, 1) := by decide +kernel
theorem dX0_damage_33 : decode cX0_damage 33 = .ok (.ifCond .ne 7, 3) := by decide +kernel
theorem dX0_damage_36 : decode cX0_damage 36 = .ok (.iconst 1, 1) := by decide +kernel
theorem dX0_damage_37 : decode cX0_damage 37 = .ok (.goto 4, 3) := by decide +kernel
theorem dX0_damage_40 : decode cX0_damage 40 = .ok (.iconst 0, 1) := by decide +kernel
theorem dX0_damage_41 : decode cX0_damage 41 = .ok (.ireturn, 1) := by decide +kernel
theorem dX1_init_0 : decode cX1_init 0 = .ok (.aload_n 0, 1) := by decide +kernel
theorem dX1_init_1 : decode cX1_init 1 = .ok (.invokespecial 3, 3) := by decide +kernel
theorem dX1_init_4 : decode cX1_init 4 = .ok (.aload_n 0, 1) := by decide +kernel
theorem dX1_init_5 : decode cX1_init 5 = .ok (.new 9, 3) := by decide +kernel
theorem dX1_init_8 : decode cX1_init 8 = .ok (.dup, 1) := by decide +kernel
theorem dX1_init_9 : decode cX1_init 9 = .ok (.invokespecial 11, 3) := by decide +kernel
theorem dX1_init_12 : decode cX1_init 12 = .ok (.putfield 12, 3) := by decide +kernel
theorem dX1_init_15 : decode cX1_init 15 = .ok (.aload_n 0, 1) := by decide +kernel
theorem dX1_init_16 : decode cX1_init 16 = .ok (.new 18, 3) := by decide +kernel
theorem dX1_init_19 : decode cX1_init 19 = .ok (.dup, 1) := by decide +kernel
theorem dX1_init_20 : decode cX1_init 20 = .ok (.invokespecial 20, 3) := by decide +kernel
theorem dX1_init_23 : decode cX1_init 23 = .ok (.putfield 21, 3) := by decide +kernel
theorem dX1_init_26 : decode cX1_init 26 = .ok (.aload_n 0, 1) := by decide +kernel
theorem dX1_init_27 : decode cX1_init 27 = .ok (.new 25, 3) := by decide +kernel
theorem dX1_init_30 : decode cX1_init 30 = .ok (.dup, 1) := by decide +kernel
theorem dX1_init_31 : decode cX1_init 31 = .ok (.invokespecial 27, 3) := by decide +kernel
theorem dX1_init_34 : decode cX1_init 34 = .ok (.putfield 28, 3) := by decide +kernel
theorem dX1_init_37 : decode cX1_init 37 = .ok (.aload_n 0, 1) := by decide +kernel
theorem dX1_init_38 : decode cX1_init 38 = .ok (.iconst 0, 1) := by decide +kernel
theorem dX1_init_39 : decode cX1_init 39 = .ok (.putfield 32, 3) := by decide +kernel
theorem dX1_init_42 : decode cX1_init 42 = .ok (.aload_n 0, 1) := by decide +kernel
theorem dX1_init_43 : decode cX1_init 43 = .ok (.bipush 10, 2) := by decide +kernel
theorem dX1_init_45 : decode cX1_init 45 = .ok (.newarray .long, 2) := by decide +kernel
theorem dX1_init_47 : decode cX1_init 47 = .ok (.putfield 36, 3) := by decide +kernel
theorem dX1_init_50 : decode cX1_init 50 = .ok (.aload_n 0, 1) := by decide +kernel
theorem dX1_init_51 : decode cX1_init 51 = .ok (.iconst 0, 1) := by decide +kernel
theorem dX1_init_52 : decode cX1_init 52 = .ok (.putfield 40, 3) := by decide +kernel
theorem dX1_init_55 : decode cX1_init 55 = .ok (.aload_n 0, 1) := by decide +kernel
theorem dX1_init_56 : decode cX1_init 56 = .ok (.new 44, 3) := by decide +kernel
theorem dX1_init_59 : decode cX1_init 59 = .ok (.dup, 1) := by decide +kernel
theorem dX1_init_60 : decode cX1_init 60 = .ok (.invokespecial 46, 3) := by decide +kernel
theorem dX1_init_63 : decode cX1_init 63 = .ok (.putfield 47, 3) := by decide +kernel
theorem dX1_init_66 : decode cX1_init 66 = .ok (.return_, 1) := by decide +kernel
theorem dX1_format_0 : decode cX1_format 0 = .ok (.aload_n 0, 1) := by decide +kernel
theorem dX1_format_1 : decode cX1_format 1 = .ok (.getfield 12, 3) := by decide +kernel
theorem dX1_format_4 : decode cX1_format 4 = .ok (.iload_n 1, 1) := by decide +kernel
theorem dX1_format_5 : decode cX1_format 5 = .ok (.iload_n 2, 1) := by decide +kernel
theorem dX1_format_6 : decode cX1_format 6 = .ok (.invokevirtual 51, 3) := by decide +kernel
theorem dX1_format_9 : decode cX1_format 9 = .ok (.aload_n 0, 1) := by decide +kernel
theorem dX1_format_10 : decode cX1_format 10 = .ok (.getfield 21, 3) := by decide +kernel
theorem dX1_format_13 : decode cX1_format 13 = .ok (.iconst 0, 1) := by decide +kernel
theorem dX1_format_14 : decode cX1_format 14 = .ok (.putfield 55, 3) := by decide +kernel
theorem dX1_format_17 : decode cX1_format 17 = .ok (.aload_n 0, 1) := by decide +kernel
theorem dX1_format_18 : decode cX1_format 18 = .ok (.getfield 28, 3) := by decide +kernel
theorem dX1_format_21 : decode cX1_format 21 = .ok (.iconst 0, 1) := by decide +kernel
theorem dX1_format_22 : decode cX1_format 22 = .ok (.putfield 58, 3) := by decide +kernel
theorem dX1_format_25 : decode cX1_format 25 = .ok (.aload_n 0, 1) := by decide +kernel
theorem dX1_format_26 : decode cX1_format 26 = .ok (.iconst 0, 1) := by decide +kernel
theorem dX1_format_27 : decode cX1_format 27 = .ok (.putfield 32, 3) := by decide +kernel
theorem dX1_format_30 : decode cX1_format 30 = .ok (.aload_n 0, 1) := by decide +kernel
theorem dX1_format_31 : decode cX1_format 31 = .ok (.iconst 0, 1) := by decide +kernel
theorem dX1_format_32 : decode cX1_format 32 = .ok (.putfield 40, 3) := by decide +kernel
theorem dX1_format_35 : decode cX1_format 35 = .ok (.return_, 1) := by decide +kernel
theorem dX1_begin_0 : decode cX1_begin 0 = .ok (.aload_n 0, 1) := by decide +kernel
theorem dX1_begin_1 : decode cX1_begin 1 = .ok (.aload_n 1, 1) := by decide +kernel
theorem dX1_begin_2 : decode cX1_begin 2 = .ok (.getfield 59, 3) := by decide +kernel
theorem dX1_begin_5 : decode cX1_begin 5 = .ok (.aload_n 1, 1) := by decide +kernel
theorem dX1_begin_6 : decode cX1_begin 6 = .ok (.getfield 63, 3) := by decide +kernel
theorem dX1_begin_9 : decode cX1_begin 9 = .ok (.invokevirtual 66, 3) := by decide +kernel
theorem dX1_begin_12 : decode cX1_begin 12 = .ok (.aload_n 0, 1) := by decide +kernel
theorem dX1_begin_13 : decode cX1_begin 13 = .ok (.aload_n 1, 1) := by decide +kernel
theorem dX1_begin_14 : decode cX1_begin 14 = .ok (.getfield 67, 3) := by decide +kernel
theorem dX1_begin_17 : decode cX1_begin 17 = .ok (.putfield 32, 3) := by decide +kernel
theorem dX1_begin_20 : decode cX1_begin 20 = .ok (.aload_n 1, 1) := by decide +kernel
theorem dX1_begin_21 : decode cX1_begin 21 = .ok (.getfield 68, 3) := by decide +kernel
theorem dX1_begin_24 : decode cX1_begin 24 = .ok (.aload_n 0, 1) := by decide +kernel
theorem dX1_begin_25 : decode cX1_begin 25 = .ok (.getfield 36, 3) := by decide +kernel
theorem dX1_begin_28 : decode cX1_begin 28 = .ok (.invokestatic 69, 3) := by decide +kernel
theorem dX1_begin_31 : decode cX1_begin 31 = .ok (.return_, 1) := by decide +kernel
theorem dX1_reasonAgainstStatement_0 : decode cX1_reasonAgainstStatement 0 = .ok (.aload_n 1, 1) := by decide +kernel
theorem dX1_reasonAgainstStatement_1 : decode cX1_reasonAgainstStatement 1 = .ok (.iload_n 2, 1) := by decide +kernel
theorem dX1_reasonAgainstStatement_2 : decode cX1_reasonAgainstStatement 2 = .ok (.invokevirtual 73, 3) := by decide +kernel
theorem dX1_reasonAgainstStatement_5 : decode cX1_reasonAgainstStatement 5 = .ok (.tableswitch 57 1 3 #[27, 42, 52], 27) := by decide +kernel
theorem dX1_reasonAgainstStatement_32 : decode cX1_reasonAgainstStatement 32 = .ok (.aload_n 0, 1) := by decide +kernel
theorem dX1_reasonAgainstStatement_33 : decode cX1_reasonAgainstStatement 33 = .ok (.aload_n 1, 1) := by decide +kernel
theorem dX1_reasonAgainstStatement_34 : decode cX1_reasonAgainstStatement 34 = .ok (.iload_n 2, 1) := by decide +kernel
theorem dX1_reasonAgainstStatement_35 : decode cX1_reasonAgainstStatement 35 = .ok (.invokevirtual 77, 3) := by decide +kernel
theorem dX1_reasonAgainstStatement_38 : decode cX1_reasonAgainstStatement 38 = .ok (.aload_n 1, 1) := by decide +kernel
theorem dX1_reasonAgainstStatement_39 : decode cX1_reasonAgainstStatement 39 = .ok (.iload_n 2, 1) := by decide +kernel
theorem dX1_reasonAgainstStatement_40 : decode cX1_reasonAgainstStatement 40 = .ok (.invokevirtual 80, 3) := by decide +kernel
theorem dX1_reasonAgainstStatement_43 : decode cX1_reasonAgainstStatement 43 = .ok (.invokevirtual 83, 3) := by decide +kernel
theorem dX1_reasonAgainstStatement_46 : decode cX1_reasonAgainstStatement 46 = .ok (.ireturn, 1) := by decide +kernel
theorem dX1_reasonAgainstStatement_47 : decode cX1_reasonAgainstStatement 47 = .ok (.aload_n 0, 1) := by decide +kernel
theorem dX1_reasonAgainstStatement_48 : decode cX1_reasonAgainstStatement 48 = .ok (.aload_n 1, 1) := by decide +kernel
theorem dX1_reasonAgainstStatement_49 : decode cX1_reasonAgainstStatement 49 = .ok (.iload_n 2, 1) := by decide +kernel
theorem dX1_reasonAgainstStatement_50 : decode cX1_reasonAgainstStatement 50 = .ok (.invokevirtual 77, 3) := by decide +kernel
theorem dX1_reasonAgainstStatement_53 : decode cX1_reasonAgainstStatement 53 = .ok (.invokevirtual 87, 3) := by decide +kernel
theorem dX1_reasonAgainstStatement_56 : decode cX1_reasonAgainstStatement 56 = .ok (.ireturn, 1) := by decide +kernel
theorem dX1_reasonAgainstStatement_57 : decode cX1_reasonAgainstStatement 57 = .ok (.aload_n 0, 1) := by decide +kernel
theorem dX1_reasonAgainstStatement_58 : decode cX1_reasonAgainstStatement 58 = .ok (.invokevirtual 90, 3) := by decide +kernel
theorem dX1_reasonAgainstStatement_61 : decode cX1_reasonAgainstStatement 61 = .ok (.ireturn, 1) := by decide +kernel
theorem dX1_reasonAgainstStatement_62 : decode cX1_reasonAgainstStatement 62 = .ok (.iconst 0, 1) := by decide +kernel
theorem dX1_reasonAgainstStatement_63 : decode cX1_reasonAgainstStatement 63 = .ok (.ireturn, 1) := by decide +kernel
theorem dX1_doStatement_0 : decode cX1_doStatement 0 = .ok (.aload_n 1, 1) := by decide +kernel
theorem dX1_doStatement_1 : decode cX1_doStatement 1 = .ok (.iload_n 2, 1) := by decide +kernel
theorem dX1_doStatement_2 : decode cX1_doStatement 2 = .ok (.invokevirtual 73, 3) := by decide +kernel
theorem dX1_doStatement_5 : decode cX1_doStatement 5 = .ok (.tableswitch 70 1 3 #[27, 50, 62], 27) := by decide +kernel
theorem dX1_doStatement_32 : decode cX1_doStatement 32 = .ok (.aload_n 0, 1) := by decide +kernel
theorem dX1_doStatement_33 : decode cX1_doStatement 33 = .ok (.aload_n 1, 1) := by decide +kernel
theorem dX1_doStatement_34 : decode cX1_doStatement 34 = .ok (.iload_n 2, 1) := by decide +kernel
theorem dX1_doStatement_35 : decode cX1_doStatement 35 = .ok (.invokevirtual 77, 3) := by decide +kernel
theorem dX1_doStatement_38 : decode cX1_doStatement 38 = .ok (.aload_n 1, 1) := by decide +kernel
theorem dX1_doStatement_39 : decode cX1_doStatement 39 = .ok (.iload_n 2, 1) := by decide +kernel
theorem dX1_doStatement_40 : decode cX1_doStatement 40 = .ok (.invokevirtual 80, 3) := by decide +kernel
theorem dX1_doStatement_43 : decode cX1_doStatement 43 = .ok (.aload_n 1, 1) := by decide +kernel
theorem dX1_doStatement_44 : decode cX1_doStatement 44 = .ok (.iload_n 2, 1) := by decide +kernel
theorem dX1_doStatement_45 : decode cX1_doStatement 45 = .ok (.invokevirtual 94, 3) := by decide +kernel
theorem dX1_doStatement_48 : decode cX1_doStatement 48 = .ok (.invokevirtual 97, 3) := by decide +kernel
theorem dX1_doStatement_51 : decode cX1_doStatement 51 = .ok (.pop, 1) := by decide +kernel
theorem dX1_doStatement_52 : decode cX1_doStatement 52 = .ok (.goto 35, 3) := by decide +kernel
theorem dX1_doStatement_55 : decode cX1_doStatement 55 = .ok (.aload_n 0, 1) := by decide +kernel
theorem dX1_doStatement_56 : decode cX1_doStatement 56 = .ok (.aload_n 1, 1) := by decide +kernel
theorem dX1_doStatement_57 : decode cX1_doStatement 57 = .ok (.iload_n 2, 1) := by decide +kernel
theorem dX1_doStatement_58 : decode cX1_doStatement 58 = .ok (.invokevirtual 77, 3) := by decide +kernel
theorem dX1_doStatement_61 : decode cX1_doStatement 61 = .ok (.invokevirtual 101, 3) := by decide +kernel
theorem dX1_doStatement_64 : decode cX1_doStatement 64 = .ok (.goto 23, 3) := by decide +kernel
theorem dX1_doStatement_67 : decode cX1_doStatement 67 = .ok (.aload_n 0, 1) := by decide +kernel
theorem dX1_doStatement_68 : decode cX1_doStatement 68 = .ok (.invokevirtual 105, 3) := by decide +kernel
theorem dX1_doStatement_71 : decode cX1_doStatement 71 = .ok (.pop, 1) := by decide +kernel
theorem dX1_doStatement_72 : decode cX1_doStatement 72 = .ok (.goto 15, 3) := by decide +kernel
theorem dX1_doStatement_75 : decode cX1_doStatement 75 = .ok (.aload_n 0, 1) := by decide +kernel
theorem dX1_doStatement_76 : decode cX1_doStatement 76 = .ok (.getfield 12, 3) := by decide +kernel
theorem dX1_doStatement_79 : decode cX1_doStatement 79 = .ok (.aload_n 1, 1) := by decide +kernel
theorem dX1_doStatement_80 : decode cX1_doStatement 80 = .ok (.iload_n 2, 1) := by decide +kernel
theorem dX1_doStatement_81 : decode cX1_doStatement 81 = .ok (.invokevirtual 77, 3) := by decide +kernel
theorem dX1_doStatement_84 : decode cX1_doStatement 84 = .ok (.invokevirtual 108, 3) := by decide +kernel
theorem dX1_doStatement_87 : decode cX1_doStatement 87 = .ok (.return_, 1) := by decide +kernel
theorem dX1_takeFrom_0 : decode cX1_takeFrom 0 = .ok (.aload_n 0, 1) := by decide +kernel
theorem dX1_takeFrom_1 : decode cX1_takeFrom 1 = .ok (.getfield 12, 3) := by decide +kernel
theorem dX1_takeFrom_4 : decode cX1_takeFrom 4 = .ok (.aload_n 1, 1) := by decide +kernel
theorem dX1_takeFrom_5 : decode cX1_takeFrom 5 = .ok (.getfield 12, 3) := by decide +kernel
theorem dX1_takeFrom_8 : decode cX1_takeFrom 8 = .ok (.invokevirtual 111, 3) := by decide +kernel
theorem dX1_takeFrom_11 : decode cX1_takeFrom 11 = .ok (.aload_n 0, 1) := by decide +kernel
theorem dX1_takeFrom_12 : decode cX1_takeFrom 12 = .ok (.getfield 21, 3) := by decide +kernel
theorem dX1_takeFrom_15 : decode cX1_takeFrom 15 = .ok (.aload_n 1, 1) := by decide +kernel
theorem dX1_takeFrom_16 : decode cX1_takeFrom 16 = .ok (.getfield 21, 3) := by decide +kernel
theorem dX1_takeFrom_19 : decode cX1_takeFrom 19 = .ok (.invokevirtual 115, 3) := by decide +kernel
theorem dX1_takeFrom_22 : decode cX1_takeFrom 22 = .ok (.aload_n 0, 1) := by decide +kernel
theorem dX1_takeFrom_23 : decode cX1_takeFrom 23 = .ok (.getfield 28, 3) := by decide +kernel
theorem dX1_takeFrom_26 : decode cX1_takeFrom 26 = .ok (.aload_n 1, 1) := by decide +kernel
theorem dX1_takeFrom_27 : decode cX1_takeFrom 27 = .ok (.getfield 28, 3) := by decide +kernel
theorem dX1_takeFrom_30 : decode cX1_takeFrom 30 = .ok (.invokevirtual 118, 3) := by decide +kernel
theorem dX1_takeFrom_33 : decode cX1_takeFrom 33 = .ok (.aload_n 0, 1) := by decide +kernel
theorem dX1_takeFrom_34 : decode cX1_takeFrom 34 = .ok (.aload_n 1, 1) := by decide +kernel
theorem dX1_takeFrom_35 : decode cX1_takeFrom 35 = .ok (.getfield 32, 3) := by decide +kernel
theorem dX1_takeFrom_38 : decode cX1_takeFrom 38 = .ok (.putfield 32, 3) := by decide +kernel
theorem dX1_takeFrom_41 : decode cX1_takeFrom 41 = .ok (.aload_n 1, 1) := by decide +kernel
theorem dX1_takeFrom_42 : decode cX1_takeFrom 42 = .ok (.getfield 36, 3) := by decide +kernel
theorem dX1_takeFrom_45 : decode cX1_takeFrom 45 = .ok (.aload_n 0, 1) := by decide +kernel
theorem dX1_takeFrom_46 : decode cX1_takeFrom 46 = .ok (.getfield 36, 3) := by decide +kernel
theorem dX1_takeFrom_49 : decode cX1_takeFrom 49 = .ok (.invokestatic 69, 3) := by decide +kernel
theorem dX1_takeFrom_52 : decode cX1_takeFrom 52 = .ok (.aload_n 0, 1) := by decide +kernel
theorem dX1_takeFrom_53 : decode cX1_takeFrom 53 = .ok (.aload_n 1, 1) := by decide +kernel
theorem dX1_takeFrom_54 : decode cX1_takeFrom 54 = .ok (.getfield 40, 3) := by decide +kernel
theorem dX1_takeFrom_57 : decode cX1_takeFrom 57 = .ok (.putfield 40, 3) := by decide +kernel
theorem dX1_takeFrom_60 : decode cX1_takeFrom 60 = .ok (.return_, 1) := by decide +kernel
theorem dX1_fileNamed_0 : decode cX1_fileNamed 0 = .ok (.aload_n 0, 1) := by decide +kernel
theorem dX1_fileNamed_1 : decode cX1_fileNamed 1 = .ok (.getfield 36, 3) := by decide +kernel
theorem dX1_fileNamed_4 : decode cX1_fileNamed 4 = .ok (.aload_n 0, 1) := by decide +kernel
theorem dX1_fileNamed_5 : decode cX1_fileNamed 5 = .ok (.getfield 32, 3) := by decide +kernel
theorem dX1_fileNamed_8 : decode cX1_fileNamed 8 = .ok (.lload_n 1, 1) := by decide +kernel
theorem dX1_fileNamed_9 : decode cX1_fileNamed 9 = .ok (.invokestatic 121, 3) := by decide +kernel
theorem dX1_fileNamed_12 : decode cX1_fileNamed 12 = .ok (.ireturn, 1) := by decide +kernel
theorem dX1_canReadVersion_0 : decode cX1_canReadVersion 0 = .ok (.aload_n 0, 1) := by decide +kernel
theorem dX1_canReadVersion_1 : decode cX1_canReadVersion 1 = .ok (.getfield 12, 3) := by decide +kernel
theorem dX1_canReadVersion_4 : decode cX1_canReadVersion 4 = .ok (.aload_n 0, 1) := by decide +kernel
theorem dX1_canReadVersion_5 : decode cX1_canReadVersion 5 = .ok (.getfield 21, 3) := by decide +kernel
theorem dX1_canReadVersion_8 : decode cX1_canReadVersion 8 = .ok (.iload_n 1, 1) := by decide +kernel
theorem dX1_canReadVersion_9 : decode cX1_canReadVersion 9 = .ok (.invokevirtual 125, 3) := by decide +kernel
theorem dX1_canReadVersion_12 : decode cX1_canReadVersion 12 = .ok (.aload_n 0, 1) := by decide +kernel
theorem dX1_canReadVersion_13 : decode cX1_canReadVersion 13 = .ok (.getfield 21, 3) := by decide +kernel
theorem dX1_canReadVersion_16 : decode cX1_canReadVersion 16 = .ok (.iload_n 1, 1) := by decide +kernel
theorem dX1_canReadVersion_17 : decode cX1_canReadVersion 17 = .ok (.invokevirtual 128, 3) := by decide +kernel
theorem dX1_canReadVersion_20 : decode cX1_canReadVersion 20 = .ok (.invokevirtual 129, 3) := by decide +kernel
theorem dX1_canReadVersion_23 : decode cX1_canReadVersion 23 = .ok (.ireturn, 1) := by decide +kernel
theorem dX1_relocatedBlock_0 : decode cX1_relocatedBlock 0 = .ok (.iconst 0, 1) := by decide +kernel
theorem dX1_relocatedBlock_1 : decode cX1_relocatedBlock 1 = .ok (.istore_n 2, 1) := by decide +kernel
theorem dX1_relocatedBlock_2 : decode cX1_relocatedBlock 2 = .ok (.iconst 0, 1) := by decide +kernel
theorem dX1_relocatedBlock_3 : decode cX1_relocatedBlock 3 = .ok (.istore_n 3, 1) := by decide +kernel
theorem dX1_relocatedBlock_4 : decode cX1_relocatedBlock 4 = .ok (.iload_n 1, 1) := by decide +kernel
theorem dX1_relocatedBlock_5 : decode cX1_relocatedBlock 5 = .ok (.ifCond .lt 61, 3) := by decide +kernel
theorem dX1_relocatedBlock_8 : decode cX1_relocatedBlock 8 = .ok (.iload_n 3, 1) := by decide +kernel
theorem dX1_relocatedBlock_9 : decode cX1_relocatedBlock 9 = .ok (.aload_n 0, 1) := by decide +kernel
theorem dX1_relocatedBlock_10 : decode cX1_relocatedBlock 10 = .ok (.getfield 12, 3) := by decide +kernel
theorem dX1_relocatedBlock_13 : decode cX1_relocatedBlock 13 = .ok (.getfield 133, 3) := by decide +kernel
theorem dX1_relocatedBlock_16 : decode cX1_relocatedBlock 16 = .ok (.if_icmp .ge 50, 3) := by decide +kernel
theorem dX1_relocatedBlock_19 : decode cX1_relocatedBlock 19 = .ok (.aload_n 0, 1) := by decide +kernel
theorem dX1_relocatedBlock_20 : decode cX1_relocatedBlock 20 = .ok (.getfield 12, 3) := by decide +kernel
theorem dX1_relocatedBlock_23 : decode cX1_relocatedBlock 23 = .ok (.iload_n 3, 1) := by decide +kernel
theorem dX1_relocatedBlock_24 : decode cX1_relocatedBlock 24 = .ok (.invokevirtual 136, 3) := by decide +kernel
theorem dX1_relocatedBlock_27 : decode cX1_relocatedBlock 27 = .ok (.iconst 3, 1) := by decide +kernel
theorem dX1_relocatedBlock_28 : decode cX1_relocatedBlock 28 = .ok (.if_icmp .ne 32, 3) := by decide +kernel
theorem dX1_relocatedBlock_31 : decode cX1_relocatedBlock 31 = .ok (.aload_n 0, 1) := by decide +kernel
theorem dX1_relocatedBlock_32 : decode cX1_relocatedBlock 32 = .ok (.getfield 28, 3) := by decide +kernel
theorem dX1_relocatedBlock_35 : decode cX1_relocatedBlock 35 = .ok (.aload_n 0, 1) := by decide +kernel
theorem dX1_relocatedBlock_36 : decode cX1_relocatedBlock 36 = .ok (.getfield 12, 3) := by decide +kernel
theorem dX1_relocatedBlock_39 : decode cX1_relocatedBlock 39 = .ok (.iload_n 3, 1) := by decide +kernel
theorem dX1_relocatedBlock_40 : decode cX1_relocatedBlock 40 = .ok (.invokevirtual 137, 3) := by decide +kernel
theorem dX1_relocatedBlock_43 : decode cX1_relocatedBlock 43 = .ok (.invokevirtual 140, 3) := by decide +kernel
theorem dX1_relocatedBlock_46 : decode cX1_relocatedBlock 46 = .ok (.iconst 2, 1) := by decide +kernel
theorem dX1_relocatedBlock_47 : decode cX1_relocatedBlock 47 = .ok (.if_icmp .eq 13, 3) := by decide +kernel
theorem dX1_relocatedBlock_50 : decode cX1_relocatedBlock 50 = .ok (.iload_n 2, 1) := by decide +kernel
theorem dX1_relocatedBlock_51 : decode cX1_relocatedBlock 51 = .ok (.iload_n 1, 1) := by decide +kernel
theorem dX1_relocatedBlock_52 : decode cX1_relocatedBlock 52 = .ok (.if_icmp .ne 5, 3) := by decide +kernel
theorem dX1_relocatedBlock_55 : decode cX1_relocatedBlock 55 = .ok (.iload_n 3, 1) := by decide +kernel
theorem dX1_relocatedBlock_56 : decode cX1_relocatedBlock 56 = .ok (.ireturn, 1) := by decide +kernel
theorem dX1_relocatedBlock_57 : decode cX1_relocatedBlock 57 = .ok (.iinc 2 1, 3) := by decide +kernel
theorem dX1_relocatedBlock_60 : decode cX1_relocatedBlock 60 = .ok (.iinc 3 1, 3) := by decide +kernel
theorem dX1_relocatedBlock_63 : decode cX1_relocatedBlock 63 = .ok (.goto (-59), 3) := by decide +kernel
theorem dX1_relocatedBlock_66 : decode cX1_relocatedBlock 66 = .ok (.iconst (-1), 1) := by decide +kernel
theorem dX1_relocatedBlock_67 : decode cX1_relocatedBlock 67 = .ok (.ireturn, 1) := by decide +kernel
theorem dX1_filesLostBy_0 : decode cX1_filesLostBy 0 = .ok (.aload_n 0, 1) := by decide +kernel
theorem dX1_filesLostBy_1 : decode cX1_filesLostBy 1 = .ok (.getfield 12, 3) := by decide +kernel
theorem dX1_filesLostBy_4 : decode cX1_filesLostBy 4 = .ok (.iload_n 1, 1) := by decide +kernel
theorem dX1_filesLostBy_5 : decode cX1_filesLostBy 5 = .ok (.invokevirtual 136, 3) := by decide +kernel
theorem dX1_filesLostBy_8 : decode cX1_filesLostBy 8 = .ok (.ifCond .eq 14, 3) := by decide +kernel
theorem dX1_filesLostBy_11 : decode cX1_filesLostBy 11 = .ok (.aload_n 0, 1) := by decide +kernel
theorem dX1_filesLostBy_12 : decode cX1_filesLostBy 12 = .ok (.getfield 12, 3) := by decide +kernel
theorem dX1_filesLostBy_15 : decode cX1_filesLostBy 15 = .ok (.iload_n 1, 1) := by decide +kernel
theorem dX1_filesLostBy_16 : decode cX1_filesLostBy 16 = .ok (.invokevirtual 143, 3) := by decide +kernel
theorem dX1_filesLostBy_19 : decode cX1_filesLostBy 19 = .ok (.ifCond .eq 5, 3) := by decide +kernel
theorem dX1_filesLostBy_22 : decode cX1_filesLostBy 22 = .ok (.iconst 0, 1) := by decide +kernel
theorem dX1_filesLostBy_23 : decode cX1_filesLostBy 23 = .ok (.ireturn, 1) := by decide +kernel
theorem dX1_filesLostBy_24 : decode cX1_filesLostBy 24 = .ok (.aload_n 0, 1) := by decide +kernel
theorem dX1_filesLostBy_25 : decode cX1_filesLostBy 25 = .ok (.getfield 12, 3) := by decide +kernel
theorem dX1_filesLostBy_28 : decode cX1_filesLostBy 28 = .ok (.getfield 147, 3) := by decide +kernel
theorem dX1_filesLostBy_31 : decode cX1_filesLostBy 31 = .ok (.iload_n 1, 1) := by decide +kernel
theorem dX1_filesLostBy_32 : decode cX1_filesLostBy 32 = .ok (.iconst 1, 1) := by decide +kernel
theorem dX1_filesLostBy_33 : decode cX1_filesLostBy 33 = .ok (.invokestatic 151, 3) := by decide +kernel
theorem dX1_filesLostBy_36 : decode cX1_filesLostBy 36 = .ok (.aload_n 3, 1) := by decide +kernel
theorem dX1_filesLostBy_37 : decode cX1_filesLostBy 37 = .ok (.aload_n 0, 1) := by decide +kernel
theorem dX1_filesLostBy_38 : decode cX1_filesLostBy 38 = .ok (.invokevirtual 155, 3) := by decide +kernel
theorem dX1_filesLostBy_41 : decode cX1_filesLostBy 41 = .ok (.pop, 1) := by decide +kernel
theorem dX1_filesLostBy_42 : decode cX1_filesLostBy 42 = .ok (.aload_n 0, 1) := by decide +kernel
theorem dX1_filesLostBy_43 : decode cX1_filesLostBy 43 = .ok (.getfield 12, 3) := by decide +kernel
theorem dX1_filesLostBy_46 : decode cX1_filesLostBy 46 = .ok (.getfield 147, 3) := by decide +kernel
theorem dX1_filesLostBy_49 : decode cX1_filesLostBy 49 = .ok (.iload_n 1, 1) := by decide +kernel
theorem dX1_filesLostBy_50 : decode cX1_filesLostBy 50 = .ok (.iconst 0, 1) := by decide +kernel
theorem dX1_filesLostBy_51 : decode cX1_filesLostBy 51 = .ok (.invokestatic 151, 3) := by decide +kernel
theorem dX1_filesLostBy_54 : decode cX1_filesLostBy 54 = .ok (.iconst 0, 1) := by decide +kernel
theorem dX1_filesLostBy_55 : decode cX1_filesLostBy 55 = .ok (.istore 4, 2) := by decide +kernel
theorem dX1_filesLostBy_57 : decode cX1_filesLostBy 57 = .ok (.iconst 0, 1) := by decide +kernel
theorem dX1_filesLostBy_58 : decode cX1_filesLostBy 58 = .ok (.istore 5, 2) := by decide +kernel
theorem dX1_filesLostBy_60 : decode cX1_filesLostBy 60 = .ok (.iload 5, 2) := by decide +kernel
theorem dX1_filesLostBy_62 : decode cX1_filesLostBy 62 = .ok (.aload_n 0, 1) := by decide +kernel
theorem dX1_filesLostBy_63 : decode cX1_filesLostBy 63 = .ok (.getfield 32, 3) := by decide +kernel
theorem dX1_filesLostBy_66 : decode cX1_filesLostBy 66 = .ok (.if_icmp .ge 40, 3) := by decide +kernel
theorem dX1_filesLostBy_69 : decode cX1_filesLostBy 69 = .ok (.iload 4, 2) := by decide +kernel
theorem dX1_filesLostBy_71 : decode cX1_filesLostBy 71 = .ok (.aload_n 2, 1) := by decide +kernel
theorem dX1_filesLostBy_72 : decode cX1_filesLostBy 72 = .ok (.iload 5, 2) := by decide +kernel
theorem dX1_filesLostBy_74 : decode cX1_filesLostBy 74 = .ok (.invokevirtual 159, 3) := by decide +kernel
theorem dX1_filesLostBy_77 : decode cX1_filesLostBy 77 = .ok (.ifCond .eq 16, 3) := by decide +kernel
theorem dX1_filesLostBy_80 : decode cX1_filesLostBy 80 = .ok (.aload_n 3, 1) := by decide +kernel
theorem dX1_filesLostBy_81 : decode cX1_filesLostBy 81 = .ok (.iload 5, 2) := by decide +kernel
theorem dX1_filesLostBy_83 : decode cX1_filesLostBy 83 = .ok (.invokevirtual 159, 3) := by decide +kernel
theorem dX1_filesLostBy_86 : decode cX1_filesLostBy 86 = .ok (.ifCond .ne 7, 3) := by decide +kernel
theorem dX1_filesLostBy_89 : decode cX1_filesLostBy 89 = .ok (.iconst 1, 1) := by decide +kernel
theorem dX1_filesLostBy_90 : decode cX1_filesLostBy 90 = .ok (.goto 4, 3) := by decide +kernel
theorem dX1_filesLostBy_93 : decode cX1_filesLostBy 93 = .ok (.iconst 0, 1) := by decide +kernel
theorem dX1_filesLostBy_94 : decode cX1_filesLostBy 94 = .ok (.invokestatic 162, 3) := by decide +kernel
theorem dX1_filesLostBy_97 : decode cX1_filesLostBy 97 = .ok (.iadd, 1) := by decide +kernel
theorem dX1_filesLostBy_98 : decode cX1_filesLostBy 98 = .ok (.istore 4, 2) := by decide +kernel
theorem dX1_filesLostBy_100 : decode cX1_filesLostBy 100 = .ok (.iinc 5 1, 3) := by decide +kernel
theorem dX1_filesLostBy_103 : decode cX1_filesLostBy 103 = .ok (.goto (-43), 3) := by decide +kernel
theorem dX1_filesLostBy_106 : decode cX1_filesLostBy 106 = .ok (.iload 4, 2) := by decide +kernel
theorem dX1_filesLostBy_108 : decode cX1_filesLostBy 108 = .ok (.ireturn, 1) := by decide +kernel
theorem dX1_blocksUsed_0 : decode cX1_blocksUsed 0 = .ok (.aload_n 0, 1) := by decide +kernel
theorem dX1_blocksUsed_1 : decode cX1_blocksUsed 1 = .ok (.getfield 47, 3) := by decide +kernel
theorem dX1_blocksUsed_4 : decode cX1_blocksUsed 4 = .ok (.aload_n 0, 1) := by decide +kernel
theorem dX1_blocksUsed_5 : decode cX1_blocksUsed 5 = .ok (.invokevirtual 155, 3) := by decide +kernel
theorem dX1_blocksUsed_8 : decode cX1_blocksUsed 8 = .ok (.astore_n 3, 1) := by decide +kernel
theorem dX1_blocksUsed_9 : decode cX1_blocksUsed 9 = .ok (.iconst 0, 1) := by decide +kernel
theorem dX1_blocksUsed_10 : decode cX1_blocksUsed 10 = .ok (.istore 4, 2) := by decide +kernel
theorem dX1_blocksUsed_12 : decode cX1_blocksUsed 12 = .ok (.iconst 0, 1) := by decide +kernel
theorem dX1_blocksUsed_13 : decode cX1_blocksUsed 13 = .ok (.istore 5, 2) := by decide +kernel
theorem dX1_blocksUsed_15 : decode cX1_blocksUsed 15 = .ok (.iload 5, 2) := by decide +kernel
theorem dX1_blocksUsed_17 : decode cX1_blocksUsed 17 = .ok (.aload_n 0, 1) := by decide +kernel
theorem dX1_blocksUsed_18 : decode cX1_blocksUsed 18 = .ok (.getfield 12, 3) := by decide +kernel
theorem dX1_blocksUsed_21 : decode cX1_blocksUsed 21 = .ok (.getfield 166, 3) := by decide +kernel
theorem dX1_blocksUsed_24 : decode cX1_blocksUsed 24 = .ok (.if_icmp .ge 63, 3) := by decide +kernel
theorem dX1_blocksUsed_27 : decode cX1_blocksUsed 27 = .ok (.iload_n 1, 1) := by decide +kernel
theorem dX1_blocksUsed_28 : decode cX1_blocksUsed 28 = .ok (.iconst (-1), 1) := by decide +kernel
theorem dX1_blocksUsed_29 : decode cX1_blocksUsed 29 = .ok (.if_icmp .eq 16, 3) := by decide +kernel
theorem dX1_blocksUsed_32 : decode cX1_blocksUsed 32 = .ok (.aload_n 0, 1) := by decide +kernel
theorem dX1_blocksUsed_33 : decode cX1_blocksUsed 33 = .ok (.getfield 12, 3) := by decide +kernel
theorem dX1_blocksUsed_36 : decode cX1_blocksUsed 36 = .ok (.iload 5, 2) := by decide +kernel
theorem dX1_blocksUsed_38 : decode cX1_blocksUsed 38 = .ok (.invokevirtual 137, 3) := by decide +kernel
theorem dX1_blocksUsed_41 : decode cX1_blocksUsed 41 = .ok (.iload_n 1, 1) := by decide +kernel
theorem dX1_blocksUsed_42 : decode cX1_blocksUsed 42 = .ok (.if_icmp .ne 7, 3) := by decide +kernel
theorem dX1_blocksUsed_45 : decode cX1_blocksUsed 45 = .ok (.iconst 1, 1) := by decide +kernel
theorem dX1_blocksUsed_46 : decode cX1_blocksUsed 46 = .ok (.goto 4, 3) := by decide +kernel
theorem dX1_blocksUsed_49 : decode cX1_blocksUsed 49 = .ok (.iconst 0, 1) := by decide +kernel
theorem dX1_blocksUsed_50 : decode cX1_blocksUsed 50 = .ok (.istore 6, 2) := by decide +kernel
theorem dX1_blocksUsed_52 : decode cX1_blocksUsed 52 = .ok (.iload 4, 2) := by decide +kernel
theorem dX1_blocksUsed_54 : decode cX1_blocksUsed 54 = .ok (.iload 6, 2) := by decide +kernel
theorem dX1_blocksUsed_56 : decode cX1_blocksUsed 56 = .ok (.ifCond .eq 18, 3) := by decide +kernel
theorem dX1_blocksUsed_59 : decode cX1_blocksUsed 59 = .ok (.aload_n 0, 1) := by decide +kernel
theorem dX1_blocksUsed_60 : decode cX1_blocksUsed 60 = .ok (.iload 5, 2) := by decide +kernel
theorem dX1_blocksUsed_62 : decode cX1_blocksUsed 62 = .ok (.aload_n 3, 1) := by decide +kernel
theorem dX1_blocksUsed_63 : decode cX1_blocksUsed 63 = .ok (.invokevirtual 167, 3) := by decide +kernel
theorem dX1_blocksUsed_66 : decode cX1_blocksUsed 66 = .ok (.iload_n 2, 1) := by decide +kernel
theorem dX1_blocksUsed_67 : decode cX1_blocksUsed 67 = .ok (.if_icmp .ne 7, 3) := by decide +kernel
theorem dX1_blocksUsed_70 : decode cX1_blocksUsed 70 = .ok (.iconst 1, 1) := by decide +kernel
theorem dX1_blocksUsed_71 : decode cX1_blocksUsed 71 = .ok (.goto 4, 3) := by decide +kernel
theorem dX1_blocksUsed_74 : decode cX1_blocksUsed 74 = .ok (.iconst 0, 1) := by decide +kernel
theorem dX1_blocksUsed_75 : decode cX1_blocksUsed 75 = .ok (.invokestatic 162, 3) := by decide +kernel
theorem dX1_blocksUsed_78 : decode cX1_blocksUsed 78 = .ok (.iadd, 1) := by decide +kernel
theorem dX1_blocksUsed_79 : decode cX1_blocksUsed 79 = .ok (.istore 4, 2) := by decide +kernel
theorem dX1_blocksUsed_81 : decode cX1_blocksUsed 81 = .ok (.iinc 5 1, 3) := by decide +kernel
theorem dX1_blocksUsed_84 : decode cX1_blocksUsed 84 = .ok (.goto (-69), 3) := by decide +kernel
theorem dX1_blocksUsed_87 : decode cX1_blocksUsed 87 = .ok (.iload 4, 2) := by decide +kernel
theorem dX1_blocksUsed_89 : decode cX1_blocksUsed 89 = .ok (.ireturn, 1) := by decide +kernel
theorem dX1_useOf_0 : decode cX1_useOf 0 = .ok (.aload_n 0, 1) := by decide +kernel
theorem dX1_useOf_1 : decode cX1_useOf 1 = .ok (.getfield 12, 3) := by decide +kernel
theorem dX1_useOf_4 : decode cX1_useOf 4 = .ok (.iload_n 1, 1) := by decide +kernel
theorem dX1_useOf_5 : decode cX1_useOf 5 = .ok (.invokevirtual 136, 3) := by decide +kernel
theorem dX1_useOf_8 : decode cX1_useOf 8 = .ok (.tableswitch 38 0 3 #[32, 38, 34, 36], 32) := by decide +kernel
theorem dX1_useOf_40 : decode cX1_useOf 40 = .ok (.iconst 0, 1) := by decide +kernel
theorem dX1_useOf_41 : decode cX1_useOf 41 = .ok (.ireturn, 1) := by decide +kernel
theorem dX1_useOf_42 : decode cX1_useOf 42 = .ok (.iconst 3, 1) := by decide +kernel
theorem dX1_useOf_43 : decode cX1_useOf 43 = .ok (.ireturn, 1) := by decide +kernel
theorem dX1_useOf_44 : decode cX1_useOf 44 = .ok (.iconst 4, 1) := by decide +kernel
theorem dX1_useOf_45 : decode cX1_useOf 45 = .ok (.ireturn, 1) := by decide +kernel
theorem dX1_useOf_46 : decode cX1_useOf 46 = .ok (.aload_n 0, 1) := by decide +kernel
theorem dX1_useOf_47 : decode cX1_useOf 47 = .ok (.getfield 12, 3) := by decide +kernel
theorem dX1_useOf_50 : decode cX1_useOf 50 = .ok (.iload_n 1, 1) := by decide +kernel
theorem dX1_useOf_51 : decode cX1_useOf 51 = .ok (.invokevirtual 171, 3) := by decide +kernel
theorem dX1_useOf_54 : decode cX1_useOf 54 = .ok (.istore_n 3, 1) := by decide +kernel
theorem dX1_useOf_55 : decode cX1_useOf 55 = .ok (.aload_n 2, 1) := by decide +kernel
theorem dX1_useOf_56 : decode cX1_useOf 56 = .ok (.aload_n 0, 1) := by decide +kernel
theorem dX1_useOf_57 : decode cX1_useOf 57 = .ok (.getfield 21, 3) := by decide +kernel
theorem dX1_useOf_60 : decode cX1_useOf 60 = .ok (.iload_n 3, 1) := by decide +kernel
theorem dX1_useOf_61 : decode cX1_useOf 61 = .ok (.invokevirtual 174, 3) := by decide +kernel
theorem dX1_useOf_64 : decode cX1_useOf 64 = .ok (.invokevirtual 177, 3) := by decide +kernel
theorem dX1_useOf_67 : decode cX1_useOf 67 = .ok (.iload_n 3, 1) := by decide +kernel
theorem dX1_useOf_68 : decode cX1_useOf 68 = .ok (.if_icmp .ne 7, 3) := by decide +kernel
theorem dX1_useOf_71 : decode cX1_useOf 71 = .ok (.iconst 1, 1) := by decide +kernel
theorem dX1_useOf_72 : decode cX1_useOf 72 = .ok (.goto 4, 3) := by decide +kernel
theorem dX1_useOf_75 : decode cX1_useOf 75 = .ok (.iconst 2, 1) := by decide +kernel
theorem dX1_useOf_76 : decode cX1_useOf 76 = .ok (.ireturn, 1) := by decide +kernel
theorem dX1_reasonAgainstWrite_0 : decode cX1_reasonAgainstWrite 0 = .ok (.aload_n 0, 1) := by decide +kernel
theorem dX1_reasonAgainstWrite_1 : decode cX1_reasonAgainstWrite 1 = .ok (.getfield 28, 3) := by decide +kernel
theorem dX1_reasonAgainstWrite_4 : decode cX1_reasonAgainstWrite 4 = .ok (.invokevirtual 180, 3) := by decide +kernel
theorem dX1_reasonAgainstWrite_7 : decode cX1_reasonAgainstWrite 7 = .ok (.ifCond .eq 5, 3) := by decide +kernel
theorem dX1_reasonAgainstWrite_10 : decode cX1_reasonAgainstWrite 10 = .ok (.iconst 3, 1) := by decide +kernel
theorem dX1_reasonAgainstWrite_11 : decode cX1_reasonAgainstWrite 11 = .ok (.ireturn, 1) := by decide +kernel
theorem dX1_reasonAgainstWrite_12 : decode cX1_reasonAgainstWrite 12 = .ok (.aload_n 0, 1) := by decide +kernel
theorem dX1_reasonAgainstWrite_13 : decode cX1_reasonAgainstWrite 13 = .ok (.getfield 12, 3) := by decide +kernel
theorem dX1_reasonAgainstWrite_16 : decode cX1_reasonAgainstWrite 16 = .ok (.iload_n 2, 1) := by decide +kernel
theorem dX1_reasonAgainstWrite_17 : decode cX1_reasonAgainstWrite 17 = .ok (.aload_n 0, 1) := by decide +kernel
theorem dX1_reasonAgainstWrite_18 : decode cX1_reasonAgainstWrite 18 = .ok (.getfield 28, 3) := by decide +kernel
theorem dX1_reasonAgainstWrite_21 : decode cX1_reasonAgainstWrite 21 = .ok (.iload_n 1, 1) := by decide +kernel
theorem dX1_reasonAgainstWrite_22 : decode cX1_reasonAgainstWrite 22 = .ok (.invokevirtual 184, 3) := by decide +kernel
theorem dX1_reasonAgainstWrite_25 : decode cX1_reasonAgainstWrite 25 = .ok (.invokestatic 187, 3) := by decide +kernel
theorem dX1_reasonAgainstWrite_28 : decode cX1_reasonAgainstWrite 28 = .ok (.iadd, 1) := by decide +kernel
theorem dX1_reasonAgainstWrite_29 : decode cX1_reasonAgainstWrite 29 = .ok (.invokevirtual 190, 3) := by decide +kernel
theorem dX1_reasonAgainstWrite_32 : decode cX1_reasonAgainstWrite 32 = .ok (.ifCond .ne 5, 3) := by decide +kernel
theorem dX1_reasonAgainstWrite_35 : decode cX1_reasonAgainstWrite 35 = .ok (.iconst 4, 1) := by decide +kernel
theorem dX1_reasonAgainstWrite_36 : decode cX1_reasonAgainstWrite 36 = .ok (.ireturn, 1) := by decide +kernel
theorem dX1_reasonAgainstWrite_37 : decode cX1_reasonAgainstWrite 37 = .ok (.aload_n 0, 1) := by decide +kernel
theorem dX1_reasonAgainstWrite_38 : decode cX1_reasonAgainstWrite 38 = .ok (.getfield 12, 3) := by decide +kernel
theorem dX1_reasonAgainstWrite_41 : decode cX1_reasonAgainstWrite 41 = .ok (.iload_n 2, 1) := by decide +kernel
theorem dX1_reasonAgainstWrite_42 : decode cX1_reasonAgainstWrite 42 = .ok (.invokevirtual 193, 3) := by decide +kernel
theorem dX1_reasonAgainstWrite_45 : decode cX1_reasonAgainstWrite 45 = .ok (.ifCond .eq 7, 3) := by decide +kernel
theorem dX1_reasonAgainstWrite_48 : decode cX1_reasonAgainstWrite 48 = .ok (.iconst 0, 1) := by decide +kernel
theorem dX1_reasonAgainstWrite_49 : decode cX1_reasonAgainstWrite 49 = .ok (.goto 4, 3) := by decide +kernel
theorem dX1_reasonAgainstWrite_52 : decode cX1_reasonAgainstWrite 52 = .ok (.iconst 5, 1) := by decide +kernel
theorem dX1_reasonAgainstWrite_53 : decode cX1_reasonAgainstWrite 53 = .ok (.ireturn, 1) := by decide +kernel
theorem dX1_reasonAgainstErase_0 : decode cX1_reasonAgainstErase 0 = .ok (.aload_n 0, 1) := by decide +kernel
theorem dX1_reasonAgainstErase_1 : decode cX1_reasonAgainstErase 1 = .ok (.getfield 47, 3) := by decide +kernel
theorem dX1_reasonAgainstErase_4 : decode cX1_reasonAgainstErase 4 = .ok (.aload_n 0, 1) := by decide +kernel
theorem dX1_reasonAgainstErase_5 : decode cX1_reasonAgainstErase 5 = .ok (.invokevirtual 155, 3) := by decide +kernel
theorem dX1_reasonAgainstErase_8 : decode cX1_reasonAgainstErase 8 = .ok (.iload_n 1, 1) := by decide +kernel
theorem dX1_reasonAgainstErase_9 : decode cX1_reasonAgainstErase 9 = .ok (.invokevirtual 177, 3) := by decide +kernel
theorem dX1_reasonAgainstErase_12 : decode cX1_reasonAgainstErase 12 = .ok (.iconst (-1), 1) := by decide +kernel
theorem dX1_reasonAgainstErase_13 : decode cX1_reasonAgainstErase 13 = .ok (.if_icmp .ne 5, 3) := by decide +kernel
theorem dX1_reasonAgainstErase_16 : decode cX1_reasonAgainstErase 16 = .ok (.iconst 2, 1) := by decide +kernel
theorem dX1_reasonAgainstErase_17 : decode cX1_reasonAgainstErase 17 = .ok (.ireturn, 1) := by decide +kernel
theorem dX1_reasonAgainstErase_18 : decode cX1_reasonAgainstErase 18 = .ok (.aload_n 0, 1) := by decide +kernel
theorem dX1_reasonAgainstErase_19 : decode cX1_reasonAgainstErase 19 = .ok (.getfield 28, 3) := by decide +kernel
theorem dX1_reasonAgainstErase_22 : decode cX1_reasonAgainstErase 22 = .ok (.invokevirtual 180, 3) := by decide +kernel
theorem dX1_reasonAgainstErase_25 : decode cX1_reasonAgainstErase 25 = .ok (.ifCond .eq 5, 3) := by decide +kernel
theorem dX1_reasonAgainstErase_28 : decode cX1_reasonAgainstErase 28 = .ok (.iconst 3, 1) := by decide +kernel
theorem dX1_reasonAgainstErase_29 : decode cX1_reasonAgainstErase 29 = .ok (.ireturn, 1) := by decide +kernel
theorem dX1_reasonAgainstErase_30 : decode cX1_reasonAgainstErase 30 = .ok (.aload_n 0, 1) := by decide +kernel
theorem dX1_reasonAgainstErase_31 : decode cX1_reasonAgainstErase 31 = .ok (.getfield 12, 3) := by decide +kernel
theorem dX1_reasonAgainstErase_34 : decode cX1_reasonAgainstErase 34 = .ok (.aload_n 0, 1) := by decide +kernel
theorem dX1_reasonAgainstErase_35 : decode cX1_reasonAgainstErase 35 = .ok (.getfield 28, 3) := by decide +kernel
theorem dX1_reasonAgainstErase_38 : decode cX1_reasonAgainstErase 38 = .ok (.iload_n 1, 1) := by decide +kernel
theorem dX1_reasonAgainstErase_39 : decode cX1_reasonAgainstErase 39 = .ok (.invokevirtual 184, 3) := by decide +kernel
theorem dX1_reasonAgainstErase_42 : decode cX1_reasonAgainstErase 42 = .ok (.invokestatic 187, 3) := by decide +kernel
theorem dX1_reasonAgainstErase_45 : decode cX1_reasonAgainstErase 45 = .ok (.invokevirtual 190, 3) := by decide +kernel
theorem dX1_reasonAgainstErase_48 : decode cX1_reasonAgainstErase 48 = .ok (.ifCond .eq 7, 3) := by decide +kernel
theorem dX1_reasonAgainstErase_51 : decode cX1_reasonAgainstErase 51 = .ok (.iconst 0, 1) := by decide +kernel
theorem dX1_reasonAgainstErase_52 : decode cX1_reasonAgainstErase 52 = .ok (.goto 4, 3) := by decide +kernel
theorem dX1_reasonAgainstErase_55 : decode cX1_reasonAgainstErase 55 = .ok (.iconst 4, 1) := by decide +kernel
theorem dX1_reasonAgainstErase_56 : decode cX1_reasonAgainstErase 56 = .ok (.ireturn, 1) := by decide +kernel
theorem dX1_reasonAgainstClose_0 : decode cX1_reasonAgainstClose 0 = .ok (.aload_n 0, 1) := by decide +kernel
theorem dX1_reasonAgainstClose_1 : decode cX1_reasonAgainstClose 1 = .ok (.getfield 28, 3) := by decide +kernel
theorem dX1_reasonAgainstClose_4 : decode cX1_reasonAgainstClose 4 = .ok (.invokevirtual 196, 3) := by decide +kernel
theorem dX1_reasonAgainstClose_7 : decode cX1_reasonAgainstClose 7 = .ok (.ifCond .ne 5, 3) := by decide +kernel
theorem dX1_reasonAgainstClose_10 : decode cX1_reasonAgainstClose 10 = .ok (.iconst 1, 1) := by decide +kernel
theorem dX1_reasonAgainstClose_11 : decode cX1_reasonAgainstClose 11 = .ok (.ireturn, 1) := by decide +kernel
theorem dX1_reasonAgainstClose_12 : decode cX1_reasonAgainstClose 12 = .ok (.aload_n 0, 1) := by decide +kernel
theorem dX1_reasonAgainstClose_13 : decode cX1_reasonAgainstClose 13 = .ok (.aload_n 0, 1) := by decide +kernel
theorem dX1_reasonAgainstClose_14 : decode cX1_reasonAgainstClose 14 = .ok (.getfield 28, 3) := by decide +kernel
theorem dX1_reasonAgainstClose_17 : decode cX1_reasonAgainstClose 17 = .ok (.aload_n 0, 1) := by decide +kernel
theorem dX1_reasonAgainstClose_18 : decode cX1_reasonAgainstClose 18 = .ok (.getfield 28, 3) := by decide +kernel
theorem dX1_reasonAgainstClose_21 : decode cX1_reasonAgainstClose 21 = .ok (.invokevirtual 199, 3) := by decide +kernel
theorem dX1_reasonAgainstClose_24 : decode cX1_reasonAgainstClose 24 = .ok (.invokevirtual 202, 3) := by decide +kernel
theorem dX1_reasonAgainstClose_27 : decode cX1_reasonAgainstClose 27 = .ok (.invokevirtual 205, 3) := by decide +kernel
theorem dX1_reasonAgainstClose_30 : decode cX1_reasonAgainstClose 30 = .ok (.ireturn, 1) := by decide +kernel
theorem dX1_reasonAgainstCrash_0 : decode cX1_reasonAgainstCrash 0 = .ok (.aload_n 0, 1) := by decide +kernel
theorem dX1_reasonAgainstCrash_1 : decode cX1_reasonAgainstCrash 1 = .ok (.getfield 28, 3) := by decide +kernel
theorem dX1_reasonAgainstCrash_4 : decode cX1_reasonAgainstCrash 4 = .ok (.invokevirtual 196, 3) := by decide +kernel
theorem dX1_reasonAgainstCrash_7 : decode cX1_reasonAgainstCrash 7 = .ok (.ifCond .eq 7, 3) := by decide +kernel
theorem dX1_reasonAgainstCrash_10 : decode cX1_reasonAgainstCrash 10 = .ok (.iconst 0, 1) := by decide +kernel
theorem dX1_reasonAgainstCrash_11 : decode cX1_reasonAgainstCrash 11 = .ok (.goto 4, 3) := by decide +kernel
theorem dX1_reasonAgainstCrash_14 : decode cX1_reasonAgainstCrash 14 = .ok (.iconst 1, 1) := by decide +kernel
theorem dX1_reasonAgainstCrash_15 : decode cX1_reasonAgainstCrash 15 = .ok (.ireturn, 1) := by decide +kernel
theorem dX1_reasonAgainstRecover_0 : decode cX1_reasonAgainstRecover 0 = .ok (.aload_n 0, 1) := by decide +kernel
theorem dX1_reasonAgainstRecover_1 : decode cX1_reasonAgainstRecover 1 = .ok (.invokevirtual 208, 3) := by decide +kernel
theorem dX1_reasonAgainstRecover_4 : decode cX1_reasonAgainstRecover 4 = .ok (.istore_n 1, 1) := by decide +kernel
theorem dX1_reasonAgainstRecover_5 : decode cX1_reasonAgainstRecover 5 = .ok (.iload_n 1, 1) := by decide +kernel
theorem dX1_reasonAgainstRecover_6 : decode cX1_reasonAgainstRecover 6 = .ok (.ifCond .ne 5, 3) := by decide +kernel
theorem dX1_reasonAgainstRecover_9 : decode cX1_reasonAgainstRecover 9 = .ok (.iconst 2, 1) := by decide +kernel
theorem dX1_reasonAgainstRecover_10 : decode cX1_reasonAgainstRecover 10 = .ok (.ireturn, 1) := by decide +kernel
theorem dX1_reasonAgainstRecover_11 : decode cX1_reasonAgainstRecover 11 = .ok (.aload_n 0, 1) := by decide +kernel
theorem dX1_reasonAgainstRecover_12 : decode cX1_reasonAgainstRecover 12 = .ok (.getfield 28, 3) := by decide +kernel
theorem dX1_reasonAgainstRecover_15 : decode cX1_reasonAgainstRecover 15 = .ok (.invokevirtual 180, 3) := by decide +kernel
theorem dX1_reasonAgainstRecover_18 : decode cX1_reasonAgainstRecover 18 = .ok (.ifCond .eq 7, 3) := by decide +kernel
theorem dX1_reasonAgainstRecover_21 : decode cX1_reasonAgainstRecover 21 = .ok (.iconst 3, 1) := by decide +kernel
theorem dX1_reasonAgainstRecover_22 : decode cX1_reasonAgainstRecover 22 = .ok (.goto 8, 3) := by decide +kernel
theorem dX1_reasonAgainstRecover_25 : decode cX1_reasonAgainstRecover 25 = .ok (.aload_n 0, 1) := by decide +kernel
theorem dX1_reasonAgainstRecover_26 : decode cX1_reasonAgainstRecover 26 = .ok (.iload_n 1, 1) := by decide +kernel
theorem dX1_reasonAgainstRecover_27 : decode cX1_reasonAgainstRecover 27 = .ok (.invokevirtual 205, 3) := by decide +kernel
theorem dX1_reasonAgainstRecover_30 : decode cX1_reasonAgainstRecover 30 = .ok (.ireturn, 1) := by decide +kernel
theorem dX1_reasonAgainstDirectory_0 : decode cX1_reasonAgainstDirectory 0 = .ok (.iload_n 1, 1) := by decide +kernel
theorem dX1_reasonAgainstDirectory_1 : decode cX1_reasonAgainstDirectory 1 = .ok (.invokestatic 187, 3) := by decide +kernel
theorem dX1_reasonAgainstDirectory_4 : decode cX1_reasonAgainstDirectory 4 = .ok (.istore_n 2, 1) := by decide +kernel
theorem dX1_reasonAgainstDirectory_5 : decode cX1_reasonAgainstDirectory 5 = .ok (.aload_n 0, 1) := by decide +kernel
theorem dX1_reasonAgainstDirectory_6 : decode cX1_reasonAgainstDirectory 6 = .ok (.getfield 12, 3) := by decide +kernel
theorem dX1_reasonAgainstDirectory_9 : decode cX1_reasonAgainstDirectory 9 = .ok (.iload_n 2, 1) := by decide +kernel
theorem dX1_reasonAgainstDirectory_10 : decode cX1_reasonAgainstDirectory 10 = .ok (.invokevirtual 190, 3) := by decide +kernel
theorem dX1_reasonAgainstDirectory_13 : decode cX1_reasonAgainstDirectory 13 = .ok (.ifCond .ne 5, 3) := by decide +kernel
theorem dX1_reasonAgainstDirectory_16 : decode cX1_reasonAgainstDirectory 16 = .ok (.iconst 4, 1) := by decide +kernel
theorem dX1_reasonAgainstDirectory_17 : decode cX1_reasonAgainstDirectory 17 = .ok (.ireturn, 1) := by decide +kernel
theorem dX1_reasonAgainstDirectory_18 : decode cX1_reasonAgainstDirectory 18 = .ok (.aload_n 0, 1) := by decide +kernel
theorem dX1_reasonAgainstDirectory_19 : decode cX1_reasonAgainstDirectory 19 = .ok (.getfield 12, 3) := by decide +kernel
theorem dX1_reasonAgainstDirectory_22 : decode cX1_reasonAgainstDirectory 22 = .ok (.iload_n 2, 1) := by decide +kernel
theorem dX1_reasonAgainstDirectory_23 : decode cX1_reasonAgainstDirectory 23 = .ok (.invokevirtual 193, 3) := by decide +kernel
theorem dX1_reasonAgainstDirectory_26 : decode cX1_reasonAgainstDirectory 26 = .ok (.ifCond .eq 7, 3) := by decide +kernel
theorem dX1_reasonAgainstDirectory_29 : decode cX1_reasonAgainstDirectory 29 = .ok (.iconst 0, 1) := by decide +kernel
theorem dX1_reasonAgainstDirectory_30 : decode cX1_reasonAgainstDirectory 30 = .ok (.goto 4, 3) := by decide +kernel
theorem dX1_reasonAgainstDirectory_33 : decode cX1_reasonAgainstDirectory 33 = .ok (.iconst 5, 1) := by decide +kernel
theorem dX1_reasonAgainstDirectory_34 : decode cX1_reasonAgainstDirectory 34 = .ok (.ireturn, 1) := by decide +kernel
theorem dX1_writeVersion_0 : decode cX1_writeVersion 0 = .ok (.aload_n 0, 1) := by decide +kernel
theorem dX1_writeVersion_1 : decode cX1_writeVersion 1 = .ok (.invokevirtual 211, 3) := by decide +kernel
theorem dX1_writeVersion_4 : decode cX1_writeVersion 4 = .ok (.aload_n 0, 1) := by decide +kernel
theorem dX1_writeVersion_5 : decode cX1_writeVersion 5 = .ok (.getfield 28, 3) := by decide +kernel
theorem dX1_writeVersion_8 : decode cX1_writeVersion 8 = .ok (.invokevirtual 199, 3) := by decide +kernel
theorem dX1_writeVersion_11 : decode cX1_writeVersion 11 = .ok (.istore 4, 2) := by decide +kernel
theorem dX1_writeVersion_13 : decode cX1_writeVersion 13 = .ok (.aload_n 0, 1) := by decide +kernel
theorem dX1_writeVersion_14 : decode cX1_writeVersion 14 = .ok (.getfield 21, 3) := by decide +kernel
theorem dX1_writeVersion_17 : decode cX1_writeVersion 17 = .ok (.iload_n 1, 1) := by decide +kernel
theorem dX1_writeVersion_18 : decode cX1_writeVersion 18 = .ok (.aload_n 0, 1) := by decide +kernel
theorem dX1_writeVersion_19 : decode cX1_writeVersion 19 = .ok (.getfield 12, 3) := by decide +kernel
theorem dX1_writeVersion_22 : decode cX1_writeVersion 22 = .ok (.getfield 214, 3) := by decide +kernel
theorem dX1_writeVersion_25 : decode cX1_writeVersion 25 = .ok (.iload_n 2, 1) := by decide +kernel
theorem dX1_writeVersion_26 : decode cX1_writeVersion 26 = .ok (.iload_n 3, 1) := by decide +kernel
theorem dX1_writeVersion_27 : decode cX1_writeVersion 27 = .ok (.iload 4, 2) := by decide +kernel
theorem dX1_writeVersion_29 : decode cX1_writeVersion 29 = .ok (.invokevirtual 217, 3) := by decide +kernel
theorem dX1_writeVersion_32 : decode cX1_writeVersion 32 = .ok (.istore 5, 2) := by decide +kernel
theorem dX1_writeVersion_34 : decode cX1_writeVersion 34 = .ok (.iconst 0, 1) := by decide +kernel
theorem dX1_writeVersion_35 : decode cX1_writeVersion 35 = .ok (.istore 6, 2) := by decide +kernel
theorem dX1_writeVersion_37 : decode cX1_writeVersion 37 = .ok (.iload 6, 2) := by decide +kernel
theorem dX1_writeVersion_39 : decode cX1_writeVersion 39 = .ok (.iload_n 2, 1) := by decide +kernel
theorem dX1_writeVersion_40 : decode cX1_writeVersion 40 = .ok (.if_icmp .ge 23, 3) := by decide +kernel
theorem dX1_writeVersion_43 : decode cX1_writeVersion 43 = .ok (.aload_n 0, 1) := by decide +kernel
theorem dX1_writeVersion_44 : decode cX1_writeVersion 44 = .ok (.getfield 12, 3) := by decide +kernel
theorem dX1_writeVersion_47 : decode cX1_writeVersion 47 = .ok (.iconst 1, 1) := by decide +kernel
theorem dX1_writeVersion_48 : decode cX1_writeVersion 48 = .ok (.iload 4, 2) := by decide +kernel
theorem dX1_writeVersion_50 : decode cX1_writeVersion 50 = .ok (.iload 5, 2) := by decide +kernel
theorem dX1_writeVersion_52 : decode cX1_writeVersion 52 = .ok (.iload 6, 2) := by decide +kernel
theorem dX1_writeVersion_54 : decode cX1_writeVersion 54 = .ok (.invokevirtual 221, 3) := by decide +kernel
theorem dX1_writeVersion_57 : decode cX1_writeVersion 57 = .ok (.iinc 6 1, 3) := by decide +kernel
theorem dX1_writeVersion_60 : decode cX1_writeVersion 60 = .ok (.goto (-23), 3) := by decide +kernel
theorem dX1_writeVersion_63 : decode cX1_writeVersion 63 = .ok (.aload_n 0, 1) := by decide +kernel
theorem dX1_writeVersion_64 : decode cX1_writeVersion 64 = .ok (.getfield 28, 3) := by decide +kernel
theorem dX1_writeVersion_67 : decode cX1_writeVersion 67 = .ok (.iload_n 1, 1) := by decide +kernel
theorem dX1_writeVersion_68 : decode cX1_writeVersion 68 = .ok (.iload 5, 2) := by decide +kernel
theorem dX1_writeVersion_70 : decode cX1_writeVersion 70 = .ok (.invokevirtual 225, 3) := by decide +kernel
theorem dX1_writeVersion_73 : decode cX1_writeVersion 73 = .ok (.iload 5, 2) := by decide +kernel
theorem dX1_writeVersion_75 : decode cX1_writeVersion 75 = .ok (.ireturn, 1) := by decide +kernel
theorem dX1_eraseFile_0 : decode cX1_eraseFile 0 = .ok (.aload_n 0, 1) := by decide +kernel
theorem dX1_eraseFile_1 : decode cX1_eraseFile 1 = .ok (.invokevirtual 211, 3) := by decide +kernel
theorem dX1_eraseFile_4 : decode cX1_eraseFile 4 = .ok (.aload_n 0, 1) := by decide +kernel
theorem dX1_eraseFile_5 : decode cX1_eraseFile 5 = .ok (.getfield 28, 3) := by decide +kernel
theorem dX1_eraseFile_8 : decode cX1_eraseFile 8 = .ok (.iload_n 1, 1) := by decide +kernel
theorem dX1_eraseFile_9 : decode cX1_eraseFile 9 = .ok (.iconst (-1), 1) := by decide +kernel
theorem dX1_eraseFile_10 : decode cX1_eraseFile 10 = .ok (.invokevirtual 225, 3) := by decide +kernel
theorem dX1_eraseFile_13 : decode cX1_eraseFile 13 = .ok (.return_, 1) := by decide +kernel
theorem dX1_beginIfNeeded_0 : decode cX1_beginIfNeeded 0 = .ok (.aload_n 0, 1) := by decide +kernel
theorem dX1_beginIfNeeded_1 : decode cX1_beginIfNeeded 1 = .ok (.getfield 28, 3) := by decide +kernel
theorem dX1_beginIfNeeded_4 : decode cX1_beginIfNeeded 4 = .ok (.invokevirtual 196, 3) := by decide +kernel
theorem dX1_beginIfNeeded_7 : decode cX1_beginIfNeeded 7 = .ok (.ifCond .ne 17, 3) := by decide +kernel
theorem dX1_beginIfNeeded_10 : decode cX1_beginIfNeeded 10 = .ok (.aload_n 0, 1) := by decide +kernel
theorem dX1_beginIfNeeded_11 : decode cX1_beginIfNeeded 11 = .ok (.getfield 28, 3) := by decide +kernel
theorem dX1_beginIfNeeded_14 : decode cX1_beginIfNeeded 14 = .ok (.aload_n 0, 1) := by decide +kernel
theorem dX1_beginIfNeeded_15 : decode cX1_beginIfNeeded 15 = .ok (.getfield 12, 3) := by decide +kernel
theorem dX1_beginIfNeeded_18 : decode cX1_beginIfNeeded 18 = .ok (.getfield 214, 3) := by decide +kernel
theorem dX1_beginIfNeeded_21 : decode cX1_beginIfNeeded 21 = .ok (.invokevirtual 228, 3) := by decide +kernel
theorem dX1_beginIfNeeded_24 : decode cX1_beginIfNeeded 24 = .ok (.return_, 1) := by decide +kernel
theorem dX1_closeSession_0 : decode cX1_closeSession 0 = .ok (.aload_n 0, 1) := by decide +kernel
theorem dX1_closeSession_1 : decode cX1_closeSession 1 = .ok (.getfield 28, 3) := by decide +kernel
theorem dX1_closeSession_4 : decode cX1_closeSession 4 = .ok (.invokevirtual 199, 3) := by decide +kernel
theorem dX1_closeSession_7 : decode cX1_closeSession 7 = .ok (.istore_n 1, 1) := by decide +kernel
theorem dX1_closeSession_8 : decode cX1_closeSession 8 = .ok (.aload_n 0, 1) := by decide +kernel
theorem dX1_closeSession_9 : decode cX1_closeSession 9 = .ok (.getfield 12, 3) := by decide +kernel
theorem dX1_closeSession_12 : decode cX1_closeSession 12 = .ok (.getfield 214, 3) := by decide +kernel
theorem dX1_closeSession_15 : decode cX1_closeSession 15 = .ok (.istore_n 2, 1) := by decide +kernel
theorem dX1_closeSession_16 : decode cX1_closeSession 16 = .ok (.aload_n 0, 1) := by decide +kernel
theorem dX1_closeSession_17 : decode cX1_closeSession 17 = .ok (.getfield 28, 3) := by decide +kernel
theorem dX1_closeSession_20 : decode cX1_closeSession 20 = .ok (.iload_n 1, 1) := by decide +kernel
theorem dX1_closeSession_21 : decode cX1_closeSession 21 = .ok (.invokevirtual 202, 3) := by decide +kernel
theorem dX1_closeSession_24 : decode cX1_closeSession 24 = .ok (.invokestatic 187, 3) := by decide +kernel
theorem dX1_closeSession_27 : decode cX1_closeSession 27 = .ok (.istore_n 3, 1) := by decide +kernel
theorem dX1_closeSession_28 : decode cX1_closeSession 28 = .ok (.iconst 0, 1) := by decide +kernel
theorem dX1_closeSession_29 : decode cX1_closeSession 29 = .ok (.istore 4, 2) := by decide +kernel
theorem dX1_closeSession_31 : decode cX1_closeSession 31 = .ok (.iload 4, 2) := by decide +kernel
theorem dX1_closeSession_33 : decode cX1_closeSession 33 = .ok (.iload_n 3, 1) := by decide +kernel
theorem dX1_closeSession_34 : decode cX1_closeSession 34 = .ok (.if_icmp .ge 21, 3) := by decide +kernel
theorem dX1_closeSession_37 : decode cX1_closeSession 37 = .ok (.aload_n 0, 1) := by decide +kernel
theorem dX1_closeSession_38 : decode cX1_closeSession 38 = .ok (.getfield 12, 3) := by decide +kernel
theorem dX1_closeSession_41 : decode cX1_closeSession 41 = .ok (.iconst 2, 1) := by decide +kernel
theorem dX1_closeSession_42 : decode cX1_closeSession 42 = .ok (.iload_n 1, 1) := by decide +kernel
theorem dX1_closeSession_43 : decode cX1_closeSession 43 = .ok (.iconst (-1), 1) := by decide +kernel
theorem dX1_closeSession_44 : decode cX1_closeSession 44 = .ok (.iload 4, 2) := by decide +kernel
theorem dX1_closeSession_46 : decode cX1_closeSession 46 = .ok (.invokevirtual 221, 3) := by decide +kernel
theorem dX1_closeSession_49 : decode cX1_closeSession 49 = .ok (.iinc 4 1, 3) := by decide +kernel
theorem dX1_closeSession_52 : decode cX1_closeSession 52 = .ok (.goto (-21), 3) := by decide +kernel
theorem dX1_closeSession_55 : decode cX1_closeSession 55 = .ok (.aload_n 0, 1) := by decide +kernel
theorem dX1_closeSession_56 : decode cX1_closeSession 56 = .ok (.getfield 28, 3) := by decide +kernel
theorem dX1_closeSession_59 : decode cX1_closeSession 59 = .ok (.iload_n 2, 1) := by decide +kernel
theorem dX1_closeSession_60 : decode cX1_closeSession 60 = .ok (.iload_n 3, 1) := by decide +kernel
theorem dX1_closeSession_61 : decode cX1_closeSession 61 = .ok (.invokevirtual 231, 3) := by decide +kernel
theorem dX1_closeSession_64 : decode cX1_closeSession 64 = .ok (.iload_n 1, 1) := by decide +kernel
theorem dX1_closeSession_65 : decode cX1_closeSession 65 = .ok (.ireturn, 1) := by decide +kernel
theorem dX1_loseSession_0 : decode cX1_loseSession 0 = .ok (.aload_n 0, 1) := by decide +kernel
theorem dX1_loseSession_1 : decode cX1_loseSession 1 = .ok (.getfield 28, 3) := by decide +kernel
theorem dX1_loseSession_4 : decode cX1_loseSession 4 = .ok (.invokevirtual 234, 3) := by decide +kernel
theorem dX1_loseSession_7 : decode cX1_loseSession 7 = .ok (.aload_n 0, 1) := by decide +kernel
theorem dX1_loseSession_8 : decode cX1_loseSession 8 = .ok (.getfield 12, 3) := by decide +kernel
theorem dX1_loseSession_11 : decode cX1_loseSession 11 = .ok (.aload_n 0, 1) := by decide +kernel
theorem dX1_loseSession_12 : decode cX1_loseSession 12 = .ok (.getfield 28, 3) := by decide +kernel
theorem dX1_loseSession_15 : decode cX1_loseSession 15 = .ok (.invokevirtual 199, 3) := by decide +kernel
theorem dX1_loseSession_18 : decode cX1_loseSession 18 = .ok (.invokevirtual 237, 3) := by decide +kernel
theorem dX1_loseSession_21 : decode cX1_loseSession 21 = .ok (.ireturn, 1) := by decide +kernel
theorem dX1_recoverSession_0 : decode cX1_recoverSession 0 = .ok (.aload_n 0, 1) := by decide +kernel
theorem dX1_recoverSession_1 : decode cX1_recoverSession 1 = .ok (.getfield 28, 3) := by decide +kernel
theorem dX1_recoverSession_4 : decode cX1_recoverSession 4 = .ok (.invokevirtual 199, 3) := by decide +kernel
theorem dX1_recoverSession_7 : decode cX1_recoverSession 7 = .ok (.istore_n 1, 1) := by decide +kernel
theorem dX1_recoverSession_8 : decode cX1_recoverSession 8 = .ok (.aload_n 0, 1) := by decide +kernel
theorem dX1_recoverSession_9 : decode cX1_recoverSession 9 = .ok (.getfield 28, 3) := by decide +kernel
theorem dX1_recoverSession_12 : decode cX1_recoverSession 12 = .ok (.invokevirtual 240, 3) := by decide +kernel
theorem dX1_recoverSession_15 : decode cX1_recoverSession 15 = .ok (.aload_n 0, 1) := by decide +kernel
theorem dX1_recoverSession_16 : decode cX1_recoverSession 16 = .ok (.getfield 28, 3) := by decide +kernel
theorem dX1_recoverSession_19 : decode cX1_recoverSession 19 = .ok (.aload_n 0, 1) := by decide +kernel
theorem dX1_recoverSession_20 : decode cX1_recoverSession 20 = .ok (.getfield 12, 3) := by decide +kernel
theorem dX1_recoverSession_23 : decode cX1_recoverSession 23 = .ok (.getfield 214, 3) := by decide +kernel
theorem dX1_recoverSession_26 : decode cX1_recoverSession 26 = .ok (.invokevirtual 228, 3) := by decide +kernel
theorem dX1_recoverSession_29 : decode cX1_recoverSession 29 = .ok (.iconst 0, 1) := by decide +kernel
theorem dX1_recoverSession_30 : decode cX1_recoverSession 30 = .ok (.istore_n 2, 1) := by decide +kernel
theorem dX1_recoverSession_31 : decode cX1_recoverSession 31 = .ok (.iload_n 2, 1) := by decide +kernel
theorem dX1_recoverSession_32 : decode cX1_recoverSession 32 = .ok (.aload_n 0, 1) := by decide +kernel
theorem dX1_recoverSession_33 : decode cX1_recoverSession 33 = .ok (.getfield 21, 3) := by decide +kernel
theorem dX1_recoverSession_36 : decode cX1_recoverSession 36 = .ok (.getfield 55, 3) := by decide +kernel
theorem dX1_recoverSession_39 : decode cX1_recoverSession 39 = .ok (.if_icmp .ge 37, 3) := by decide +kernel
theorem dX1_recoverSession_42 : decode cX1_recoverSession 42 = .ok (.aload_n 0, 1) := by decide +kernel
theorem dX1_recoverSession_43 : decode cX1_recoverSession 43 = .ok (.getfield 21, 3) := by decide +kernel
theorem dX1_recoverSession_46 : decode cX1_recoverSession 46 = .ok (.iload_n 2, 1) := by decide +kernel
theorem dX1_recoverSession_47 : decode cX1_recoverSession 47 = .ok (.invokevirtual 174, 3) := by decide +kernel
theorem dX1_recoverSession_50 : decode cX1_recoverSession 50 = .ok (.istore_n 3, 1) := by decide +kernel
theorem dX1_recoverSession_51 : decode cX1_recoverSession 51 = .ok (.aload_n 0, 1) := by decide +kernel
theorem dX1_recoverSession_52 : decode cX1_recoverSession 52 = .ok (.iload_n 3, 1) := by decide +kernel
theorem dX1_recoverSession_53 : decode cX1_recoverSession 53 = .ok (.iload_n 1, 1) := by decide +kernel
theorem dX1_recoverSession_54 : decode cX1_recoverSession 54 = .ok (.invokevirtual 243, 3) := by decide +kernel
theorem dX1_recoverSession_57 : decode cX1_recoverSession 57 = .ok (.iload_n 2, 1) := by decide +kernel
theorem dX1_recoverSession_58 : decode cX1_recoverSession 58 = .ok (.if_icmp .ne 12, 3) := by decide +kernel
theorem dX1_recoverSession_61 : decode cX1_recoverSession 61 = .ok (.aload_n 0, 1) := by decide +kernel
theorem dX1_recoverSession_62 : decode cX1_recoverSession 62 = .ok (.getfield 28, 3) := by decide +kernel
theorem dX1_recoverSession_65 : decode cX1_recoverSession 65 = .ok (.iload_n 3, 1) := by decide +kernel
theorem dX1_recoverSession_66 : decode cX1_recoverSession 66 = .ok (.iload_n 2, 1) := by decide +kernel
theorem dX1_recoverSession_67 : decode cX1_recoverSession 67 = .ok (.invokevirtual 225, 3) := by decide +kernel
theorem dX1_recoverSession_70 : decode cX1_recoverSession 70 = .ok (.iinc 2 1, 3) := by decide +kernel
theorem dX1_recoverSession_73 : decode cX1_recoverSession 73 = .ok (.goto (-42), 3) := by decide +kernel
theorem dX1_recoverSession_76 : decode cX1_recoverSession 76 = .ok (.aload_n 0, 1) := by decide +kernel
theorem dX1_recoverSession_77 : decode cX1_recoverSession 77 = .ok (.invokevirtual 105, 3) := by decide +kernel
theorem dX1_recoverSession_80 : decode cX1_recoverSession 80 = .ok (.pop, 1) := by decide +kernel
theorem dX1_recoverSession_81 : decode cX1_recoverSession 81 = .ok (.aload_n 0, 1) := by decide +kernel
theorem dX1_recoverSession_82 : decode cX1_recoverSession 82 = .ok (.getfield 28, 3) := by decide +kernel
theorem dX1_recoverSession_85 : decode cX1_recoverSession 85 = .ok (.aload_n 0, 1) := by decide +kernel
theorem dX1_recoverSession_86 : decode cX1_recoverSession 86 = .ok (.getfield 28, 3) := by decide +kernel
theorem dX1_recoverSession_89 : decode cX1_recoverSession 89 = .ok (.invokevirtual 199, 3) := by decide +kernel
theorem dX1_recoverSession_92 : decode cX1_recoverSession 92 = .ok (.invokevirtual 202, 3) := by decide +kernel
theorem dX1_recoverSession_95 : decode cX1_recoverSession 95 = .ok (.ireturn, 1) := by decide +kernel
theorem dX1_recoverableVersions_0 : decode cX1_recoverableVersions 0 = .ok (.iconst 0, 1) := by decide +kernel
theorem dX1_recoverableVersions_1 : decode cX1_recoverableVersions 1 = .ok (.istore_n 1, 1) := by decide +kernel
theorem dX1_recoverableVersions_2 : decode cX1_recoverableVersions 2 = .ok (.iconst 0, 1) := by decide +kernel
theorem dX1_recoverableVersions_3 : decode cX1_recoverableVersions 3 = .ok (.istore_n 2, 1) := by decide +kernel
theorem dX1_recoverableVersions_4 : decode cX1_recoverableVersions 4 = .ok (.aload_n 0, 1) := by decide +kernel
theorem dX1_recoverableVersions_5 : decode cX1_recoverableVersions 5 = .ok (.getfield 28, 3) := by decide +kernel
theorem dX1_recoverableVersions_8 : decode cX1_recoverableVersions 8 = .ok (.invokevirtual 246, 3) := by decide +kernel
theorem dX1_recoverableVersions_11 : decode cX1_recoverableVersions 11 = .ok (.ifCond .eq 44, 3) := by decide +kernel
theorem dX1_recoverableVersions_14 : decode cX1_recoverableVersions 14 = .ok (.iload_n 2, 1) := by decide +kernel
theorem dX1_recoverableVersions_15 : decode cX1_recoverableVersions 15 = .ok (.aload_n 0, 1) := by decide +kernel
theorem dX1_recoverableVersions_16 : decode cX1_recoverableVersions 16 = .ok (.getfield 32, 3) := by decide +kernel
theorem dX1_recoverableVersions_19 : decode cX1_recoverableVersions 19 = .ok (.if_icmp .ge 36, 3) := by decide +kernel
theorem dX1_recoverableVersions_22 : decode cX1_recoverableVersions 22 = .ok (.iload_n 1, 1) := by decide +kernel
theorem dX1_recoverableVersions_23 : decode cX1_recoverableVersions 23 = .ok (.aload_n 0, 1) := by decide +kernel
theorem dX1_recoverableVersions_24 : decode cX1_recoverableVersions 24 = .ok (.iload_n 2, 1) := by decide +kernel
theorem dX1_recoverableVersions_25 : decode cX1_recoverableVersions 25 = .ok (.aload_n 0, 1) := by decide +kernel
theorem dX1_recoverableVersions_26 : decode cX1_recoverableVersions 26 = .ok (.getfield 28, 3) := by decide +kernel
theorem dX1_recoverableVersions_29 : decode cX1_recoverableVersions 29 = .ok (.invokevirtual 199, 3) := by decide +kernel
theorem dX1_recoverableVersions_32 : decode cX1_recoverableVersions 32 = .ok (.invokevirtual 243, 3) := by decide +kernel
theorem dX1_recoverableVersions_35 : decode cX1_recoverableVersions 35 = .ok (.iconst (-1), 1) := by decide +kernel
theorem dX1_recoverableVersions_36 : decode cX1_recoverableVersions 36 = .ok (.if_icmp .eq 7, 3) := by decide +kernel
theorem dX1_recoverableVersions_39 : decode cX1_recoverableVersions 39 = .ok (.iconst 1, 1) := by decide +kernel
theorem dX1_recoverableVersions_40 : decode cX1_recoverableVersions 40 = .ok (.goto 4, 3) := by decide +kernel
theorem dX1_recoverableVersions_43 : decode cX1_recoverableVersions 43 = .ok (.iconst 0, 1) := by decide +kernel
theorem dX1_recoverableVersions_44 : decode cX1_recoverableVersions 44 = .ok (.invokestatic 162, 3) := by decide +kernel
theorem dX1_recoverableVersions_47 : decode cX1_recoverableVersions 47 = .ok (.iadd, 1) := by decide +kernel
theorem dX1_recoverableVersions_48 : decode cX1_recoverableVersions 48 = .ok (.istore_n 1, 1) := by decide +kernel
theorem dX1_recoverableVersions_49 : decode cX1_recoverableVersions 49 = .ok (.iinc 2 1, 3) := by decide +kernel
theorem dX1_recoverableVersions_52 : decode cX1_recoverableVersions 52 = .ok (.goto (-48), 3) := by decide +kernel
theorem dX1_recoverableVersions_55 : decode cX1_recoverableVersions 55 = .ok (.iload_n 1, 1) := by decide +kernel
theorem dX1_recoverableVersions_56 : decode cX1_recoverableVersions 56 = .ok (.ireturn, 1) := by decide +kernel
theorem dX1_recoverableVersionOf_0 : decode cX1_recoverableVersionOf 0 = .ok (.aload_n 0, 1) := by decide +kernel
theorem dX1_recoverableVersionOf_1 : decode cX1_recoverableVersionOf 1 = .ok (.getfield 21, 3) := by decide +kernel
theorem dX1_recoverableVersionOf_4 : decode cX1_recoverableVersionOf 4 = .ok (.getfield 55, 3) := by decide +kernel
theorem dX1_recoverableVersionOf_7 : decode cX1_recoverableVersionOf 7 = .ok (.iconst 1, 1) := by decide +kernel
theorem dX1_recoverableVersionOf_8 : decode cX1_recoverableVersionOf 8 = .ok (.isub, 1) := by decide +kernel
theorem dX1_recoverableVersionOf_9 : decode cX1_recoverableVersionOf 9 = .ok (.istore_n 3, 1) := by decide +kernel
theorem dX1_recoverableVersionOf_10 : decode cX1_recoverableVersionOf 10 = .ok (.iload_n 3, 1) := by decide +kernel
theorem dX1_recoverableVersionOf_11 : decode cX1_recoverableVersionOf 11 = .ok (.ifCond .lt 55, 3) := by decide +kernel
theorem dX1_recoverableVersionOf_14 : decode cX1_recoverableVersionOf 14 = .ok (.aload_n 0, 1) := by decide +kernel
theorem dX1_recoverableVersionOf_15 : decode cX1_recoverableVersionOf 15 = .ok (.getfield 21, 3) := by decide +kernel
theorem dX1_recoverableVersionOf_18 : decode cX1_recoverableVersionOf 18 = .ok (.iload_n 3, 1) := by decide +kernel
theorem dX1_recoverableVersionOf_19 : decode cX1_recoverableVersionOf 19 = .ok (.invokevirtual 174, 3) := by decide +kernel
theorem dX1_recoverableVersionOf_22 : decode cX1_recoverableVersionOf 22 = .ok (.iload_n 1, 1) := by decide +kernel
theorem dX1_recoverableVersionOf_23 : decode cX1_recoverableVersionOf 23 = .ok (.if_icmp .ne 19, 3) := by decide +kernel
theorem dX1_recoverableVersionOf_26 : decode cX1_recoverableVersionOf 26 = .ok (.aload_n 0, 1) := by decide +kernel
theorem dX1_recoverableVersionOf_27 : decode cX1_recoverableVersionOf 27 = .ok (.getfield 21, 3) := by decide +kernel
theorem dX1_recoverableVersionOf_30 : decode cX1_recoverableVersionOf 30 = .ok (.iload_n 3, 1) := by decide +kernel
theorem dX1_recoverableVersionOf_31 : decode cX1_recoverableVersionOf 31 = .ok (.invokevirtual 249, 3) := by decide +kernel
theorem dX1_recoverableVersionOf_34 : decode cX1_recoverableVersionOf 34 = .ok (.iload_n 2, 1) := by decide +kernel
theorem dX1_recoverableVersionOf_35 : decode cX1_recoverableVersionOf 35 = .ok (.if_icmp .ne 7, 3) := by decide +kernel
theorem dX1_recoverableVersionOf_38 : decode cX1_recoverableVersionOf 38 = .ok (.iconst 1, 1) := by decide +kernel
theorem dX1_recoverableVersionOf_39 : decode cX1_recoverableVersionOf 39 = .ok (.goto 4, 3) := by decide +kernel
theorem dX1_recoverableVersionOf_42 : decode cX1_recoverableVersionOf 42 = .ok (.iconst 0, 1) := by decide +kernel
theorem dX1_recoverableVersionOf_43 : decode cX1_recoverableVersionOf 43 = .ok (.istore 4, 2) := by decide +kernel
theorem dX1_recoverableVersionOf_45 : decode cX1_recoverableVersionOf 45 = .ok (.iload 4, 2) := by decide +kernel
theorem dX1_recoverableVersionOf_47 : decode cX1_recoverableVersionOf 47 = .ok (.ifCond .eq 13, 3) := by decide +kernel
theorem dX1_recoverableVersionOf_50 : decode cX1_recoverableVersionOf 50 = .ok (.aload_n 0, 1) := by decide +kernel
theorem dX1_recoverableVersionOf_51 : decode cX1_recoverableVersionOf 51 = .ok (.iload_n 3, 1) := by decide +kernel
theorem dX1_recoverableVersionOf_52 : decode cX1_recoverableVersionOf 52 = .ok (.invokevirtual 250, 3) := by decide +kernel
theorem dX1_recoverableVersionOf_55 : decode cX1_recoverableVersionOf 55 = .ok (.ifCond .eq 5, 3) := by decide +kernel
theorem dX1_recoverableVersionOf_58 : decode cX1_recoverableVersionOf 58 = .ok (.iload_n 3, 1) := by decide +kernel
theorem dX1_recoverableVersionOf_59 : decode cX1_recoverableVersionOf 59 = .ok (.ireturn, 1) := by decide +kernel
theorem dX1_recoverableVersionOf_60 : decode cX1_recoverableVersionOf 60 = .ok (.iinc 3 (-1), 3) := by decide +kernel
theorem dX1_recoverableVersionOf_63 : decode cX1_recoverableVersionOf 63 = .ok (.goto (-53), 3) := by decide +kernel
theorem dX1_recoverableVersionOf_66 : decode cX1_recoverableVersionOf 66 = .ok (.iconst (-1), 1) := by decide +kernel
theorem dX1_recoverableVersionOf_67 : decode cX1_recoverableVersionOf 67 = .ok (.ireturn, 1) := by decide +kernel
theorem dX10_init_0 : decode cX10_init 0 = .ok (.aload_n 0, 1) := by decide +kernel
theorem dX10_init_1 : decode cX10_init 1 = .ok (.invokespecial 1, 3) := by decide +kernel
theorem dX10_init_4 : decode cX10_init 4 = .ok (.aload_n 0, 1) := by decide +kernel
theorem dX10_init_5 : decode cX10_init 5 = .ok (.sipush 1555, 3) := by decide +kernel
theorem dX10_init_8 : decode cX10_init 8 = .ok (.newarray .int, 2) := by decide +kernel
theorem dX10_init_10 : decode cX10_init 10 = .ok (.putfield 7, 3) := by decide +kernel
theorem dX10_init_13 : decode cX10_init 13 = .ok (.aload_n 0, 1) := by decide +kernel
theorem dX10_init_14 : decode cX10_init 14 = .ok (.bipush 10, 2) := by decide +kernel
theorem dX10_init_16 : decode cX10_init 16 = .ok (.newarray .long, 2) := by decide +kernel
theorem dX10_init_18 : decode cX10_init 18 = .ok (.putfield 13, 3) := by decide +kernel
theorem dX10_init_21 : decode cX10_init 21 = .ok (.aload_n 0, 1) := by decide +kernel
theorem dX10_init_22 : decode cX10_init 22 = .ok (.sipush 600, 3) := by decide +kernel
theorem dX10_init_25 : decode cX10_init 25 = .ok (.newarray .byte, 2) := by decide +kernel
theorem dX10_init_27 : decode cX10_init 27 = .ok (.putfield 17, 3) := by decide +kernel
theorem dX10_init_30 : decode cX10_init 30 = .ok (.aload_n 0, 1) := by decide +kernel
theorem dX10_init_31 : decode cX10_init 31 = .ok (.iconst (-1), 1) := by decide +kernel
theorem dX10_init_32 : decode cX10_init 32 = .ok (.putfield 21, 3) := by decide +kernel
theorem dX10_init_35 : decode cX10_init 35 = .ok (.aload_n 0, 1) := by decide +kernel
theorem dX10_init_36 : decode cX10_init 36 = .ok (.sipush 1555, 3) := by decide +kernel
theorem dX10_init_39 : decode cX10_init 39 = .ok (.newarray .int, 2) := by decide +kernel
theorem dX10_init_41 : decode cX10_init 41 = .ok (.putfield 25, 3) := by decide +kernel
theorem dX10_init_44 : decode cX10_init 44 = .ok (.aload_n 0, 1) := by decide +kernel
theorem dX10_init_45 : decode cX10_init 45 = .ok (.bipush 10, 2) := by decide +kernel
theorem dX10_init_47 : decode cX10_init 47 = .ok (.newarray .long, 2) := by decide +kernel
theorem dX10_init_49 : decode cX10_init 49 = .ok (.putfield 28, 3) := by decide +kernel
theorem dX10_init_52 : decode cX10_init 52 = .ok (.aload_n 0, 1) := by decide +kernel
theorem dX10_init_53 : decode cX10_init 53 = .ok (.bipush 12, 2) := by decide +kernel
theorem dX10_init_55 : decode cX10_init 55 = .ok (.newarray .int, 2) := by decide +kernel
theorem dX10_init_57 : decode cX10_init 57 = .ok (.putfield 31, 3) := by decide +kernel
theorem dX10_init_60 : decode cX10_init 60 = .ok (.aload_n 0, 1) := by decide +kernel
theorem dX10_init_61 : decode cX10_init 61 = .ok (.bipush 10, 2) := by decide +kernel
theorem dX10_init_63 : decode cX10_init 63 = .ok (.newarray .int, 2) := by decide +kernel
theorem dX10_init_65 : decode cX10_init 65 = .ok (.putfield 34, 3) := by decide +kernel
theorem dX10_init_68 : decode cX10_init 68 = .ok (.aload_n 0, 1) := by decide +kernel
theorem dX10_init_69 : decode cX10_init 69 = .ok (.bipush 96, 2) := by decide +kernel
theorem dX10_init_71 : decode cX10_init 71 = .ok (.newarray .boolean, 2) := by decide +kernel
theorem dX10_init_73 : decode cX10_init 73 = .ok (.putfield 37, 3) := by decide +kernel
theorem dX10_init_76 : decode cX10_init 76 = .ok (.aload_n 0, 1) := by decide +kernel
theorem dX10_init_77 : decode cX10_init 77 = .ok (.sipush 15550, 3) := by decide +kernel
theorem dX10_init_80 : decode cX10_init 80 = .ok (.newarray .int, 2) := by decide +kernel
theorem dX10_init_82 : decode cX10_init 82 = .ok (.putfield 41, 3) := by decide +kernel
theorem dX10_init_85 : decode cX10_init 85 = .ok (.aload_n 0, 1) := by decide +kernel
theorem dX10_init_86 : decode cX10_init 86 = .ok (.sipush 3110, 3) := by decide +kernel
theorem dX10_init_89 : decode cX10_init 89 = .ok (.newarray .int, 2) := by decide +kernel
theorem dX10_init_91 : decode cX10_init 91 = .ok (.putfield 44, 3) := by decide +kernel
theorem dX10_init_94 : decode cX10_init 94 = .ok (.aload_n 0, 1) := by decide +kernel
theorem dX10_init_95 : decode cX10_init 95 = .ok (.iconst 2, 1) := by decide +kernel
theorem dX10_init_96 : decode cX10_init 96 = .ok (.newarray .boolean, 2) := by decide +kernel
theorem dX10_init_98 : decode cX10_init 98 = .ok (.putfield 47, 3) := by decide +kernel
theorem dX10_init_101 : decode cX10_init 101 = .ok (.aload_n 0, 1) := by decide +kernel
theorem dX10_init_102 : decode cX10_init 102 = .ok (.getfield 7, 3) := by decide +kernel
theorem dX10_init_105 : decode cX10_init 105 = .ok (.iconst 0, 1) := by decide +kernel
theorem dX10_init_106 : decode cX10_init 106 = .ok (.bipush 8, 2) := by decide +kernel
theorem dX10_init_108 : decode cX10_init 108 = .ok (.iastore, 1) := by decide +kernel
theorem dX10_init_109 : decode cX10_init 109 = .ok (.return_, 1) := by decide +kernel
theorem dX10_thrown_0 : decode cX10_thrown 0 = .ok (.aload_n 0, 1) := by decide +kernel
theorem dX10_thrown_1 : decode cX10_thrown 1 = .ok (.getfield 50, 3) := by decide +kernel
theorem dX10_thrown_4 : decode cX10_thrown 4 = .ok (.ireturn, 1) := by decide +kernel
theorem dX10_within_0 : decode cX10_within 0 = .ok (.iload_n 0, 1) := by decide +kernel
theorem dX10_within_1 : decode cX10_within 1 = .ok (.iload_n 1, 1) := by decide +kernel
theorem dX10_within_2 : decode cX10_within 2 = .ok (.if_icmp .lt 12, 3) := by decide +kernel
theorem dX10_within_5 : decode cX10_within 5 = .ok (.iload_n 0, 1) := by decide +kernel
theorem dX10_within_6 : decode cX10_within 6 = .ok (.iload_n 2, 1) := by decide +kernel
theorem dX10_within_7 : decode cX10_within 7 = .ok (.if_icmp .gt 7, 3) := by decide +kernel
theorem dX10_within_10 : decode cX10_within 10 = .ok (.iconst 1, 1) := by decide +kernel
theorem dX10_within_11 : decode cX10_within 11 = .ok (.goto 4, 3) := by decide +kernel
theorem dX10_within_14 : decode cX10_within 14 = .ok (.iconst 0, 1) := by decide +kernel
theorem dX10_within_15 : decode cX10_within 15 = .ok (.ireturn, 1) := by decide +kernel
theorem dX10_throwsIf_0 : decode cX10_throwsIf 0 = .ok (.aload_n 0, 1) := by decide +kernel
theorem dX10_throwsIf_1 : decode cX10_throwsIf 1 = .ok (.getfield 50, 3) := by decide +kernel
theorem dX10_throwsIf_4 : decode cX10_throwsIf 4 = .ok (.ifCond .ne 12, 3) := by decide +kernel
theorem dX10_throwsIf_7 : decode cX10_throwsIf 7 = .ok (.iload_n 1, 1) := by decide +kernel
theorem dX10_throwsIf_8 : decode cX10_throwsIf 8 = .ok (.ifCond .eq 8, 3) := by decide +kernel
theorem dX10_throwsIf_11 : decode cX10_throwsIf 11 = .ok (.aload_n 0, 1) := by decide +kernel
theorem dX10_throwsIf_12 : decode cX10_throwsIf 12 = .ok (.iload_n 2, 1) := by decide +kernel
theorem dX10_throwsIf_13 : decode cX10_throwsIf 13 = .ok (.putfield 50, 3) := by decide +kernel
theorem dX10_throwsIf_16 : decode cX10_throwsIf 16 = .ok (.aload_n 0, 1) := by decide +kernel
theorem dX10_throwsIf_17 : decode cX10_throwsIf 17 = .ok (.getfield 50, 3) := by decide +kernel
theorem dX10_throwsIf_20 : decode cX10_throwsIf 20 = .ok (.ifCond .le 7, 3) := by decide +kernel
theorem dX10_throwsIf_23 : decode cX10_throwsIf 23 = .ok (.iconst 1, 1) := by decide +kernel
theorem dX10_throwsIf_24 : decode cX10_throwsIf 24 = .ok (.goto 4, 3) := by decide +kernel
theorem dX10_throwsIf_27 : decode cX10_throwsIf 27 = .ok (.iconst 0, 1) := by decide +kernel
theorem dX10_throwsIf_28 : decode cX10_throwsIf 28 = .ok (.ireturn, 1) := by decide +kernel
theorem dX10_append_0 : decode cX10_append 0 = .ok (.aload_n 0, 1) := by decide +kernel
theorem dX10_append_1 : decode cX10_append 1 = .ok (.iconst 0, 1) := by decide +kernel
theorem dX10_append_2 : decode cX10_append 2 = .ok (.putfield 50, 3) := by decide +kernel
theorem dX10_append_5 : decode cX10_append 5 = .ok (.aload_n 0, 1) := by decide +kernel
theorem dX10_append_6 : decode cX10_append 6 = .ok (.getfield 53, 3) := by decide +kernel
theorem dX10_append_9 : decode cX10_append 9 = .ok (.bipush 20, 2) := by decide +kernel
theorem dX10_append_11 : decode cX10_append 11 = .ok (.iadd, 1) := by decide +kernel
theorem dX10_append_12 : decode cX10_append 12 = .ok (.sipush 600, 3) := by decide +kernel
theorem dX10_append_15 : decode cX10_append 15 = .ok (.if_icmp .le 5, 3) := by decide +kernel
theorem dX10_append_18 : decode cX10_append 18 = .ok (.iconst (-1), 1) := by decide +kernel
theorem dX10_append_19 : decode cX10_append 19 = .ok (.ireturn, 1) := by decide +kernel
theorem dX10_append_20 : decode cX10_append 20 = .ok (.aload_n 0, 1) := by decide +kernel
theorem dX10_append_21 : decode cX10_append 21 = .ok (.iload_n 1, 1) := by decide +kernel
theorem dX10_append_22 : decode cX10_append 22 = .ok (.invokevirtual 56, 3) := by decide +kernel
theorem dX10_append_25 : decode cX10_append 25 = .ok (.aload_n 0, 1) := by decide +kernel
theorem dX10_append_26 : decode cX10_append 26 = .ok (.iload_n 2, 1) := by decide +kernel
theorem dX10_append_27 : decode cX10_append 27 = .ok (.invokevirtual 56, 3) := by decide +kernel
theorem dX10_append_30 : decode cX10_append 30 = .ok (.aload_n 0, 1) := by decide +kernel
theorem dX10_append_31 : decode cX10_append 31 = .ok (.iload_n 3, 1) := by decide +kernel
theorem dX10_append_32 : decode cX10_append 32 = .ok (.invokevirtual 56, 3) := by decide +kernel
theorem dX10_append_35 : decode cX10_append 35 = .ok (.aload_n 0, 1) := by decide +kernel
theorem dX10_append_36 : decode cX10_append 36 = .ok (.iload 4, 2) := by decide +kernel
theorem dX10_append_38 : decode cX10_append 38 = .ok (.invokevirtual 56, 3) := by decide +kernel
theorem dX10_append_41 : decode cX10_append 41 = .ok (.aload_n 0, 1) := by decide +kernel
theorem dX10_append_42 : decode cX10_append 42 = .ok (.iload 5, 2) := by decide +kernel
theorem dX10_append_44 : decode cX10_append 44 = .ok (.invokevirtual 56, 3) := by decide +kernel
theorem dX10_append_47 : decode cX10_append 47 = .ok (.aload_n 0, 1) := by decide +kernel
theorem dX10_append_48 : decode cX10_append 48 = .ok (.getfield 53, 3) := by decide +kernel
theorem dX10_append_51 : decode cX10_append 51 = .ok (.ireturn, 1) := by decide +kernel
theorem dX10_bytesOf_0 : decode cX10_bytesOf 0 = .ok (.bipush 24, 2) := by decide +kernel
theorem dX10_bytesOf_2 : decode cX10_bytesOf 2 = .ok (.istore_n 2, 1) := by decide +kernel
theorem dX10_bytesOf_3 : decode cX10_bytesOf 3 = .ok (.iload_n 2, 1) := by decide +kernel
theorem dX10_bytesOf_4 : decode cX10_bytesOf 4 = .ok (.ifCond .lt 32, 3) := by decide +kernel
theorem dX10_bytesOf_7 : decode cX10_bytesOf 7 = .ok (.aload_n 0, 1) := by decide +kernel
theorem dX10_bytesOf_8 : decode cX10_bytesOf 8 = .ok (.getfield 17, 3) := by decide +kernel
theorem dX10_bytesOf_11 : decode cX10_bytesOf 11 = .ok (.aload_n 0, 1) := by decide +kernel
theorem dX10_bytesOf_12 : decode cX10_bytesOf 12 = .ok (.getfield 53, 3) := by decide +kernel
theorem dX10_bytesOf_15 : decode cX10_bytesOf 15 = .ok (.iload_n 1, 1) := by decide +kernel
theorem dX10_bytesOf_16 : decode cX10_bytesOf 16 = .ok (.iload_n 2, 1) := by decide +kernel
theorem dX10_bytesOf_17 : decode cX10_bytesOf 17 = .ok (.ishr, 1) := by decide +kernel
theorem dX10_bytesOf_18 : decode cX10_bytesOf 18 = .ok (.i2b, 1) := by decide +kernel
theorem dX10_bytesOf_19 : decode cX10_bytesOf 19 = .ok (.bastore, 1) := by decide +kernel
theorem dX10_bytesOf_20 : decode cX10_bytesOf 20 = .ok (.aload_n 0, 1) := by decide +kernel
theorem dX10_bytesOf_21 : decode cX10_bytesOf 21 = .ok (.dup, 1) := by decide +kernel
theorem dX10_bytesOf_22 : decode cX10_bytesOf 22 = .ok (.getfield 53, 3) := by decide +kernel
theorem dX10_bytesOf_25 : decode cX10_bytesOf 25 = .ok (.iconst 1, 1) := by decide +kernel
theorem dX10_bytesOf_26 : decode cX10_bytesOf 26 = .ok (.iadd, 1) := by decide +kernel
theorem dX10_bytesOf_27 : decode cX10_bytesOf 27 = .ok (.putfield 53, 3) := by decide +kernel
theorem dX10_bytesOf_30 : decode cX10_bytesOf 30 = .ok (.iinc 2 (-8), 3) := by decide +kernel
theorem dX10_bytesOf_33 : decode cX10_bytesOf 33 = .ok (.goto (-30), 3) := by decide +kernel
theorem dX10_bytesOf_36 : decode cX10_bytesOf 36 = .ok (.return_, 1) := by decide +kernel
theorem dX10_byteAt_0 : decode cX10_byteAt 0 = .ok (.iload_n 1, 1) := by decide +kernel
theorem dX10_byteAt_1 : decode cX10_byteAt 1 = .ok (.aload_n 0, 1) := by decide +kernel
theorem dX10_byteAt_2 : decode cX10_byteAt 2 = .ok (.getfield 60, 3) := by decide +kernel
theorem dX10_byteAt_5 : decode cX10_byteAt 5 = .ok (.if_icmp .ge 16, 3) := by decide +kernel
theorem dX10_byteAt_8 : decode cX10_byteAt 8 = .ok (.aload_n 0, 1) := by decide +kernel
theorem dX10_byteAt_9 : decode cX10_byteAt 9 = .ok (.getfield 17, 3) := by decide +kernel
theorem dX10_byteAt_12 : decode cX10_byteAt 12 = .ok (.iload_n 1, 1) := by decide +kernel
theorem dX10_byteAt_13 : decode cX10_byteAt 13 = .ok (.baload, 1) := by decide +kernel
theorem dX10_byteAt_14 : decode cX10_byteAt 14 = .ok (.sipush 255, 3) := by decide +kernel
theorem dX10_byteAt_17 : decode cX10_byteAt 17 = .ok (.iand, 1) := by decide +kernel
theorem dX10_byteAt_18 : decode cX10_byteAt 18 = .ok (.goto 4, 3) := by decide +kernel
theorem dX10_byteAt_21 : decode cX10_byteAt 21 = .ok (.iconst (-1), 1) := by decide +kernel
theorem dX10_byteAt_22 : decode cX10_byteAt 22 = .ok (.ireturn, 1) := by decide +kernel
theorem dX10_takesLetters_0 : decode cX10_takesLetters 0 = .ok (.aload_n 0, 1) := by decide +kernel
theorem dX10_takesLetters_1 : decode cX10_takesLetters 1 = .ok (.lconst 0, 1) := by decide +kernel
theorem dX10_takesLetters_2 : decode cX10_takesLetters 2 = .ok (.putfield 63, 3) := by decide +kernel
theorem dX10_takesLetters_5 : decode cX10_takesLetters 5 = .ok (.aload_n 0, 1) := by decide +kernel
theorem dX10_takesLetters_6 : decode cX10_takesLetters 6 = .ok (.aload_n 0, 1) := by decide +kernel
theorem dX10_takesLetters_7 : decode cX10_takesLetters 7 = .ok (.getfield 67, 3) := by decide +kernel
theorem dX10_takesLetters_10 : decode cX10_takesLetters 10 = .ok (.invokevirtual 70, 3) := by decide +kernel
theorem dX10_takesLetters_13 : decode cX10_takesLetters 13 = .ok (.bipush 97, 2) := by decide +kernel
theorem dX10_takesLetters_15 : decode cX10_takesLetters 15 = .ok (.bipush 122, 2) := by decide +kernel
theorem dX10_takesLetters_17 : decode cX10_takesLetters 17 = .ok (.invokestatic 74, 3) := by decide +kernel
theorem dX10_takesLetters_20 : decode cX10_takesLetters 20 = .ok (.ifCond .eq 58, 3) := by decide +kernel
theorem dX10_takesLetters_23 : decode cX10_takesLetters 23 = .ok (.aload_n 0, 1) := by decide +kernel
theorem dX10_takesLetters_24 : decode cX10_takesLetters 24 = .ok (.aload_n 0, 1) := by decide +kernel
theorem dX10_takesLetters_25 : decode cX10_takesLetters 25 = .ok (.getfield 67, 3) := by decide +kernel
theorem dX10_takesLetters_28 : decode cX10_takesLetters 28 = .ok (.aload_n 0, 1) := by decide +kernel
theorem dX10_takesLetters_29 : decode cX10_takesLetters 29 = .ok (.getfield 78, 3) := by decide +kernel
theorem dX10_takesLetters_32 : decode cX10_takesLetters 32 = .ok (.isub, 1) := by decide +kernel
theorem dX10_takesLetters_33 : decode cX10_takesLetters 33 = .ok (.bipush 8, 2) := by decide +kernel
theorem dX10_takesLetters_35 : decode cX10_takesLetters 35 = .ok (.if_icmp .ge 23, 3) := by decide +kernel
theorem dX10_takesLetters_38 : decode cX10_takesLetters 38 = .ok (.aload_n 0, 1) := by decide +kernel
theorem dX10_takesLetters_39 : decode cX10_takesLetters 39 = .ok (.getfield 63, 3) := by decide +kernel
theorem dX10_takesLetters_42 : decode cX10_takesLetters 42 = .ok (.bipush 8, 2) := by decide +kernel
theorem dX10_takesLetters_44 : decode cX10_takesLetters 44 = .ok (.lshl, 1) := by decide +kernel
theorem dX10_takesLetters_45 : decode cX10_takesLetters 45 = .ok (.aload_n 0, 1) := by decide +kernel
theorem dX10_takesLetters_46 : decode cX10_takesLetters 46 = .ok (.aload_n 0, 1) := by decide +kernel
theorem dX10_takesLetters_47 : decode cX10_takesLetters 47 = .ok (.getfield 67, 3) := by decide +kernel
theorem dX10_takesLetters_50 : decode cX10_takesLetters 50 = .ok (.invokevirtual 70, 3) := by decide +kernel
theorem dX10_takesLetters_53 : decode cX10_takesLetters 53 = .ok (.i2l, 1) := by decide +kernel
theorem dX10_takesLetters_54 : decode cX10_takesLetters 54 = .ok (.lor, 1) := by decide +kernel
theorem dX10_takesLetters_55 : decode cX10_takesLetters 55 = .ok (.goto 7, 3) := by decide +kernel
theorem dX10_takesLetters_58 : decode cX10_takesLetters 58 = .ok (.aload_n 0, 1) := by decide +kernel
theorem dX10_takesLetters_59 : decode cX10_takesLetters 59 = .ok (.getfield 63, 3) := by decide +kernel
theorem dX10_takesLetters_62 : decode cX10_takesLetters 62 = .ok (.putfield 63, 3) := by decide +kernel
theorem dX10_takesLetters_65 : decode cX10_takesLetters 65 = .ok (.aload_n 0, 1) := by decide +kernel
theorem dX10_takesLetters_66 : decode cX10_takesLetters 66 = .ok (.dup, 1) := by decide +kernel
theorem dX10_takesLetters_67 : decode cX10_takesLetters 67 = .ok (.getfield 67, 3) := by decide +kernel
theorem dX10_takesLetters_70 : decode cX10_takesLetters 70 = .ok (.iconst 1, 1) := by decide +kernel
theorem dX10_takesLetters_71 : decode cX10_takesLetters 71 = .ok (.iadd, 1) := by decide +kernel
theorem dX10_takesLetters_72 : decode cX10_takesLetters 72 = .ok (.putfield 67, 3) := by decide +kernel
theorem dX10_takesLetters_75 : decode cX10_takesLetters 75 = .ok (.goto (-70), 3) := by decide +kernel
theorem dX10_takesLetters_78 : decode cX10_takesLetters 78 = .ok (.return_, 1) := by decide +kernel
theorem dX10_advance_0 : decode cX10_advance 0 = .ok (.aload_n 0, 1) := by decide +kernel
theorem dX10_advance_1 : decode cX10_advance 1 = .ok (.aload_n 0, 1) := by decide +kernel
theorem dX10_advance_2 : decode cX10_advance 2 = .ok (.getfield 67, 3) := by decide +kernel
theorem dX10_advance_5 : decode cX10_advance 5 = .ok (.invokevirtual 70, 3) := by decide +kernel
theorem dX10_advance_8 : decode cX10_advance 8 = .ok (.bipush 32, 2) := by decide +kernel
theorem dX10_advance_10 : decode cX10_advance 10 = .ok (.if_icmp .eq 16, 3) := by decide +kernel
theorem dX10_advance_13 : decode cX10_advance 13 = .ok (.aload_n 0, 1) := by decide +kernel
theorem dX10_advance_14 : decode cX10_advance 14 = .ok (.aload_n 0, 1) := by decide +kernel
theorem dX10_advance_15 : decode cX10_advance 15 = .ok (.getfield 67, 3) := by decide +kernel
theorem dX10_advance_18 : decode cX10_advance 18 = .ok (.invokevirtual 70, 3) := by decide +kernel
theorem dX10_advance_21 : decode cX10_advance 21 = .ok (.bipush 10, 2) := by decide +kernel
theorem dX10_advance_23 : decode cX10_advance 23 = .ok (.if_icmp .ne 16, 3) := by decide +kernel
theorem dX10_advance_26 : decode cX10_advance 26 = .ok (.aload_n 0, 1) := by decide +kernel
theorem dX10_advance_27 : decode cX10_advance 27 = .ok (.dup, 1) := by decide +kernel
theorem dX10_advance_28 : decode cX10_advance 28 = .ok (.getfield 67, 3) := by decide +kernel
theorem dX10_advance_31 : decode cX10_advance 31 = .ok (.iconst 1, 1) := by decide +kernel
theorem dX10_advance_32 : decode cX10_advance 32 = .ok (.iadd, 1) := by decide +kernel
theorem dX10_advance_33 : decode cX10_advance 33 = .ok (.putfield 67, 3) := by decide +kernel
theorem dX10_advance_36 : decode cX10_advance 36 = .ok (.goto (-36), 3) := by decide +kernel
theorem dX10_advance_39 : decode cX10_advance 39 = .ok (.aload_n 0, 1) := by decide +kernel
theorem dX10_advance_40 : decode cX10_advance 40 = .ok (.aload_n 0, 1) := by decide +kernel
theorem dX10_advance_41 : decode cX10_advance 41 = .ok (.getfield 67, 3) := by decide +kernel
theorem dX10_advance_44 : decode cX10_advance 44 = .ok (.putfield 78, 3) := by decide +kernel
theorem dX10_advance_47 : decode cX10_advance 47 = .ok (.aload_n 0, 1) := by decide +kernel
theorem dX10_advance_48 : decode cX10_advance 48 = .ok (.iconst 0, 1) := by decide +kernel
theorem dX10_advance_49 : decode cX10_advance 49 = .ok (.putfield 81, 3) := by decide +kernel
theorem dX10_advance_52 : decode cX10_advance 52 = .ok (.aload_n 0, 1) := by decide +kernel
theorem dX10_advance_53 : decode cX10_advance 53 = .ok (.aload_n 0, 1) := by decide +kernel
theorem dX10_advance_54 : decode cX10_advance 54 = .ok (.getfield 67, 3) := by decide +kernel
theorem dX10_advance_57 : decode cX10_advance 57 = .ok (.invokevirtual 70, 3) := by decide +kernel
theorem dX10_advance_60 : decode cX10_advance 60 = .ok (.istore_n 1, 1) := by decide +kernel
theorem dX10_advance_61 : decode cX10_advance 61 = .ok (.iload_n 1, 1) := by decide +kernel
theorem dX10_advance_62 : decode cX10_advance 62 = .ok (.iconst (-1), 1) := by decide +kernel
theorem dX10_advance_63 : decode cX10_advance 63 = .ok (.if_icmp .ne 11, 3) := by decide +kernel
theorem dX10_advance_66 : decode cX10_advance 66 = .ok (.aload_n 0, 1) := by decide +kernel
theorem dX10_advance_67 : decode cX10_advance 67 = .ok (.iconst 0, 1) := by decide +kernel
theorem dX10_advance_68 : decode cX10_advance 68 = .ok (.putfield 84, 3) := by decide +kernel
theorem dX10_advance_71 : decode cX10_advance 71 = .ok (.goto 179, 3) := by decide +kernel
theorem dX10_advance_74 : decode cX10_advance 74 = .ok (.iload_n 1, 1) := by decide +kernel
theorem dX10_advance_75 : decode cX10_advance 75 = .ok (.bipush 97, 2) := by decide +kernel
theorem dX10_advance_77 : decode cX10_advance 77 = .ok (.bipush 122, 2) := by decide +kernel
theorem dX10_advance_79 : decode cX10_advance 79 = .ok (.invokestatic 74, 3) := by decide +kernel
theorem dX10_advance_82 : decode cX10_advance 82 = .ok (.ifCond .eq 33, 3) := by decide +kernel
theorem dX10_advance_85 : decode cX10_advance 85 = .ok (.aload_n 0, 1) := by decide +kernel
theorem dX10_advance_86 : decode cX10_advance 86 = .ok (.invokevirtual 87, 3) := by decide +kernel
theorem dX10_advance_89 : decode cX10_advance 89 = .ok (.aload_n 0, 1) := by decide +kernel
theorem dX10_advance_90 : decode cX10_advance 90 = .ok (.aload_n 0, 1) := by decide +kernel
theorem dX10_advance_91 : decode cX10_advance 91 = .ok (.getfield 67, 3) := by decide +kernel
theorem dX10_advance_94 : decode cX10_advance 94 = .ok (.aload_n 0, 1) := by decide +kernel
theorem dX10_advance_95 : decode cX10_advance 95 = .ok (.getfield 78, 3) := by decide +kernel
theorem dX10_advance_98 : decode cX10_advance 98 = .ok (.isub, 1) := by decide +kernel
theorem dX10_advance_99 : decode cX10_advance 99 = .ok (.bipush 8, 2) := by decide +kernel
theorem dX10_advance_101 : decode cX10_advance 101 = .ok (.if_icmp .le 7, 3) := by decide +kernel
theorem dX10_advance_104 : decode cX10_advance 104 = .ok (.iconst 4, 1) := by decide +kernel
theorem dX10_advance_105 : decode cX10_advance 105 = .ok (.goto 4, 3) := by decide +kernel
theorem dX10_advance_108 : decode cX10_advance 108 = .ok (.iconst 1, 1) := by decide +kernel
theorem dX10_advance_109 : decode cX10_advance 109 = .ok (.putfield 84, 3) := by decide +kernel
theorem dX10_advance_112 : decode cX10_advance 112 = .ok (.goto 138, 3) := by decide +kernel
theorem dX10_advance_115 : decode cX10_advance 115 = .ok (.iload_n 1, 1) := by decide +kernel
theorem dX10_advance_116 : decode cX10_advance 116 = .ok (.bipush 48, 2) := by decide +kernel
theorem dX10_advance_118 : decode cX10_advance 118 = .ok (.bipush 57, 2) := by decide +kernel
theorem dX10_advance_120 : decode cX10_advance 120 = .ok (.invokestatic 74, 3) := by decide +kernel
theorem dX10_advance_123 : decode cX10_advance 123 = .ok (.ifCond .eq 102, 3) := by decide +kernel
theorem dX10_advance_126 : decode cX10_advance 126 = .ok (.aload_n 0, 1) := by decide +kernel
theorem dX10_advance_127 : decode cX10_advance 127 = .ok (.aload_n 0, 1) := by decide +kernel
theorem dX10_advance_128 : decode cX10_advance 128 = .ok (.getfield 67, 3) := by decide +kernel
theorem dX10_advance_131 : decode cX10_advance 131 = .ok (.invokevirtual 70, 3) := by decide +kernel
theorem dX10_advance_134 : decode cX10_advance 134 = .ok (.bipush 48, 2) := by decide +kernel
theorem dX10_advance_136 : decode cX10_advance 136 = .ok (.bipush 57, 2) := by decide +kernel
theorem dX10_advance_138 : decode cX10_advance 138 = .ok (.invokestatic 74, 3) := by decide +kernel
theorem dX10_advance_141 : decode cX10_advance 141 = .ok (.ifCond .eq 59, 3) := by decide +kernel
theorem dX10_advance_144 : decode cX10_advance 144 = .ok (.aload_n 0, 1) := by decide +kernel
theorem dX10_advance_145 : decode cX10_advance 145 = .ok (.aload_n 0, 1) := by decide +kernel
theorem dX10_advance_146 : decode cX10_advance 146 = .ok (.getfield 67, 3) := by decide +kernel
theorem dX10_advance_149 : decode cX10_advance 149 = .ok (.aload_n 0, 1) := by decide +kernel
theorem dX10_advance_150 : decode cX10_advance 150 = .ok (.getfield 78, 3) := by decide +kernel
theorem dX10_advance_153 : decode cX10_advance 153 = .ok (.isub, 1) := by decide +kernel
theorem dX10_advance_154 : decode cX10_advance 154 = .ok (.iconst 3, 1) := by decide +kernel
theorem dX10_advance_155 : decode cX10_advance 155 = .ok (.if_icmp .ge 25, 3) := by decide +kernel
theorem dX10_advance_158 : decode cX10_advance 158 = .ok (.bipush 10, 2) := by decide +kernel
theorem dX10_advance_160 : decode cX10_advance 160 = .ok (.aload_n 0, 1) := by decide +kernel
theorem dX10_advance_161 : decode cX10_advance 161 = .ok (.getfield 81, 3) := by decide +kernel
theorem dX10_advance_164 : decode cX10_advance 164 = .ok (.imul, 1) := by decide +kernel
theorem dX10_advance_165 : decode cX10_advance 165 = .ok (.aload_n 0, 1) := by decide +kernel
theorem dX10_advance_166 : decode cX10_advance 166 = .ok (.aload_n 0, 1) := by decide +kernel
theorem dX10_advance_167 : decode cX10_advance 167 = .ok (.getfield 67, 3) := by decide +kernel
theorem dX10_advance_170 : decode cX10_advance 170 = .ok (.invokevirtual 70, 3) := by decide +kernel
theorem dX10_advance_173 : decode cX10_advance 173 = .ok (.iadd, 1) := by decide +kernel
theorem dX10_advance_174 : decode cX10_advance 174 = .ok (.bipush 48, 2) := by decide +kernel
theorem dX10_advance_176 : decode cX10_advance 176 = .ok (.isub, 1) := by decide +kernel
theorem dX10_advance_177 : decode cX10_advance 177 = .ok (.goto 7, 3) := by decide +kernel
theorem dX10_advance_180 : decode cX10_advance 180 = .ok (.aload_n 0, 1) := by decide +kernel
theorem dX10_advance_181 : decode cX10_advance 181 = .ok (.getfield 81, 3) := by decide +kernel
theorem dX10_advance_184 : decode cX10_advance 184 = .ok (.putfield 81, 3) := by decide +kernel
theorem dX10_advance_187 : decode cX10_advance 187 = .ok (.aload_n 0, 1) := by decide +kernel
theorem dX10_advance_188 : decode cX10_advance 188 = .ok (.dup, 1) := by decide +kernel
theorem dX10_advance_189 : decode cX10_advance 189 = .ok (.getfield 67, 3) := by decide +kernel
theorem dX10_advance_192 : decode cX10_advance 192 = .ok (.iconst 1, 1) := by decide +kernel
theorem dX10_advance_193 : decode cX10_advance 193 = .ok (.iadd, 1) := by decide +kernel
theorem dX10_advance_194 : decode cX10_advance 194 = .ok (.putfield 67, 3) := by decide +kernel
theorem dX10_advance_197 : decode cX10_advance 197 = .ok (.goto (-71), 3) := by decide +kernel
theorem dX10_advance_200 : decode cX10_advance 200 = .ok (.aload_n 0, 1) := by decide +kernel
theorem dX10_advance_201 : decode cX10_advance 201 = .ok (.aload_n 0, 1) := by decide +kernel
theorem dX10_advance_202 : decode cX10_advance 202 = .ok (.getfield 67, 3) := by decide +kernel
theorem dX10_advance_205 : decode cX10_advance 205 = .ok (.aload_n 0, 1) := by decide +kernel
theorem dX10_advance_206 : decode cX10_advance 206 = .ok (.getfield 78, 3) := by decide +kernel
theorem dX10_advance_209 : decode cX10_advance 209 = .ok (.isub, 1) := by decide +kernel
theorem dX10_advance_210 : decode cX10_advance 210 = .ok (.iconst 3, 1) := by decide +kernel
theorem dX10_advance_211 : decode cX10_advance 211 = .ok (.if_icmp .le 7, 3) := by decide +kernel
theorem dX10_advance_214 : decode cX10_advance 214 = .ok (.iconst 4, 1) := by decide +kernel
theorem dX10_advance_215 : decode cX10_advance 215 = .ok (.goto 4, 3) := by decide +kernel
theorem dX10_advance_218 : decode cX10_advance 218 = .ok (.iconst 2, 1) := by decide +kernel
theorem dX10_advance_219 : decode cX10_advance 219 = .ok (.putfield 84, 3) := by decide +kernel
theorem dX10_advance_222 : decode cX10_advance 222 = .ok (.goto 28, 3) := by decide +kernel
theorem dX10_advance_225 : decode cX10_advance 225 = .ok (.aload_n 0, 1) := by decide +kernel
theorem dX10_advance_226 : decode cX10_advance 226 = .ok (.dup, 1) := by decide +kernel
theorem dX10_advance_227 : decode cX10_advance 227 = .ok (.getfield 67, 3) := by decide +kernel
theorem dX10_advance_230 : decode cX10_advance 230 = .ok (.iconst 1, 1) := by decide +kernel
theorem dX10_advance_231 : decode cX10_advance 231 = .ok (.iadd, 1) := by decide +kernel
theorem dX10_advance_232 : decode cX10_advance 232 = .ok (.putfield 67, 3) := by decide +kernel
theorem dX10_advance_235 : decode cX10_advance 235 = .ok (.aload_n 0, 1) := by decide +kernel
theorem dX10_advance_236 : decode cX10_advance 236 = .ok (.iload_n 1, 1) := by decide +kernel
theorem dX10_advance_237 : decode cX10_advance 237 = .ok (.bipush 59, 2) := by decide +kernel
theorem dX10_advance_239 : decode cX10_advance 239 = .ok (.if_icmp .ne 7, 3) := by decide +kernel
