theorem dX4_init_0 : decode cX4_init 0 = .ok (.aload_n 0, 1) := by decide +kernel
theorem dX4_init_1 : decode cX4_init 1 = .ok (.invokespecial 1, 3) := by decide +kernel
theorem dX4_init_4 : decode cX4_init 4 = .ok (.aload_n 0, 1) := by decide +kernel
theorem dX4_init_5 : decode cX4_init 5 = .ok (.new 7, 3) := by decide +kernel
theorem dX4_init_8 : decode cX4_init 8 = .ok (.dup, 1) := by decide +kernel
theorem dX4_init_9 : decode cX4_init 9 = .ok (.invokespecial 9, 3) := by decide +kernel
theorem dX4_init_12 : decode cX4_init 12 = .ok (.putfield 10, 3) := by decide +kernel
theorem dX4_init_15 : decode cX4_init 15 = .ok (.aload_n 0, 1) := by decide +kernel
theorem dX4_init_16 : decode cX4_init 16 = .ok (.new 16, 3) := by decide +kernel
theorem dX4_init_19 : decode cX4_init 19 = .ok (.dup, 1) := by decide +kernel
theorem dX4_init_20 : decode cX4_init 20 = .ok (.invokespecial 18, 3) := by decide +kernel
theorem dX4_init_23 : decode cX4_init 23 = .ok (.putfield 19, 3) := by decide +kernel
theorem dX4_init_26 : decode cX4_init 26 = .ok (.aload_n 0, 1) := by decide +kernel
theorem dX4_init_27 : decode cX4_init 27 = .ok (.new 7, 3) := by decide +kernel
theorem dX4_init_30 : decode cX4_init 30 = .ok (.dup, 1) := by decide +kernel
theorem dX4_init_31 : decode cX4_init 31 = .ok (.invokespecial 9, 3) := by decide +kernel
theorem dX4_init_34 : decode cX4_init 34 = .ok (.putfield 23, 3) := by decide +kernel
theorem dX4_init_37 : decode cX4_init 37 = .ok (.aload_n 0, 1) := by decide +kernel
theorem dX4_init_38 : decode cX4_init 38 = .ok (.new 16, 3) := by decide +kernel
theorem dX4_init_41 : decode cX4_init 41 = .ok (.dup, 1) := by decide +kernel
theorem dX4_init_42 : decode cX4_init 42 = .ok (.invokespecial 18, 3) := by decide +kernel
theorem dX4_init_45 : decode cX4_init 45 = .ok (.putfield 26, 3) := by decide +kernel
theorem dX4_init_48 : decode cX4_init 48 = .ok (.aload_n 0, 1) := by decide +kernel
theorem dX4_init_49 : decode cX4_init 49 = .ok (.new 29, 3) := by decide +kernel
theorem dX4_init_52 : decode cX4_init 52 = .ok (.dup, 1) := by decide +kernel
theorem dX4_init_53 : decode cX4_init 53 = .ok (.invokespecial 31, 3) := by decide +kernel
theorem dX4_init_56 : decode cX4_init 56 = .ok (.putfield 32, 3) := by decide +kernel
theorem dX4_init_59 : decode cX4_init 59 = .ok (.aload_n 0, 1) := by decide +kernel
theorem dX4_init_60 : decode cX4_init 60 = .ok (.iconst 4, 1) := by decide +kernel
theorem dX4_init_61 : decode cX4_init 61 = .ok (.anewarray 36, 3) := by decide +kernel
theorem dX4_init_64 : decode cX4_init 64 = .ok (.putfield 38, 3) := by decide +kernel
theorem dX4_init_67 : decode cX4_init 67 = .ok (.aload_n 0, 1) := by decide +kernel
theorem dX4_init_68 : decode cX4_init 68 = .ok (.new 7, 3) := by decide +kernel
theorem dX4_init_71 : decode cX4_init 71 = .ok (.dup, 1) := by decide +kernel
theorem dX4_init_72 : decode cX4_init 72 = .ok (.invokespecial 9, 3) := by decide +kernel
theorem dX4_init_75 : decode cX4_init 75 = .ok (.putfield 42, 3) := by decide +kernel
theorem dX4_init_78 : decode cX4_init 78 = .ok (.aload_n 0, 1) := by decide +kernel
theorem dX4_init_79 : decode cX4_init 79 = .ok (.iconst 0, 1) := by decide +kernel
theorem dX4_init_80 : decode cX4_init 80 = .ok (.putfield 45, 3) := by decide +kernel
theorem dX4_init_83 : decode cX4_init 83 = .ok (.iconst 0, 1) := by decide +kernel
theorem dX4_init_84 : decode cX4_init 84 = .ok (.istore_n 1, 1) := by decide +kernel
theorem dX4_init_85 : decode cX4_init 85 = .ok (.iload_n 1, 1) := by decide +kernel
theorem dX4_init_86 : decode cX4_init 86 = .ok (.iconst 4, 1) := by decide +kernel
theorem dX4_init_87 : decode cX4_init 87 = .ok (.if_icmp .ge 22, 3) := by decide +kernel
theorem dX4_init_90 : decode cX4_init 90 = .ok (.aload_n 0, 1) := by decide +kernel
theorem dX4_init_91 : decode cX4_init 91 = .ok (.getfield 38, 3) := by decide +kernel
theorem dX4_init_94 : decode cX4_init 94 = .ok (.iload_n 1, 1) := by decide +kernel
theorem dX4_init_95 : decode cX4_init 95 = .ok (.new 36, 3) := by decide +kernel
theorem dX4_init_98 : decode cX4_init 98 = .ok (.dup, 1) := by decide +kernel
theorem dX4_init_99 : decode cX4_init 99 = .ok (.invokespecial 49, 3) := by decide +kernel
theorem dX4_init_102 : decode cX4_init 102 = .ok (.aastore, 1) := by decide +kernel
theorem dX4_init_103 : decode cX4_init 103 = .ok (.iinc 1 1, 3) := by decide +kernel
theorem dX4_init_106 : decode cX4_init 106 = .ok (.goto (-21), 3) := by decide +kernel
theorem dX4_init_109 : decode cX4_init 109 = .ok (.return_, 1) := by decide +kernel
theorem dX4_couple_0 : decode cX4_couple 0 = .ok (.iload_n 1, 1) := by decide +kernel
theorem dX4_couple_1 : decode cX4_couple 1 = .ok (.iconst 0, 1) := by decide +kernel
theorem dX4_couple_2 : decode cX4_couple 2 = .ok (.iconst 4, 1) := by decide +kernel
theorem dX4_couple_3 : decode cX4_couple 3 = .ok (.invokestatic 50, 3) := by decide +kernel
theorem dX4_couple_6 : decode cX4_couple 6 = .ok (.ifCond .eq 13, 3) := by decide +kernel
theorem dX4_couple_9 : decode cX4_couple 9 = .ok (.iload_n 2, 1) := by decide +kernel
theorem dX4_couple_10 : decode cX4_couple 10 = .ok (.iconst 0, 1) := by decide +kernel
theorem dX4_couple_11 : decode cX4_couple 11 = .ok (.bipush 80, 2) := by decide +kernel
theorem dX4_couple_13 : decode cX4_couple 13 = .ok (.invokestatic 50, 3) := by decide +kernel
theorem dX4_couple_16 : decode cX4_couple 16 = .ok (.ifCond .ne 5, 3) := by decide +kernel
theorem dX4_couple_19 : decode cX4_couple 19 = .ok (.iconst (-1), 1) := by decide +kernel
theorem dX4_couple_20 : decode cX4_couple 20 = .ok (.ireturn, 1) := by decide +kernel
theorem dX4_couple_21 : decode cX4_couple 21 = .ok (.aload_n 0, 1) := by decide +kernel
theorem dX4_couple_22 : decode cX4_couple 22 = .ok (.getfield 10, 3) := by decide +kernel
theorem dX4_couple_25 : decode cX4_couple 25 = .ok (.getfield 54, 3) := by decide +kernel
theorem dX4_couple_28 : decode cX4_couple 28 = .ok (.bipush 7, 2) := by decide +kernel
theorem dX4_couple_30 : decode cX4_couple 30 = .ok (.if_icmp .lt 6, 3) := by decide +kernel
theorem dX4_couple_33 : decode cX4_couple 33 = .ok (.bipush (-3), 2) := by decide +kernel
theorem dX4_couple_35 : decode cX4_couple 35 = .ok (.ireturn, 1) := by decide +kernel
theorem dX4_couple_36 : decode cX4_couple 36 = .ok (.aload_n 0, 1) := by decide +kernel
theorem dX4_couple_37 : decode cX4_couple 37 = .ok (.getfield 19, 3) := by decide +kernel
theorem dX4_couple_40 : decode cX4_couple 40 = .ok (.invokevirtual 58, 3) := by decide +kernel
theorem dX4_couple_43 : decode cX4_couple 43 = .ok (.aload_n 0, 1) := by decide +kernel
theorem dX4_couple_44 : decode cX4_couple 44 = .ok (.getfield 10, 3) := by decide +kernel
theorem dX4_couple_47 : decode cX4_couple 47 = .ok (.iload_n 1, 1) := by decide +kernel
theorem dX4_couple_48 : decode cX4_couple 48 = .ok (.iload_n 2, 1) := by decide +kernel
theorem dX4_couple_49 : decode cX4_couple 49 = .ok (.bipush 40, 2) := by decide +kernel
theorem dX4_couple_51 : decode cX4_couple 51 = .ok (.iconst 0, 1) := by decide +kernel
theorem dX4_couple_52 : decode cX4_couple 52 = .ok (.iconst 1, 1) := by decide +kernel
theorem dX4_couple_53 : decode cX4_couple 53 = .ok (.invokevirtual 61, 3) := by decide +kernel
theorem dX4_couple_56 : decode cX4_couple 56 = .ok (.ireturn, 1) := by decide +kernel
theorem dX4_of_0 : decode cX4_of 0 = .ok (.aload_n 0, 1) := by decide +kernel
theorem dX4_of_1 : decode cX4_of 1 = .ok (.iload_n 1, 1) := by decide +kernel
theorem dX4_of_2 : decode cX4_of 2 = .ok (.invokevirtual 65, 3) := by decide +kernel
theorem dX4_of_5 : decode cX4_of 5 = .ok (.ifCond .ne 5, 3) := by decide +kernel
theorem dX4_of_8 : decode cX4_of 8 = .ok (.iconst (-1), 1) := by decide +kernel
theorem dX4_of_9 : decode cX4_of 9 = .ok (.ireturn, 1) := by decide +kernel
theorem dX4_of_10 : decode cX4_of 10 = .ok (.iload_n 2, 1) := by decide +kernel
theorem dX4_of_11 : decode cX4_of 11 = .ok (.tableswitch 106 0 5 #[37, 47, 57, 67, 77, 94], 37) := by decide +kernel
theorem dX4_of_48 : decode cX4_of 48 = .ok (.aload_n 0, 1) := by decide +kernel
theorem dX4_of_49 : decode cX4_of 49 = .ok (.getfield 10, 3) := by decide +kernel
theorem dX4_of_52 : decode cX4_of 52 = .ok (.getfield 69, 3) := by decide +kernel
theorem dX4_of_55 : decode cX4_of 55 = .ok (.iload_n 1, 1) := by decide +kernel
theorem dX4_of_56 : decode cX4_of 56 = .ok (.iaload, 1) := by decide +kernel
theorem dX4_of_57 : decode cX4_of 57 = .ok (.ireturn, 1) := by decide +kernel
theorem dX4_of_58 : decode cX4_of 58 = .ok (.aload_n 0, 1) := by decide +kernel
theorem dX4_of_59 : decode cX4_of 59 = .ok (.getfield 10, 3) := by decide +kernel
theorem dX4_of_62 : decode cX4_of 62 = .ok (.getfield 73, 3) := by decide +kernel
theorem dX4_of_65 : decode cX4_of 65 = .ok (.iload_n 1, 1) := by decide +kernel
theorem dX4_of_66 : decode cX4_of 66 = .ok (.iaload, 1) := by decide +kernel
theorem dX4_of_67 : decode cX4_of 67 = .ok (.ireturn, 1) := by decide +kernel
theorem dX4_of_68 : decode cX4_of 68 = .ok (.aload_n 0, 1) := by decide +kernel
theorem dX4_of_69 : decode cX4_of 69 = .ok (.getfield 10, 3) := by decide +kernel
theorem dX4_of_72 : decode cX4_of 72 = .ok (.getfield 76, 3) := by decide +kernel
theorem dX4_of_75 : decode cX4_of 75 = .ok (.iload_n 1, 1) := by decide +kernel
theorem dX4_of_76 : decode cX4_of 76 = .ok (.iaload, 1) := by decide +kernel
theorem dX4_of_77 : decode cX4_of 77 = .ok (.ireturn, 1) := by decide +kernel
theorem dX4_of_78 : decode cX4_of 78 = .ok (.aload_n 0, 1) := by decide +kernel
theorem dX4_of_79 : decode cX4_of 79 = .ok (.getfield 10, 3) := by decide +kernel
theorem dX4_of_82 : decode cX4_of 82 = .ok (.getfield 79, 3) := by decide +kernel
theorem dX4_of_85 : decode cX4_of 85 = .ok (.iload_n 1, 1) := by decide +kernel
theorem dX4_of_86 : decode cX4_of 86 = .ok (.iaload, 1) := by decide +kernel
theorem dX4_of_87 : decode cX4_of 87 = .ok (.ireturn, 1) := by decide +kernel
theorem dX4_of_88 : decode cX4_of 88 = .ok (.aload_n 0, 1) := by decide +kernel
theorem dX4_of_89 : decode cX4_of 89 = .ok (.getfield 10, 3) := by decide +kernel
theorem dX4_of_92 : decode cX4_of 92 = .ok (.iload_n 1, 1) := by decide +kernel
theorem dX4_of_93 : decode cX4_of 93 = .ok (.invokevirtual 82, 3) := by decide +kernel
theorem dX4_of_96 : decode cX4_of 96 = .ok (.ifCond .eq 7, 3) := by decide +kernel
theorem dX4_of_99 : decode cX4_of 99 = .ok (.iconst 0, 1) := by decide +kernel
theorem dX4_of_100 : decode cX4_of 100 = .ok (.goto 4, 3) := by decide +kernel
theorem dX4_of_103 : decode cX4_of 103 = .ok (.iconst 1, 1) := by decide +kernel
theorem dX4_of_104 : decode cX4_of 104 = .ok (.ireturn, 1) := by decide +kernel
theorem dX4_of_105 : decode cX4_of 105 = .ok (.aload_n 0, 1) := by decide +kernel
theorem dX4_of_106 : decode cX4_of 106 = .ok (.getfield 10, 3) := by decide +kernel
theorem dX4_of_109 : decode cX4_of 109 = .ok (.iload_n 1, 1) := by decide +kernel
theorem dX4_of_110 : decode cX4_of 110 = .ok (.invokevirtual 85, 3) := by decide +kernel
theorem dX4_of_113 : decode cX4_of 113 = .ok (.bipush 10, 2) := by decide +kernel
theorem dX4_of_115 : decode cX4_of 115 = .ok (.iadd, 1) := by decide +kernel
theorem dX4_of_116 : decode cX4_of 116 = .ok (.ireturn, 1) := by decide +kernel
theorem dX4_of_117 : decode cX4_of 117 = .ok (.iconst (-1), 1) := by decide +kernel
theorem dX4_of_118 : decode cX4_of 118 = .ok (.ireturn, 1) := by decide +kernel
theorem dX4_type_0 : decode cX4_type 0 = .ok (.iload_n 1, 1) := by decide +kernel
theorem dX4_type_1 : decode cX4_type 1 = .ok (.bipush 32, 2) := by decide +kernel
theorem dX4_type_3 : decode cX4_type 3 = .ok (.bipush 126, 2) := by decide +kernel
theorem dX4_type_5 : decode cX4_type 5 = .ok (.invokestatic 50, 3) := by decide +kernel
theorem dX4_type_8 : decode cX4_type 8 = .ok (.ifCond .ne 5, 3) := by decide +kernel
theorem dX4_type_11 : decode cX4_type 11 = .ok (.iconst (-1), 1) := by decide +kernel
theorem dX4_type_12 : decode cX4_type 12 = .ok (.ireturn, 1) := by decide +kernel
theorem dX4_type_13 : decode cX4_type 13 = .ok (.aload_n 0, 1) := by decide +kernel
theorem dX4_type_14 : decode cX4_type 14 = .ok (.getfield 32, 3) := by decide +kernel
theorem dX4_type_17 : decode cX4_type 17 = .ok (.getfield 89, 3) := by decide +kernel
theorem dX4_type_20 : decode cX4_type 20 = .ok (.bipush 80, 2) := by decide +kernel
theorem dX4_type_22 : decode cX4_type 22 = .ok (.if_icmp .lt 6, 3) := by decide +kernel
theorem dX4_type_25 : decode cX4_type 25 = .ok (.bipush (-3), 2) := by decide +kernel
theorem dX4_type_27 : decode cX4_type 27 = .ok (.ireturn, 1) := by decide +kernel
theorem dX4_type_28 : decode cX4_type 28 = .ok (.aload_n 0, 1) := by decide +kernel
theorem dX4_type_29 : decode cX4_type 29 = .ok (.getfield 32, 3) := by decide +kernel
theorem dX4_type_32 : decode cX4_type 32 = .ok (.iload_n 1, 1) := by decide +kernel
theorem dX4_type_33 : decode cX4_type 33 = .ok (.invokevirtual 90, 3) := by decide +kernel
theorem dX4_type_36 : decode cX4_type 36 = .ok (.ireturn, 1) := by decide +kernel
theorem dX4_town_0 : decode cX4_town 0 = .ok (.aload_n 0, 1) := by decide +kernel
theorem dX4_town_1 : decode cX4_town 1 = .ok (.getfield 42, 3) := by decide +kernel
theorem dX4_town_4 : decode cX4_town 4 = .ok (.invokevirtual 93, 3) := by decide +kernel
theorem dX4_town_7 : decode cX4_town 7 = .ok (.aload_n 0, 1) := by decide +kernel
theorem dX4_town_8 : decode cX4_town 8 = .ok (.getfield 32, 3) := by decide +kernel
theorem dX4_town_11 : decode cX4_town 11 = .ok (.aload_n 0, 1) := by decide +kernel
theorem dX4_town_12 : decode cX4_town 12 = .ok (.getfield 42, 3) := by decide +kernel
theorem dX4_town_15 : decode cX4_town 15 = .ok (.invokevirtual 96, 3) := by decide +kernel
theorem dX4_town_18 : decode cX4_town 18 = .ok (.istore_n 1, 1) := by decide +kernel
theorem dX4_town_19 : decode cX4_town 19 = .ok (.aload_n 0, 1) := by decide +kernel
theorem dX4_town_20 : decode cX4_town 20 = .ok (.getfield 32, 3) := by decide +kernel
theorem dX4_town_23 : decode cX4_town 23 = .ok (.iconst 0, 1) := by decide +kernel
theorem dX4_town_24 : decode cX4_town 24 = .ok (.putfield 89, 3) := by decide +kernel
theorem dX4_town_27 : decode cX4_town 27 = .ok (.iload_n 1, 1) := by decide +kernel
theorem dX4_town_28 : decode cX4_town 28 = .ok (.ifCond .ne 14, 3) := by decide +kernel
theorem dX4_town_31 : decode cX4_town 31 = .ok (.bipush (-20), 2) := by decide +kernel
theorem dX4_town_33 : decode cX4_town 33 = .ok (.aload_n 0, 1) := by decide +kernel
theorem dX4_town_34 : decode cX4_town 34 = .ok (.getfield 32, 3) := by decide +kernel
theorem dX4_town_37 : decode cX4_town 37 = .ok (.getfield 100, 3) := by decide +kernel
theorem dX4_town_40 : decode cX4_town 40 = .ok (.isub, 1) := by decide +kernel
theorem dX4_town_41 : decode cX4_town 41 = .ok (.ireturn, 1) := by decide +kernel
theorem dX4_town_42 : decode cX4_town 42 = .ok (.aload_n 0, 1) := by decide +kernel
theorem dX4_town_43 : decode cX4_town 43 = .ok (.getfield 42, 3) := by decide +kernel
theorem dX4_town_46 : decode cX4_town 46 = .ok (.aload_n 0, 1) := by decide +kernel
theorem dX4_town_47 : decode cX4_town 47 = .ok (.getfield 10, 3) := by decide +kernel
theorem dX4_town_50 : decode cX4_town 50 = .ok (.getfield 103, 3) := by decide +kernel
theorem dX4_town_53 : decode cX4_town 53 = .ok (.putfield 103, 3) := by decide +kernel
theorem dX4_town_56 : decode cX4_town 56 = .ok (.aload_n 0, 1) := by decide +kernel
theorem dX4_town_57 : decode cX4_town 57 = .ok (.getfield 10, 3) := by decide +kernel
theorem dX4_town_60 : decode cX4_town 60 = .ok (.aload_n 0, 1) := by decide +kernel
theorem dX4_town_61 : decode cX4_town 61 = .ok (.getfield 42, 3) := by decide +kernel
theorem dX4_town_64 : decode cX4_town 64 = .ok (.invokevirtual 106, 3) := by decide +kernel
theorem dX4_town_67 : decode cX4_town 67 = .ok (.aload_n 0, 1) := by decide +kernel
theorem dX4_town_68 : decode cX4_town 68 = .ok (.getfield 19, 3) := by decide +kernel
theorem dX4_town_71 : decode cX4_town 71 = .ok (.invokevirtual 58, 3) := by decide +kernel
theorem dX4_town_74 : decode cX4_town 74 = .ok (.aload_n 0, 1) := by decide +kernel
theorem dX4_town_75 : decode cX4_town 75 = .ok (.getfield 10, 3) := by decide +kernel
theorem dX4_town_78 : decode cX4_town 78 = .ok (.getfield 54, 3) := by decide +kernel
theorem dX4_town_81 : decode cX4_town 81 = .ok (.ireturn, 1) := by decide +kernel
theorem dX4_count_0 : decode cX4_count 0 = .ok (.iload_n 1, 1) := by decide +kernel
theorem dX4_count_1 : decode cX4_count 1 = .ok (.tableswitch 106 0 6 #[43, 51, 59, 67, 82, 90, 98], 43) := by decide +kernel
theorem dX4_count_44 : decode cX4_count 44 = .ok (.aload_n 0, 1) := by decide +kernel
theorem dX4_count_45 : decode cX4_count 45 = .ok (.getfield 10, 3) := by decide +kernel
theorem dX4_count_48 : decode cX4_count 48 = .ok (.getfield 54, 3) := by decide +kernel
theorem dX4_count_51 : decode cX4_count 51 = .ok (.ireturn, 1) := by decide +kernel
theorem dX4_count_52 : decode cX4_count 52 = .ok (.aload_n 0, 1) := by decide +kernel
theorem dX4_count_53 : decode cX4_count 53 = .ok (.getfield 10, 3) := by decide +kernel
theorem dX4_count_56 : decode cX4_count 56 = .ok (.getfield 110, 3) := by decide +kernel
theorem dX4_count_59 : decode cX4_count 59 = .ok (.ireturn, 1) := by decide +kernel
theorem dX4_count_60 : decode cX4_count 60 = .ok (.aload_n 0, 1) := by decide +kernel
theorem dX4_count_61 : decode cX4_count 61 = .ok (.getfield 10, 3) := by decide +kernel
theorem dX4_count_64 : decode cX4_count 64 = .ok (.invokevirtual 113, 3) := by decide +kernel
theorem dX4_count_67 : decode cX4_count 67 = .ok (.ireturn, 1) := by decide +kernel
theorem dX4_count_68 : decode cX4_count 68 = .ok (.aload_n 0, 1) := by decide +kernel
theorem dX4_count_69 : decode cX4_count 69 = .ok (.getfield 10, 3) := by decide +kernel
theorem dX4_count_72 : decode cX4_count 72 = .ok (.aload_n 0, 1) := by decide +kernel
theorem dX4_count_73 : decode cX4_count 73 = .ok (.getfield 10, 3) := by decide +kernel
theorem dX4_count_76 : decode cX4_count 76 = .ok (.invokevirtual 113, 3) := by decide +kernel
theorem dX4_count_79 : decode cX4_count 79 = .ok (.invokevirtual 117, 3) := by decide +kernel
theorem dX4_count_82 : decode cX4_count 82 = .ok (.ireturn, 1) := by decide +kernel
theorem dX4_count_83 : decode cX4_count 83 = .ok (.aload_n 0, 1) := by decide +kernel
theorem dX4_count_84 : decode cX4_count 84 = .ok (.getfield 10, 3) := by decide +kernel
theorem dX4_count_87 : decode cX4_count 87 = .ok (.getfield 120, 3) := by decide +kernel
theorem dX4_count_90 : decode cX4_count 90 = .ok (.ireturn, 1) := by decide +kernel
theorem dX4_count_91 : decode cX4_count 91 = .ok (.aload_n 0, 1) := by decide +kernel
theorem dX4_count_92 : decode cX4_count 92 = .ok (.getfield 10, 3) := by decide +kernel
theorem dX4_count_95 : decode cX4_count 95 = .ok (.invokevirtual 123, 3) := by decide +kernel
theorem dX4_count_98 : decode cX4_count 98 = .ok (.ireturn, 1) := by decide +kernel
theorem dX4_count_99 : decode cX4_count 99 = .ok (.aload_n 0, 1) := by decide +kernel
theorem dX4_count_100 : decode cX4_count 100 = .ok (.getfield 19, 3) := by decide +kernel
theorem dX4_count_103 : decode cX4_count 103 = .ok (.getfield 126, 3) := by decide +kernel
theorem dX4_count_106 : decode cX4_count 106 = .ok (.ireturn, 1) := by decide +kernel
theorem dX4_count_107 : decode cX4_count 107 = .ok (.iconst (-1), 1) := by decide +kernel
theorem dX4_count_108 : decode cX4_count 108 = .ok (.ireturn, 1) := by decide +kernel
theorem dX4_years_0 : decode cX4_years 0 = .ok (.iload_n 1, 1) := by decide +kernel
theorem dX4_years_1 : decode cX4_years 1 = .ok (.iconst 1, 1) := by decide +kernel
theorem dX4_years_2 : decode cX4_years 2 = .ok (.bipush 40, 2) := by decide +kernel
theorem dX4_years_4 : decode cX4_years 4 = .ok (.invokestatic 50, 3) := by decide +kernel
theorem dX4_years_7 : decode cX4_years 7 = .ok (.ifCond .ne 5, 3) := by decide +kernel
theorem dX4_years_10 : decode cX4_years 10 = .ok (.iconst (-1), 1) := by decide +kernel
theorem dX4_years_11 : decode cX4_years 11 = .ok (.ireturn, 1) := by decide +kernel
theorem dX4_years_12 : decode cX4_years 12 = .ok (.aload_n 0, 1) := by decide +kernel
theorem dX4_years_13 : decode cX4_years 13 = .ok (.getfield 10, 3) := by decide +kernel
theorem dX4_years_16 : decode cX4_years 16 = .ok (.getfield 110, 3) := by decide +kernel
theorem dX4_years_19 : decode cX4_years 19 = .ok (.iload_n 1, 1) := by decide +kernel
theorem dX4_years_20 : decode cX4_years 20 = .ok (.iadd, 1) := by decide +kernel
theorem dX4_years_21 : decode cX4_years 21 = .ok (.sipush 9999, 3) := by decide +kernel
theorem dX4_years_24 : decode cX4_years 24 = .ok (.if_icmp .le 6, 3) := by decide +kernel
theorem dX4_years_27 : decode cX4_years 27 = .ok (.bipush (-3), 2) := by decide +kernel
theorem dX4_years_29 : decode cX4_years 29 = .ok (.ireturn, 1) := by decide +kernel
theorem dX4_years_30 : decode cX4_years 30 = .ok (.iconst 0, 1) := by decide +kernel
theorem dX4_years_31 : decode cX4_years 31 = .ok (.istore_n 2, 1) := by decide +kernel
theorem dX4_years_32 : decode cX4_years 32 = .ok (.iload_n 2, 1) := by decide +kernel
theorem dX4_years_33 : decode cX4_years 33 = .ok (.iload_n 1, 1) := by decide +kernel
theorem dX4_years_34 : decode cX4_years 34 = .ok (.if_icmp .ge 27, 3) := by decide +kernel
theorem dX4_years_37 : decode cX4_years 37 = .ok (.aload_n 0, 1) := by decide +kernel
theorem dX4_years_38 : decode cX4_years 38 = .ok (.getfield 19, 3) := by decide +kernel
theorem dX4_years_41 : decode cX4_years 41 = .ok (.aload_n 0, 1) := by decide +kernel
theorem dX4_years_42 : decode cX4_years 42 = .ok (.getfield 10, 3) := by decide +kernel
theorem dX4_years_45 : decode cX4_years 45 = .ok (.invokevirtual 127, 3) := by decide +kernel
theorem dX4_years_48 : decode cX4_years 48 = .ok (.aload_n 0, 1) := by decide +kernel
theorem dX4_years_49 : decode cX4_years 49 = .ok (.getfield 10, 3) := by decide +kernel
theorem dX4_years_52 : decode cX4_years 52 = .ok (.invokevirtual 130, 3) := by decide +kernel
theorem dX4_years_55 : decode cX4_years 55 = .ok (.iinc 2 1, 3) := by decide +kernel
theorem dX4_years_58 : decode cX4_years 58 = .ok (.goto (-26), 3) := by decide +kernel
theorem dX4_years_61 : decode cX4_years 61 = .ok (.aload_n 0, 1) := by decide +kernel
theorem dX4_years_62 : decode cX4_years 62 = .ok (.getfield 10, 3) := by decide +kernel
theorem dX4_years_65 : decode cX4_years 65 = .ok (.invokevirtual 113, 3) := by decide +kernel
theorem dX4_years_68 : decode cX4_years 68 = .ok (.ireturn, 1) := by decide +kernel
theorem dX4_nurse_0 : decode cX4_nurse 0 = .ok (.aload_n 0, 1) := by decide +kernel
theorem dX4_nurse_1 : decode cX4_nurse 1 = .ok (.iload_n 1, 1) := by decide +kernel
theorem dX4_nurse_2 : decode cX4_nurse 2 = .ok (.invokevirtual 65, 3) := by decide +kernel
theorem dX4_nurse_5 : decode cX4_nurse 5 = .ok (.ifCond .eq 13, 3) := by decide +kernel
theorem dX4_nurse_8 : decode cX4_nurse 8 = .ok (.iload_n 2, 1) := by decide +kernel
theorem dX4_nurse_9 : decode cX4_nurse 9 = .ok (.iconst 1, 1) := by decide +kernel
theorem dX4_nurse_10 : decode cX4_nurse 10 = .ok (.bipush 19, 2) := by decide +kernel
theorem dX4_nurse_12 : decode cX4_nurse 12 = .ok (.invokestatic 50, 3) := by decide +kernel
theorem dX4_nurse_15 : decode cX4_nurse 15 = .ok (.ifCond .ne 5, 3) := by decide +kernel
theorem dX4_nurse_18 : decode cX4_nurse 18 = .ok (.iconst (-1), 1) := by decide +kernel
theorem dX4_nurse_19 : decode cX4_nurse 19 = .ok (.ireturn, 1) := by decide +kernel
theorem dX4_nurse_20 : decode cX4_nurse 20 = .ok (.aload_n 0, 1) := by decide +kernel
theorem dX4_nurse_21 : decode cX4_nurse 21 = .ok (.getfield 10, 3) := by decide +kernel
theorem dX4_nurse_24 : decode cX4_nurse 24 = .ok (.iload_n 1, 1) := by decide +kernel
theorem dX4_nurse_25 : decode cX4_nurse 25 = .ok (.invokevirtual 82, 3) := by decide +kernel
theorem dX4_nurse_28 : decode cX4_nurse 28 = .ok (.ifCond .eq 15, 3) := by decide +kernel
theorem dX4_nurse_31 : decode cX4_nurse 31 = .ok (.aload_n 0, 1) := by decide +kernel
theorem dX4_nurse_32 : decode cX4_nurse 32 = .ok (.getfield 10, 3) := by decide +kernel
theorem dX4_nurse_35 : decode cX4_nurse 35 = .ok (.getfield 79, 3) := by decide +kernel
theorem dX4_nurse_38 : decode cX4_nurse 38 = .ok (.iload_n 1, 1) := by decide +kernel
theorem dX4_nurse_39 : decode cX4_nurse 39 = .ok (.iaload, 1) := by decide +kernel
theorem dX4_nurse_40 : decode cX4_nurse 40 = .ok (.ifCond .ne 6, 3) := by decide +kernel
theorem dX4_nurse_43 : decode cX4_nurse 43 = .ok (.bipush (-2), 2) := by decide +kernel
theorem dX4_nurse_45 : decode cX4_nurse 45 = .ok (.ireturn, 1) := by decide +kernel
theorem dX4_nurse_46 : decode cX4_nurse 46 = .ok (.aload_n 0, 1) := by decide +kernel
theorem dX4_nurse_47 : decode cX4_nurse 47 = .ok (.getfield 19, 3) := by decide +kernel
theorem dX4_nurse_50 : decode cX4_nurse 50 = .ok (.aload_n 0, 1) := by decide +kernel
theorem dX4_nurse_51 : decode cX4_nurse 51 = .ok (.getfield 10, 3) := by decide +kernel
theorem dX4_nurse_54 : decode cX4_nurse 54 = .ok (.invokevirtual 127, 3) := by decide +kernel
theorem dX4_nurse_57 : decode cX4_nurse 57 = .ok (.aload_n 0, 1) := by decide +kernel
theorem dX4_nurse_58 : decode cX4_nurse 58 = .ok (.getfield 10, 3) := by decide +kernel
theorem dX4_nurse_61 : decode cX4_nurse 61 = .ok (.iload_n 1, 1) := by decide +kernel
theorem dX4_nurse_62 : decode cX4_nurse 62 = .ok (.iload_n 2, 1) := by decide +kernel
theorem dX4_nurse_63 : decode cX4_nurse 63 = .ok (.invokevirtual 133, 3) := by decide +kernel
theorem dX4_nurse_66 : decode cX4_nurse 66 = .ok (.aload_n 0, 1) := by decide +kernel
theorem dX4_nurse_67 : decode cX4_nurse 67 = .ok (.getfield 10, 3) := by decide +kernel
theorem dX4_nurse_70 : decode cX4_nurse 70 = .ok (.getfield 79, 3) := by decide +kernel
theorem dX4_nurse_73 : decode cX4_nurse 73 = .ok (.iload_n 1, 1) := by decide +kernel
theorem dX4_nurse_74 : decode cX4_nurse 74 = .ok (.iaload, 1) := by decide +kernel
theorem dX4_nurse_75 : decode cX4_nurse 75 = .ok (.ireturn, 1) := by decide +kernel
theorem dX4_stir_0 : decode cX4_stir 0 = .ok (.aload_n 0, 1) := by decide +kernel
theorem dX4_stir_1 : decode cX4_stir 1 = .ok (.iload_n 1, 1) := by decide +kernel
theorem dX4_stir_2 : decode cX4_stir 2 = .ok (.invokevirtual 65, 3) := by decide +kernel
theorem dX4_stir_5 : decode cX4_stir 5 = .ok (.ifCond .eq 13, 3) := by decide +kernel
theorem dX4_stir_8 : decode cX4_stir 8 = .ok (.iload_n 2, 1) := by decide +kernel
theorem dX4_stir_9 : decode cX4_stir 9 = .ok (.iconst 1, 1) := by decide +kernel
theorem dX4_stir_10 : decode cX4_stir 10 = .ok (.bipush 20, 2) := by decide +kernel
theorem dX4_stir_12 : decode cX4_stir 12 = .ok (.invokestatic 50, 3) := by decide +kernel
theorem dX4_stir_15 : decode cX4_stir 15 = .ok (.ifCond .ne 5, 3) := by decide +kernel
theorem dX4_stir_18 : decode cX4_stir 18 = .ok (.iconst (-1), 1) := by decide +kernel
theorem dX4_stir_19 : decode cX4_stir 19 = .ok (.ireturn, 1) := by decide +kernel
theorem dX4_stir_20 : decode cX4_stir 20 = .ok (.aload_n 0, 1) := by decide +kernel
theorem dX4_stir_21 : decode cX4_stir 21 = .ok (.getfield 10, 3) := by decide +kernel
theorem dX4_stir_24 : decode cX4_stir 24 = .ok (.iload_n 1, 1) := by decide +kernel
theorem dX4_stir_25 : decode cX4_stir 25 = .ok (.invokevirtual 82, 3) := by decide +kernel
theorem dX4_stir_28 : decode cX4_stir 28 = .ok (.ifCond .ne 6, 3) := by decide +kernel
theorem dX4_stir_31 : decode cX4_stir 31 = .ok (.bipush (-2), 2) := by decide +kernel
theorem dX4_stir_33 : decode cX4_stir 33 = .ok (.ireturn, 1) := by decide +kernel
theorem dX4_stir_34 : decode cX4_stir 34 = .ok (.aload_n 0, 1) := by decide +kernel
theorem dX4_stir_35 : decode cX4_stir 35 = .ok (.getfield 19, 3) := by decide +kernel
theorem dX4_stir_38 : decode cX4_stir 38 = .ok (.aload_n 0, 1) := by decide +kernel
theorem dX4_stir_39 : decode cX4_stir 39 = .ok (.getfield 10, 3) := by decide +kernel
theorem dX4_stir_42 : decode cX4_stir 42 = .ok (.invokevirtual 127, 3) := by decide +kernel
theorem dX4_stir_45 : decode cX4_stir 45 = .ok (.aload_n 0, 1) := by decide +kernel
theorem dX4_stir_46 : decode cX4_stir 46 = .ok (.getfield 10, 3) := by decide +kernel
theorem dX4_stir_49 : decode cX4_stir 49 = .ok (.iload_n 1, 1) := by decide +kernel
theorem dX4_stir_50 : decode cX4_stir 50 = .ok (.iload_n 2, 1) := by decide +kernel
theorem dX4_stir_51 : decode cX4_stir 51 = .ok (.invokevirtual 137, 3) := by decide +kernel
theorem dX4_stir_54 : decode cX4_stir 54 = .ok (.aload_n 0, 1) := by decide +kernel
theorem dX4_stir_55 : decode cX4_stir 55 = .ok (.getfield 10, 3) := by decide +kernel
theorem dX4_stir_58 : decode cX4_stir 58 = .ok (.getfield 79, 3) := by decide +kernel
theorem dX4_stir_61 : decode cX4_stir 61 = .ok (.iload_n 1, 1) := by decide +kernel
theorem dX4_stir_62 : decode cX4_stir 62 = .ok (.iaload, 1) := by decide +kernel
theorem dX4_stir_63 : decode cX4_stir 63 = .ok (.ireturn, 1) := by decide +kernel
theorem dX4_wed_0 : decode cX4_wed 0 = .ok (.aload_n 0, 1) := by decide +kernel
theorem dX4_wed_1 : decode cX4_wed 1 = .ok (.iload_n 1, 1) := by decide +kernel
theorem dX4_wed_2 : decode cX4_wed 2 = .ok (.invokevirtual 65, 3) := by decide +kernel
theorem dX4_wed_5 : decode cX4_wed 5 = .ok (.ifCond .ne 5, 3) := by decide +kernel
theorem dX4_wed_8 : decode cX4_wed 8 = .ok (.iconst (-1), 1) := by decide +kernel
theorem dX4_wed_9 : decode cX4_wed 9 = .ok (.ireturn, 1) := by decide +kernel
theorem dX4_wed_10 : decode cX4_wed 10 = .ok (.aload_n 0, 1) := by decide +kernel
theorem dX4_wed_11 : decode cX4_wed 11 = .ok (.getfield 10, 3) := by decide +kernel
theorem dX4_wed_14 : decode cX4_wed 14 = .ok (.iload_n 1, 1) := by decide +kernel
theorem dX4_wed_15 : decode cX4_wed 15 = .ok (.invokevirtual 82, 3) := by decide +kernel
theorem dX4_wed_18 : decode cX4_wed 18 = .ok (.ifCond .eq 6, 3) := by decide +kernel
theorem dX4_wed_21 : decode cX4_wed 21 = .ok (.bipush (-2), 2) := by decide +kernel
theorem dX4_wed_23 : decode cX4_wed 23 = .ok (.ireturn, 1) := by decide +kernel
theorem dX4_wed_24 : decode cX4_wed 24 = .ok (.aload_n 0, 1) := by decide +kernel
theorem dX4_wed_25 : decode cX4_wed 25 = .ok (.getfield 19, 3) := by decide +kernel
theorem dX4_wed_28 : decode cX4_wed 28 = .ok (.aload_n 0, 1) := by decide +kernel
theorem dX4_wed_29 : decode cX4_wed 29 = .ok (.getfield 10, 3) := by decide +kernel
theorem dX4_wed_32 : decode cX4_wed 32 = .ok (.invokevirtual 127, 3) := by decide +kernel
theorem dX4_wed_35 : decode cX4_wed 35 = .ok (.aload_n 0, 1) := by decide +kernel
theorem dX4_wed_36 : decode cX4_wed 36 = .ok (.getfield 10, 3) := by decide +kernel
theorem dX4_wed_39 : decode cX4_wed 39 = .ok (.iload_n 1, 1) := by decide +kernel
theorem dX4_wed_40 : decode cX4_wed 40 = .ok (.invokevirtual 140, 3) := by decide +kernel
theorem dX4_wed_43 : decode cX4_wed 43 = .ok (.aload_n 0, 1) := by decide +kernel
theorem dX4_wed_44 : decode cX4_wed 44 = .ok (.getfield 10, 3) := by decide +kernel
theorem dX4_wed_47 : decode cX4_wed 47 = .ok (.invokevirtual 113, 3) := by decide +kernel
theorem dX4_wed_50 : decode cX4_wed 50 = .ok (.ireturn, 1) := by decide +kernel
theorem dX4_drift_0 : decode cX4_drift 0 = .ok (.iload_n 1, 1) := by decide +kernel
theorem dX4_drift_1 : decode cX4_drift 1 = .ok (.iconst 1, 1) := by decide +kernel
theorem dX4_drift_2 : decode cX4_drift 2 = .ok (.bipush 40, 2) := by decide +kernel
theorem dX4_drift_4 : decode cX4_drift 4 = .ok (.invokestatic 50, 3) := by decide +kernel
theorem dX4_drift_7 : decode cX4_drift 7 = .ok (.ifCond .ne 5, 3) := by decide +kernel
theorem dX4_drift_10 : decode cX4_drift 10 = .ok (.iconst (-1), 1) := by decide +kernel
theorem dX4_drift_11 : decode cX4_drift 11 = .ok (.ireturn, 1) := by decide +kernel
theorem dX4_drift_12 : decode cX4_drift 12 = .ok (.aload_n 0, 1) := by decide +kernel
theorem dX4_drift_13 : decode cX4_drift 13 = .ok (.getfield 10, 3) := by decide +kernel
theorem dX4_drift_16 : decode cX4_drift 16 = .ok (.getfield 110, 3) := by decide +kernel
theorem dX4_drift_19 : decode cX4_drift 19 = .ok (.iload_n 1, 1) := by decide +kernel
theorem dX4_drift_20 : decode cX4_drift 20 = .ok (.iadd, 1) := by decide +kernel
theorem dX4_drift_21 : decode cX4_drift 21 = .ok (.sipush 9999, 3) := by decide +kernel
theorem dX4_drift_24 : decode cX4_drift 24 = .ok (.if_icmp .le 6, 3) := by decide +kernel
theorem dX4_drift_27 : decode cX4_drift 27 = .ok (.bipush (-3), 2) := by decide +kernel
theorem dX4_drift_29 : decode cX4_drift 29 = .ok (.ireturn, 1) := by decide +kernel
theorem dX4_drift_30 : decode cX4_drift 30 = .ok (.iconst 0, 1) := by decide +kernel
theorem dX4_drift_31 : decode cX4_drift 31 = .ok (.istore_n 2, 1) := by decide +kernel
theorem dX4_drift_32 : decode cX4_drift 32 = .ok (.iload_n 2, 1) := by decide +kernel
theorem dX4_drift_33 : decode cX4_drift 33 = .ok (.iload_n 1, 1) := by decide +kernel
theorem dX4_drift_34 : decode cX4_drift 34 = .ok (.if_icmp .ge 34, 3) := by decide +kernel
theorem dX4_drift_37 : decode cX4_drift 37 = .ok (.aload_n 0, 1) := by decide +kernel
theorem dX4_drift_38 : decode cX4_drift 38 = .ok (.getfield 19, 3) := by decide +kernel
theorem dX4_drift_41 : decode cX4_drift 41 = .ok (.aload_n 0, 1) := by decide +kernel
theorem dX4_drift_42 : decode cX4_drift 42 = .ok (.getfield 10, 3) := by decide +kernel
theorem dX4_drift_45 : decode cX4_drift 45 = .ok (.invokevirtual 127, 3) := by decide +kernel
theorem dX4_drift_48 : decode cX4_drift 48 = .ok (.aload_n 0, 1) := by decide +kernel
theorem dX4_drift_49 : decode cX4_drift 49 = .ok (.getfield 10, 3) := by decide +kernel
theorem dX4_drift_52 : decode cX4_drift 52 = .ok (.invokevirtual 144, 3) := by decide +kernel
theorem dX4_drift_55 : decode cX4_drift 55 = .ok (.aload_n 0, 1) := by decide +kernel
theorem dX4_drift_56 : decode cX4_drift 56 = .ok (.getfield 10, 3) := by decide +kernel
theorem dX4_drift_59 : decode cX4_drift 59 = .ok (.invokevirtual 130, 3) := by decide +kernel
theorem dX4_drift_62 : decode cX4_drift 62 = .ok (.iinc 2 1, 3) := by decide +kernel
theorem dX4_drift_65 : decode cX4_drift 65 = .ok (.goto (-33), 3) := by decide +kernel
theorem dX4_drift_68 : decode cX4_drift 68 = .ok (.aload_n 0, 1) := by decide +kernel
theorem dX4_drift_69 : decode cX4_drift 69 = .ok (.getfield 10, 3) := by decide +kernel
theorem dX4_drift_72 : decode cX4_drift 72 = .ok (.invokevirtual 113, 3) := by decide +kernel
theorem dX4_drift_75 : decode cX4_drift 75 = .ok (.ireturn, 1) := by decide +kernel
theorem dX4_undo_0 : decode cX4_undo 0 = .ok (.aload_n 0, 1) := by decide +kernel
theorem dX4_undo_1 : decode cX4_undo 1 = .ok (.getfield 19, 3) := by decide +kernel
theorem dX4_undo_4 : decode cX4_undo 4 = .ok (.getfield 126, 3) := by decide +kernel
theorem dX4_undo_7 : decode cX4_undo 7 = .ok (.ifCond .gt 6, 3) := by decide +kernel
theorem dX4_undo_10 : decode cX4_undo 10 = .ok (.bipush (-4), 2) := by decide +kernel
theorem dX4_undo_12 : decode cX4_undo 12 = .ok (.ireturn, 1) := by decide +kernel
theorem dX4_undo_13 : decode cX4_undo 13 = .ok (.aload_n 0, 1) := by decide +kernel
theorem dX4_undo_14 : decode cX4_undo 14 = .ok (.getfield 19, 3) := by decide +kernel
theorem dX4_undo_17 : decode cX4_undo 17 = .ok (.aload_n 0, 1) := by decide +kernel
theorem dX4_undo_18 : decode cX4_undo 18 = .ok (.getfield 10, 3) := by decide +kernel
theorem dX4_undo_21 : decode cX4_undo 21 = .ok (.invokevirtual 147, 3) := by decide +kernel
theorem dX4_undo_24 : decode cX4_undo 24 = .ok (.aload_n 0, 1) := by decide +kernel
theorem dX4_undo_25 : decode cX4_undo 25 = .ok (.getfield 19, 3) := by decide +kernel
theorem dX4_undo_28 : decode cX4_undo 28 = .ok (.getfield 126, 3) := by decide +kernel
theorem dX4_undo_31 : decode cX4_undo 31 = .ok (.ireturn, 1) := by decide +kernel
theorem dX4_seed_0 : decode cX4_seed 0 = .ok (.iload_n 1, 1) := by decide +kernel
theorem dX4_seed_1 : decode cX4_seed 1 = .ok (.ifCond .ge 5, 3) := by decide +kernel
theorem dX4_seed_4 : decode cX4_seed 4 = .ok (.iconst (-1), 1) := by decide +kernel
theorem dX4_seed_5 : decode cX4_seed 5 = .ok (.ireturn, 1) := by decide +kernel
theorem dX4_seed_6 : decode cX4_seed 6 = .ok (.aload_n 0, 1) := by decide +kernel
theorem dX4_seed_7 : decode cX4_seed 7 = .ok (.getfield 10, 3) := by decide +kernel
theorem dX4_seed_10 : decode cX4_seed 10 = .ok (.getfield 103, 3) := by decide +kernel
theorem dX4_seed_13 : decode cX4_seed 13 = .ok (.istore_n 2, 1) := by decide +kernel
theorem dX4_seed_14 : decode cX4_seed 14 = .ok (.aload_n 0, 1) := by decide +kernel
theorem dX4_seed_15 : decode cX4_seed 15 = .ok (.getfield 10, 3) := by decide +kernel
theorem dX4_seed_18 : decode cX4_seed 18 = .ok (.iload_n 1, 1) := by decide +kernel
theorem dX4_seed_19 : decode cX4_seed 19 = .ok (.putfield 103, 3) := by decide +kernel
theorem dX4_seed_22 : decode cX4_seed 22 = .ok (.iload_n 2, 1) := by decide +kernel
theorem dX4_seed_23 : decode cX4_seed 23 = .ok (.ireturn, 1) := by decide +kernel
theorem dX4_keys_0 : decode cX4_keys 0 = .ok (.iload_n 1, 1) := by decide +kernel
theorem dX4_keys_1 : decode cX4_keys 1 = .ok (.iconst 0, 1) := by decide +kernel
theorem dX4_keys_2 : decode cX4_keys 2 = .ok (.bipush 60, 2) := by decide +kernel
theorem dX4_keys_4 : decode cX4_keys 4 = .ok (.invokestatic 50, 3) := by decide +kernel
theorem dX4_keys_7 : decode cX4_keys 7 = .ok (.ifCond .ne 5, 3) := by decide +kernel
theorem dX4_keys_10 : decode cX4_keys 10 = .ok (.iconst (-1), 1) := by decide +kernel
theorem dX4_keys_11 : decode cX4_keys 11 = .ok (.ireturn, 1) := by decide +kernel
theorem dX4_keys_12 : decode cX4_keys 12 = .ok (.aload_n 0, 1) := by decide +kernel
theorem dX4_keys_13 : decode cX4_keys 13 = .ok (.getfield 42, 3) := by decide +kernel
theorem dX4_keys_16 : decode cX4_keys 16 = .ok (.aload_n 0, 1) := by decide +kernel
theorem dX4_keys_17 : decode cX4_keys 17 = .ok (.getfield 10, 3) := by decide +kernel
theorem dX4_keys_20 : decode cX4_keys 20 = .ok (.invokevirtual 106, 3) := by decide +kernel
theorem dX4_keys_23 : decode cX4_keys 23 = .ok (.aload_n 0, 1) := by decide +kernel
theorem dX4_keys_24 : decode cX4_keys 24 = .ok (.getfield 42, 3) := by decide +kernel
theorem dX4_keys_27 : decode cX4_keys 27 = .ok (.iload_n 1, 1) := by decide +kernel
theorem dX4_keys_28 : decode cX4_keys 28 = .ok (.invokevirtual 150, 3) := by decide +kernel
theorem dX4_keys_31 : decode cX4_keys 31 = .ok (.aload_n 0, 1) := by decide +kernel
theorem dX4_keys_32 : decode cX4_keys 32 = .ok (.getfield 42, 3) := by decide +kernel
theorem dX4_keys_35 : decode cX4_keys 35 = .ok (.invokevirtual 113, 3) := by decide +kernel
theorem dX4_keys_38 : decode cX4_keys 38 = .ok (.ireturn, 1) := by decide +kernel
theorem dX4_ahead_0 : decode cX4_ahead 0 = .ok (.aload_n 0, 1) := by decide +kernel
theorem dX4_ahead_1 : decode cX4_ahead 1 = .ok (.iload_n 1, 1) := by decide +kernel
theorem dX4_ahead_2 : decode cX4_ahead 2 = .ok (.invokevirtual 65, 3) := by decide +kernel
theorem dX4_ahead_5 : decode cX4_ahead 5 = .ok (.ifCond .eq 13, 3) := by decide +kernel
theorem dX4_ahead_8 : decode cX4_ahead 8 = .ok (.iload_n 2, 1) := by decide +kernel
theorem dX4_ahead_9 : decode cX4_ahead 9 = .ok (.iconst 0, 1) := by decide +kernel
theorem dX4_ahead_10 : decode cX4_ahead 10 = .ok (.bipush 60, 2) := by decide +kernel
theorem dX4_ahead_12 : decode cX4_ahead 12 = .ok (.invokestatic 50, 3) := by decide +kernel
theorem dX4_ahead_15 : decode cX4_ahead 15 = .ok (.ifCond .ne 5, 3) := by decide +kernel
theorem dX4_ahead_18 : decode cX4_ahead 18 = .ok (.iconst (-1), 1) := by decide +kernel
theorem dX4_ahead_19 : decode cX4_ahead 19 = .ok (.ireturn, 1) := by decide +kernel
theorem dX4_ahead_20 : decode cX4_ahead 20 = .ok (.aload_n 0, 1) := by decide +kernel
theorem dX4_ahead_21 : decode cX4_ahead 21 = .ok (.getfield 42, 3) := by decide +kernel
theorem dX4_ahead_24 : decode cX4_ahead 24 = .ok (.aload_n 0, 1) := by decide +kernel
theorem dX4_ahead_25 : decode cX4_ahead 25 = .ok (.getfield 10, 3) := by decide +kernel
theorem dX4_ahead_28 : decode cX4_ahead 28 = .ok (.invokevirtual 106, 3) := by decide +kernel
theorem dX4_ahead_31 : decode cX4_ahead 31 = .ok (.aload_n 0, 1) := by decide +kernel
theorem dX4_ahead_32 : decode cX4_ahead 32 = .ok (.getfield 42, 3) := by decide +kernel
theorem dX4_ahead_35 : decode cX4_ahead 35 = .ok (.iload_n 2, 1) := by decide +kernel
theorem dX4_ahead_36 : decode cX4_ahead 36 = .ok (.invokevirtual 150, 3) := by decide +kernel
theorem dX4_ahead_39 : decode cX4_ahead 39 = .ok (.aload_n 0, 1) := by decide +kernel
theorem dX4_ahead_40 : decode cX4_ahead 40 = .ok (.getfield 42, 3) := by decide +kernel
theorem dX4_ahead_43 : decode cX4_ahead 43 = .ok (.getfield 79, 3) := by decide +kernel
theorem dX4_ahead_46 : decode cX4_ahead 46 = .ok (.iload_n 1, 1) := by decide +kernel
theorem dX4_ahead_47 : decode cX4_ahead 47 = .ok (.iaload, 1) := by decide +kernel
theorem dX4_ahead_48 : decode cX4_ahead 48 = .ok (.ireturn, 1) := by decide +kernel
theorem dX4_then_0 : decode cX4_then 0 = .ok (.iload_n 1, 1) := by decide +kernel
theorem dX4_then_1 : decode cX4_then 1 = .ok (.iconst 0, 1) := by decide +kernel
theorem dX4_then_2 : decode cX4_then 2 = .ok (.bipush 60, 2) := by decide +kernel
theorem dX4_then_4 : decode cX4_then 4 = .ok (.invokestatic 50, 3) := by decide +kernel
theorem dX4_then_7 : decode cX4_then 7 = .ok (.ifCond .ne 5, 3) := by decide +kernel
theorem dX4_then_10 : decode cX4_then 10 = .ok (.iconst (-1), 1) := by decide +kernel
theorem dX4_then_11 : decode cX4_then 11 = .ok (.ireturn, 1) := by decide +kernel
theorem dX4_then_12 : decode cX4_then 12 = .ok (.aload_n 0, 1) := by decide +kernel
theorem dX4_then_13 : decode cX4_then 13 = .ok (.getfield 42, 3) := by decide +kernel
theorem dX4_then_16 : decode cX4_then 16 = .ok (.aload_n 0, 1) := by decide +kernel
theorem dX4_then_17 : decode cX4_then 17 = .ok (.getfield 10, 3) := by decide +kernel
theorem dX4_then_20 : decode cX4_then 20 = .ok (.invokevirtual 106, 3) := by decide +kernel
theorem dX4_then_23 : decode cX4_then 23 = .ok (.aload_n 0, 1) := by decide +kernel
theorem dX4_then_24 : decode cX4_then 24 = .ok (.getfield 42, 3) := by decide +kernel
theorem dX4_then_27 : decode cX4_then 27 = .ok (.iload_n 1, 1) := by decide +kernel
theorem dX4_then_28 : decode cX4_then 28 = .ok (.invokevirtual 150, 3) := by decide +kernel
theorem dX4_then_31 : decode cX4_then 31 = .ok (.aload_n 0, 1) := by decide +kernel
theorem dX4_then_32 : decode cX4_then 32 = .ok (.getfield 42, 3) := by decide +kernel
theorem dX4_then_35 : decode cX4_then 35 = .ok (.getfield 120, 3) := by decide +kernel
theorem dX4_then_38 : decode cX4_then 38 = .ok (.ireturn, 1) := by decide +kernel
theorem dX4_rises_0 : decode cX4_rises 0 = .ok (.aload_n 0, 1) := by decide +kernel
theorem dX4_rises_1 : decode cX4_rises 1 = .ok (.iload_n 1, 1) := by decide +kernel
theorem dX4_rises_2 : decode cX4_rises 2 = .ok (.invokevirtual 65, 3) := by decide +kernel
theorem dX4_rises_5 : decode cX4_rises 5 = .ok (.ifCond .eq 12, 3) := by decide +kernel
theorem dX4_rises_8 : decode cX4_rises 8 = .ok (.iload_n 2, 1) := by decide +kernel
theorem dX4_rises_9 : decode cX4_rises 9 = .ok (.iconst 0, 1) := by decide +kernel
theorem dX4_rises_10 : decode cX4_rises 10 = .ok (.iconst 1, 1) := by decide +kernel
theorem dX4_rises_11 : decode cX4_rises 11 = .ok (.invokestatic 50, 3) := by decide +kernel
theorem dX4_rises_14 : decode cX4_rises 14 = .ok (.ifCond .ne 5, 3) := by decide +kernel
theorem dX4_rises_17 : decode cX4_rises 17 = .ok (.iconst (-1), 1) := by decide +kernel
theorem dX4_rises_18 : decode cX4_rises 18 = .ok (.ireturn, 1) := by decide +kernel
theorem dX4_rises_19 : decode cX4_rises 19 = .ok (.iload_n 2, 1) := by decide +kernel
theorem dX4_rises_20 : decode cX4_rises 20 = .ok (.ifCond .ne 11, 3) := by decide +kernel
theorem dX4_rises_23 : decode cX4_rises 23 = .ok (.aload_n 0, 1) := by decide +kernel
theorem dX4_rises_24 : decode cX4_rises 24 = .ok (.iload_n 1, 1) := by decide +kernel
theorem dX4_rises_25 : decode cX4_rises 25 = .ok (.invokevirtual 153, 3) := by decide +kernel
theorem dX4_rises_28 : decode cX4_rises 28 = .ok (.goto 8, 3) := by decide +kernel
theorem dX4_rises_31 : decode cX4_rises 31 = .ok (.aload_n 0, 1) := by decide +kernel
theorem dX4_rises_32 : decode cX4_rises 32 = .ok (.iload_n 1, 1) := by decide +kernel
theorem dX4_rises_33 : decode cX4_rises 33 = .ok (.invokevirtual 156, 3) := by decide +kernel
theorem dX4_rises_36 : decode cX4_rises 36 = .ok (.ireturn, 1) := by decide +kernel
theorem dX4_parts_0 : decode cX4_parts 0 = .ok (.aload_n 0, 1) := by decide +kernel
theorem dX4_parts_1 : decode cX4_parts 1 = .ok (.iload_n 1, 1) := by decide +kernel
theorem dX4_parts_2 : decode cX4_parts 2 = .ok (.invokevirtual 65, 3) := by decide +kernel
theorem dX4_parts_5 : decode cX4_parts 5 = .ok (.ifCond .ne 5, 3) := by decide +kernel
theorem dX4_parts_8 : decode cX4_parts 8 = .ok (.iconst (-1), 1) := by decide +kernel
theorem dX4_parts_9 : decode cX4_parts 9 = .ok (.ireturn, 1) := by decide +kernel
theorem dX4_parts_10 : decode cX4_parts 10 = .ok (.aload_n 0, 1) := by decide +kernel
theorem dX4_parts_11 : decode cX4_parts 11 = .ok (.getfield 10, 3) := by decide +kernel
theorem dX4_parts_14 : decode cX4_parts 14 = .ok (.iload_n 1, 1) := by decide +kernel
theorem dX4_parts_15 : decode cX4_parts 15 = .ok (.invokevirtual 82, 3) := by decide +kernel
theorem dX4_parts_18 : decode cX4_parts 18 = .ok (.ifCond .ne 6, 3) := by decide +kernel
theorem dX4_parts_21 : decode cX4_parts 21 = .ok (.bipush (-4), 2) := by decide +kernel
theorem dX4_parts_23 : decode cX4_parts 23 = .ok (.ireturn, 1) := by decide +kernel
theorem dX4_parts_24 : decode cX4_parts 24 = .ok (.aload_n 0, 1) := by decide +kernel
theorem dX4_parts_25 : decode cX4_parts 25 = .ok (.getfield 42, 3) := by decide +kernel
theorem dX4_parts_28 : decode cX4_parts 28 = .ok (.aload_n 0, 1) := by decide +kernel
theorem dX4_parts_29 : decode cX4_parts 29 = .ok (.getfield 10, 3) := by decide +kernel
theorem dX4_parts_32 : decode cX4_parts 32 = .ok (.invokevirtual 106, 3) := by decide +kernel
theorem dX4_parts_35 : decode cX4_parts 35 = .ok (.iconst 1, 1) := by decide +kernel
theorem dX4_parts_36 : decode cX4_parts 36 = .ok (.istore_n 2, 1) := by decide +kernel
theorem dX4_parts_37 : decode cX4_parts 37 = .ok (.iload_n 2, 1) := by decide +kernel
theorem dX4_parts_38 : decode cX4_parts 38 = .ok (.bipush 60, 2) := by decide +kernel
theorem dX4_parts_40 : decode cX4_parts 40 = .ok (.if_icmp .gt 29, 3) := by decide +kernel
theorem dX4_parts_43 : decode cX4_parts 43 = .ok (.aload_n 0, 1) := by decide +kernel
theorem dX4_parts_44 : decode cX4_parts 44 = .ok (.getfield 42, 3) := by decide +kernel
theorem dX4_parts_47 : decode cX4_parts 47 = .ok (.invokevirtual 130, 3) := by decide +kernel
theorem dX4_parts_50 : decode cX4_parts 50 = .ok (.aload_n 0, 1) := by decide +kernel
theorem dX4_parts_51 : decode cX4_parts 51 = .ok (.getfield 42, 3) := by decide +kernel
theorem dX4_parts_54 : decode cX4_parts 54 = .ok (.iload_n 1, 1) := by decide +kernel
theorem dX4_parts_55 : decode cX4_parts 55 = .ok (.invokevirtual 82, 3) := by decide +kernel
theorem dX4_parts_58 : decode cX4_parts 58 = .ok (.ifCond .ne 5, 3) := by decide +kernel
theorem dX4_parts_61 : decode cX4_parts 61 = .ok (.iload_n 2, 1) := by decide +kernel
theorem dX4_parts_62 : decode cX4_parts 62 = .ok (.ireturn, 1) := by decide +kernel
theorem dX4_parts_63 : decode cX4_parts 63 = .ok (.iinc 2 1, 3) := by decide +kernel
theorem dX4_parts_66 : decode cX4_parts 66 = .ok (.goto (-29), 3) := by decide +kernel
theorem dX4_parts_69 : decode cX4_parts 69 = .ok (.bipush (-4), 2) := by decide +kernel
theorem dX4_parts_71 : decode cX4_parts 71 = .ok (.ireturn, 1) := by decide +kernel
theorem dX4_ever_0 : decode cX4_ever 0 = .ok (.iconst 0, 1) := by decide +kernel
theorem dX4_ever_1 : decode cX4_ever 1 = .ok (.istore_n 1, 1) := by decide +kernel
theorem dX4_ever_2 : decode cX4_ever 2 = .ok (.aload_n 0, 1) := by decide +kernel
theorem dX4_ever_3 : decode cX4_ever 3 = .ok (.getfield 42, 3) := by decide +kernel
theorem dX4_ever_6 : decode cX4_ever 6 = .ok (.aload_n 0, 1) := by decide +kernel
theorem dX4_ever_7 : decode cX4_ever 7 = .ok (.getfield 10, 3) := by decide +kernel
theorem dX4_ever_10 : decode cX4_ever 10 = .ok (.invokevirtual 106, 3) := by decide +kernel
theorem dX4_ever_13 : decode cX4_ever 13 = .ok (.iconst 0, 1) := by decide +kernel
theorem dX4_ever_14 : decode cX4_ever 14 = .ok (.istore_n 2, 1) := by decide +kernel
theorem dX4_ever_15 : decode cX4_ever 15 = .ok (.iload_n 2, 1) := by decide +kernel
theorem dX4_ever_16 : decode cX4_ever 16 = .ok (.bipush 60, 2) := by decide +kernel
theorem dX4_ever_18 : decode cX4_ever 18 = .ok (.if_icmp .gt 34, 3) := by decide +kernel
theorem dX4_ever_21 : decode cX4_ever 21 = .ok (.aload_n 0, 1) := by decide +kernel
theorem dX4_ever_22 : decode cX4_ever 22 = .ok (.getfield 42, 3) := by decide +kernel
theorem dX4_ever_25 : decode cX4_ever 25 = .ok (.invokevirtual 113, 3) := by decide +kernel
theorem dX4_ever_28 : decode cX4_ever 28 = .ok (.istore_n 3, 1) := by decide +kernel
theorem dX4_ever_29 : decode cX4_ever 29 = .ok (.iload_n 3, 1) := by decide +kernel
theorem dX4_ever_30 : decode cX4_ever 30 = .ok (.ifCond .lt 9, 3) := by decide +kernel
theorem dX4_ever_33 : decode cX4_ever 33 = .ok (.iload_n 1, 1) := by decide +kernel
theorem dX4_ever_34 : decode cX4_ever 34 = .ok (.iconst 1, 1) := by decide +kernel
theorem dX4_ever_35 : decode cX4_ever 35 = .ok (.iload_n 3, 1) := by decide +kernel
theorem dX4_ever_36 : decode cX4_ever 36 = .ok (.ishl, 1) := by decide +kernel
theorem dX4_ever_37 : decode cX4_ever 37 = .ok (.ior, 1) := by decide +kernel
theorem dX4_ever_38 : decode cX4_ever 38 = .ok (.istore_n 1, 1) := by decide +kernel
theorem dX4_ever_39 : decode cX4_ever 39 = .ok (.aload_n 0, 1) := by decide +kernel
theorem dX4_ever_40 : decode cX4_ever 40 = .ok (.getfield 42, 3) := by decide +kernel
theorem dX4_ever_43 : decode cX4_ever 43 = .ok (.invokevirtual 130, 3) := by decide +kernel
theorem dX4_ever_46 : decode cX4_ever 46 = .ok (.iinc 2 1, 3) := by decide +kernel
theorem dX4_ever_49 : decode cX4_ever 49 = .ok (.goto (-34), 3) := by decide +kernel
theorem dX4_ever_52 : decode cX4_ever 52 = .ok (.iload_n 1, 1) := by decide +kernel
theorem dX4_ever_53 : decode cX4_ever 53 = .ok (.ireturn, 1) := by decide +kernel
theorem dX4_rivals_0 : decode cX4_rivals 0 = .ok (.aload_n 0, 1) := by decide +kernel
theorem dX4_rivals_1 : decode cX4_rivals 1 = .ok (.iload_n 1, 1) := by decide +kernel
theorem dX4_rivals_2 : decode cX4_rivals 2 = .ok (.invokevirtual 65, 3) := by decide +kernel
theorem dX4_rivals_5 : decode cX4_rivals 5 = .ok (.ifCond .eq 22, 3) := by decide +kernel
theorem dX4_rivals_8 : decode cX4_rivals 8 = .ok (.iload_n 2, 1) := by decide +kernel
theorem dX4_rivals_9 : decode cX4_rivals 9 = .ok (.iconst 0, 1) := by decide +kernel
theorem dX4_rivals_10 : decode cX4_rivals 10 = .ok (.bipush 40, 2) := by decide +kernel
theorem dX4_rivals_12 : decode cX4_rivals 12 = .ok (.invokestatic 50, 3) := by decide +kernel
theorem dX4_rivals_15 : decode cX4_rivals 15 = .ok (.ifCond .eq 12, 3) := by decide +kernel
theorem dX4_rivals_18 : decode cX4_rivals 18 = .ok (.iload_n 3, 1) := by decide +kernel
theorem dX4_rivals_19 : decode cX4_rivals 19 = .ok (.iconst 0, 1) := by decide +kernel
theorem dX4_rivals_20 : decode cX4_rivals 20 = .ok (.iconst 1, 1) := by decide +kernel
theorem dX4_rivals_21 : decode cX4_rivals 21 = .ok (.invokestatic 50, 3) := by decide +kernel
theorem dX4_rivals_24 : decode cX4_rivals 24 = .ok (.ifCond .ne 5, 3) := by decide +kernel
theorem dX4_rivals_27 : decode cX4_rivals 27 = .ok (.iconst (-1), 1) := by decide +kernel
theorem dX4_rivals_28 : decode cX4_rivals 28 = .ok (.ireturn, 1) := by decide +kernel
theorem dX4_rivals_29 : decode cX4_rivals 29 = .ok (.aload_n 0, 1) := by decide +kernel
theorem dX4_rivals_30 : decode cX4_rivals 30 = .ok (.iload_n 1, 1) := by decide +kernel
theorem dX4_rivals_31 : decode cX4_rivals 31 = .ok (.iload_n 2, 1) := by decide +kernel
theorem dX4_rivals_32 : decode cX4_rivals 32 = .ok (.invokevirtual 159, 3) := by decide +kernel
theorem dX4_rivals_35 : decode cX4_rivals 35 = .ok (.istore 4, 2) := by decide +kernel
theorem dX4_rivals_37 : decode cX4_rivals 37 = .ok (.iload 4, 2) := by decide +kernel
theorem dX4_rivals_39 : decode cX4_rivals 39 = .ok (.ifCond .ge 6, 3) := by decide +kernel
theorem dX4_rivals_42 : decode cX4_rivals 42 = .ok (.bipush (-4), 2) := by decide +kernel
theorem dX4_rivals_44 : decode cX4_rivals 44 = .ok (.ireturn, 1) := by decide +kernel
theorem dX4_rivals_45 : decode cX4_rivals 45 = .ok (.iload_n 3, 1) := by decide +kernel
theorem dX4_rivals_46 : decode cX4_rivals 46 = .ok (.ifCond .ne 11, 3) := by decide +kernel
theorem dX4_rivals_49 : decode cX4_rivals 49 = .ok (.iload 4, 2) := by decide +kernel
theorem dX4_rivals_51 : decode cX4_rivals 51 = .ok (.invokestatic 163, 3) := by decide +kernel
theorem dX4_rivals_54 : decode cX4_rivals 54 = .ok (.goto 5, 3) := by decide +kernel
theorem dX4_rivals_57 : decode cX4_rivals 57 = .ok (.iload 4, 2) := by decide +kernel
theorem dX4_rivals_59 : decode cX4_rivals 59 = .ok (.ireturn, 1) := by decide +kernel
theorem dX4_needs_0 : decode cX4_needs 0 = .ok (.aload_n 0, 1) := by decide +kernel
theorem dX4_needs_1 : decode cX4_needs 1 = .ok (.iload_n 1, 1) := by decide +kernel
theorem dX4_needs_2 : decode cX4_needs 2 = .ok (.invokevirtual 65, 3) := by decide +kernel
theorem dX4_needs_5 : decode cX4_needs 5 = .ok (.ifCond .eq 13, 3) := by decide +kernel
theorem dX4_needs_8 : decode cX4_needs 8 = .ok (.iload_n 2, 1) := by decide +kernel
theorem dX4_needs_9 : decode cX4_needs 9 = .ok (.iconst 1, 1) := by decide +kernel
theorem dX4_needs_10 : decode cX4_needs 10 = .ok (.bipush 40, 2) := by decide +kernel
theorem dX4_needs_12 : decode cX4_needs 12 = .ok (.invokestatic 50, 3) := by decide +kernel
theorem dX4_needs_15 : decode cX4_needs 15 = .ok (.ifCond .ne 5, 3) := by decide +kernel
theorem dX4_needs_18 : decode cX4_needs 18 = .ok (.iconst (-1), 1) := by decide +kernel
theorem dX4_needs_19 : decode cX4_needs 19 = .ok (.ireturn, 1) := by decide +kernel
theorem dX4_needs_20 : decode cX4_needs 20 = .ok (.aload_n 0, 1) := by decide +kernel
theorem dX4_needs_21 : decode cX4_needs 21 = .ok (.getfield 10, 3) := by decide +kernel
theorem dX4_needs_24 : decode cX4_needs 24 = .ok (.iload_n 1, 1) := by decide +kernel
theorem dX4_needs_25 : decode cX4_needs 25 = .ok (.invokevirtual 82, 3) := by decide +kernel
theorem dX4_needs_28 : decode cX4_needs 28 = .ok (.ifCond .ne 6, 3) := by decide +kernel
theorem dX4_needs_31 : decode cX4_needs 31 = .ok (.bipush (-2), 2) := by decide +kernel
theorem dX4_needs_33 : decode cX4_needs 33 = .ok (.ireturn, 1) := by decide +kernel
theorem dX4_needs_34 : decode cX4_needs 34 = .ok (.iconst 0, 1) := by decide +kernel
theorem dX4_needs_35 : decode cX4_needs 35 = .ok (.istore_n 3, 1) := by decide +kernel
theorem dX4_needs_36 : decode cX4_needs 36 = .ok (.iload_n 3, 1) := by decide +kernel
theorem dX4_needs_37 : decode cX4_needs 37 = .ok (.bipush 19, 2) := by decide +kernel
theorem dX4_needs_39 : decode cX4_needs 39 = .ok (.if_icmp .gt 50, 3) := by decide +kernel
theorem dX4_needs_42 : decode cX4_needs 42 = .ok (.aload_n 0, 1) := by decide +kernel
theorem dX4_needs_43 : decode cX4_needs 43 = .ok (.getfield 42, 3) := by decide +kernel
theorem dX4_needs_46 : decode cX4_needs 46 = .ok (.aload_n 0, 1) := by decide +kernel
theorem dX4_needs_47 : decode cX4_needs 47 = .ok (.getfield 10, 3) := by decide +kernel
theorem dX4_needs_50 : decode cX4_needs 50 = .ok (.invokevirtual 106, 3) := by decide +kernel
theorem dX4_needs_53 : decode cX4_needs 53 = .ok (.aload_n 0, 1) := by decide +kernel
theorem dX4_needs_54 : decode cX4_needs 54 = .ok (.getfield 42, 3) := by decide +kernel
theorem dX4_needs_57 : decode cX4_needs 57 = .ok (.iload_n 1, 1) := by decide +kernel
theorem dX4_needs_58 : decode cX4_needs 58 = .ok (.iload_n 3, 1) := by decide +kernel
theorem dX4_needs_59 : decode cX4_needs 59 = .ok (.invokevirtual 133, 3) := by decide +kernel
theorem dX4_needs_62 : decode cX4_needs 62 = .ok (.aload_n 0, 1) := by decide +kernel
theorem dX4_needs_63 : decode cX4_needs 63 = .ok (.getfield 42, 3) := by decide +kernel
theorem dX4_needs_66 : decode cX4_needs 66 = .ok (.iload_n 2, 1) := by decide +kernel
theorem dX4_needs_67 : decode cX4_needs 67 = .ok (.invokevirtual 150, 3) := by decide +kernel
theorem dX4_needs_70 : decode cX4_needs 70 = .ok (.aload_n 0, 1) := by decide +kernel
theorem dX4_needs_71 : decode cX4_needs 71 = .ok (.getfield 42, 3) := by decide +kernel
theorem dX4_needs_74 : decode cX4_needs 74 = .ok (.iload_n 1, 1) := by decide +kernel
theorem dX4_needs_75 : decode cX4_needs 75 = .ok (.invokevirtual 82, 3) := by decide +kernel
theorem dX4_needs_78 : decode cX4_needs 78 = .ok (.ifCond .eq 5, 3) := by decide +kernel
theorem dX4_needs_81 : decode cX4_needs 81 = .ok (.iload_n 3, 1) := by decide +kernel
theorem dX4_needs_82 : decode cX4_needs 82 = .ok (.ireturn, 1) := by decide +kernel
theorem dX4_needs_83 : decode cX4_needs 83 = .ok (.iinc 3 1, 3) := by decide +kernel
theorem dX4_needs_86 : decode cX4_needs 86 = .ok (.goto (-50), 3) := by decide +kernel
theorem dX4_needs_89 : decode cX4_needs 89 = .ok (.bipush (-4), 2) := by decide +kernel
theorem dX4_needs_91 : decode cX4_needs 91 = .ok (.ireturn, 1) := by decide +kernel
theorem dX4_soothe_0 : decode cX4_soothe 0 = .ok (.iload_n 1, 1) := by decide +kernel
theorem dX4_soothe_1 : decode cX4_soothe 1 = .ok (.iconst 1, 1) := by decide +kernel
theorem dX4_soothe_2 : decode cX4_soothe 2 = .ok (.bipush 40, 2) := by decide +kernel
theorem dX4_soothe_4 : decode cX4_soothe 4 = .ok (.invokestatic 50, 3) := by decide +kernel
theorem dX4_soothe_7 : decode cX4_soothe 7 = .ok (.ifCond .eq 12, 3) := by decide +kernel
theorem dX4_soothe_10 : decode cX4_soothe 10 = .ok (.iload_n 2, 1) := by decide +kernel
theorem dX4_soothe_11 : decode cX4_soothe 11 = .ok (.iconst 0, 1) := by decide +kernel
theorem dX4_soothe_12 : decode cX4_soothe 12 = .ok (.iconst 1, 1) := by decide +kernel
theorem dX4_soothe_13 : decode cX4_soothe 13 = .ok (.invokestatic 50, 3) := by decide +kernel
theorem dX4_soothe_16 : decode cX4_soothe 16 = .ok (.ifCond .ne 5, 3) := by decide +kernel
theorem dX4_soothe_19 : decode cX4_soothe 19 = .ok (.iconst (-1), 1) := by decide +kernel
theorem dX4_soothe_20 : decode cX4_soothe 20 = .ok (.ireturn, 1) := by decide +kernel
theorem dX4_soothe_21 : decode cX4_soothe 21 = .ok (.bipush (-4), 2) := by decide +kernel
theorem dX4_soothe_23 : decode cX4_soothe 23 = .ok (.istore_n 3, 1) := by decide +kernel
theorem dX4_soothe_24 : decode cX4_soothe 24 = .ok (.bipush (-4), 2) := by decide +kernel
theorem dX4_soothe_26 : decode cX4_soothe 26 = .ok (.istore 4, 2) := by decide +kernel
theorem dX4_soothe_28 : decode cX4_soothe 28 = .ok (.iconst 0, 1) := by decide +kernel
theorem dX4_soothe_29 : decode cX4_soothe 29 = .ok (.istore 5, 2) := by decide +kernel
theorem dX4_soothe_31 : decode cX4_soothe 31 = .ok (.iload 5, 2) := by decide +kernel
theorem dX4_soothe_33 : decode cX4_soothe 33 = .ok (.aload_n 0, 1) := by decide +kernel
theorem dX4_soothe_34 : decode cX4_soothe 34 = .ok (.getfield 10, 3) := by decide +kernel
theorem dX4_soothe_37 : decode cX4_soothe 37 = .ok (.getfield 54, 3) := by decide +kernel
theorem dX4_soothe_40 : decode cX4_soothe 40 = .ok (.if_icmp .ge 49, 3) := by decide +kernel
theorem dX4_soothe_43 : decode cX4_soothe 43 = .ok (.aload_n 0, 1) := by decide +kernel
theorem dX4_soothe_44 : decode cX4_soothe 44 = .ok (.getfield 10, 3) := by decide +kernel
theorem dX4_soothe_47 : decode cX4_soothe 47 = .ok (.iload 5, 2) := by decide +kernel
theorem dX4_soothe_49 : decode cX4_soothe 49 = .ok (.invokevirtual 82, 3) := by decide +kernel
theorem dX4_soothe_52 : decode cX4_soothe 52 = .ok (.ifCond .eq 13, 3) := by decide +kernel
theorem dX4_soothe_55 : decode cX4_soothe 55 = .ok (.aload_n 0, 1) := by decide +kernel
theorem dX4_soothe_56 : decode cX4_soothe 56 = .ok (.iload 5, 2) := by decide +kernel
theorem dX4_soothe_58 : decode cX4_soothe 58 = .ok (.iload_n 1, 1) := by decide +kernel
theorem dX4_soothe_59 : decode cX4_soothe 59 = .ok (.invokevirtual 168, 3) := by decide +kernel
theorem dX4_soothe_62 : decode cX4_soothe 62 = .ok (.goto 5, 3) := by decide +kernel
theorem dX4_soothe_65 : decode cX4_soothe 65 = .ok (.bipush (-4), 2) := by decide +kernel
theorem dX4_soothe_67 : decode cX4_soothe 67 = .ok (.istore 6, 2) := by decide +kernel
theorem dX4_soothe_69 : decode cX4_soothe 69 = .ok (.iload 6, 2) := by decide +kernel
theorem dX4_soothe_71 : decode cX4_soothe 71 = .ok (.iload 4, 2) := by decide +kernel
theorem dX4_soothe_73 : decode cX4_soothe 73 = .ok (.if_icmp .le 10, 3) := by decide +kernel
theorem dX4_soothe_76 : decode cX4_soothe 76 = .ok (.iload 5, 2) := by decide +kernel
theorem dX4_soothe_78 : decode cX4_soothe 78 = .ok (.istore_n 3, 1) := by decide +kernel
theorem dX4_soothe_79 : decode cX4_soothe 79 = .ok (.iload 6, 2) := by decide +kernel
theorem dX4_soothe_81 : decode cX4_soothe 81 = .ok (.istore 4, 2) := by decide +kernel
theorem dX4_soothe_83 : decode cX4_soothe 83 = .ok (.iinc 5 1, 3) := by decide +kernel
theorem dX4_soothe_86 : decode cX4_soothe 86 = .ok (.goto (-55), 3) := by decide +kernel
theorem dX4_soothe_89 : decode cX4_soothe 89 = .ok (.iload_n 2, 1) := by decide +kernel
theorem dX4_soothe_90 : decode cX4_soothe 90 = .ok (.ifCond .ne 7, 3) := by decide +kernel
theorem dX4_soothe_93 : decode cX4_soothe 93 = .ok (.iload_n 3, 1) := by decide +kernel
theorem dX4_soothe_94 : decode cX4_soothe 94 = .ok (.goto 5, 3) := by decide +kernel
theorem dX4_soothe_97 : decode cX4_soothe 97 = .ok (.iload 4, 2) := by decide +kernel
theorem dX4_soothe_99 : decode cX4_soothe 99 = .ok (.ireturn, 1) := by decide +kernel
theorem dX4_start_0 : decode cX4_start 0 = .ok (.iload_n 1, 1) := by decide +kernel
theorem dX4_start_1 : decode cX4_start 1 = .ok (.iconst 0, 1) := by decide +kernel
theorem dX4_start_2 : decode cX4_start 2 = .ok (.bipush 60, 2) := by decide +kernel
theorem dX4_start_4 : decode cX4_start 4 = .ok (.invokestatic 50, 3) := by decide +kernel
theorem dX4_start_7 : decode cX4_start 7 = .ok (.ifCond .ne 5, 3) := by decide +kernel
theorem dX4_start_10 : decode cX4_start 10 = .ok (.iconst (-1), 1) := by decide +kernel
theorem dX4_start_11 : decode cX4_start 11 = .ok (.ireturn, 1) := by decide +kernel
theorem dX4_start_12 : decode cX4_start 12 = .ok (.iconst 0, 1) := by decide +kernel
theorem dX4_start_13 : decode cX4_start 13 = .ok (.istore_n 2, 1) := by decide +kernel
theorem dX4_start_14 : decode cX4_start 14 = .ok (.iload_n 2, 1) := by decide +kernel
theorem dX4_start_15 : decode cX4_start 15 = .ok (.aload_n 0, 1) := by decide +kernel
theorem dX4_start_16 : decode cX4_start 16 = .ok (.getfield 10, 3) := by decide +kernel
theorem dX4_start_19 : decode cX4_start 19 = .ok (.getfield 54, 3) := by decide +kernel
theorem dX4_start_22 : decode cX4_start 22 = .ok (.if_icmp .ge 31, 3) := by decide +kernel
theorem dX4_start_25 : decode cX4_start 25 = .ok (.aload_n 0, 1) := by decide +kernel
theorem dX4_start_26 : decode cX4_start 26 = .ok (.getfield 10, 3) := by decide +kernel
theorem dX4_start_29 : decode cX4_start 29 = .ok (.iload_n 2, 1) := by decide +kernel
theorem dX4_start_30 : decode cX4_start 30 = .ok (.invokevirtual 82, 3) := by decide +kernel
theorem dX4_start_33 : decode cX4_start 33 = .ok (.ifCond .ne 14, 3) := by decide +kernel
theorem dX4_start_36 : decode cX4_start 36 = .ok (.aload_n 0, 1) := by decide +kernel
theorem dX4_start_37 : decode cX4_start 37 = .ok (.iload_n 2, 1) := by decide +kernel
theorem dX4_start_38 : decode cX4_start 38 = .ok (.iload_n 1, 1) := by decide +kernel
theorem dX4_start_39 : decode cX4_start 39 = .ok (.invokevirtual 171, 3) := by decide +kernel
theorem dX4_start_42 : decode cX4_start 42 = .ok (.ifCond .eq 5, 3) := by decide +kernel
theorem dX4_start_45 : decode cX4_start 45 = .ok (.iload_n 2, 1) := by decide +kernel
theorem dX4_start_46 : decode cX4_start 46 = .ok (.ireturn, 1) := by decide +kernel
theorem dX4_start_47 : decode cX4_start 47 = .ok (.iinc 2 1, 3) := by decide +kernel
theorem dX4_start_50 : decode cX4_start 50 = .ok (.goto (-36), 3) := by decide +kernel
theorem dX4_start_53 : decode cX4_start 53 = .ok (.bipush (-4), 2) := by decide +kernel
theorem dX4_start_55 : decode cX4_start 55 = .ok (.ireturn, 1) := by decide +kernel
theorem dX4_sum_0 : decode cX4_sum 0 = .ok (.iload_n 1, 1) := by decide +kernel
theorem dX4_sum_1 : decode cX4_sum 1 = .ok (.iconst 1, 1) := by decide +kernel
theorem dX4_sum_2 : decode cX4_sum 2 = .ok (.bipush 40, 2) := by decide +kernel
theorem dX4_sum_4 : decode cX4_sum 4 = .ok (.invokestatic 50, 3) := by decide +kernel
theorem dX4_sum_7 : decode cX4_sum 7 = .ok (.ifCond .ne 5, 3) := by decide +kernel
theorem dX4_sum_10 : decode cX4_sum 10 = .ok (.iconst (-1), 1) := by decide +kernel
theorem dX4_sum_11 : decode cX4_sum 11 = .ok (.ireturn, 1) := by decide +kernel
theorem dX4_sum_12 : decode cX4_sum 12 = .ok (.iconst 0, 1) := by decide +kernel
theorem dX4_sum_13 : decode cX4_sum 13 = .ok (.istore_n 2, 1) := by decide +kernel
theorem dX4_sum_14 : decode cX4_sum 14 = .ok (.aload_n 0, 1) := by decide +kernel
theorem dX4_sum_15 : decode cX4_sum 15 = .ok (.getfield 42, 3) := by decide +kernel
theorem dX4_sum_18 : decode cX4_sum 18 = .ok (.aload_n 0, 1) := by decide +kernel
theorem dX4_sum_19 : decode cX4_sum 19 = .ok (.getfield 10, 3) := by decide +kernel
theorem dX4_sum_22 : decode cX4_sum 22 = .ok (.invokevirtual 106, 3) := by decide +kernel
theorem dX4_sum_25 : decode cX4_sum 25 = .ok (.iconst 0, 1) := by decide +kernel
theorem dX4_sum_26 : decode cX4_sum 26 = .ok (.istore_n 3, 1) := by decide +kernel
theorem dX4_sum_27 : decode cX4_sum 27 = .ok (.iload_n 3, 1) := by decide +kernel
theorem dX4_sum_28 : decode cX4_sum 28 = .ok (.iload_n 1, 1) := by decide +kernel
theorem dX4_sum_29 : decode cX4_sum 29 = .ok (.if_icmp .ge 43, 3) := by decide +kernel
theorem dX4_sum_32 : decode cX4_sum 32 = .ok (.aload_n 0, 1) := by decide +kernel
theorem dX4_sum_33 : decode cX4_sum 33 = .ok (.getfield 42, 3) := by decide +kernel
theorem dX4_sum_36 : decode cX4_sum 36 = .ok (.invokevirtual 113, 3) := by decide +kernel
theorem dX4_sum_39 : decode cX4_sum 39 = .ok (.istore 4, 2) := by decide +kernel
theorem dX4_sum_41 : decode cX4_sum 41 = .ok (.iload 4, 2) := by decide +kernel
theorem dX4_sum_43 : decode cX4_sum 43 = .ok (.ifCond .lt 16, 3) := by decide +kernel
theorem dX4_sum_46 : decode cX4_sum 46 = .ok (.iload_n 2, 1) := by decide +kernel
theorem dX4_sum_47 : decode cX4_sum 47 = .ok (.aload_n 0, 1) := by decide +kernel
theorem dX4_sum_48 : decode cX4_sum 48 = .ok (.getfield 42, 3) := by decide +kernel
theorem dX4_sum_51 : decode cX4_sum 51 = .ok (.getfield 79, 3) := by decide +kernel
theorem dX4_sum_54 : decode cX4_sum 54 = .ok (.iload 4, 2) := by decide +kernel
theorem dX4_sum_56 : decode cX4_sum 56 = .ok (.iaload, 1) := by decide +kernel
theorem dX4_sum_57 : decode cX4_sum 57 = .ok (.iadd, 1) := by decide +kernel
theorem dX4_sum_58 : decode cX4_sum 58 = .ok (.istore_n 2, 1) := by decide +kernel
theorem dX4_sum_59 : decode cX4_sum 59 = .ok (.aload_n 0, 1) := by decide +kernel
theorem dX4_sum_60 : decode cX4_sum 60 = .ok (.getfield 42, 3) := by decide +kernel
theorem dX4_sum_63 : decode cX4_sum 63 = .ok (.invokevirtual 130, 3) := by decide +kernel
theorem dX4_sum_66 : decode cX4_sum 66 = .ok (.iinc 3 1, 3) := by decide +kernel
theorem dX4_sum_69 : decode cX4_sum 69 = .ok (.goto (-42), 3) := by decide +kernel
theorem dX4_sum_72 : decode cX4_sum 72 = .ok (.iload_n 2, 1) := by decide +kernel
theorem dX4_sum_73 : decode cX4_sum 73 = .ok (.ireturn, 1) := by decide +kernel
theorem dX4_rows_0 : decode cX4_rows 0 = .ok (.iload_n 1, 1) := by decide +kernel
theorem dX4_rows_1 : decode cX4_rows 1 = .ok (.iconst (-1), 1) := by decide +kernel
theorem dX4_rows_2 : decode cX4_rows 2 = .ok (.if_icmp .ne 7, 3) := by decide +kernel
theorem dX4_rows_5 : decode cX4_rows 5 = .ok (.iconst 1, 1) := by decide +kernel
theorem dX4_rows_6 : decode cX4_rows 6 = .ok (.goto 4, 3) := by decide +kernel
theorem dX4_rows_9 : decode cX4_rows 9 = .ok (.iconst 0, 1) := by decide +kernel
theorem dX4_rows_10 : decode cX4_rows 10 = .ok (.istore 4, 2) := by decide +kernel
theorem dX4_rows_12 : decode cX4_rows 12 = .ok (.iload 4, 2) := by decide +kernel
theorem dX4_rows_14 : decode cX4_rows 14 = .ok (.ifCond .ne 11, 3) := by decide +kernel
theorem dX4_rows_17 : decode cX4_rows 17 = .ok (.aload_n 0, 1) := by decide +kernel
theorem dX4_rows_18 : decode cX4_rows 18 = .ok (.iload_n 1, 1) := by decide +kernel
theorem dX4_rows_19 : decode cX4_rows 19 = .ok (.invokevirtual 65, 3) := by decide +kernel
theorem dX4_rows_22 : decode cX4_rows 22 = .ok (.ifCond .eq 22, 3) := by decide +kernel
theorem dX4_rows_25 : decode cX4_rows 25 = .ok (.iload_n 2, 1) := by decide +kernel
theorem dX4_rows_26 : decode cX4_rows 26 = .ok (.iconst 0, 1) := by decide +kernel
theorem dX4_rows_27 : decode cX4_rows 27 = .ok (.bipush 10, 2) := by decide +kernel
theorem dX4_rows_29 : decode cX4_rows 29 = .ok (.invokestatic 50, 3) := by decide +kernel
theorem dX4_rows_32 : decode cX4_rows 32 = .ok (.ifCond .eq 12, 3) := by decide +kernel
theorem dX4_rows_35 : decode cX4_rows 35 = .ok (.iload_n 3, 1) := by decide +kernel
theorem dX4_rows_36 : decode cX4_rows 36 = .ok (.iconst 0, 1) := by decide +kernel
theorem dX4_rows_37 : decode cX4_rows 37 = .ok (.iconst 1, 1) := by decide +kernel
theorem dX4_rows_38 : decode cX4_rows 38 = .ok (.invokestatic 50, 3) := by decide +kernel
theorem dX4_rows_41 : decode cX4_rows 41 = .ok (.ifCond .ne 5, 3) := by decide +kernel
theorem dX4_rows_44 : decode cX4_rows 44 = .ok (.iconst (-1), 1) := by decide +kernel
theorem dX4_rows_45 : decode cX4_rows 45 = .ok (.ireturn, 1) := by decide +kernel
theorem dX4_rows_46 : decode cX4_rows 46 = .ok (.iload 4, 2) := by decide +kernel
theorem dX4_rows_48 : decode cX4_rows 48 = .ok (.ifCond .eq 7, 3) := by decide +kernel
theorem dX4_rows_51 : decode cX4_rows 51 = .ok (.iconst 1, 1) := by decide +kernel
theorem dX4_rows_52 : decode cX4_rows 52 = .ok (.goto 12, 3) := by decide +kernel
theorem dX4_rows_55 : decode cX4_rows 55 = .ok (.aload_n 0, 1) := by decide +kernel
theorem dX4_rows_56 : decode cX4_rows 56 = .ok (.getfield 10, 3) := by decide +kernel
theorem dX4_rows_59 : decode cX4_rows 59 = .ok (.iload_n 1, 1) := by decide +kernel
theorem dX4_rows_60 : decode cX4_rows 60 = .ok (.iload_n 2, 1) := by decide +kernel
theorem dX4_rows_61 : decode cX4_rows 61 = .ok (.invokevirtual 175, 3) := by decide +kernel
theorem dX4_rows_64 : decode cX4_rows 64 = .ok (.istore 5, 2) := by decide +kernel
theorem dX4_rows_66 : decode cX4_rows 66 = .ok (.iload 4, 2) := by decide +kernel
theorem dX4_rows_68 : decode cX4_rows 68 = .ok (.ifCond .eq 7, 3) := by decide +kernel
theorem dX4_rows_71 : decode cX4_rows 71 = .ok (.iconst 1, 1) := by decide +kernel
theorem dX4_rows_72 : decode cX4_rows 72 = .ok (.goto 5, 3) := by decide +kernel
theorem dX4_rows_75 : decode cX4_rows 75 = .ok (.bipush 10, 2) := by decide +kernel
theorem dX4_rows_77 : decode cX4_rows 77 = .ok (.istore 6, 2) := by decide +kernel
theorem dX4_rows_79 : decode cX4_rows 79 = .ok (.iconst 0, 1) := by decide +kernel
theorem dX4_rows_80 : decode cX4_rows 80 = .ok (.istore 7, 2) := by decide +kernel
theorem dX4_rows_82 : decode cX4_rows 82 = .ok (.iload 7, 2) := by decide +kernel
theorem dX4_rows_84 : decode cX4_rows 84 = .ok (.aload_n 0, 1) := by decide +kernel
theorem dX4_rows_85 : decode cX4_rows 85 = .ok (.getfield 10, 3) := by decide +kernel
theorem dX4_rows_88 : decode cX4_rows 88 = .ok (.getfield 54, 3) := by decide +kernel
theorem dX4_rows_91 : decode cX4_rows 91 = .ok (.if_icmp .ge 64, 3) := by decide +kernel
theorem dX4_rows_94 : decode cX4_rows 94 = .ok (.aload_n 0, 1) := by decide +kernel
theorem dX4_rows_95 : decode cX4_rows 95 = .ok (.getfield 10, 3) := by decide +kernel
theorem dX4_rows_98 : decode cX4_rows 98 = .ok (.iload 7, 2) := by decide +kernel
theorem dX4_rows_100 : decode cX4_rows 100 = .ok (.invokevirtual 82, 3) := by decide +kernel
theorem dX4_rows_103 : decode cX4_rows 103 = .ok (.ifCond .eq 46, 3) := by decide +kernel
theorem dX4_rows_106 : decode cX4_rows 106 = .ok (.iload 4, 2) := by decide +kernel
theorem dX4_rows_108 : decode cX4_rows 108 = .ok (.ifCond .ne 16, 3) := by decide +kernel
theorem dX4_rows_111 : decode cX4_rows 111 = .ok (.aload_n 0, 1) := by decide +kernel
theorem dX4_rows_112 : decode cX4_rows 112 = .ok (.getfield 10, 3) := by decide +kernel
theorem dX4_rows_115 : decode cX4_rows 115 = .ok (.iload 7, 2) := by decide +kernel
theorem dX4_rows_117 : decode cX4_rows 117 = .ok (.iload_n 1, 1) := by decide +kernel
theorem dX4_rows_118 : decode cX4_rows 118 = .ok (.invokevirtual 178, 3) := by decide +kernel
theorem dX4_rows_121 : decode cX4_rows 121 = .ok (.ifCond .eq 28, 3) := by decide +kernel
theorem dX4_rows_124 : decode cX4_rows 124 = .ok (.iload 5, 2) := by decide +kernel
theorem dX4_rows_126 : decode cX4_rows 126 = .ok (.bipush 10, 2) := by decide +kernel
theorem dX4_rows_128 : decode cX4_rows 128 = .ok (.aload_n 0, 1) := by decide +kernel
theorem dX4_rows_129 : decode cX4_rows 129 = .ok (.getfield 10, 3) := by decide +kernel
theorem dX4_rows_132 : decode cX4_rows 132 = .ok (.iload 7, 2) := by decide +kernel
theorem dX4_rows_134 : decode cX4_rows 134 = .ok (.iload_n 2, 1) := by decide +kernel
theorem dX4_rows_135 : decode cX4_rows 135 = .ok (.invokevirtual 175, 3) := by decide +kernel
theorem dX4_rows_138 : decode cX4_rows 138 = .ok (.isub, 1) := by decide +kernel
theorem dX4_rows_139 : decode cX4_rows 139 = .ok (.imul, 1) := by decide +kernel
theorem dX4_rows_140 : decode cX4_rows 140 = .ok (.istore 5, 2) := by decide +kernel
theorem dX4_rows_142 : decode cX4_rows 142 = .ok (.iload 6, 2) := by decide +kernel
theorem dX4_rows_144 : decode cX4_rows 144 = .ok (.bipush 10, 2) := by decide +kernel
theorem dX4_rows_146 : decode cX4_rows 146 = .ok (.imul, 1) := by decide +kernel
theorem dX4_rows_147 : decode cX4_rows 147 = .ok (.istore 6, 2) := by decide +kernel
theorem dX4_rows_149 : decode cX4_rows 149 = .ok (.iinc 7 1, 3) := by decide +kernel
theorem dX4_rows_152 : decode cX4_rows 152 = .ok (.goto (-70), 3) := by decide +kernel
theorem dX4_rows_155 : decode cX4_rows 155 = .ok (.iload 5, 2) := by decide +kernel
theorem dX4_rows_157 : decode cX4_rows 157 = .ok (.iload 6, 2) := by decide +kernel
theorem dX4_rows_159 : decode cX4_rows 159 = .ok (.invokestatic 181, 3) := by decide +kernel
theorem dX4_rows_162 : decode cX4_rows 162 = .ok (.istore 7, 2) := by decide +kernel
theorem dX4_rows_164 : decode cX4_rows 164 = .ok (.iload 7, 2) := by decide +kernel
theorem dX4_rows_166 : decode cX4_rows 166 = .ok (.ifCond .gt 5, 3) := by decide +kernel
theorem dX4_rows_169 : decode cX4_rows 169 = .ok (.iconst (-1), 1) := by decide +kernel
theorem dX4_rows_170 : decode cX4_rows 170 = .ok (.ireturn, 1) := by decide +kernel
theorem dX4_rows_171 : decode cX4_rows 171 = .ok (.iload_n 3, 1) := by decide +kernel
theorem dX4_rows_172 : decode cX4_rows 172 = .ok (.ifCond .ne 11, 3) := by decide +kernel
theorem dX4_rows_175 : decode cX4_rows 175 = .ok (.iload 5, 2) := by decide +kernel
theorem dX4_rows_177 : decode cX4_rows 177 = .ok (.iload 7, 2) := by decide +kernel
theorem dX4_rows_179 : decode cX4_rows 179 = .ok (.idiv, 1) := by decide +kernel
theorem dX4_rows_180 : decode cX4_rows 180 = .ok (.goto 8, 3) := by decide +kernel
theorem dX4_rows_183 : decode cX4_rows 183 = .ok (.iload 6, 2) := by decide +kernel
theorem dX4_rows_185 : decode cX4_rows 185 = .ok (.iload 7, 2) := by decide +kernel
theorem dX4_rows_187 : decode cX4_rows 187 = .ok (.idiv, 1) := by decide +kernel
theorem dX4_rows_188 : decode cX4_rows 188 = .ok (.ireturn, 1) := by decide +kernel
theorem dX4_image_0 : decode cX4_image 0 = .ok (.aload_n 0, 1) := by decide +kernel
theorem dX4_image_1 : decode cX4_image 1 = .ok (.getfield 23, 3) := by decide +kernel
theorem dX4_image_4 : decode cX4_image 4 = .ok (.aload_n 0, 1) := by decide +kernel
theorem dX4_image_5 : decode cX4_image 5 = .ok (.getfield 10, 3) := by decide +kernel
theorem dX4_image_8 : decode cX4_image 8 = .ok (.invokevirtual 106, 3) := by decide +kernel
theorem dX4_image_11 : decode cX4_image 11 = .ok (.aload_n 0, 1) := by decide +kernel
theorem dX4_image_12 : decode cX4_image 12 = .ok (.getfield 26, 3) := by decide +kernel
theorem dX4_image_15 : decode cX4_image 15 = .ok (.aload_n 0, 1) := by decide +kernel
theorem dX4_image_16 : decode cX4_image 16 = .ok (.getfield 19, 3) := by decide +kernel
theorem dX4_image_19 : decode cX4_image 19 = .ok (.invokevirtual 184, 3) := by decide +kernel
theorem dX4_image_22 : decode cX4_image 22 = .ok (.aload_n 0, 1) := by decide +kernel
theorem dX4_image_23 : decode cX4_image 23 = .ok (.iconst 1, 1) := by decide +kernel
theorem dX4_image_24 : decode cX4_image 24 = .ok (.putfield 45, 3) := by decide +kernel
theorem dX4_image_27 : decode cX4_image 27 = .ok (.iconst 1, 1) := by decide +kernel
theorem dX4_image_28 : decode cX4_image 28 = .ok (.ireturn, 1) := by decide +kernel
theorem dX4_restore_0 : decode cX4_restore 0 = .ok (.aload_n 0, 1) := by decide +kernel
theorem dX4_restore_1 : decode cX4_restore 1 = .ok (.getfield 45, 3) := by decide +kernel
theorem dX4_restore_4 : decode cX4_restore 4 = .ok (.ifCond .ne 6, 3) := by decide +kernel
theorem dX4_restore_7 : decode cX4_restore 7 = .ok (.bipush (-4), 2) := by decide +kernel
theorem dX4_restore_9 : decode cX4_restore 9 = .ok (.ireturn, 1) := by decide +kernel
theorem dX4_restore_10 : decode cX4_restore 10 = .ok (.aload_n 0, 1) := by decide +kernel
theorem dX4_restore_11 : decode cX4_restore 11 = .ok (.getfield 10, 3) := by decide +kernel
theorem dX4_restore_14 : decode cX4_restore 14 = .ok (.aload_n 0, 1) := by decide +kernel
theorem dX4_restore_15 : decode cX4_restore 15 = .ok (.getfield 23, 3) := by decide +kernel
theorem dX4_restore_18 : decode cX4_restore 18 = .ok (.invokevirtual 106, 3) := by decide +kernel
theorem dX4_restore_21 : decode cX4_restore 21 = .ok (.aload_n 0, 1) := by decide +kernel
theorem dX4_restore_22 : decode cX4_restore 22 = .ok (.getfield 19, 3) := by decide +kernel
theorem dX4_restore_25 : decode cX4_restore 25 = .ok (.aload_n 0, 1) := by decide +kernel
theorem dX4_restore_26 : decode cX4_restore 26 = .ok (.getfield 26, 3) := by decide +kernel
theorem dX4_restore_29 : decode cX4_restore 29 = .ok (.invokevirtual 184, 3) := by decide +kernel
theorem dX4_restore_32 : decode cX4_restore 32 = .ok (.iconst 1, 1) := by decide +kernel
theorem dX4_restore_33 : decode cX4_restore 33 = .ok (.ireturn, 1) := by decide +kernel
theorem dX4_heard_0 : decode cX4_heard 0 = .ok (.aload_n 0, 1) := by decide +kernel
theorem dX4_heard_1 : decode cX4_heard 1 = .ok (.iload_n 1, 1) := by decide +kernel
theorem dX4_heard_2 : decode cX4_heard 2 = .ok (.invokevirtual 65, 3) := by decide +kernel
theorem dX4_heard_5 : decode cX4_heard 5 = .ok (.ifCond .eq 38, 3) := by decide +kernel
theorem dX4_heard_8 : decode cX4_heard 8 = .ok (.iload_n 2, 1) := by decide +kernel
theorem dX4_heard_9 : decode cX4_heard 9 = .ok (.invokestatic 187, 3) := by decide +kernel
theorem dX4_heard_12 : decode cX4_heard 12 = .ok (.ifCond .eq 31, 3) := by decide +kernel
theorem dX4_heard_15 : decode cX4_heard 15 = .ok (.iload_n 3, 1) := by decide +kernel
theorem dX4_heard_16 : decode cX4_heard 16 = .ok (.invokestatic 190, 3) := by decide +kernel
theorem dX4_heard_19 : decode cX4_heard 19 = .ok (.ifCond .eq 24, 3) := by decide +kernel
theorem dX4_heard_22 : decode cX4_heard 22 = .ok (.iload 5, 2) := by decide +kernel
theorem dX4_heard_24 : decode cX4_heard 24 = .ok (.iconst 1, 1) := by decide +kernel
theorem dX4_heard_25 : decode cX4_heard 25 = .ok (.bipush 8, 2) := by decide +kernel
theorem dX4_heard_27 : decode cX4_heard 27 = .ok (.invokestatic 50, 3) := by decide +kernel
theorem dX4_heard_30 : decode cX4_heard 30 = .ok (.ifCond .eq 13, 3) := by decide +kernel
theorem dX4_heard_33 : decode cX4_heard 33 = .ok (.iload 6, 2) := by decide +kernel
theorem dX4_heard_35 : decode cX4_heard 35 = .ok (.iconst 0, 1) := by decide +kernel
theorem dX4_heard_36 : decode cX4_heard 36 = .ok (.iconst 3, 1) := by decide +kernel
theorem dX4_heard_37 : decode cX4_heard 37 = .ok (.invokestatic 50, 3) := by decide +kernel
theorem dX4_heard_40 : decode cX4_heard 40 = .ok (.ifCond .ne 5, 3) := by decide +kernel
theorem dX4_heard_43 : decode cX4_heard 43 = .ok (.iconst (-1), 1) := by decide +kernel
theorem dX4_heard_44 : decode cX4_heard 44 = .ok (.ireturn, 1) := by decide +kernel
theorem dX4_heard_45 : decode cX4_heard 45 = .ok (.aload_n 0, 1) := by decide +kernel
theorem dX4_heard_46 : decode cX4_heard 46 = .ok (.getfield 38, 3) := by decide +kernel
theorem dX4_heard_49 : decode cX4_heard 49 = .ok (.iload_n 2, 1) := by decide +kernel
theorem dX4_heard_50 : decode cX4_heard 50 = .ok (.aaload, 1) := by decide +kernel
theorem dX4_heard_51 : decode cX4_heard 51 = .ok (.astore 7, 2) := by decide +kernel
theorem dX4_heard_53 : decode cX4_heard 53 = .ok (.aload 7, 2) := by decide +kernel
theorem dX4_heard_55 : decode cX4_heard 55 = .ok (.iload_n 3, 1) := by decide +kernel
theorem dX4_heard_56 : decode cX4_heard 56 = .ok (.iload 4, 2) := by decide +kernel
theorem dX4_heard_58 : decode cX4_heard 58 = .ok (.iload 5, 2) := by decide +kernel
theorem dX4_heard_60 : decode cX4_heard 60 = .ok (.invokevirtual 193, 3) := by decide +kernel
theorem dX4_heard_63 : decode cX4_heard 63 = .ok (.istore 8, 2) := by decide +kernel
theorem dX4_heard_65 : decode cX4_heard 65 = .ok (.iload 8, 2) := by decide +kernel
theorem dX4_heard_67 : decode cX4_heard 67 = .ok (.ifCond .eq 6, 3) := by decide +kernel
theorem dX4_heard_70 : decode cX4_heard 70 = .ok (.iload 8, 2) := by decide +kernel
theorem dX4_heard_72 : decode cX4_heard 72 = .ok (.ireturn, 1) := by decide +kernel
theorem dX4_heard_73 : decode cX4_heard 73 = .ok (.iload 6, 2) := by decide +kernel
theorem dX4_heard_75 : decode cX4_heard 75 = .ok (.tableswitch 61 0 2 #[25, 37, 49], 25) := by decide +kernel
theorem dX4_heard_100 : decode cX4_heard 100 = .ok (.aload_n 0, 1) := by decide +kernel
theorem dX4_heard_101 : decode cX4_heard 101 = .ok (.iload_n 1, 1) := by decide +kernel
theorem dX4_heard_102 : decode cX4_heard 102 = .ok (.aload 7, 2) := by decide +kernel
theorem dX4_heard_104 : decode cX4_heard 104 = .ok (.iload 4, 2) := by decide +kernel
theorem dX4_heard_106 : decode cX4_heard 106 = .ok (.iload 5, 2) := by decide +kernel
theorem dX4_heard_108 : decode cX4_heard 108 = .ok (.invokevirtual 197, 3) := by decide +kernel
theorem dX4_heard_111 : decode cX4_heard 111 = .ok (.ireturn, 1) := by decide +kernel
theorem dX4_heard_112 : decode cX4_heard 112 = .ok (.aload_n 0, 1) := by decide +kernel
theorem dX4_heard_113 : decode cX4_heard 113 = .ok (.iload_n 1, 1) := by decide +kernel
theorem dX4_heard_114 : decode cX4_heard 114 = .ok (.aload 7, 2) := by decide +kernel
theorem dX4_heard_116 : decode cX4_heard 116 = .ok (.iload 4, 2) := by decide +kernel
theorem dX4_heard_118 : decode cX4_heard 118 = .ok (.iload 5, 2) := by decide +kernel
theorem dX4_heard_120 : decode cX4_heard 120 = .ok (.invokevirtual 201, 3) := by decide +kernel
theorem dX4_heard_123 : decode cX4_heard 123 = .ok (.ireturn, 1) := by decide +kernel
theorem dX4_heard_124 : decode cX4_heard 124 = .ok (.aload_n 0, 1) := by decide +kernel
theorem dX4_heard_125 : decode cX4_heard 125 = .ok (.iload_n 1, 1) := by decide +kernel
theorem dX4_heard_126 : decode cX4_heard 126 = .ok (.aload 7, 2) := by decide +kernel
theorem dX4_heard_128 : decode cX4_heard 128 = .ok (.iload 4, 2) := by decide +kernel
theorem dX4_heard_130 : decode cX4_heard 130 = .ok (.iload 5, 2) := by decide +kernel
theorem dX4_heard_132 : decode cX4_heard 132 = .ok (.invokevirtual 204, 3) := by decide +kernel
theorem dX4_heard_135 : decode cX4_heard 135 = .ok (.ireturn, 1) := by decide +kernel
theorem dX4_heard_136 : decode cX4_heard 136 = .ok (.aload_n 0, 1) := by decide +kernel
theorem dX4_heard_137 : decode cX4_heard 137 = .ok (.iload_n 1, 1) := by decide +kernel
theorem dX4_heard_138 : decode cX4_heard 138 = .ok (.aload 7, 2) := by decide +kernel
theorem dX4_heard_140 : decode cX4_heard 140 = .ok (.iload 4, 2) := by decide +kernel
theorem dX4_heard_142 : decode cX4_heard 142 = .ok (.iload 5, 2) := by decide +kernel
theorem dX4_heard_144 : decode cX4_heard 144 = .ok (.invokevirtual 207, 3) := by decide +kernel
theorem dX4_heard_147 : decode cX4_heard 147 = .ok (.ireturn, 1) := by decide +kernel
theorem dX4_film_0 : decode cX4_film 0 = .ok (.aload_n 0, 1) := by decide +kernel
theorem dX4_film_1 : decode cX4_film 1 = .ok (.iload_n 1, 1) := by decide +kernel
theorem dX4_film_2 : decode cX4_film 2 = .ok (.invokevirtual 65, 3) := by decide +kernel
theorem dX4_film_5 : decode cX4_film 5 = .ok (.ifCond .eq 28, 3) := by decide +kernel
theorem dX4_film_8 : decode cX4_film 8 = .ok (.iload_n 2, 1) := by decide +kernel
theorem dX4_film_9 : decode cX4_film 9 = .ok (.iconst 1, 1) := by decide +kernel
theorem dX4_film_10 : decode cX4_film 10 = .ok (.bipush 24, 2) := by decide +kernel
theorem dX4_film_12 : decode cX4_film 12 = .ok (.invokestatic 50, 3) := by decide +kernel
theorem dX4_film_15 : decode cX4_film 15 = .ok (.ifCond .eq 18, 3) := by decide +kernel
theorem dX4_film_18 : decode cX4_film 18 = .ok (.iload_n 3, 1) := by decide +kernel
theorem dX4_film_19 : decode cX4_film 19 = .ok (.invokestatic 187, 3) := by decide +kernel
theorem dX4_film_22 : decode cX4_film 22 = .ok (.ifCond .eq 11, 3) := by decide +kernel
theorem dX4_film_25 : decode cX4_film 25 = .ok (.iload 4, 2) := by decide +kernel
theorem dX4_film_27 : decode cX4_film 27 = .ok (.invokestatic 190, 3) := by decide +kernel
theorem dX4_film_30 : decode cX4_film 30 = .ok (.ifCond .ne 5, 3) := by decide +kernel
theorem dX4_film_33 : decode cX4_film 33 = .ok (.iconst (-1), 1) := by decide +kernel
theorem dX4_film_34 : decode cX4_film 34 = .ok (.ireturn, 1) := by decide +kernel
theorem dX4_film_35 : decode cX4_film 35 = .ok (.aload_n 0, 1) := by decide +kernel
theorem dX4_film_36 : decode cX4_film 36 = .ok (.getfield 38, 3) := by decide +kernel
theorem dX4_film_39 : decode cX4_film 39 = .ok (.iload_n 3, 1) := by decide +kernel
theorem dX4_film_40 : decode cX4_film 40 = .ok (.aaload, 1) := by decide +kernel
theorem dX4_film_41 : decode cX4_film 41 = .ok (.astore 6, 2) := by decide +kernel
theorem dX4_film_43 : decode cX4_film 43 = .ok (.aload 6, 2) := by decide +kernel
theorem dX4_film_45 : decode cX4_film 45 = .ok (.iload 4, 2) := by decide +kernel
theorem dX4_film_47 : decode cX4_film 47 = .ok (.iload 5, 2) := by decide +kernel
theorem dX4_film_49 : decode cX4_film 49 = .ok (.iload_n 2, 1) := by decide +kernel
theorem dX4_film_50 : decode cX4_film 50 = .ok (.invokevirtual 193, 3) := by decide +kernel
theorem dX4_film_53 : decode cX4_film 53 = .ok (.istore 7, 2) := by decide +kernel
theorem dX4_film_55 : decode cX4_film 55 = .ok (.iload 7, 2) := by decide +kernel
theorem dX4_film_57 : decode cX4_film 57 = .ok (.ifCond .eq 6, 3) := by decide +kernel
theorem dX4_film_60 : decode cX4_film 60 = .ok (.iload 7, 2) := by decide +kernel
theorem dX4_film_62 : decode cX4_film 62 = .ok (.ireturn, 1) := by decide +kernel
theorem dX4_film_63 : decode cX4_film 63 = .ok (.aload_n 0, 1) := by decide +kernel
theorem dX4_film_64 : decode cX4_film 64 = .ok (.getfield 42, 3) := by decide +kernel
theorem dX4_film_67 : decode cX4_film 67 = .ok (.aload_n 0, 1) := by decide +kernel
theorem dX4_film_68 : decode cX4_film 68 = .ok (.getfield 10, 3) := by decide +kernel
theorem dX4_film_71 : decode cX4_film 71 = .ok (.invokevirtual 106, 3) := by decide +kernel
theorem dX4_film_74 : decode cX4_film 74 = .ok (.iconst 0, 1) := by decide +kernel
theorem dX4_film_75 : decode cX4_film 75 = .ok (.istore 8, 2) := by decide +kernel
theorem dX4_film_77 : decode cX4_film 77 = .ok (.iload 8, 2) := by decide +kernel
theorem dX4_film_79 : decode cX4_film 79 = .ok (.iload_n 2, 1) := by decide +kernel
theorem dX4_film_80 : decode cX4_film 80 = .ok (.if_icmp .ge 36, 3) := by decide +kernel
theorem dX4_film_83 : decode cX4_film 83 = .ok (.aload_n 0, 1) := by decide +kernel
theorem dX4_film_84 : decode cX4_film 84 = .ok (.getfield 42, 3) := by decide +kernel
theorem dX4_film_87 : decode cX4_film 87 = .ok (.invokevirtual 130, 3) := by decide +kernel
theorem dX4_film_90 : decode cX4_film 90 = .ok (.aload 6, 2) := by decide +kernel
theorem dX4_film_92 : decode cX4_film 92 = .ok (.iload 5, 2) := by decide +kernel
theorem dX4_film_94 : decode cX4_film 94 = .ok (.iload 8, 2) := by decide +kernel
theorem dX4_film_96 : decode cX4_film 96 = .ok (.iadd, 1) := by decide +kernel
theorem dX4_film_97 : decode cX4_film 97 = .ok (.aload_n 0, 1) := by decide +kernel
theorem dX4_film_98 : decode cX4_film 98 = .ok (.getfield 42, 3) := by decide +kernel
theorem dX4_film_101 : decode cX4_film 101 = .ok (.getfield 79, 3) := by decide +kernel
theorem dX4_film_104 : decode cX4_film 104 = .ok (.iload_n 1, 1) := by decide +kernel
theorem dX4_film_105 : decode cX4_film 105 = .ok (.iaload, 1) := by decide +kernel
theorem dX4_film_106 : decode cX4_film 106 = .ok (.i2l, 1) := by decide +kernel
theorem dX4_film_107 : decode cX4_film 107 = .ok (.invokevirtual 210, 3) := by decide +kernel
theorem dX4_film_110 : decode cX4_film 110 = .ok (.iinc 8 1, 3) := by decide +kernel
theorem dX4_film_113 : decode cX4_film 113 = .ok (.goto (-36), 3) := by decide +kernel
theorem dX4_film_116 : decode cX4_film 116 = .ok (.iload_n 2, 1) := by decide +kernel
theorem dX4_film_117 : decode cX4_film 117 = .ok (.ireturn, 1) := by decide +kernel
theorem dX4_sheet_0 : decode cX4_sheet 0 = .ok (.iload_n 1, 1) := by decide +kernel
theorem dX4_sheet_1 : decode cX4_sheet 1 = .ok (.invokestatic 187, 3) := by decide +kernel
theorem dX4_sheet_4 : decode cX4_sheet 4 = .ok (.ifCond .eq 16, 3) := by decide +kernel
theorem dX4_sheet_7 : decode cX4_sheet 7 = .ok (.iload_n 2, 1) := by decide +kernel
theorem dX4_sheet_8 : decode cX4_sheet 8 = .ok (.invokestatic 190, 3) := by decide +kernel
theorem dX4_sheet_11 : decode cX4_sheet 11 = .ok (.ifCond .eq 9, 3) := by decide +kernel
theorem dX4_sheet_14 : decode cX4_sheet 14 = .ok (.iload_n 3, 1) := by decide +kernel
theorem dX4_sheet_15 : decode cX4_sheet 15 = .ok (.bipush 24, 2) := by decide +kernel
theorem dX4_sheet_17 : decode cX4_sheet 17 = .ok (.if_icmp .le 5, 3) := by decide +kernel
theorem dX4_sheet_20 : decode cX4_sheet 20 = .ok (.iconst (-1), 1) := by decide +kernel
theorem dX4_sheet_21 : decode cX4_sheet 21 = .ok (.ireturn, 1) := by decide +kernel
theorem dX4_sheet_22 : decode cX4_sheet 22 = .ok (.iload_n 3, 1) := by decide +kernel
theorem dX4_sheet_23 : decode cX4_sheet 23 = .ok (.ifCond .ge 6, 3) := by decide +kernel
theorem dX4_sheet_26 : decode cX4_sheet 26 = .ok (.bipush (-14), 2) := by decide +kernel
theorem dX4_sheet_28 : decode cX4_sheet 28 = .ok (.ireturn, 1) := by decide +kernel
theorem dX4_sheet_29 : decode cX4_sheet 29 = .ok (.aload_n 0, 1) := by decide +kernel
theorem dX4_sheet_30 : decode cX4_sheet 30 = .ok (.getfield 38, 3) := by decide +kernel
theorem dX4_sheet_33 : decode cX4_sheet 33 = .ok (.iload_n 1, 1) := by decide +kernel
theorem dX4_sheet_34 : decode cX4_sheet 34 = .ok (.aaload, 1) := by decide +kernel
theorem dX4_sheet_35 : decode cX4_sheet 35 = .ok (.iload_n 2, 1) := by decide +kernel
theorem dX4_sheet_36 : decode cX4_sheet 36 = .ok (.iload_n 3, 1) := by decide +kernel
theorem dX4_sheet_37 : decode cX4_sheet 37 = .ok (.invokevirtual 214, 3) := by decide +kernel
theorem dX4_sheet_40 : decode cX4_sheet 40 = .ok (.iload_n 3, 1) := by decide +kernel
theorem dX4_sheet_41 : decode cX4_sheet 41 = .ok (.ireturn, 1) := by decide +kernel
theorem dX4_drop_0 : decode cX4_drop 0 = .ok (.iload_n 1, 1) := by decide +kernel
theorem dX4_drop_1 : decode cX4_drop 1 = .ok (.invokestatic 187, 3) := by decide +kernel
theorem dX4_drop_4 : decode cX4_drop 4 = .ok (.ifCond .ne 5, 3) := by decide +kernel
theorem dX4_drop_7 : decode cX4_drop 7 = .ok (.iconst (-1), 1) := by decide +kernel
theorem dX4_drop_8 : decode cX4_drop 8 = .ok (.ireturn, 1) := by decide +kernel
theorem dX4_drop_9 : decode cX4_drop 9 = .ok (.aload_n 0, 1) := by decide +kernel
theorem dX4_drop_10 : decode cX4_drop 10 = .ok (.getfield 38, 3) := by decide +kernel
theorem dX4_drop_13 : decode cX4_drop 13 = .ok (.iload_n 1, 1) := by decide +kernel
theorem dX4_drop_14 : decode cX4_drop 14 = .ok (.aaload, 1) := by decide +kernel
theorem dX4_drop_15 : decode cX4_drop 15 = .ok (.astore_n 2, 1) := by decide +kernel
theorem dX4_drop_16 : decode cX4_drop 16 = .ok (.aload_n 2, 1) := by decide +kernel
theorem dX4_drop_17 : decode cX4_drop 17 = .ok (.getfield 217, 3) := by decide +kernel
theorem dX4_drop_20 : decode cX4_drop 20 = .ok (.iconst (-1), 1) := by decide +kernel
theorem dX4_drop_21 : decode cX4_drop 21 = .ok (.if_icmp .ne 6, 3) := by decide +kernel
theorem dX4_drop_24 : decode cX4_drop 24 = .ok (.bipush (-11), 2) := by decide +kernel
theorem dX4_drop_26 : decode cX4_drop 26 = .ok (.ireturn, 1) := by decide +kernel
theorem dX4_drop_27 : decode cX4_drop 27 = .ok (.aload_n 2, 1) := by decide +kernel
theorem dX4_drop_28 : decode cX4_drop 28 = .ok (.iconst (-1), 1) := by decide +kernel
theorem dX4_drop_29 : decode cX4_drop 29 = .ok (.putfield 217, 3) := by decide +kernel
theorem dX4_drop_32 : decode cX4_drop 32 = .ok (.aload_n 2, 1) := by decide +kernel
theorem dX4_drop_33 : decode cX4_drop 33 = .ok (.getfield 220, 3) := by decide +kernel
theorem dX4_drop_36 : decode cX4_drop 36 = .ok (.ireturn, 1) := by decide +kernel
theorem dX4_item_0 : decode cX4_item 0 = .ok (.iload_n 1, 1) := by decide +kernel
theorem dX4_item_1 : decode cX4_item 1 = .ok (.invokestatic 187, 3) := by decide +kernel
theorem dX4_item_4 : decode cX4_item 4 = .ok (.ifCond .eq 10, 3) := by decide +kernel
theorem dX4_item_7 : decode cX4_item 7 = .ok (.iload_n 2, 1) := by decide +kernel
theorem dX4_item_8 : decode cX4_item 8 = .ok (.invokestatic 190, 3) := by decide +kernel
theorem dX4_item_11 : decode cX4_item 11 = .ok (.ifCond .ne 5, 3) := by decide +kernel
theorem dX4_item_14 : decode cX4_item 14 = .ok (.iconst (-1), 1) := by decide +kernel
theorem dX4_item_15 : decode cX4_item 15 = .ok (.ireturn, 1) := by decide +kernel
theorem dX4_item_16 : decode cX4_item 16 = .ok (.aload_n 0, 1) := by decide +kernel
theorem dX4_item_17 : decode cX4_item 17 = .ok (.getfield 38, 3) := by decide +kernel
theorem dX4_item_20 : decode cX4_item 20 = .ok (.iload_n 1, 1) := by decide +kernel
theorem dX4_item_21 : decode cX4_item 21 = .ok (.aaload, 1) := by decide +kernel
theorem dX4_item_22 : decode cX4_item 22 = .ok (.astore 6, 2) := by decide +kernel
theorem dX4_item_24 : decode cX4_item 24 = .ok (.aload 6, 2) := by decide +kernel
theorem dX4_item_26 : decode cX4_item 26 = .ok (.iload_n 2, 1) := by decide +kernel
theorem dX4_item_27 : decode cX4_item 27 = .ok (.iload_n 3, 1) := by decide +kernel
theorem dX4_item_28 : decode cX4_item 28 = .ok (.iconst 1, 1) := by decide +kernel
theorem dX4_item_29 : decode cX4_item 29 = .ok (.invokevirtual 193, 3) := by decide +kernel
theorem dX4_item_32 : decode cX4_item 32 = .ok (.istore 7, 2) := by decide +kernel
theorem dX4_item_34 : decode cX4_item 34 = .ok (.iload 7, 2) := by decide +kernel
theorem dX4_item_36 : decode cX4_item 36 = .ok (.ifCond .eq 6, 3) := by decide +kernel
theorem dX4_item_39 : decode cX4_item 39 = .ok (.iload 7, 2) := by decide +kernel
theorem dX4_item_41 : decode cX4_item 41 = .ok (.ireturn, 1) := by decide +kernel
theorem dX4_item_42 : decode cX4_item 42 = .ok (.aload 6, 2) := by decide +kernel
theorem dX4_item_44 : decode cX4_item 44 = .ok (.iload_n 3, 1) := by decide +kernel
theorem dX4_item_45 : decode cX4_item 45 = .ok (.lload 4, 2) := by decide +kernel
theorem dX4_item_47 : decode cX4_item 47 = .ok (.invokevirtual 210, 3) := by decide +kernel
theorem dX4_item_50 : decode cX4_item 50 = .ok (.iconst 1, 1) := by decide +kernel
theorem dX4_item_51 : decode cX4_item 51 = .ok (.ireturn, 1) := by decide +kernel
theorem dX4_copy_0 : decode cX4_copy 0 = .ok (.iload_n 1, 1) := by decide +kernel
theorem dX4_copy_1 : decode cX4_copy 1 = .ok (.invokestatic 187, 3) := by decide +kernel
theorem dX4_copy_4 : decode cX4_copy 4 = .ok (.ifCond .eq 10, 3) := by decide +kernel
theorem dX4_copy_7 : decode cX4_copy 7 = .ok (.iload_n 3, 1) := by decide +kernel
theorem dX4_copy_8 : decode cX4_copy 8 = .ok (.invokestatic 187, 3) := by decide +kernel
theorem dX4_copy_11 : decode cX4_copy 11 = .ok (.ifCond .ne 5, 3) := by decide +kernel
theorem dX4_copy_14 : decode cX4_copy 14 = .ok (.iconst (-1), 1) := by decide +kernel
theorem dX4_copy_15 : decode cX4_copy 15 = .ok (.ireturn, 1) := by decide +kernel
theorem dX4_copy_16 : decode cX4_copy 16 = .ok (.aload_n 0, 1) := by decide +kernel
theorem dX4_copy_17 : decode cX4_copy 17 = .ok (.getfield 38, 3) := by decide +kernel
theorem dX4_copy_20 : decode cX4_copy 20 = .ok (.iload_n 1, 1) := by decide +kernel
theorem dX4_copy_21 : decode cX4_copy 21 = .ok (.aaload, 1) := by decide +kernel
theorem dX4_copy_22 : decode cX4_copy 22 = .ok (.astore 6, 2) := by decide +kernel
theorem dX4_copy_24 : decode cX4_copy 24 = .ok (.aload_n 0, 1) := by decide +kernel
theorem dX4_copy_25 : decode cX4_copy 25 = .ok (.getfield 38, 3) := by decide +kernel
theorem dX4_copy_28 : decode cX4_copy 28 = .ok (.iload_n 3, 1) := by decide +kernel
theorem dX4_copy_29 : decode cX4_copy 29 = .ok (.aaload, 1) := by decide +kernel
theorem dX4_copy_30 : decode cX4_copy 30 = .ok (.astore 7, 2) := by decide +kernel
theorem dX4_copy_32 : decode cX4_copy 32 = .ok (.aload 6, 2) := by decide +kernel
theorem dX4_copy_34 : decode cX4_copy 34 = .ok (.getfield 217, 3) := by decide +kernel
theorem dX4_copy_37 : decode cX4_copy 37 = .ok (.iconst (-1), 1) := by decide +kernel
theorem dX4_copy_38 : decode cX4_copy 38 = .ok (.if_icmp .eq 12, 3) := by decide +kernel
theorem dX4_copy_41 : decode cX4_copy 41 = .ok (.aload 7, 2) := by decide +kernel
theorem dX4_copy_43 : decode cX4_copy 43 = .ok (.getfield 217, 3) := by decide +kernel
theorem dX4_copy_46 : decode cX4_copy 46 = .ok (.iconst (-1), 1) := by decide +kernel
theorem dX4_copy_47 : decode cX4_copy 47 = .ok (.if_icmp .ne 6, 3) := by decide +kernel
theorem dX4_copy_50 : decode cX4_copy 50 = .ok (.bipush (-11), 2) := by decide +kernel
theorem dX4_copy_52 : decode cX4_copy 52 = .ok (.ireturn, 1) := by decide +kernel
theorem dX4_copy_53 : decode cX4_copy 53 = .ok (.aload 6, 2) := by decide +kernel
theorem dX4_copy_55 : decode cX4_copy 55 = .ok (.getfield 217, 3) := by decide +kernel
theorem dX4_copy_58 : decode cX4_copy 58 = .ok (.aload 7, 2) := by decide +kernel
theorem dX4_copy_60 : decode cX4_copy 60 = .ok (.getfield 217, 3) := by decide +kernel
theorem dX4_copy_63 : decode cX4_copy 63 = .ok (.if_icmp .eq 6, 3) := by decide +kernel
theorem dX4_copy_66 : decode cX4_copy 66 = .ok (.bipush (-12), 2) := by decide +kernel
theorem dX4_copy_68 : decode cX4_copy 68 = .ok (.ireturn, 1) := by decide +kernel
theorem dX4_copy_69 : decode cX4_copy 69 = .ok (.aload 6, 2) := by decide +kernel
theorem dX4_copy_71 : decode cX4_copy 71 = .ok (.iload_n 2, 1) := by decide +kernel
theorem dX4_copy_72 : decode cX4_copy 72 = .ok (.iload 5, 2) := by decide +kernel
theorem dX4_copy_74 : decode cX4_copy 74 = .ok (.invokevirtual 221, 3) := by decide +kernel
theorem dX4_copy_77 : decode cX4_copy 77 = .ok (.ifCond .eq 15, 3) := by decide +kernel
theorem dX4_copy_80 : decode cX4_copy 80 = .ok (.aload 7, 2) := by decide +kernel
theorem dX4_copy_82 : decode cX4_copy 82 = .ok (.iload 4, 2) := by decide +kernel
theorem dX4_copy_84 : decode cX4_copy 84 = .ok (.iload 5, 2) := by decide +kernel
theorem dX4_copy_86 : decode cX4_copy 86 = .ok (.invokevirtual 221, 3) := by decide +kernel
theorem dX4_copy_89 : decode cX4_copy 89 = .ok (.ifCond .ne 6, 3) := by decide +kernel
theorem dX4_copy_92 : decode cX4_copy 92 = .ok (.bipush (-13), 2) := by decide +kernel
theorem dX4_copy_94 : decode cX4_copy 94 = .ok (.ireturn, 1) := by decide +kernel
theorem dX4_copy_95 : decode cX4_copy 95 = .ok (.aload 6, 2) := by decide +kernel
theorem dX4_copy_97 : decode cX4_copy 97 = .ok (.getfield 224, 3) := by decide +kernel
theorem dX4_copy_100 : decode cX4_copy 100 = .ok (.iload_n 2, 1) := by decide +kernel
theorem dX4_copy_101 : decode cX4_copy 101 = .ok (.aload 7, 2) := by decide +kernel
theorem dX4_copy_103 : decode cX4_copy 103 = .ok (.getfield 224, 3) := by decide +kernel
theorem dX4_copy_106 : decode cX4_copy 106 = .ok (.iload 4, 2) := by decide +kernel
theorem dX4_copy_108 : decode cX4_copy 108 = .ok (.iload 5, 2) := by decide +kernel
theorem dX4_copy_110 : decode cX4_copy 110 = .ok (.invokestatic 228, 3) := by decide +kernel
theorem dX4_copy_113 : decode cX4_copy 113 = .ok (.iload 5, 2) := by decide +kernel
theorem dX4_copy_115 : decode cX4_copy 115 = .ok (.ireturn, 1) := by decide +kernel
theorem dX4_within_0 : decode cX4_within 0 = .ok (.iload_n 0, 1) := by decide +kernel
theorem dX4_within_1 : decode cX4_within 1 = .ok (.iload_n 1, 1) := by decide +kernel
theorem dX4_within_2 : decode cX4_within 2 = .ok (.if_icmp .lt 12, 3) := by decide +kernel
theorem dX4_within_5 : decode cX4_within 5 = .ok (.iload_n 0, 1) := by decide +kernel
theorem dX4_within_6 : decode cX4_within 6 = .ok (.iload_n 2, 1) := by decide +kernel
theorem dX4_within_7 : decode cX4_within 7 = .ok (.if_icmp .gt 7, 3) := by decide +kernel
theorem dX4_within_10 : decode cX4_within 10 = .ok (.iconst 1, 1) := by decide +kernel
theorem dX4_within_11 : decode cX4_within 11 = .ok (.goto 4, 3) := by decide +kernel
theorem dX4_within_14 : decode cX4_within 14 = .ok (.iconst 0, 1) := by decide +kernel
theorem dX4_within_15 : decode cX4_within 15 = .ok (.ireturn, 1) := by decide +kernel
theorem dX4_isCouple_0 : decode cX4_isCouple 0 = .ok (.iload_n 1, 1) := by decide +kernel
theorem dX4_isCouple_1 : decode cX4_isCouple 1 = .ok (.ifCond .lt 18, 3) := by decide +kernel
theorem dX4_isCouple_4 : decode cX4_isCouple 4 = .ok (.iload_n 1, 1) := by decide +kernel
theorem dX4_isCouple_5 : decode cX4_isCouple 5 = .ok (.aload_n 0, 1) := by decide +kernel
theorem dX4_isCouple_6 : decode cX4_isCouple 6 = .ok (.getfield 10, 3) := by decide +kernel
theorem dX4_isCouple_9 : decode cX4_isCouple 9 = .ok (.getfield 54, 3) := by decide +kernel
theorem dX4_isCouple_12 : decode cX4_isCouple 12 = .ok (.if_icmp .ge 7, 3) := by decide +kernel
theorem dX4_isCouple_15 : decode cX4_isCouple 15 = .ok (.iconst 1, 1) := by decide +kernel
theorem dX4_isCouple_16 : decode cX4_isCouple 16 = .ok (.goto 4, 3) := by decide +kernel
theorem dX4_isCouple_19 : decode cX4_isCouple 19 = .ok (.iconst 0, 1) := by decide +kernel
theorem dX4_isCouple_20 : decode cX4_isCouple 20 = .ok (.ireturn, 1) := by decide +kernel
theorem dX4_isSheet_0 : decode cX4_isSheet 0 = .ok (.iload_n 0, 1) := by decide +kernel
theorem dX4_isSheet_1 : decode cX4_isSheet 1 = .ok (.ifCond .lt 12, 3) := by decide +kernel
theorem dX4_isSheet_4 : decode cX4_isSheet 4 = .ok (.iload_n 0, 1) := by decide +kernel
theorem dX4_isSheet_5 : decode cX4_isSheet 5 = .ok (.iconst 4, 1) := by decide +kernel
theorem dX4_isSheet_6 : decode cX4_isSheet 6 = .ok (.if_icmp .ge 7, 3) := by decide +kernel
theorem dX4_isSheet_9 : decode cX4_isSheet 9 = .ok (.iconst 1, 1) := by decide +kernel
theorem dX4_isSheet_10 : decode cX4_isSheet 10 = .ok (.goto 4, 3) := by decide +kernel
theorem dX4_isSheet_13 : decode cX4_isSheet 13 = .ok (.iconst 0, 1) := by decide +kernel
theorem dX4_isSheet_14 : decode cX4_isSheet 14 = .ok (.ireturn, 1) := by decide +kernel
theorem dX4_isLane_0 : decode cX4_isLane 0 = .ok (.iload_n 0, 1) := by decide +kernel
theorem dX4_isLane_1 : decode cX4_isLane 1 = .ok (.ifCond .lt 12, 3) := by decide +kernel
theorem dX4_isLane_4 : decode cX4_isLane 4 = .ok (.iload_n 0, 1) := by decide +kernel
theorem dX4_isLane_5 : decode cX4_isLane 5 = .ok (.iconst 4, 1) := by decide +kernel
theorem dX4_isLane_6 : decode cX4_isLane 6 = .ok (.if_icmp .ge 7, 3) := by decide +kernel
theorem dX4_isLane_9 : decode cX4_isLane 9 = .ok (.iconst 1, 1) := by decide +kernel
theorem dX4_isLane_10 : decode cX4_isLane 10 = .ok (.goto 4, 3) := by decide +kernel
theorem dX4_isLane_13 : decode cX4_isLane 13 = .ok (.iconst 0, 1) := by decide +kernel
theorem dX4_isLane_14 : decode cX4_isLane 14 = .ok (.ireturn, 1) := by decide +kernel
theorem dX4_firstYearOfKeys_0 : decode cX4_firstYearOfKeys 0 = .ok (.aload_n 0, 1) := by decide +kernel
theorem dX4_firstYearOfKeys_1 : decode cX4_firstYearOfKeys 1 = .ok (.getfield 42, 3) := by decide +kernel
theorem dX4_firstYearOfKeys_4 : decode cX4_firstYearOfKeys 4 = .ok (.aload_n 0, 1) := by decide +kernel
theorem dX4_firstYearOfKeys_5 : decode cX4_firstYearOfKeys 5 = .ok (.getfield 10, 3) := by decide +kernel
theorem dX4_firstYearOfKeys_8 : decode cX4_firstYearOfKeys 8 = .ok (.invokevirtual 106, 3) := by decide +kernel
theorem dX4_firstYearOfKeys_11 : decode cX4_firstYearOfKeys 11 = .ok (.iconst 0, 1) := by decide +kernel
theorem dX4_firstYearOfKeys_12 : decode cX4_firstYearOfKeys 12 = .ok (.istore_n 2, 1) := by decide +kernel
theorem dX4_firstYearOfKeys_13 : decode cX4_firstYearOfKeys 13 = .ok (.iload_n 2, 1) := by decide +kernel
theorem dX4_firstYearOfKeys_14 : decode cX4_firstYearOfKeys 14 = .ok (.bipush 60, 2) := by decide +kernel
theorem dX4_firstYearOfKeys_16 : decode cX4_firstYearOfKeys 16 = .ok (.if_icmp .gt 29, 3) := by decide +kernel
theorem dX4_firstYearOfKeys_19 : decode cX4_firstYearOfKeys 19 = .ok (.aload_n 0, 1) := by decide +kernel
theorem dX4_firstYearOfKeys_20 : decode cX4_firstYearOfKeys 20 = .ok (.getfield 42, 3) := by decide +kernel
theorem dX4_firstYearOfKeys_23 : decode cX4_firstYearOfKeys 23 = .ok (.invokevirtual 113, 3) := by decide +kernel
theorem dX4_firstYearOfKeys_26 : decode cX4_firstYearOfKeys 26 = .ok (.iload_n 1, 1) := by decide +kernel
theorem dX4_firstYearOfKeys_27 : decode cX4_firstYearOfKeys 27 = .ok (.if_icmp .ne 5, 3) := by decide +kernel
theorem dX4_firstYearOfKeys_30 : decode cX4_firstYearOfKeys 30 = .ok (.iload_n 2, 1) := by decide +kernel
theorem dX4_firstYearOfKeys_31 : decode cX4_firstYearOfKeys 31 = .ok (.ireturn, 1) := by decide +kernel
theorem dX4_firstYearOfKeys_32 : decode cX4_firstYearOfKeys 32 = .ok (.aload_n 0, 1) := by decide +kernel
theorem dX4_firstYearOfKeys_33 : decode cX4_firstYearOfKeys 33 = .ok (.getfield 42, 3) := by decide +kernel
theorem dX4_firstYearOfKeys_36 : decode cX4_firstYearOfKeys 36 = .ok (.invokevirtual 130, 3) := by decide +kernel
theorem dX4_firstYearOfKeys_39 : decode cX4_firstYearOfKeys 39 = .ok (.iinc 2 1, 3) := by decide +kernel
theorem dX4_firstYearOfKeys_42 : decode cX4_firstYearOfKeys 42 = .ok (.goto (-29), 3) := by decide +kernel
theorem dX4_firstYearOfKeys_45 : decode cX4_firstYearOfKeys 45 = .ok (.bipush (-4), 2) := by decide +kernel
theorem dX4_firstYearOfKeys_47 : decode cX4_firstYearOfKeys 47 = .ok (.ireturn, 1) := by decide +kernel
theorem dX4_yearsOfKeys_0 : decode cX4_yearsOfKeys 0 = .ok (.iconst 0, 1) := by decide +kernel
theorem dX4_yearsOfKeys_1 : decode cX4_yearsOfKeys 1 = .ok (.istore_n 2, 1) := by decide +kernel
theorem dX4_yearsOfKeys_2 : decode cX4_yearsOfKeys 2 = .ok (.aload_n 0, 1) := by decide +kernel
theorem dX4_yearsOfKeys_3 : decode cX4_yearsOfKeys 3 = .ok (.getfield 42, 3) := by decide +kernel
theorem dX4_yearsOfKeys_6 : decode cX4_yearsOfKeys 6 = .ok (.aload_n 0, 1) := by decide +kernel
theorem dX4_yearsOfKeys_7 : decode cX4_yearsOfKeys 7 = .ok (.getfield 10, 3) := by decide +kernel
theorem dX4_yearsOfKeys_10 : decode cX4_yearsOfKeys 10 = .ok (.invokevirtual 106, 3) := by decide +kernel
theorem dX4_yearsOfKeys_13 : decode cX4_yearsOfKeys 13 = .ok (.iconst 0, 1) := by decide +kernel
theorem dX4_yearsOfKeys_14 : decode cX4_yearsOfKeys 14 = .ok (.istore_n 3, 1) := by decide +kernel
theorem dX4_yearsOfKeys_15 : decode cX4_yearsOfKeys 15 = .ok (.iload_n 3, 1) := by decide +kernel
theorem dX4_yearsOfKeys_16 : decode cX4_yearsOfKeys 16 = .ok (.bipush 60, 2) := by decide +kernel
theorem dX4_yearsOfKeys_18 : decode cX4_yearsOfKeys 18 = .ok (.if_icmp .gt 30, 3) := by decide +kernel
theorem dX4_yearsOfKeys_21 : decode cX4_yearsOfKeys 21 = .ok (.aload_n 0, 1) := by decide +kernel
theorem dX4_yearsOfKeys_22 : decode cX4_yearsOfKeys 22 = .ok (.getfield 42, 3) := by decide +kernel
theorem dX4_yearsOfKeys_25 : decode cX4_yearsOfKeys 25 = .ok (.invokevirtual 113, 3) := by decide +kernel
theorem dX4_yearsOfKeys_28 : decode cX4_yearsOfKeys 28 = .ok (.iload_n 1, 1) := by decide +kernel
theorem dX4_yearsOfKeys_29 : decode cX4_yearsOfKeys 29 = .ok (.if_icmp .ne 6, 3) := by decide +kernel
theorem dX4_yearsOfKeys_32 : decode cX4_yearsOfKeys 32 = .ok (.iinc 2 1, 3) := by decide +kernel
theorem dX4_yearsOfKeys_35 : decode cX4_yearsOfKeys 35 = .ok (.aload_n 0, 1) := by decide +kernel
theorem dX4_yearsOfKeys_36 : decode cX4_yearsOfKeys 36 = .ok (.getfield 42, 3) := by decide +kernel
theorem dX4_yearsOfKeys_39 : decode cX4_yearsOfKeys 39 = .ok (.invokevirtual 130, 3) := by decide +kernel
theorem dX4_yearsOfKeys_42 : decode cX4_yearsOfKeys 42 = .ok (.iinc 3 1, 3) := by decide +kernel
theorem dX4_yearsOfKeys_45 : decode cX4_yearsOfKeys 45 = .ok (.goto (-30), 3) := by decide +kernel
theorem dX4_yearsOfKeys_48 : decode cX4_yearsOfKeys 48 = .ok (.iload_n 2, 1) := by decide +kernel
theorem dX4_yearsOfKeys_49 : decode cX4_yearsOfKeys 49 = .ok (.ireturn, 1) := by decide +kernel
theorem dX4_fewestRivals_0 : decode cX4_fewestRivals 0 = .ok (.aload_n 0, 1) := by decide +kernel
theorem dX4_fewestRivals_1 : decode cX4_fewestRivals 1 = .ok (.getfield 10, 3) := by decide +kernel
theorem dX4_fewestRivals_4 : decode cX4_fewestRivals 4 = .ok (.iload_n 1, 1) := by decide +kernel
theorem dX4_fewestRivals_5 : decode cX4_fewestRivals 5 = .ok (.invokevirtual 82, 3) := by decide +kernel
theorem dX4_fewestRivals_8 : decode cX4_fewestRivals 8 = .ok (.ifCond .ne 6, 3) := by decide +kernel
theorem dX4_fewestRivals_11 : decode cX4_fewestRivals 11 = .ok (.bipush (-4), 2) := by decide +kernel
theorem dX4_fewestRivals_13 : decode cX4_fewestRivals 13 = .ok (.ireturn, 1) := by decide +kernel
theorem dX4_fewestRivals_14 : decode cX4_fewestRivals 14 = .ok (.aload_n 0, 1) := by decide +kernel
theorem dX4_fewestRivals_15 : decode cX4_fewestRivals 15 = .ok (.getfield 10, 3) := by decide +kernel
theorem dX4_fewestRivals_18 : decode cX4_fewestRivals 18 = .ok (.getfield 120, 3) := by decide +kernel
theorem dX4_fewestRivals_21 : decode cX4_fewestRivals 21 = .ok (.iconst 1, 1) := by decide +kernel
theorem dX4_fewestRivals_22 : decode cX4_fewestRivals 22 = .ok (.iload_n 1, 1) := by decide +kernel
theorem dX4_fewestRivals_23 : decode cX4_fewestRivals 23 = .ok (.ishl, 1) := by decide +kernel
theorem dX4_fewestRivals_24 : decode cX4_fewestRivals 24 = .ok (.iconst (-1), 1) := by decide +kernel
theorem dX4_fewestRivals_25 : decode cX4_fewestRivals 25 = .ok (.ixor, 1) := by decide +kernel
theorem dX4_fewestRivals_26 : decode cX4_fewestRivals 26 = .ok (.iand, 1) := by decide +kernel
theorem dX4_fewestRivals_27 : decode cX4_fewestRivals 27 = .ok (.istore_n 3, 1) := by decide +kernel
theorem dX4_fewestRivals_28 : decode cX4_fewestRivals 28 = .ok (.bipush (-4), 2) := by decide +kernel
theorem dX4_fewestRivals_30 : decode cX4_fewestRivals 30 = .ok (.istore 4, 2) := by decide +kernel
theorem dX4_fewestRivals_32 : decode cX4_fewestRivals 32 = .ok (.iconst 0, 1) := by decide +kernel
theorem dX4_fewestRivals_33 : decode cX4_fewestRivals 33 = .ok (.istore 5, 2) := by decide +kernel
theorem dX4_fewestRivals_35 : decode cX4_fewestRivals 35 = .ok (.iload 5, 2) := by decide +kernel
theorem dX4_fewestRivals_37 : decode cX4_fewestRivals 37 = .ok (.iload_n 3, 1) := by decide +kernel
theorem dX4_fewestRivals_38 : decode cX4_fewestRivals 38 = .ok (.if_icmp .gt 75, 3) := by decide +kernel
theorem dX4_fewestRivals_41 : decode cX4_fewestRivals 41 = .ok (.iload 5, 2) := by decide +kernel
theorem dX4_fewestRivals_43 : decode cX4_fewestRivals 43 = .ok (.iload_n 3, 1) := by decide +kernel
theorem dX4_fewestRivals_44 : decode cX4_fewestRivals 44 = .ok (.iconst (-1), 1) := by decide +kernel
theorem dX4_fewestRivals_45 : decode cX4_fewestRivals 45 = .ok (.ixor, 1) := by decide +kernel
theorem dX4_fewestRivals_46 : decode cX4_fewestRivals 46 = .ok (.iand, 1) := by decide +kernel
theorem dX4_fewestRivals_47 : decode cX4_fewestRivals 47 = .ok (.ifCond .ne 7, 3) := by decide +kernel
theorem dX4_fewestRivals_50 : decode cX4_fewestRivals 50 = .ok (.iconst 1, 1) := by decide +kernel
theorem dX4_fewestRivals_51 : decode cX4_fewestRivals 51 = .ok (.goto 4, 3) := by decide +kernel
theorem dX4_fewestRivals_54 : decode cX4_fewestRivals 54 = .ok (.iconst 0, 1) := by decide +kernel
theorem dX4_fewestRivals_55 : decode cX4_fewestRivals 55 = .ok (.istore 6, 2) := by decide +kernel
theorem dX4_fewestRivals_57 : decode cX4_fewestRivals 57 = .ok (.iload 4, 2) := by decide +kernel
theorem dX4_fewestRivals_59 : decode cX4_fewestRivals 59 = .ok (.ifCond .lt 16, 3) := by decide +kernel
theorem dX4_fewestRivals_62 : decode cX4_fewestRivals 62 = .ok (.iload 5, 2) := by decide +kernel
theorem dX4_fewestRivals_64 : decode cX4_fewestRivals 64 = .ok (.invokestatic 163, 3) := by decide +kernel
theorem dX4_fewestRivals_67 : decode cX4_fewestRivals 67 = .ok (.iload 4, 2) := by decide +kernel
theorem dX4_fewestRivals_69 : decode cX4_fewestRivals 69 = .ok (.invokestatic 163, 3) := by decide +kernel
theorem dX4_fewestRivals_72 : decode cX4_fewestRivals 72 = .ok (.if_icmp .ge 7, 3) := by decide +kernel
theorem dX4_fewestRivals_75 : decode cX4_fewestRivals 75 = .ok (.iconst 1, 1) := by decide +kernel
theorem dX4_fewestRivals_76 : decode cX4_fewestRivals 76 = .ok (.goto 4, 3) := by decide +kernel
theorem dX4_fewestRivals_79 : decode cX4_fewestRivals 79 = .ok (.iconst 0, 1) := by decide +kernel
theorem dX4_fewestRivals_80 : decode cX4_fewestRivals 80 = .ok (.istore 7, 2) := by decide +kernel
theorem dX4_fewestRivals_82 : decode cX4_fewestRivals 82 = .ok (.iload 6, 2) := by decide +kernel
theorem dX4_fewestRivals_84 : decode cX4_fewestRivals 84 = .ok (.ifCond .eq 23, 3) := by decide +kernel
theorem dX4_fewestRivals_87 : decode cX4_fewestRivals 87 = .ok (.iload 7, 2) := by decide +kernel
theorem dX4_fewestRivals_89 : decode cX4_fewestRivals 89 = .ok (.ifCond .eq 18, 3) := by decide +kernel
theorem dX4_fewestRivals_92 : decode cX4_fewestRivals 92 = .ok (.aload_n 0, 1) := by decide +kernel
theorem dX4_fewestRivals_93 : decode cX4_fewestRivals 93 = .ok (.iload 5, 2) := by decide +kernel
theorem dX4_fewestRivals_95 : decode cX4_fewestRivals 95 = .ok (.iload_n 1, 1) := by decide +kernel
theorem dX4_fewestRivals_96 : decode cX4_fewestRivals 96 = .ok (.iload_n 2, 1) := by decide +kernel
theorem dX4_fewestRivals_97 : decode cX4_fewestRivals 97 = .ok (.invokevirtual 234, 3) := by decide +kernel
theorem dX4_fewestRivals_100 : decode cX4_fewestRivals 100 = .ok (.ifCond .eq 7, 3) := by decide +kernel
theorem dX4_fewestRivals_103 : decode cX4_fewestRivals 103 = .ok (.iload 5, 2) := by decide +kernel
theorem dX4_fewestRivals_105 : decode cX4_fewestRivals 105 = .ok (.istore 4, 2) := by decide +kernel
theorem dX4_fewestRivals_107 : decode cX4_fewestRivals 107 = .ok (.iinc 5 1, 3) := by decide +kernel
theorem dX4_fewestRivals_110 : decode cX4_fewestRivals 110 = .ok (.goto (-75), 3) := by decide +kernel
theorem dX4_fewestRivals_113 : decode cX4_fewestRivals 113 = .ok (.iload 4, 2) := by decide +kernel
theorem dX4_fewestRivals_115 : decode cX4_fewestRivals 115 = .ok (.ireturn, 1) := by decide +kernel
theorem dX4_keepsWithout_0 : decode cX4_keepsWithout 0 = .ok (.aload_n 0, 1) := by decide +kernel
theorem dX4_keepsWithout_1 : decode cX4_keepsWithout 1 = .ok (.getfield 42, 3) := by decide +kernel
theorem dX4_keepsWithout_4 : decode cX4_keepsWithout 4 = .ok (.aload_n 0, 1) := by decide +kernel
theorem dX4_keepsWithout_5 : decode cX4_keepsWithout 5 = .ok (.getfield 10, 3) := by decide +kernel
theorem dX4_keepsWithout_8 : decode cX4_keepsWithout 8 = .ok (.invokevirtual 106, 3) := by decide +kernel
theorem dX4_keepsWithout_11 : decode cX4_keepsWithout 11 = .ok (.aload_n 0, 1) := by decide +kernel
theorem dX4_keepsWithout_12 : decode cX4_keepsWithout 12 = .ok (.getfield 42, 3) := by decide +kernel
theorem dX4_keepsWithout_15 : decode cX4_keepsWithout 15 = .ok (.dup, 1) := by decide +kernel
theorem dX4_keepsWithout_16 : decode cX4_keepsWithout 16 = .ok (.getfield 120, 3) := by decide +kernel
theorem dX4_keepsWithout_19 : decode cX4_keepsWithout 19 = .ok (.iload_n 1, 1) := by decide +kernel
theorem dX4_keepsWithout_20 : decode cX4_keepsWithout 20 = .ok (.iconst (-1), 1) := by decide +kernel
theorem dX4_keepsWithout_21 : decode cX4_keepsWithout 21 = .ok (.ixor, 1) := by decide +kernel
theorem dX4_keepsWithout_22 : decode cX4_keepsWithout 22 = .ok (.iand, 1) := by decide +kernel
theorem dX4_keepsWithout_23 : decode cX4_keepsWithout 23 = .ok (.putfield 120, 3) := by decide +kernel
theorem dX4_keepsWithout_26 : decode cX4_keepsWithout 26 = .ok (.iconst 0, 1) := by decide +kernel
theorem dX4_keepsWithout_27 : decode cX4_keepsWithout 27 = .ok (.istore 4, 2) := by decide +kernel
theorem dX4_keepsWithout_29 : decode cX4_keepsWithout 29 = .ok (.iload 4, 2) := by decide +kernel
theorem dX4_keepsWithout_31 : decode cX4_keepsWithout 31 = .ok (.iload_n 3, 1) := by decide +kernel
theorem dX4_keepsWithout_32 : decode cX4_keepsWithout 32 = .ok (.if_icmp .ge 27, 3) := by decide +kernel
theorem dX4_keepsWithout_35 : decode cX4_keepsWithout 35 = .ok (.aload_n 0, 1) := by decide +kernel
theorem dX4_keepsWithout_36 : decode cX4_keepsWithout 36 = .ok (.getfield 42, 3) := by decide +kernel
theorem dX4_keepsWithout_39 : decode cX4_keepsWithout 39 = .ok (.iload_n 2, 1) := by decide +kernel
theorem dX4_keepsWithout_40 : decode cX4_keepsWithout 40 = .ok (.invokevirtual 82, 3) := by decide +kernel
theorem dX4_keepsWithout_43 : decode cX4_keepsWithout 43 = .ok (.ifCond .eq 16, 3) := by decide +kernel
theorem dX4_keepsWithout_46 : decode cX4_keepsWithout 46 = .ok (.aload_n 0, 1) := by decide +kernel
theorem dX4_keepsWithout_47 : decode cX4_keepsWithout 47 = .ok (.getfield 42, 3) := by decide +kernel
theorem dX4_keepsWithout_50 : decode cX4_keepsWithout 50 = .ok (.invokevirtual 130, 3) := by decide +kernel
theorem dX4_keepsWithout_53 : decode cX4_keepsWithout 53 = .ok (.iinc 4 1, 3) := by decide +kernel
theorem dX4_keepsWithout_56 : decode cX4_keepsWithout 56 = .ok (.goto (-27), 3) := by decide +kernel
theorem dX4_keepsWithout_59 : decode cX4_keepsWithout 59 = .ok (.aload_n 0, 1) := by decide +kernel
theorem dX4_keepsWithout_60 : decode cX4_keepsWithout 60 = .ok (.getfield 42, 3) := by decide +kernel
theorem dX4_keepsWithout_63 : decode cX4_keepsWithout 63 = .ok (.invokevirtual 113, 3) := by decide +kernel
theorem dX4_keepsWithout_66 : decode cX4_keepsWithout 66 = .ok (.iload_n 2, 1) := by decide +kernel
theorem dX4_keepsWithout_67 : decode cX4_keepsWithout 67 = .ok (.if_icmp .ne 7, 3) := by decide +kernel
theorem dX4_keepsWithout_70 : decode cX4_keepsWithout 70 = .ok (.iconst 1, 1) := by decide +kernel
theorem dX4_keepsWithout_71 : decode cX4_keepsWithout 71 = .ok (.goto 4, 3) := by decide +kernel
theorem dX4_keepsWithout_74 : decode cX4_keepsWithout 74 = .ok (.iconst 0, 1) := by decide +kernel
theorem dX4_keepsWithout_75 : decode cX4_keepsWithout 75 = .ok (.ireturn, 1) := by decide +kernel
theorem dX4_togetherIfNursed_0 : decode cX4_togetherIfNursed 0 = .ok (.aload_n 0, 1) := by decide +kernel
theorem dX4_togetherIfNursed_1 : decode cX4_togetherIfNursed 1 = .ok (.getfield 42, 3) := by decide +kernel
theorem dX4_togetherIfNursed_4 : decode cX4_togetherIfNursed 4 = .ok (.aload_n 0, 1) := by decide +kernel
theorem dX4_togetherIfNursed_5 : decode cX4_togetherIfNursed 5 = .ok (.getfield 10, 3) := by decide +kernel
theorem dX4_togetherIfNursed_8 : decode cX4_togetherIfNursed 8 = .ok (.invokevirtual 106, 3) := by decide +kernel
theorem dX4_togetherIfNursed_11 : decode cX4_togetherIfNursed 11 = .ok (.aload_n 0, 1) := by decide +kernel
theorem dX4_togetherIfNursed_12 : decode cX4_togetherIfNursed 12 = .ok (.getfield 42, 3) := by decide +kernel
theorem dX4_togetherIfNursed_15 : decode cX4_togetherIfNursed 15 = .ok (.iload_n 1, 1) := by decide +kernel
theorem dX4_togetherIfNursed_16 : decode cX4_togetherIfNursed 16 = .ok (.iconst 5, 1) := by decide +kernel
theorem dX4_togetherIfNursed_17 : decode cX4_togetherIfNursed 17 = .ok (.invokevirtual 133, 3) := by decide +kernel
theorem dX4_togetherIfNursed_20 : decode cX4_togetherIfNursed 20 = .ok (.aload_n 0, 1) := by decide +kernel
theorem dX4_togetherIfNursed_21 : decode cX4_togetherIfNursed 21 = .ok (.getfield 42, 3) := by decide +kernel
theorem dX4_togetherIfNursed_24 : decode cX4_togetherIfNursed 24 = .ok (.iload_n 2, 1) := by decide +kernel
theorem dX4_togetherIfNursed_25 : decode cX4_togetherIfNursed 25 = .ok (.invokevirtual 150, 3) := by decide +kernel
theorem dX4_togetherIfNursed_28 : decode cX4_togetherIfNursed 28 = .ok (.aload_n 0, 1) := by decide +kernel
theorem dX4_togetherIfNursed_29 : decode cX4_togetherIfNursed 29 = .ok (.getfield 42, 3) := by decide +kernel
theorem dX4_togetherIfNursed_32 : decode cX4_togetherIfNursed 32 = .ok (.getfield 120, 3) := by decide +kernel
theorem dX4_togetherIfNursed_35 : decode cX4_togetherIfNursed 35 = .ok (.invokestatic 163, 3) := by decide +kernel
theorem dX4_togetherIfNursed_38 : decode cX4_togetherIfNursed 38 = .ok (.ireturn, 1) := by decide +kernel
theorem dX4_keepsIfWedAnew_0 : decode cX4_keepsIfWedAnew 0 = .ok (.aload_n 0, 1) := by decide +kernel
theorem dX4_keepsIfWedAnew_1 : decode cX4_keepsIfWedAnew 1 = .ok (.getfield 42, 3) := by decide +kernel
theorem dX4_keepsIfWedAnew_4 : decode cX4_keepsIfWedAnew 4 = .ok (.aload_n 0, 1) := by decide +kernel
theorem dX4_keepsIfWedAnew_5 : decode cX4_keepsIfWedAnew 5 = .ok (.getfield 10, 3) := by decide +kernel
theorem dX4_keepsIfWedAnew_8 : decode cX4_keepsIfWedAnew 8 = .ok (.invokevirtual 106, 3) := by decide +kernel
theorem dX4_keepsIfWedAnew_11 : decode cX4_keepsIfWedAnew 11 = .ok (.aload_n 0, 1) := by decide +kernel
theorem dX4_keepsIfWedAnew_12 : decode cX4_keepsIfWedAnew 12 = .ok (.getfield 42, 3) := by decide +kernel
theorem dX4_keepsIfWedAnew_15 : decode cX4_keepsIfWedAnew 15 = .ok (.iload_n 1, 1) := by decide +kernel
theorem dX4_keepsIfWedAnew_16 : decode cX4_keepsIfWedAnew 16 = .ok (.invokevirtual 140, 3) := by decide +kernel
theorem dX4_keepsIfWedAnew_19 : decode cX4_keepsIfWedAnew 19 = .ok (.aload_n 0, 1) := by decide +kernel
theorem dX4_keepsIfWedAnew_20 : decode cX4_keepsIfWedAnew 20 = .ok (.getfield 42, 3) := by decide +kernel
theorem dX4_keepsIfWedAnew_23 : decode cX4_keepsIfWedAnew 23 = .ok (.iload_n 2, 1) := by decide +kernel
theorem dX4_keepsIfWedAnew_24 : decode cX4_keepsIfWedAnew 24 = .ok (.invokevirtual 150, 3) := by decide +kernel
theorem dX4_keepsIfWedAnew_27 : decode cX4_keepsIfWedAnew 27 = .ok (.aload_n 0, 1) := by decide +kernel
theorem dX4_keepsIfWedAnew_28 : decode cX4_keepsIfWedAnew 28 = .ok (.getfield 42, 3) := by decide +kernel
theorem dX4_keepsIfWedAnew_31 : decode cX4_keepsIfWedAnew 31 = .ok (.invokevirtual 113, 3) := by decide +kernel
theorem dX4_keepsIfWedAnew_34 : decode cX4_keepsIfWedAnew 34 = .ok (.iload_n 1, 1) := by decide +kernel
theorem dX4_keepsIfWedAnew_35 : decode cX4_keepsIfWedAnew 35 = .ok (.if_icmp .ne 7, 3) := by decide +kernel
theorem dX4_keepsIfWedAnew_38 : decode cX4_keepsIfWedAnew 38 = .ok (.iconst 1, 1) := by decide +kernel
theorem dX4_keepsIfWedAnew_39 : decode cX4_keepsIfWedAnew 39 = .ok (.goto 4, 3) := by decide +kernel
theorem dX4_keepsIfWedAnew_42 : decode cX4_keepsIfWedAnew 42 = .ok (.iconst 0, 1) := by decide +kernel
theorem dX4_keepsIfWedAnew_43 : decode cX4_keepsIfWedAnew 43 = .ok (.ireturn, 1) := by decide +kernel
theorem dX4_commonDivisor_0 : decode cX4_commonDivisor 0 = .ok (.iload_n 0, 1) := by decide +kernel
theorem dX4_commonDivisor_1 : decode cX4_commonDivisor 1 = .ok (.istore_n 2, 1) := by decide +kernel
theorem dX4_commonDivisor_2 : decode cX4_commonDivisor 2 = .ok (.iload_n 1, 1) := by decide +kernel
theorem dX4_commonDivisor_3 : decode cX4_commonDivisor 3 = .ok (.istore_n 3, 1) := by decide +kernel
theorem dX4_commonDivisor_4 : decode cX4_commonDivisor 4 = .ok (.iconst 0, 1) := by decide +kernel
theorem dX4_commonDivisor_5 : decode cX4_commonDivisor 5 = .ok (.istore 4, 2) := by decide +kernel
theorem dX4_commonDivisor_7 : decode cX4_commonDivisor 7 = .ok (.iload 4, 2) := by decide +kernel
theorem dX4_commonDivisor_9 : decode cX4_commonDivisor 9 = .ok (.bipush 64, 2) := by decide +kernel
theorem dX4_commonDivisor_11 : decode cX4_commonDivisor 11 = .ok (.if_icmp .ge 23, 3) := by decide +kernel
theorem dX4_commonDivisor_14 : decode cX4_commonDivisor 14 = .ok (.iload_n 3, 1) := by decide +kernel
theorem dX4_commonDivisor_15 : decode cX4_commonDivisor 15 = .ok (.ifCond .eq 19, 3) := by decide +kernel
theorem dX4_commonDivisor_18 : decode cX4_commonDivisor 18 = .ok (.iload_n 2, 1) := by decide +kernel
theorem dX4_commonDivisor_19 : decode cX4_commonDivisor 19 = .ok (.iload_n 3, 1) := by decide +kernel
theorem dX4_commonDivisor_20 : decode cX4_commonDivisor 20 = .ok (.irem, 1) := by decide +kernel
theorem dX4_commonDivisor_21 : decode cX4_commonDivisor 21 = .ok (.istore 5, 2) := by decide +kernel
theorem dX4_commonDivisor_23 : decode cX4_commonDivisor 23 = .ok (.iload_n 3, 1) := by decide +kernel
theorem dX4_commonDivisor_24 : decode cX4_commonDivisor 24 = .ok (.istore_n 2, 1) := by decide +kernel
theorem dX4_commonDivisor_25 : decode cX4_commonDivisor 25 = .ok (.iload 5, 2) := by decide +kernel
theorem dX4_commonDivisor_27 : decode cX4_commonDivisor 27 = .ok (.istore_n 3, 1) := by decide +kernel
theorem dX4_commonDivisor_28 : decode cX4_commonDivisor 28 = .ok (.iinc 4 1, 3) := by decide +kernel
theorem dX4_commonDivisor_31 : decode cX4_commonDivisor 31 = .ok (.goto (-24), 3) := by decide +kernel
theorem dX4_commonDivisor_34 : decode cX4_commonDivisor 34 = .ok (.iload_n 2, 1) := by decide +kernel
theorem dX4_commonDivisor_35 : decode cX4_commonDivisor 35 = .ok (.ireturn, 1) := by decide +kernel
theorem dX4_kindsHeard_0 : decode cX4_kindsHeard 0 = .ok (.iconst 0, 1) := by decide +kernel
theorem dX4_kindsHeard_1 : decode cX4_kindsHeard 1 = .ok (.istore 5, 2) := by decide +kernel
theorem dX4_kindsHeard_3 : decode cX4_kindsHeard 3 = .ok (.iconst 0, 1) := by decide +kernel
theorem dX4_kindsHeard_4 : decode cX4_kindsHeard 4 = .ok (.istore 6, 2) := by decide +kernel
theorem dX4_kindsHeard_6 : decode cX4_kindsHeard 6 = .ok (.iload 6, 2) := by decide +kernel
theorem dX4_kindsHeard_8 : decode cX4_kindsHeard 8 = .ok (.iconst 5, 1) := by decide +kernel
theorem dX4_kindsHeard_9 : decode cX4_kindsHeard 9 = .ok (.if_icmp .ge 52, 3) := by decide +kernel
theorem dX4_kindsHeard_12 : decode cX4_kindsHeard 12 = .ok (.aload_n 0, 1) := by decide +kernel
theorem dX4_kindsHeard_13 : decode cX4_kindsHeard 13 = .ok (.getfield 42, 3) := by decide +kernel
theorem dX4_kindsHeard_16 : decode cX4_kindsHeard 16 = .ok (.aload_n 0, 1) := by decide +kernel
theorem dX4_kindsHeard_17 : decode cX4_kindsHeard 17 = .ok (.getfield 10, 3) := by decide +kernel
theorem dX4_kindsHeard_20 : decode cX4_kindsHeard 20 = .ok (.invokevirtual 106, 3) := by decide +kernel
theorem dX4_kindsHeard_23 : decode cX4_kindsHeard 23 = .ok (.aload_n 0, 1) := by decide +kernel
theorem dX4_kindsHeard_24 : decode cX4_kindsHeard 24 = .ok (.getfield 42, 3) := by decide +kernel
theorem dX4_kindsHeard_27 : decode cX4_kindsHeard 27 = .ok (.getfield 69, 3) := by decide +kernel
theorem dX4_kindsHeard_30 : decode cX4_kindsHeard 30 = .ok (.iload_n 1, 1) := by decide +kernel
theorem dX4_kindsHeard_31 : decode cX4_kindsHeard 31 = .ok (.iload 6, 2) := by decide +kernel
theorem dX4_kindsHeard_33 : decode cX4_kindsHeard 33 = .ok (.iastore, 1) := by decide +kernel
theorem dX4_kindsHeard_34 : decode cX4_kindsHeard 34 = .ok (.aload_n 0, 1) := by decide +kernel
theorem dX4_kindsHeard_35 : decode cX4_kindsHeard 35 = .ok (.iload_n 1, 1) := by decide +kernel
theorem dX4_kindsHeard_36 : decode cX4_kindsHeard 36 = .ok (.aload_n 2, 1) := by decide +kernel
theorem dX4_kindsHeard_37 : decode cX4_kindsHeard 37 = .ok (.iload_n 3, 1) := by decide +kernel
theorem dX4_kindsHeard_38 : decode cX4_kindsHeard 38 = .ok (.iload 4, 2) := by decide +kernel
theorem dX4_kindsHeard_40 : decode cX4_kindsHeard 40 = .ok (.invokevirtual 237, 3) := by decide +kernel
theorem dX4_kindsHeard_43 : decode cX4_kindsHeard 43 = .ok (.ifCond .eq 12, 3) := by decide +kernel
theorem dX4_kindsHeard_46 : decode cX4_kindsHeard 46 = .ok (.iload 5, 2) := by decide +kernel
theorem dX4_kindsHeard_48 : decode cX4_kindsHeard 48 = .ok (.iconst 1, 1) := by decide +kernel
theorem dX4_kindsHeard_49 : decode cX4_kindsHeard 49 = .ok (.iload 6, 2) := by decide +kernel
theorem dX4_kindsHeard_51 : decode cX4_kindsHeard 51 = .ok (.ishl, 1) := by decide +kernel
theorem dX4_kindsHeard_52 : decode cX4_kindsHeard 52 = .ok (.ior, 1) := by decide +kernel
theorem dX4_kindsHeard_53 : decode cX4_kindsHeard 53 = .ok (.istore 5, 2) := by decide +kernel
theorem dX4_kindsHeard_55 : decode cX4_kindsHeard 55 = .ok (.iinc 6 1, 3) := by decide +kernel
theorem dX4_kindsHeard_58 : decode cX4_kindsHeard 58 = .ok (.goto (-52), 3) := by decide +kernel
theorem dX4_kindsHeard_61 : decode cX4_kindsHeard 61 = .ok (.iload 5, 2) := by decide +kernel
theorem dX4_kindsHeard_63 : decode cX4_kindsHeard 63 = .ok (.ireturn, 1) := by decide +kernel
theorem dX4_tempersHeard_0 : decode cX4_tempersHeard 0 = .ok (.iconst 0, 1) := by decide +kernel
theorem dX4_tempersHeard_1 : decode cX4_tempersHeard 1 = .ok (.istore 5, 2) := by decide +kernel
theorem dX4_tempersHeard_3 : decode cX4_tempersHeard 3 = .ok (.iconst 0, 1) := by decide +kernel
theorem dX4_tempersHeard_4 : decode cX4_tempersHeard 4 = .ok (.istore 6, 2) := by decide +kernel
theorem dX4_tempersHeard_6 : decode cX4_tempersHeard 6 = .ok (.iload 6, 2) := by decide +kernel
theorem dX4_tempersHeard_8 : decode cX4_tempersHeard 8 = .ok (.bipush 19, 2) := by decide +kernel
theorem dX4_tempersHeard_10 : decode cX4_tempersHeard 10 = .ok (.if_icmp .gt 52, 3) := by decide +kernel
theorem dX4_tempersHeard_13 : decode cX4_tempersHeard 13 = .ok (.aload_n 0, 1) := by decide +kernel
theorem dX4_tempersHeard_14 : decode cX4_tempersHeard 14 = .ok (.getfield 42, 3) := by decide +kernel
theorem dX4_tempersHeard_17 : decode cX4_tempersHeard 17 = .ok (.aload_n 0, 1) := by decide +kernel
theorem dX4_tempersHeard_18 : decode cX4_tempersHeard 18 = .ok (.getfield 10, 3) := by decide +kernel
theorem dX4_tempersHeard_21 : decode cX4_tempersHeard 21 = .ok (.invokevirtual 106, 3) := by decide +kernel
theorem dX4_tempersHeard_24 : decode cX4_tempersHeard 24 = .ok (.aload_n 0, 1) := by decide +kernel
theorem dX4_tempersHeard_25 : decode cX4_tempersHeard 25 = .ok (.getfield 42, 3) := by decide +kernel
theorem dX4_tempersHeard_28 : decode cX4_tempersHeard 28 = .ok (.getfield 79, 3) := by decide +kernel
theorem dX4_tempersHeard_31 : decode cX4_tempersHeard 31 = .ok (.iload_n 1, 1) := by decide +kernel
theorem dX4_tempersHeard_32 : decode cX4_tempersHeard 32 = .ok (.iload 6, 2) := by decide +kernel
theorem dX4_tempersHeard_34 : decode cX4_tempersHeard 34 = .ok (.iastore, 1) := by decide +kernel
theorem dX4_tempersHeard_35 : decode cX4_tempersHeard 35 = .ok (.aload_n 0, 1) := by decide +kernel
theorem dX4_tempersHeard_36 : decode cX4_tempersHeard 36 = .ok (.iload_n 1, 1) := by decide +kernel
theorem dX4_tempersHeard_37 : decode cX4_tempersHeard 37 = .ok (.aload_n 2, 1) := by decide +kernel
theorem dX4_tempersHeard_38 : decode cX4_tempersHeard 38 = .ok (.iload_n 3, 1) := by decide +kernel
theorem dX4_tempersHeard_39 : decode cX4_tempersHeard 39 = .ok (.iload 4, 2) := by decide +kernel
theorem dX4_tempersHeard_41 : decode cX4_tempersHeard 41 = .ok (.invokevirtual 237, 3) := by decide +kernel
theorem dX4_tempersHeard_44 : decode cX4_tempersHeard 44 = .ok (.ifCond .eq 12, 3) := by decide +kernel
theorem dX4_tempersHeard_47 : decode cX4_tempersHeard 47 = .ok (.iload 5, 2) := by decide +kernel
theorem dX4_tempersHeard_49 : decode cX4_tempersHeard 49 = .ok (.iconst 1, 1) := by decide +kernel
theorem dX4_tempersHeard_50 : decode cX4_tempersHeard 50 = .ok (.iload 6, 2) := by decide +kernel
theorem dX4_tempersHeard_52 : decode cX4_tempersHeard 52 = .ok (.ishl, 1) := by decide +kernel
theorem dX4_tempersHeard_53 : decode cX4_tempersHeard 53 = .ok (.ior, 1) := by decide +kernel
theorem dX4_tempersHeard_54 : decode cX4_tempersHeard 54 = .ok (.istore 5, 2) := by decide +kernel
theorem dX4_tempersHeard_56 : decode cX4_tempersHeard 56 = .ok (.iinc 6 1, 3) := by decide +kernel
theorem dX4_tempersHeard_59 : decode cX4_tempersHeard 59 = .ok (.goto (-53), 3) := by decide +kernel
theorem dX4_tempersHeard_62 : decode cX4_tempersHeard 62 = .ok (.iload 5, 2) := by decide +kernel
theorem dX4_tempersHeard_64 : decode cX4_tempersHeard 64 = .ok (.ireturn, 1) := by decide +kernel
theorem dX4_howManyWedHeard_0 : decode cX4_howManyWedHeard 0 = .ok (.iconst 0, 1) := by decide +kernel
theorem dX4_howManyWedHeard_1 : decode cX4_howManyWedHeard 1 = .ok (.istore 5, 2) := by decide +kernel
theorem dX4_howManyWedHeard_3 : decode cX4_howManyWedHeard 3 = .ok (.iconst 0, 1) := by decide +kernel
theorem dX4_howManyWedHeard_4 : decode cX4_howManyWedHeard 4 = .ok (.istore 6, 2) := by decide +kernel
theorem dX4_howManyWedHeard_6 : decode cX4_howManyWedHeard 6 = .ok (.iload 6, 2) := by decide +kernel
theorem dX4_howManyWedHeard_8 : decode cX4_howManyWedHeard 8 = .ok (.bipush 80, 2) := by decide +kernel
theorem dX4_howManyWedHeard_10 : decode cX4_howManyWedHeard 10 = .ok (.if_icmp .gt 26, 3) := by decide +kernel
theorem dX4_howManyWedHeard_13 : decode cX4_howManyWedHeard 13 = .ok (.aload_n 0, 1) := by decide +kernel
theorem dX4_howManyWedHeard_14 : decode cX4_howManyWedHeard 14 = .ok (.iload_n 1, 1) := by decide +kernel
theorem dX4_howManyWedHeard_15 : decode cX4_howManyWedHeard 15 = .ok (.iload 6, 2) := by decide +kernel
theorem dX4_howManyWedHeard_17 : decode cX4_howManyWedHeard 17 = .ok (.aload_n 2, 1) := by decide +kernel
theorem dX4_howManyWedHeard_18 : decode cX4_howManyWedHeard 18 = .ok (.iload_n 3, 1) := by decide +kernel
theorem dX4_howManyWedHeard_19 : decode cX4_howManyWedHeard 19 = .ok (.iload 4, 2) := by decide +kernel
theorem dX4_howManyWedHeard_21 : decode cX4_howManyWedHeard 21 = .ok (.invokevirtual 241, 3) := by decide +kernel
theorem dX4_howManyWedHeard_24 : decode cX4_howManyWedHeard 24 = .ok (.ifCond .eq 6, 3) := by decide +kernel
theorem dX4_howManyWedHeard_27 : decode cX4_howManyWedHeard 27 = .ok (.iinc 5 1, 3) := by decide +kernel
theorem dX4_howManyWedHeard_30 : decode cX4_howManyWedHeard 30 = .ok (.iinc 6 1, 3) := by decide +kernel
theorem dX4_howManyWedHeard_33 : decode cX4_howManyWedHeard 33 = .ok (.goto (-27), 3) := by decide +kernel
theorem dX4_howManyWedHeard_36 : decode cX4_howManyWedHeard 36 = .ok (.iload 5, 2) := by decide +kernel
theorem dX4_howManyWedHeard_38 : decode cX4_howManyWedHeard 38 = .ok (.ireturn, 1) := by decide +kernel
theorem dX4_leastWedHeard_0 : decode cX4_leastWedHeard 0 = .ok (.iconst 0, 1) := by decide +kernel
theorem dX4_leastWedHeard_1 : decode cX4_leastWedHeard 1 = .ok (.istore 5, 2) := by decide +kernel
theorem dX4_leastWedHeard_3 : decode cX4_leastWedHeard 3 = .ok (.iload 5, 2) := by decide +kernel
theorem dX4_leastWedHeard_5 : decode cX4_leastWedHeard 5 = .ok (.bipush 80, 2) := by decide +kernel
theorem dX4_leastWedHeard_7 : decode cX4_leastWedHeard 7 = .ok (.if_icmp .gt 26, 3) := by decide +kernel
theorem dX4_leastWedHeard_10 : decode cX4_leastWedHeard 10 = .ok (.aload_n 0, 1) := by decide +kernel
theorem dX4_leastWedHeard_11 : decode cX4_leastWedHeard 11 = .ok (.iload_n 1, 1) := by decide +kernel
theorem dX4_leastWedHeard_12 : decode cX4_leastWedHeard 12 = .ok (.iload 5, 2) := by decide +kernel
theorem dX4_leastWedHeard_14 : decode cX4_leastWedHeard 14 = .ok (.aload_n 2, 1) := by decide +kernel
theorem dX4_leastWedHeard_15 : decode cX4_leastWedHeard 15 = .ok (.iload_n 3, 1) := by decide +kernel
theorem dX4_leastWedHeard_16 : decode cX4_leastWedHeard 16 = .ok (.iload 4, 2) := by decide +kernel
theorem dX4_leastWedHeard_18 : decode cX4_leastWedHeard 18 = .ok (.invokevirtual 241, 3) := by decide +kernel
theorem dX4_leastWedHeard_21 : decode cX4_leastWedHeard 21 = .ok (.ifCond .eq 6, 3) := by decide +kernel
theorem dX4_leastWedHeard_24 : decode cX4_leastWedHeard 24 = .ok (.iload 5, 2) := by decide +kernel
theorem dX4_leastWedHeard_26 : decode cX4_leastWedHeard 26 = .ok (.ireturn, 1) := by decide +kernel
theorem dX4_leastWedHeard_27 : decode cX4_leastWedHeard 27 = .ok (.iinc 5 1, 3) := by decide +kernel
theorem dX4_leastWedHeard_30 : decode cX4_leastWedHeard 30 = .ok (.goto (-27), 3) := by decide +kernel
theorem dX4_leastWedHeard_33 : decode cX4_leastWedHeard 33 = .ok (.bipush (-4), 2) := by decide +kernel
theorem dX4_leastWedHeard_35 : decode cX4_leastWedHeard 35 = .ok (.ireturn, 1) := by decide +kernel
theorem dX4_wedTells_0 : decode cX4_wedTells 0 = .ok (.aload_n 0, 1) := by decide +kernel
theorem dX4_wedTells_1 : decode cX4_wedTells 1 = .ok (.getfield 42, 3) := by decide +kernel
theorem dX4_wedTells_4 : decode cX4_wedTells 4 = .ok (.aload_n 0, 1) := by decide +kernel
theorem dX4_wedTells_5 : decode cX4_wedTells 5 = .ok (.getfield 10, 3) := by decide +kernel
theorem dX4_wedTells_8 : decode cX4_wedTells 8 = .ok (.invokevirtual 106, 3) := by decide +kernel
theorem dX4_wedTells_11 : decode cX4_wedTells 11 = .ok (.aload_n 0, 1) := by decide +kernel
theorem dX4_wedTells_12 : decode cX4_wedTells 12 = .ok (.getfield 42, 3) := by decide +kernel
theorem dX4_wedTells_15 : decode cX4_wedTells 15 = .ok (.getfield 73, 3) := by decide +kernel
theorem dX4_wedTells_18 : decode cX4_wedTells 18 = .ok (.iload_n 1, 1) := by decide +kernel
theorem dX4_wedTells_19 : decode cX4_wedTells 19 = .ok (.iload_n 2, 1) := by decide +kernel
theorem dX4_wedTells_20 : decode cX4_wedTells 20 = .ok (.iastore, 1) := by decide +kernel
theorem dX4_wedTells_21 : decode cX4_wedTells 21 = .ok (.aload_n 0, 1) := by decide +kernel
theorem dX4_wedTells_22 : decode cX4_wedTells 22 = .ok (.iload_n 1, 1) := by decide +kernel
theorem dX4_wedTells_23 : decode cX4_wedTells 23 = .ok (.aload_n 3, 1) := by decide +kernel
theorem dX4_wedTells_24 : decode cX4_wedTells 24 = .ok (.iload 4, 2) := by decide +kernel
theorem dX4_wedTells_26 : decode cX4_wedTells 26 = .ok (.iload 5, 2) := by decide +kernel
theorem dX4_wedTells_28 : decode cX4_wedTells 28 = .ok (.invokevirtual 237, 3) := by decide +kernel
theorem dX4_wedTells_31 : decode cX4_wedTells 31 = .ok (.ireturn, 1) := by decide +kernel
theorem dX4_trialTells_0 : decode cX4_trialTells 0 = .ok (.iconst 0, 1) := by decide +kernel
theorem dX4_trialTells_1 : decode cX4_trialTells 1 = .ok (.istore 5, 2) := by decide +kernel
theorem dX4_trialTells_3 : decode cX4_trialTells 3 = .ok (.iload 5, 2) := by decide +kernel
theorem dX4_trialTells_5 : decode cX4_trialTells 5 = .ok (.iload 4, 2) := by decide +kernel
theorem dX4_trialTells_7 : decode cX4_trialTells 7 = .ok (.if_icmp .ge 41, 3) := by decide +kernel
theorem dX4_trialTells_10 : decode cX4_trialTells 10 = .ok (.aload_n 0, 1) := by decide +kernel
theorem dX4_trialTells_11 : decode cX4_trialTells 11 = .ok (.getfield 42, 3) := by decide +kernel
theorem dX4_trialTells_14 : decode cX4_trialTells 14 = .ok (.invokevirtual 130, 3) := by decide +kernel
theorem dX4_trialTells_17 : decode cX4_trialTells 17 = .ok (.aload_n 2, 1) := by decide +kernel
theorem dX4_trialTells_18 : decode cX4_trialTells 18 = .ok (.getfield 224, 3) := by decide +kernel
theorem dX4_trialTells_21 : decode cX4_trialTells 21 = .ok (.iload_n 3, 1) := by decide +kernel
theorem dX4_trialTells_22 : decode cX4_trialTells 22 = .ok (.iload 5, 2) := by decide +kernel
theorem dX4_trialTells_24 : decode cX4_trialTells 24 = .ok (.iadd, 1) := by decide +kernel
theorem dX4_trialTells_25 : decode cX4_trialTells 25 = .ok (.laload, 1) := by decide +kernel
theorem dX4_trialTells_26 : decode cX4_trialTells 26 = .ok (.aload_n 0, 1) := by decide +kernel
theorem dX4_trialTells_27 : decode cX4_trialTells 27 = .ok (.getfield 42, 3) := by decide +kernel
theorem dX4_trialTells_30 : decode cX4_trialTells 30 = .ok (.getfield 79, 3) := by decide +kernel
theorem dX4_trialTells_33 : decode cX4_trialTells 33 = .ok (.iload_n 1, 1) := by decide +kernel
theorem dX4_trialTells_34 : decode cX4_trialTells 34 = .ok (.iaload, 1) := by decide +kernel
theorem dX4_trialTells_35 : decode cX4_trialTells 35 = .ok (.i2l, 1) := by decide +kernel
theorem dX4_trialTells_36 : decode cX4_trialTells 36 = .ok (.lcmp, 1) := by decide +kernel
theorem dX4_trialTells_37 : decode cX4_trialTells 37 = .ok (.ifCond .eq 5, 3) := by decide +kernel
theorem dX4_trialTells_40 : decode cX4_trialTells 40 = .ok (.iconst 0, 1) := by decide +kernel
theorem dX4_trialTells_41 : decode cX4_trialTells 41 = .ok (.ireturn, 1) := by decide +kernel
theorem dX4_trialTells_42 : decode cX4_trialTells 42 = .ok (.iinc 5 1, 3) := by decide +kernel
theorem dX4_trialTells_45 : decode cX4_trialTells 45 = .ok (.goto (-42), 3) := by decide +kernel
theorem dX4_trialTells_48 : decode cX4_trialTells 48 = .ok (.iconst 1, 1) := by decide +kernel
theorem dX4_trialTells_49 : decode cX4_trialTells 49 = .ok (.ireturn, 1) := by decide +kernel
