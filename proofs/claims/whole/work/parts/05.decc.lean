theorem dX5_init_0 : decode cX5_init 0 = .ok (.aload_n 0, 1) := by decide +kernel
theorem dX5_init_1 : decode cX5_init 1 = .ok (.invokespecial 1, 3) := by decide +kernel
theorem dX5_init_4 : decode cX5_init 4 = .ok (.aload_n 0, 1) := by decide +kernel
theorem dX5_init_5 : decode cX5_init 5 = .ok (.bipush 32, 2) := by decide +kernel
theorem dX5_init_7 : decode cX5_init 7 = .ok (.newarray .int, 2) := by decide +kernel
theorem dX5_init_9 : decode cX5_init 9 = .ok (.putfield 7, 3) := by decide +kernel
theorem dX5_init_12 : decode cX5_init 12 = .ok (.aload_n 0, 1) := by decide +kernel
theorem dX5_init_13 : decode cX5_init 13 = .ok (.bipush 32, 2) := by decide +kernel
theorem dX5_init_15 : decode cX5_init 15 = .ok (.newarray .int, 2) := by decide +kernel
theorem dX5_init_17 : decode cX5_init 17 = .ok (.putfield 13, 3) := by decide +kernel
theorem dX5_init_20 : decode cX5_init 20 = .ok (.aload_n 0, 1) := by decide +kernel
theorem dX5_init_21 : decode cX5_init 21 = .ok (.sipush 256, 3) := by decide +kernel
theorem dX5_init_24 : decode cX5_init 24 = .ok (.newarray .int, 2) := by decide +kernel
theorem dX5_init_26 : decode cX5_init 26 = .ok (.putfield 16, 3) := by decide +kernel
theorem dX5_init_29 : decode cX5_init 29 = .ok (.aload_n 0, 1) := by decide +kernel
theorem dX5_init_30 : decode cX5_init 30 = .ok (.bipush 32, 2) := by decide +kernel
theorem dX5_init_32 : decode cX5_init 32 = .ok (.newarray .int, 2) := by decide +kernel
theorem dX5_init_34 : decode cX5_init 34 = .ok (.putfield 19, 3) := by decide +kernel
theorem dX5_init_37 : decode cX5_init 37 = .ok (.aload_n 0, 1) := by decide +kernel
theorem dX5_init_38 : decode cX5_init 38 = .ok (.sipush 256, 3) := by decide +kernel
theorem dX5_init_41 : decode cX5_init 41 = .ok (.newarray .int, 2) := by decide +kernel
theorem dX5_init_43 : decode cX5_init 43 = .ok (.putfield 22, 3) := by decide +kernel
theorem dX5_init_46 : decode cX5_init 46 = .ok (.aload_n 0, 1) := by decide +kernel
theorem dX5_init_47 : decode cX5_init 47 = .ok (.bipush 7, 2) := by decide +kernel
theorem dX5_init_49 : decode cX5_init 49 = .ok (.newarray .int, 2) := by decide +kernel
theorem dX5_init_51 : decode cX5_init 51 = .ok (.putfield 25, 3) := by decide +kernel
theorem dX5_init_54 : decode cX5_init 54 = .ok (.aload_n 0, 1) := by decide +kernel
theorem dX5_init_55 : decode cX5_init 55 = .ok (.bipush 80, 2) := by decide +kernel
theorem dX5_init_57 : decode cX5_init 57 = .ok (.newarray .byte, 2) := by decide +kernel
theorem dX5_init_59 : decode cX5_init 59 = .ok (.putfield 28, 3) := by decide +kernel
theorem dX5_init_62 : decode cX5_init 62 = .ok (.aload_n 0, 1) := by decide +kernel
theorem dX5_init_63 : decode cX5_init 63 = .ok (.iconst 4, 1) := by decide +kernel
theorem dX5_init_64 : decode cX5_init 64 = .ok (.newarray .int, 2) := by decide +kernel
theorem dX5_init_66 : decode cX5_init 66 = .ok (.putfield 32, 3) := by decide +kernel
theorem dX5_init_69 : decode cX5_init 69 = .ok (.aload_n 0, 1) := by decide +kernel
theorem dX5_init_70 : decode cX5_init 70 = .ok (.iconst 4, 1) := by decide +kernel
theorem dX5_init_71 : decode cX5_init 71 = .ok (.newarray .int, 2) := by decide +kernel
theorem dX5_init_73 : decode cX5_init 73 = .ok (.putfield 35, 3) := by decide +kernel
theorem dX5_init_76 : decode cX5_init 76 = .ok (.aload_n 0, 1) := by decide +kernel
theorem dX5_init_77 : decode cX5_init 77 = .ok (.bipush 96, 2) := by decide +kernel
theorem dX5_init_79 : decode cX5_init 79 = .ok (.newarray .long, 2) := by decide +kernel
theorem dX5_init_81 : decode cX5_init 81 = .ok (.putfield 38, 3) := by decide +kernel
theorem dX5_init_84 : decode cX5_init 84 = .ok (.aload_n 0, 1) := by decide +kernel
theorem dX5_init_85 : decode cX5_init 85 = .ok (.bipush 24, 2) := by decide +kernel
theorem dX5_init_87 : decode cX5_init 87 = .ok (.newarray .long, 2) := by decide +kernel
theorem dX5_init_89 : decode cX5_init 89 = .ok (.putfield 42, 3) := by decide +kernel
theorem dX5_init_92 : decode cX5_init 92 = .ok (.aload_n 0, 1) := by decide +kernel
theorem dX5_init_93 : decode cX5_init 93 = .ok (.getfield 7, 3) := by decide +kernel
theorem dX5_init_96 : decode cX5_init 96 = .ok (.iconst 3, 1) := by decide +kernel
theorem dX5_init_97 : decode cX5_init 97 = .ok (.iconst 1, 1) := by decide +kernel
theorem dX5_init_98 : decode cX5_init 98 = .ok (.iastore, 1) := by decide +kernel
theorem dX5_init_99 : decode cX5_init 99 = .ok (.return_, 1) := by decide +kernel
theorem dX5_in_0 : decode cX5_in 0 = .ok (.iload_n 0, 1) := by decide +kernel
theorem dX5_in_1 : decode cX5_in 1 = .ok (.iload_n 1, 1) := by decide +kernel
theorem dX5_in_2 : decode cX5_in 2 = .ok (.if_icmp .lt 12, 3) := by decide +kernel
theorem dX5_in_5 : decode cX5_in 5 = .ok (.iload_n 0, 1) := by decide +kernel
theorem dX5_in_6 : decode cX5_in 6 = .ok (.iload_n 2, 1) := by decide +kernel
theorem dX5_in_7 : decode cX5_in 7 = .ok (.if_icmp .gt 7, 3) := by decide +kernel
theorem dX5_in_10 : decode cX5_in 10 = .ok (.iconst 1, 1) := by decide +kernel
theorem dX5_in_11 : decode cX5_in 11 = .ok (.goto 4, 3) := by decide +kernel
theorem dX5_in_14 : decode cX5_in 14 = .ok (.iconst 0, 1) := by decide +kernel
theorem dX5_in_15 : decode cX5_in 15 = .ok (.ireturn, 1) := by decide +kernel
theorem dX5_has_0 : decode cX5_has 0 = .ok (.iload_n 0, 1) := by decide +kernel
theorem dX5_has_1 : decode cX5_has 1 = .ok (.iload_n 1, 1) := by decide +kernel
theorem dX5_has_2 : decode cX5_has 2 = .ok (.ishr, 1) := by decide +kernel
theorem dX5_has_3 : decode cX5_has 3 = .ok (.iconst 1, 1) := by decide +kernel
theorem dX5_has_4 : decode cX5_has 4 = .ok (.iand, 1) := by decide +kernel
theorem dX5_has_5 : decode cX5_has 5 = .ok (.iconst 1, 1) := by decide +kernel
theorem dX5_has_6 : decode cX5_has 6 = .ok (.if_icmp .ne 7, 3) := by decide +kernel
theorem dX5_has_9 : decode cX5_has 9 = .ok (.iconst 1, 1) := by decide +kernel
theorem dX5_has_10 : decode cX5_has 10 = .ok (.goto 4, 3) := by decide +kernel
theorem dX5_has_13 : decode cX5_has 13 = .ok (.iconst 0, 1) := by decide +kernel
theorem dX5_has_14 : decode cX5_has 14 = .ok (.ireturn, 1) := by decide +kernel
theorem dX5_bitsOf_0 : decode cX5_bitsOf 0 = .ok (.iconst 0, 1) := by decide +kernel
theorem dX5_bitsOf_1 : decode cX5_bitsOf 1 = .ok (.istore_n 1, 1) := by decide +kernel
theorem dX5_bitsOf_2 : decode cX5_bitsOf 2 = .ok (.iconst 0, 1) := by decide +kernel
theorem dX5_bitsOf_3 : decode cX5_bitsOf 3 = .ok (.istore_n 2, 1) := by decide +kernel
theorem dX5_bitsOf_4 : decode cX5_bitsOf 4 = .ok (.iload_n 2, 1) := by decide +kernel
theorem dX5_bitsOf_5 : decode cX5_bitsOf 5 = .ok (.bipush 20, 2) := by decide +kernel
theorem dX5_bitsOf_7 : decode cX5_bitsOf 7 = .ok (.if_icmp .ge 17, 3) := by decide +kernel
theorem dX5_bitsOf_10 : decode cX5_bitsOf 10 = .ok (.iload_n 1, 1) := by decide +kernel
theorem dX5_bitsOf_11 : decode cX5_bitsOf 11 = .ok (.iload_n 0, 1) := by decide +kernel
theorem dX5_bitsOf_12 : decode cX5_bitsOf 12 = .ok (.iload_n 2, 1) := by decide +kernel
theorem dX5_bitsOf_13 : decode cX5_bitsOf 13 = .ok (.ishr, 1) := by decide +kernel
theorem dX5_bitsOf_14 : decode cX5_bitsOf 14 = .ok (.iconst 1, 1) := by decide +kernel
theorem dX5_bitsOf_15 : decode cX5_bitsOf 15 = .ok (.iand, 1) := by decide +kernel
theorem dX5_bitsOf_16 : decode cX5_bitsOf 16 = .ok (.iadd, 1) := by decide +kernel
theorem dX5_bitsOf_17 : decode cX5_bitsOf 17 = .ok (.istore_n 1, 1) := by decide +kernel
theorem dX5_bitsOf_18 : decode cX5_bitsOf 18 = .ok (.iinc 2 1, 3) := by decide +kernel
theorem dX5_bitsOf_21 : decode cX5_bitsOf 21 = .ok (.goto (-17), 3) := by decide +kernel
theorem dX5_bitsOf_24 : decode cX5_bitsOf 24 = .ok (.iload_n 1, 1) := by decide +kernel
theorem dX5_bitsOf_25 : decode cX5_bitsOf 25 = .ok (.ireturn, 1) := by decide +kernel
theorem dX5_take_0 : decode cX5_take 0 = .ok (.iconst 0, 1) := by decide +kernel
theorem dX5_take_1 : decode cX5_take 1 = .ok (.istore_n 1, 1) := by decide +kernel
theorem dX5_take_2 : decode cX5_take 2 = .ok (.iload_n 1, 1) := by decide +kernel
theorem dX5_take_3 : decode cX5_take 3 = .ok (.bipush 32, 2) := by decide +kernel
theorem dX5_take_5 : decode cX5_take 5 = .ok (.if_icmp .ge 21, 3) := by decide +kernel
theorem dX5_take_8 : decode cX5_take 8 = .ok (.aload_n 0, 1) := by decide +kernel
theorem dX5_take_9 : decode cX5_take 9 = .ok (.getfield 13, 3) := by decide +kernel
theorem dX5_take_12 : decode cX5_take 12 = .ok (.iload_n 1, 1) := by decide +kernel
theorem dX5_take_13 : decode cX5_take 13 = .ok (.aload_n 0, 1) := by decide +kernel
theorem dX5_take_14 : decode cX5_take 14 = .ok (.getfield 7, 3) := by decide +kernel
theorem dX5_take_17 : decode cX5_take 17 = .ok (.iload_n 1, 1) := by decide +kernel
theorem dX5_take_18 : decode cX5_take 18 = .ok (.iaload, 1) := by decide +kernel
theorem dX5_take_19 : decode cX5_take 19 = .ok (.iastore, 1) := by decide +kernel
theorem dX5_take_20 : decode cX5_take 20 = .ok (.iinc 1 1, 3) := by decide +kernel
theorem dX5_take_23 : decode cX5_take 23 = .ok (.goto (-21), 3) := by decide +kernel
theorem dX5_take_26 : decode cX5_take 26 = .ok (.return_, 1) := by decide +kernel
theorem dX5_isCouple_0 : decode cX5_isCouple 0 = .ok (.iload_n 1, 1) := by decide +kernel
theorem dX5_isCouple_1 : decode cX5_isCouple 1 = .ok (.iconst 0, 1) := by decide +kernel
theorem dX5_isCouple_2 : decode cX5_isCouple 2 = .ok (.aload_n 0, 1) := by decide +kernel
theorem dX5_isCouple_3 : decode cX5_isCouple 3 = .ok (.getfield 7, 3) := by decide +kernel
theorem dX5_isCouple_6 : decode cX5_isCouple 6 = .ok (.iconst 0, 1) := by decide +kernel
theorem dX5_isCouple_7 : decode cX5_isCouple 7 = .ok (.iaload, 1) := by decide +kernel
theorem dX5_isCouple_8 : decode cX5_isCouple 8 = .ok (.iconst 1, 1) := by decide +kernel
theorem dX5_isCouple_9 : decode cX5_isCouple 9 = .ok (.isub, 1) := by decide +kernel
theorem dX5_isCouple_10 : decode cX5_isCouple 10 = .ok (.invokestatic 45, 3) := by decide +kernel
theorem dX5_isCouple_13 : decode cX5_isCouple 13 = .ok (.ireturn, 1) := by decide +kernel
theorem dX5_isParted_0 : decode cX5_isParted 0 = .ok (.aload_n 0, 1) := by decide +kernel
theorem dX5_isParted_1 : decode cX5_isParted 1 = .ok (.iconst 2, 1) := by decide +kernel
theorem dX5_isParted_2 : decode cX5_isParted 2 = .ok (.iaload, 1) := by decide +kernel
theorem dX5_isParted_3 : decode cX5_isParted 3 = .ok (.iload_n 1, 1) := by decide +kernel
theorem dX5_isParted_4 : decode cX5_isParted 4 = .ok (.invokestatic 49, 3) := by decide +kernel
theorem dX5_isParted_7 : decode cX5_isParted 7 = .ok (.ireturn, 1) := by decide +kernel
theorem dX5_longest_0 : decode cX5_longest 0 = .ok (.bipush (-4), 2) := by decide +kernel
theorem dX5_longest_2 : decode cX5_longest 2 = .ok (.istore_n 2, 1) := by decide +kernel
theorem dX5_longest_3 : decode cX5_longest 3 = .ok (.aload_n 0, 1) := by decide +kernel
theorem dX5_longest_4 : decode cX5_longest 4 = .ok (.iconst 0, 1) := by decide +kernel
theorem dX5_longest_5 : decode cX5_longest 5 = .ok (.iaload, 1) := by decide +kernel
theorem dX5_longest_6 : decode cX5_longest 6 = .ok (.iconst 1, 1) := by decide +kernel
theorem dX5_longest_7 : decode cX5_longest 7 = .ok (.isub, 1) := by decide +kernel
theorem dX5_longest_8 : decode cX5_longest 8 = .ok (.istore_n 3, 1) := by decide +kernel
theorem dX5_longest_9 : decode cX5_longest 9 = .ok (.iload_n 3, 1) := by decide +kernel
theorem dX5_longest_10 : decode cX5_longest 10 = .ok (.ifCond .lt 61, 3) := by decide +kernel
theorem dX5_longest_13 : decode cX5_longest 13 = .ok (.aload_n 0, 1) := by decide +kernel
theorem dX5_longest_14 : decode cX5_longest 14 = .ok (.iload_n 3, 1) := by decide +kernel
theorem dX5_longest_15 : decode cX5_longest 15 = .ok (.invokestatic 53, 3) := by decide +kernel
theorem dX5_longest_18 : decode cX5_longest 18 = .ok (.ifCond .ne 12, 3) := by decide +kernel
theorem dX5_longest_21 : decode cX5_longest 21 = .ok (.iload_n 3, 1) := by decide +kernel
theorem dX5_longest_22 : decode cX5_longest 22 = .ok (.iload_n 1, 1) := by decide +kernel
theorem dX5_longest_23 : decode cX5_longest 23 = .ok (.if_icmp .eq 7, 3) := by decide +kernel
theorem dX5_longest_26 : decode cX5_longest 26 = .ok (.iconst 1, 1) := by decide +kernel
theorem dX5_longest_27 : decode cX5_longest 27 = .ok (.goto 4, 3) := by decide +kernel
theorem dX5_longest_30 : decode cX5_longest 30 = .ok (.iconst 0, 1) := by decide +kernel
theorem dX5_longest_31 : decode cX5_longest 31 = .ok (.istore 4, 2) := by decide +kernel
theorem dX5_longest_33 : decode cX5_longest 33 = .ok (.iload 4, 2) := by decide +kernel
theorem dX5_longest_35 : decode cX5_longest 35 = .ok (.ifCond .eq 28, 3) := by decide +kernel
theorem dX5_longest_38 : decode cX5_longest 38 = .ok (.iload_n 2, 1) := by decide +kernel
theorem dX5_longest_39 : decode cX5_longest 39 = .ok (.bipush (-4), 2) := by decide +kernel
theorem dX5_longest_41 : decode cX5_longest 41 = .ok (.if_icmp .eq 18, 3) := by decide +kernel
theorem dX5_longest_44 : decode cX5_longest 44 = .ok (.aload_n 0, 1) := by decide +kernel
theorem dX5_longest_45 : decode cX5_longest 45 = .ok (.bipush 11, 2) := by decide +kernel
theorem dX5_longest_47 : decode cX5_longest 47 = .ok (.iload_n 3, 1) := by decide +kernel
theorem dX5_longest_48 : decode cX5_longest 48 = .ok (.iadd, 1) := by decide +kernel
theorem dX5_longest_49 : decode cX5_longest 49 = .ok (.iaload, 1) := by decide +kernel
theorem dX5_longest_50 : decode cX5_longest 50 = .ok (.aload_n 0, 1) := by decide +kernel
theorem dX5_longest_51 : decode cX5_longest 51 = .ok (.bipush 11, 2) := by decide +kernel
theorem dX5_longest_53 : decode cX5_longest 53 = .ok (.iload_n 2, 1) := by decide +kernel
theorem dX5_longest_54 : decode cX5_longest 54 = .ok (.iadd, 1) := by decide +kernel
theorem dX5_longest_55 : decode cX5_longest 55 = .ok (.iaload, 1) := by decide +kernel
theorem dX5_longest_56 : decode cX5_longest 56 = .ok (.if_icmp .lt 7, 3) := by decide +kernel
theorem dX5_longest_59 : decode cX5_longest 59 = .ok (.iload_n 3, 1) := by decide +kernel
theorem dX5_longest_60 : decode cX5_longest 60 = .ok (.goto 4, 3) := by decide +kernel
theorem dX5_longest_63 : decode cX5_longest 63 = .ok (.iload_n 2, 1) := by decide +kernel
theorem dX5_longest_64 : decode cX5_longest 64 = .ok (.istore_n 2, 1) := by decide +kernel
theorem dX5_longest_65 : decode cX5_longest 65 = .ok (.iinc 3 (-1), 3) := by decide +kernel
theorem dX5_longest_68 : decode cX5_longest 68 = .ok (.goto (-59), 3) := by decide +kernel
theorem dX5_longest_71 : decode cX5_longest 71 = .ok (.iload_n 2, 1) := by decide +kernel
theorem dX5_longest_72 : decode cX5_longest 72 = .ok (.ireturn, 1) := by decide +kernel
theorem dX5_keysOf_0 : decode cX5_keysOf 0 = .ok (.aload_n 0, 1) := by decide +kernel
theorem dX5_keysOf_1 : decode cX5_keysOf 1 = .ok (.bipush (-4), 2) := by decide +kernel
theorem dX5_keysOf_3 : decode cX5_keysOf 3 = .ok (.invokestatic 57, 3) := by decide +kernel
theorem dX5_keysOf_6 : decode cX5_keysOf 6 = .ok (.ireturn, 1) := by decide +kernel
theorem dX5_secondOf_0 : decode cX5_secondOf 0 = .ok (.aload_n 0, 1) := by decide +kernel
theorem dX5_secondOf_1 : decode cX5_secondOf 1 = .ok (.invokestatic 61, 3) := by decide +kernel
theorem dX5_secondOf_4 : decode cX5_secondOf 4 = .ok (.istore_n 1, 1) := by decide +kernel
theorem dX5_secondOf_5 : decode cX5_secondOf 5 = .ok (.iload_n 1, 1) := by decide +kernel
theorem dX5_secondOf_6 : decode cX5_secondOf 6 = .ok (.bipush (-4), 2) := by decide +kernel
theorem dX5_secondOf_8 : decode cX5_secondOf 8 = .ok (.if_icmp .ne 8, 3) := by decide +kernel
theorem dX5_secondOf_11 : decode cX5_secondOf 11 = .ok (.bipush (-4), 2) := by decide +kernel
theorem dX5_secondOf_13 : decode cX5_secondOf 13 = .ok (.goto 8, 3) := by decide +kernel
theorem dX5_secondOf_16 : decode cX5_secondOf 16 = .ok (.aload_n 0, 1) := by decide +kernel
theorem dX5_secondOf_17 : decode cX5_secondOf 17 = .ok (.iload_n 1, 1) := by decide +kernel
theorem dX5_secondOf_18 : decode cX5_secondOf 18 = .ok (.invokestatic 57, 3) := by decide +kernel
theorem dX5_secondOf_21 : decode cX5_secondOf 21 = .ok (.ireturn, 1) := by decide +kernel
theorem dX5_worseBy_0 : decode cX5_worseBy 0 = .ok (.aload_n 0, 1) := by decide +kernel
theorem dX5_worseBy_1 : decode cX5_worseBy 1 = .ok (.invokestatic 61, 3) := by decide +kernel
theorem dX5_worseBy_4 : decode cX5_worseBy 4 = .ok (.iload_n 1, 1) := by decide +kernel
theorem dX5_worseBy_5 : decode cX5_worseBy 5 = .ok (.if_icmp .ne 7, 3) := by decide +kernel
theorem dX5_worseBy_8 : decode cX5_worseBy 8 = .ok (.iconst 1, 1) := by decide +kernel
theorem dX5_worseBy_9 : decode cX5_worseBy 9 = .ok (.goto 4, 3) := by decide +kernel
theorem dX5_worseBy_12 : decode cX5_worseBy 12 = .ok (.iconst 0, 1) := by decide +kernel
theorem dX5_worseBy_13 : decode cX5_worseBy 13 = .ok (.istore_n 2, 1) := by decide +kernel
theorem dX5_worseBy_14 : decode cX5_worseBy 14 = .ok (.iload_n 2, 1) := by decide +kernel
theorem dX5_worseBy_15 : decode cX5_worseBy 15 = .ok (.ifCond .eq 7, 3) := by decide +kernel
theorem dX5_worseBy_18 : decode cX5_worseBy 18 = .ok (.iconst 1, 1) := by decide +kernel
theorem dX5_worseBy_19 : decode cX5_worseBy 19 = .ok (.goto 4, 3) := by decide +kernel
theorem dX5_worseBy_22 : decode cX5_worseBy 22 = .ok (.iconst (-1), 1) := by decide +kernel
theorem dX5_worseBy_23 : decode cX5_worseBy 23 = .ok (.istore_n 3, 1) := by decide +kernel
theorem dX5_worseBy_24 : decode cX5_worseBy 24 = .ok (.iload_n 2, 1) := by decide +kernel
theorem dX5_worseBy_25 : decode cX5_worseBy 25 = .ok (.ifCond .eq 9, 3) := by decide +kernel
theorem dX5_worseBy_28 : decode cX5_worseBy 28 = .ok (.iload_n 3, 1) := by decide +kernel
theorem dX5_worseBy_29 : decode cX5_worseBy 29 = .ok (.iconst 2, 1) := by decide +kernel
theorem dX5_worseBy_30 : decode cX5_worseBy 30 = .ok (.iadd, 1) := by decide +kernel
theorem dX5_worseBy_31 : decode cX5_worseBy 31 = .ok (.goto 4, 3) := by decide +kernel
theorem dX5_worseBy_34 : decode cX5_worseBy 34 = .ok (.iload_n 3, 1) := by decide +kernel
theorem dX5_worseBy_35 : decode cX5_worseBy 35 = .ok (.istore 4, 2) := by decide +kernel
theorem dX5_worseBy_37 : decode cX5_worseBy 37 = .ok (.aload_n 0, 1) := by decide +kernel
theorem dX5_worseBy_38 : decode cX5_worseBy 38 = .ok (.invokestatic 65, 3) := by decide +kernel
theorem dX5_worseBy_41 : decode cX5_worseBy 41 = .ok (.iload_n 1, 1) := by decide +kernel
theorem dX5_worseBy_42 : decode cX5_worseBy 42 = .ok (.if_icmp .ne 9, 3) := by decide +kernel
theorem dX5_worseBy_45 : decode cX5_worseBy 45 = .ok (.iload_n 3, 1) := by decide +kernel
theorem dX5_worseBy_46 : decode cX5_worseBy 46 = .ok (.iconst 2, 1) := by decide +kernel
theorem dX5_worseBy_47 : decode cX5_worseBy 47 = .ok (.isub, 1) := by decide +kernel
theorem dX5_worseBy_48 : decode cX5_worseBy 48 = .ok (.goto 4, 3) := by decide +kernel
theorem dX5_worseBy_51 : decode cX5_worseBy 51 = .ok (.iload_n 3, 1) := by decide +kernel
theorem dX5_worseBy_52 : decode cX5_worseBy 52 = .ok (.istore 5, 2) := by decide +kernel
theorem dX5_worseBy_54 : decode cX5_worseBy 54 = .ok (.aload_n 0, 1) := by decide +kernel
theorem dX5_worseBy_55 : decode cX5_worseBy 55 = .ok (.iconst 4, 1) := by decide +kernel
theorem dX5_worseBy_56 : decode cX5_worseBy 56 = .ok (.iload_n 1, 1) := by decide +kernel
theorem dX5_worseBy_57 : decode cX5_worseBy 57 = .ok (.iadd, 1) := by decide +kernel
theorem dX5_worseBy_58 : decode cX5_worseBy 58 = .ok (.iaload, 1) := by decide +kernel
theorem dX5_worseBy_59 : decode cX5_worseBy 59 = .ok (.tableswitch 52 0 3 #[29, 31, 34, 37], 29) := by decide +kernel
theorem dX5_worseBy_88 : decode cX5_worseBy 88 = .ok (.iload_n 3, 1) := by decide +kernel
theorem dX5_worseBy_89 : decode cX5_worseBy 89 = .ok (.ireturn, 1) := by decide +kernel
theorem dX5_worseBy_90 : decode cX5_worseBy 90 = .ok (.iload 4, 2) := by decide +kernel
theorem dX5_worseBy_92 : decode cX5_worseBy 92 = .ok (.ireturn, 1) := by decide +kernel
theorem dX5_worseBy_93 : decode cX5_worseBy 93 = .ok (.iload 5, 2) := by decide +kernel
theorem dX5_worseBy_95 : decode cX5_worseBy 95 = .ok (.ireturn, 1) := by decide +kernel
theorem dX5_worseBy_96 : decode cX5_worseBy 96 = .ok (.aload_n 0, 1) := by decide +kernel
theorem dX5_worseBy_97 : decode cX5_worseBy 97 = .ok (.iconst 1, 1) := by decide +kernel
theorem dX5_worseBy_98 : decode cX5_worseBy 98 = .ok (.iaload, 1) := by decide +kernel
theorem dX5_worseBy_99 : decode cX5_worseBy 99 = .ok (.iconst 2, 1) := by decide +kernel
theorem dX5_worseBy_100 : decode cX5_worseBy 100 = .ok (.irem, 1) := by decide +kernel
theorem dX5_worseBy_101 : decode cX5_worseBy 101 = .ok (.ifCond .ne 8, 3) := by decide +kernel
theorem dX5_worseBy_104 : decode cX5_worseBy 104 = .ok (.iload 4, 2) := by decide +kernel
theorem dX5_worseBy_106 : decode cX5_worseBy 106 = .ok (.goto 4, 3) := by decide +kernel
theorem dX5_worseBy_109 : decode cX5_worseBy 109 = .ok (.iconst 0, 1) := by decide +kernel
theorem dX5_worseBy_110 : decode cX5_worseBy 110 = .ok (.ireturn, 1) := by decide +kernel
theorem dX5_worseBy_111 : decode cX5_worseBy 111 = .ok (.aload_n 0, 1) := by decide +kernel
theorem dX5_worseBy_112 : decode cX5_worseBy 112 = .ok (.bipush 25, 2) := by decide +kernel
theorem dX5_worseBy_114 : decode cX5_worseBy 114 = .ok (.iload_n 1, 1) := by decide +kernel
theorem dX5_worseBy_115 : decode cX5_worseBy 115 = .ok (.iadd, 1) := by decide +kernel
theorem dX5_worseBy_116 : decode cX5_worseBy 116 = .ok (.iaload, 1) := by decide +kernel
theorem dX5_worseBy_117 : decode cX5_worseBy 117 = .ok (.bipush 10, 2) := by decide +kernel
theorem dX5_worseBy_119 : decode cX5_worseBy 119 = .ok (.if_icmp .lt 10, 3) := by decide +kernel
theorem dX5_worseBy_122 : decode cX5_worseBy 122 = .ok (.iload 5, 2) := by decide +kernel
theorem dX5_worseBy_124 : decode cX5_worseBy 124 = .ok (.iconst 3, 1) := by decide +kernel
theorem dX5_worseBy_125 : decode cX5_worseBy 125 = .ok (.iadd, 1) := by decide +kernel
theorem dX5_worseBy_126 : decode cX5_worseBy 126 = .ok (.goto 5, 3) := by decide +kernel
theorem dX5_worseBy_129 : decode cX5_worseBy 129 = .ok (.iload 5, 2) := by decide +kernel
theorem dX5_worseBy_131 : decode cX5_worseBy 131 = .ok (.ireturn, 1) := by decide +kernel
theorem dX5_passOn_0 : decode cX5_passOn 0 = .ok (.iconst 0, 1) := by decide +kernel
theorem dX5_passOn_1 : decode cX5_passOn 1 = .ok (.istore_n 2, 1) := by decide +kernel
theorem dX5_passOn_2 : decode cX5_passOn 2 = .ok (.iload_n 2, 1) := by decide +kernel
theorem dX5_passOn_3 : decode cX5_passOn 3 = .ok (.aload_n 1, 1) := by decide +kernel
theorem dX5_passOn_4 : decode cX5_passOn 4 = .ok (.iconst 0, 1) := by decide +kernel
theorem dX5_passOn_5 : decode cX5_passOn 5 = .ok (.iaload, 1) := by decide +kernel
theorem dX5_passOn_6 : decode cX5_passOn 6 = .ok (.if_icmp .ge 54, 3) := by decide +kernel
theorem dX5_passOn_9 : decode cX5_passOn 9 = .ok (.aload_n 1, 1) := by decide +kernel
theorem dX5_passOn_10 : decode cX5_passOn 10 = .ok (.iload_n 2, 1) := by decide +kernel
theorem dX5_passOn_11 : decode cX5_passOn 11 = .ok (.invokestatic 53, 3) := by decide +kernel
theorem dX5_passOn_14 : decode cX5_passOn 14 = .ok (.ifCond .eq 12, 3) := by decide +kernel
theorem dX5_passOn_17 : decode cX5_passOn 17 = .ok (.aload_n 1, 1) := by decide +kernel
theorem dX5_passOn_18 : decode cX5_passOn 18 = .ok (.bipush 25, 2) := by decide +kernel
theorem dX5_passOn_20 : decode cX5_passOn 20 = .ok (.iload_n 2, 1) := by decide +kernel
theorem dX5_passOn_21 : decode cX5_passOn 21 = .ok (.iadd, 1) := by decide +kernel
theorem dX5_passOn_22 : decode cX5_passOn 22 = .ok (.iaload, 1) := by decide +kernel
theorem dX5_passOn_23 : decode cX5_passOn 23 = .ok (.goto 15, 3) := by decide +kernel
theorem dX5_passOn_26 : decode cX5_passOn 26 = .ok (.aload_n 1, 1) := by decide +kernel
theorem dX5_passOn_27 : decode cX5_passOn 27 = .ok (.bipush 25, 2) := by decide +kernel
theorem dX5_passOn_29 : decode cX5_passOn 29 = .ok (.iload_n 2, 1) := by decide +kernel
theorem dX5_passOn_30 : decode cX5_passOn 30 = .ok (.iadd, 1) := by decide +kernel
theorem dX5_passOn_31 : decode cX5_passOn 31 = .ok (.iaload, 1) := by decide +kernel
theorem dX5_passOn_32 : decode cX5_passOn 32 = .ok (.aload_n 1, 1) := by decide +kernel
theorem dX5_passOn_33 : decode cX5_passOn 33 = .ok (.iload_n 2, 1) := by decide +kernel
theorem dX5_passOn_34 : decode cX5_passOn 34 = .ok (.invokestatic 68, 3) := by decide +kernel
theorem dX5_passOn_37 : decode cX5_passOn 37 = .ok (.iadd, 1) := by decide +kernel
theorem dX5_passOn_38 : decode cX5_passOn 38 = .ok (.istore_n 3, 1) := by decide +kernel
theorem dX5_passOn_39 : decode cX5_passOn 39 = .ok (.aload_n 0, 1) := by decide +kernel
theorem dX5_passOn_40 : decode cX5_passOn 40 = .ok (.getfield 25, 3) := by decide +kernel
theorem dX5_passOn_43 : decode cX5_passOn 43 = .ok (.iload_n 2, 1) := by decide +kernel
theorem dX5_passOn_44 : decode cX5_passOn 44 = .ok (.iload_n 3, 1) := by decide +kernel
theorem dX5_passOn_45 : decode cX5_passOn 45 = .ok (.ifCond .ge 7, 3) := by decide +kernel
theorem dX5_passOn_48 : decode cX5_passOn 48 = .ok (.iconst 0, 1) := by decide +kernel
theorem dX5_passOn_49 : decode cX5_passOn 49 = .ok (.goto 4, 3) := by decide +kernel
theorem dX5_passOn_52 : decode cX5_passOn 52 = .ok (.iload_n 3, 1) := by decide +kernel
theorem dX5_passOn_53 : decode cX5_passOn 53 = .ok (.iastore, 1) := by decide +kernel
theorem dX5_passOn_54 : decode cX5_passOn 54 = .ok (.iinc 2 1, 3) := by decide +kernel
theorem dX5_passOn_57 : decode cX5_passOn 57 = .ok (.goto (-55), 3) := by decide +kernel
theorem dX5_passOn_60 : decode cX5_passOn 60 = .ok (.iconst 0, 1) := by decide +kernel
theorem dX5_passOn_61 : decode cX5_passOn 61 = .ok (.istore_n 2, 1) := by decide +kernel
theorem dX5_passOn_62 : decode cX5_passOn 62 = .ok (.iload_n 2, 1) := by decide +kernel
theorem dX5_passOn_63 : decode cX5_passOn 63 = .ok (.aload_n 1, 1) := by decide +kernel
theorem dX5_passOn_64 : decode cX5_passOn 64 = .ok (.iconst 0, 1) := by decide +kernel
theorem dX5_passOn_65 : decode cX5_passOn 65 = .ok (.iaload, 1) := by decide +kernel
theorem dX5_passOn_66 : decode cX5_passOn 66 = .ok (.if_icmp .ge 151, 3) := by decide +kernel
theorem dX5_passOn_69 : decode cX5_passOn 69 = .ok (.aload_n 1, 1) := by decide +kernel
theorem dX5_passOn_70 : decode cX5_passOn 70 = .ok (.iload_n 2, 1) := by decide +kernel
theorem dX5_passOn_71 : decode cX5_passOn 71 = .ok (.invokestatic 53, 3) := by decide +kernel
theorem dX5_passOn_74 : decode cX5_passOn 74 = .ok (.ifCond .ne 137, 3) := by decide +kernel
theorem dX5_passOn_77 : decode cX5_passOn 77 = .ok (.aload_n 1, 1) := by decide +kernel
theorem dX5_passOn_78 : decode cX5_passOn 78 = .ok (.bipush 25, 2) := by decide +kernel
theorem dX5_passOn_80 : decode cX5_passOn 80 = .ok (.iload_n 2, 1) := by decide +kernel
theorem dX5_passOn_81 : decode cX5_passOn 81 = .ok (.iadd, 1) := by decide +kernel
theorem dX5_passOn_82 : decode cX5_passOn 82 = .ok (.aload_n 0, 1) := by decide +kernel
theorem dX5_passOn_83 : decode cX5_passOn 83 = .ok (.getfield 25, 3) := by decide +kernel
theorem dX5_passOn_86 : decode cX5_passOn 86 = .ok (.iload_n 2, 1) := by decide +kernel
theorem dX5_passOn_87 : decode cX5_passOn 87 = .ok (.iaload, 1) := by decide +kernel
theorem dX5_passOn_88 : decode cX5_passOn 88 = .ok (.iastore, 1) := by decide +kernel
theorem dX5_passOn_89 : decode cX5_passOn 89 = .ok (.aload_n 1, 1) := by decide +kernel
theorem dX5_passOn_90 : decode cX5_passOn 90 = .ok (.bipush 11, 2) := by decide +kernel
theorem dX5_passOn_92 : decode cX5_passOn 92 = .ok (.iload_n 2, 1) := by decide +kernel
theorem dX5_passOn_93 : decode cX5_passOn 93 = .ok (.iadd, 1) := by decide +kernel
theorem dX5_passOn_94 : decode cX5_passOn 94 = .ok (.dup2, 1) := by decide +kernel
theorem dX5_passOn_95 : decode cX5_passOn 95 = .ok (.iaload, 1) := by decide +kernel
theorem dX5_passOn_96 : decode cX5_passOn 96 = .ok (.aload_n 1, 1) := by decide +kernel
theorem dX5_passOn_97 : decode cX5_passOn 97 = .ok (.bipush 11, 2) := by decide +kernel
theorem dX5_passOn_99 : decode cX5_passOn 99 = .ok (.iload_n 2, 1) := by decide +kernel
theorem dX5_passOn_100 : decode cX5_passOn 100 = .ok (.iadd, 1) := by decide +kernel
theorem dX5_passOn_101 : decode cX5_passOn 101 = .ok (.iaload, 1) := by decide +kernel
theorem dX5_passOn_102 : decode cX5_passOn 102 = .ok (.bipush 99, 2) := by decide +kernel
theorem dX5_passOn_104 : decode cX5_passOn 104 = .ok (.if_icmp .ge 7, 3) := by decide +kernel
theorem dX5_passOn_107 : decode cX5_passOn 107 = .ok (.iconst 1, 1) := by decide +kernel
theorem dX5_passOn_108 : decode cX5_passOn 108 = .ok (.goto 4, 3) := by decide +kernel
theorem dX5_passOn_111 : decode cX5_passOn 111 = .ok (.iconst 0, 1) := by decide +kernel
theorem dX5_passOn_112 : decode cX5_passOn 112 = .ok (.iadd, 1) := by decide +kernel
theorem dX5_passOn_113 : decode cX5_passOn 113 = .ok (.iastore, 1) := by decide +kernel
theorem dX5_passOn_114 : decode cX5_passOn 114 = .ok (.aload_n 1, 1) := by decide +kernel
theorem dX5_passOn_115 : decode cX5_passOn 115 = .ok (.bipush 18, 2) := by decide +kernel
theorem dX5_passOn_117 : decode cX5_passOn 117 = .ok (.iload_n 2, 1) := by decide +kernel
theorem dX5_passOn_118 : decode cX5_passOn 118 = .ok (.iadd, 1) := by decide +kernel
theorem dX5_passOn_119 : decode cX5_passOn 119 = .ok (.dup2, 1) := by decide +kernel
theorem dX5_passOn_120 : decode cX5_passOn 120 = .ok (.iaload, 1) := by decide +kernel
theorem dX5_passOn_121 : decode cX5_passOn 121 = .ok (.iconst 1, 1) := by decide +kernel
theorem dX5_passOn_122 : decode cX5_passOn 122 = .ok (.iadd, 1) := by decide +kernel
theorem dX5_passOn_123 : decode cX5_passOn 123 = .ok (.iastore, 1) := by decide +kernel
theorem dX5_passOn_124 : decode cX5_passOn 124 = .ok (.aload_n 1, 1) := by decide +kernel
theorem dX5_passOn_125 : decode cX5_passOn 125 = .ok (.bipush 25, 2) := by decide +kernel
theorem dX5_passOn_127 : decode cX5_passOn 127 = .ok (.iload_n 2, 1) := by decide +kernel
theorem dX5_passOn_128 : decode cX5_passOn 128 = .ok (.iadd, 1) := by decide +kernel
theorem dX5_passOn_129 : decode cX5_passOn 129 = .ok (.iaload, 1) := by decide +kernel
theorem dX5_passOn_130 : decode cX5_passOn 130 = .ok (.bipush 19, 2) := by decide +kernel
theorem dX5_passOn_132 : decode cX5_passOn 132 = .ok (.if_icmp .gt 14, 3) := by decide +kernel
theorem dX5_passOn_135 : decode cX5_passOn 135 = .ok (.aload_n 1, 1) := by decide +kernel
theorem dX5_passOn_136 : decode cX5_passOn 136 = .ok (.bipush 18, 2) := by decide +kernel
theorem dX5_passOn_138 : decode cX5_passOn 138 = .ok (.iload_n 2, 1) := by decide +kernel
theorem dX5_passOn_139 : decode cX5_passOn 139 = .ok (.iadd, 1) := by decide +kernel
theorem dX5_passOn_140 : decode cX5_passOn 140 = .ok (.iaload, 1) := by decide +kernel
theorem dX5_passOn_141 : decode cX5_passOn 141 = .ok (.bipush 99, 2) := by decide +kernel
theorem dX5_passOn_143 : decode cX5_passOn 143 = .ok (.if_icmp .le 68, 3) := by decide +kernel
theorem dX5_passOn_146 : decode cX5_passOn 146 = .ok (.aload_n 1, 1) := by decide +kernel
theorem dX5_passOn_147 : decode cX5_passOn 147 = .ok (.iconst 2, 1) := by decide +kernel
theorem dX5_passOn_148 : decode cX5_passOn 148 = .ok (.dup2, 1) := by decide +kernel
theorem dX5_passOn_149 : decode cX5_passOn 149 = .ok (.iaload, 1) := by decide +kernel
theorem dX5_passOn_150 : decode cX5_passOn 150 = .ok (.iconst 1, 1) := by decide +kernel
theorem dX5_passOn_151 : decode cX5_passOn 151 = .ok (.iload_n 2, 1) := by decide +kernel
theorem dX5_passOn_152 : decode cX5_passOn 152 = .ok (.ishl, 1) := by decide +kernel
theorem dX5_passOn_153 : decode cX5_passOn 153 = .ok (.ior, 1) := by decide +kernel
theorem dX5_passOn_154 : decode cX5_passOn 154 = .ok (.iastore, 1) := by decide +kernel
theorem dX5_passOn_155 : decode cX5_passOn 155 = .ok (.aload_n 1, 1) := by decide +kernel
theorem dX5_passOn_156 : decode cX5_passOn 156 = .ok (.bipush 25, 2) := by decide +kernel
theorem dX5_passOn_158 : decode cX5_passOn 158 = .ok (.iload_n 2, 1) := by decide +kernel
theorem dX5_passOn_159 : decode cX5_passOn 159 = .ok (.iadd, 1) := by decide +kernel
theorem dX5_passOn_160 : decode cX5_passOn 160 = .ok (.aload_n 1, 1) := by decide +kernel
theorem dX5_passOn_161 : decode cX5_passOn 161 = .ok (.bipush 25, 2) := by decide +kernel
theorem dX5_passOn_163 : decode cX5_passOn 163 = .ok (.iload_n 2, 1) := by decide +kernel
theorem dX5_passOn_164 : decode cX5_passOn 164 = .ok (.iadd, 1) := by decide +kernel
theorem dX5_passOn_165 : decode cX5_passOn 165 = .ok (.iaload, 1) := by decide +kernel
theorem dX5_passOn_166 : decode cX5_passOn 166 = .ok (.bipush 19, 2) := by decide +kernel
theorem dX5_passOn_168 : decode cX5_passOn 168 = .ok (.if_icmp .le 8, 3) := by decide +kernel
theorem dX5_passOn_171 : decode cX5_passOn 171 = .ok (.bipush 19, 2) := by decide +kernel
theorem dX5_passOn_173 : decode cX5_passOn 173 = .ok (.goto 9, 3) := by decide +kernel
theorem dX5_passOn_176 : decode cX5_passOn 176 = .ok (.aload_n 1, 1) := by decide +kernel
theorem dX5_passOn_177 : decode cX5_passOn 177 = .ok (.bipush 25, 2) := by decide +kernel
theorem dX5_passOn_179 : decode cX5_passOn 179 = .ok (.iload_n 2, 1) := by decide +kernel
theorem dX5_passOn_180 : decode cX5_passOn 180 = .ok (.iadd, 1) := by decide +kernel
theorem dX5_passOn_181 : decode cX5_passOn 181 = .ok (.iaload, 1) := by decide +kernel
theorem dX5_passOn_182 : decode cX5_passOn 182 = .ok (.iastore, 1) := by decide +kernel
theorem dX5_passOn_183 : decode cX5_passOn 183 = .ok (.aload_n 1, 1) := by decide +kernel
theorem dX5_passOn_184 : decode cX5_passOn 184 = .ok (.bipush 18, 2) := by decide +kernel
theorem dX5_passOn_186 : decode cX5_passOn 186 = .ok (.iload_n 2, 1) := by decide +kernel
theorem dX5_passOn_187 : decode cX5_passOn 187 = .ok (.iadd, 1) := by decide +kernel
theorem dX5_passOn_188 : decode cX5_passOn 188 = .ok (.aload_n 1, 1) := by decide +kernel
theorem dX5_passOn_189 : decode cX5_passOn 189 = .ok (.bipush 18, 2) := by decide +kernel
theorem dX5_passOn_191 : decode cX5_passOn 191 = .ok (.iload_n 2, 1) := by decide +kernel
theorem dX5_passOn_192 : decode cX5_passOn 192 = .ok (.iadd, 1) := by decide +kernel
theorem dX5_passOn_193 : decode cX5_passOn 193 = .ok (.iaload, 1) := by decide +kernel
theorem dX5_passOn_194 : decode cX5_passOn 194 = .ok (.bipush 99, 2) := by decide +kernel
theorem dX5_passOn_196 : decode cX5_passOn 196 = .ok (.if_icmp .le 8, 3) := by decide +kernel
theorem dX5_passOn_199 : decode cX5_passOn 199 = .ok (.bipush 99, 2) := by decide +kernel
theorem dX5_passOn_201 : decode cX5_passOn 201 = .ok (.goto 9, 3) := by decide +kernel
theorem dX5_passOn_204 : decode cX5_passOn 204 = .ok (.aload_n 1, 1) := by decide +kernel
theorem dX5_passOn_205 : decode cX5_passOn 205 = .ok (.bipush 18, 2) := by decide +kernel
theorem dX5_passOn_207 : decode cX5_passOn 207 = .ok (.iload_n 2, 1) := by decide +kernel
theorem dX5_passOn_208 : decode cX5_passOn 208 = .ok (.iadd, 1) := by decide +kernel
theorem dX5_passOn_209 : decode cX5_passOn 209 = .ok (.iaload, 1) := by decide +kernel
theorem dX5_passOn_210 : decode cX5_passOn 210 = .ok (.iastore, 1) := by decide +kernel
theorem dX5_passOn_211 : decode cX5_passOn 211 = .ok (.iinc 2 1, 3) := by decide +kernel
theorem dX5_passOn_214 : decode cX5_passOn 214 = .ok (.goto (-152), 3) := by decide +kernel
theorem dX5_passOn_217 : decode cX5_passOn 217 = .ok (.aload_n 1, 1) := by decide +kernel
theorem dX5_passOn_218 : decode cX5_passOn 218 = .ok (.iconst 1, 1) := by decide +kernel
theorem dX5_passOn_219 : decode cX5_passOn 219 = .ok (.dup2, 1) := by decide +kernel
theorem dX5_passOn_220 : decode cX5_passOn 220 = .ok (.iaload, 1) := by decide +kernel
theorem dX5_passOn_221 : decode cX5_passOn 221 = .ok (.iconst 1, 1) := by decide +kernel
theorem dX5_passOn_222 : decode cX5_passOn 222 = .ok (.iadd, 1) := by decide +kernel
theorem dX5_passOn_223 : decode cX5_passOn 223 = .ok (.iastore, 1) := by decide +kernel
theorem dX5_passOn_224 : decode cX5_passOn 224 = .ok (.return_, 1) := by decide +kernel
theorem dX5_stirOn_0 : decode cX5_stirOn 0 = .ok (.aload_n 0, 1) := by decide +kernel
theorem dX5_stirOn_1 : decode cX5_stirOn 1 = .ok (.bipush 25, 2) := by decide +kernel
theorem dX5_stirOn_3 : decode cX5_stirOn 3 = .ok (.iload_n 1, 1) := by decide +kernel
theorem dX5_stirOn_4 : decode cX5_stirOn 4 = .ok (.iadd, 1) := by decide +kernel
theorem dX5_stirOn_5 : decode cX5_stirOn 5 = .ok (.dup2, 1) := by decide +kernel
theorem dX5_stirOn_6 : decode cX5_stirOn 6 = .ok (.iaload, 1) := by decide +kernel
theorem dX5_stirOn_7 : decode cX5_stirOn 7 = .ok (.iload_n 2, 1) := by decide +kernel
theorem dX5_stirOn_8 : decode cX5_stirOn 8 = .ok (.iadd, 1) := by decide +kernel
theorem dX5_stirOn_9 : decode cX5_stirOn 9 = .ok (.iastore, 1) := by decide +kernel
theorem dX5_stirOn_10 : decode cX5_stirOn 10 = .ok (.aload_n 0, 1) := by decide +kernel
theorem dX5_stirOn_11 : decode cX5_stirOn 11 = .ok (.bipush 25, 2) := by decide +kernel
theorem dX5_stirOn_13 : decode cX5_stirOn 13 = .ok (.iload_n 1, 1) := by decide +kernel
theorem dX5_stirOn_14 : decode cX5_stirOn 14 = .ok (.iadd, 1) := by decide +kernel
theorem dX5_stirOn_15 : decode cX5_stirOn 15 = .ok (.iaload, 1) := by decide +kernel
theorem dX5_stirOn_16 : decode cX5_stirOn 16 = .ok (.bipush 19, 2) := by decide +kernel
theorem dX5_stirOn_18 : decode cX5_stirOn 18 = .ok (.if_icmp .le 20, 3) := by decide +kernel
theorem dX5_stirOn_21 : decode cX5_stirOn 21 = .ok (.aload_n 0, 1) := by decide +kernel
theorem dX5_stirOn_22 : decode cX5_stirOn 22 = .ok (.bipush 25, 2) := by decide +kernel
theorem dX5_stirOn_24 : decode cX5_stirOn 24 = .ok (.iload_n 1, 1) := by decide +kernel
theorem dX5_stirOn_25 : decode cX5_stirOn 25 = .ok (.iadd, 1) := by decide +kernel
theorem dX5_stirOn_26 : decode cX5_stirOn 26 = .ok (.bipush 19, 2) := by decide +kernel
theorem dX5_stirOn_28 : decode cX5_stirOn 28 = .ok (.iastore, 1) := by decide +kernel
theorem dX5_stirOn_29 : decode cX5_stirOn 29 = .ok (.aload_n 0, 1) := by decide +kernel
theorem dX5_stirOn_30 : decode cX5_stirOn 30 = .ok (.iconst 2, 1) := by decide +kernel
theorem dX5_stirOn_31 : decode cX5_stirOn 31 = .ok (.dup2, 1) := by decide +kernel
theorem dX5_stirOn_32 : decode cX5_stirOn 32 = .ok (.iaload, 1) := by decide +kernel
theorem dX5_stirOn_33 : decode cX5_stirOn 33 = .ok (.iconst 1, 1) := by decide +kernel
theorem dX5_stirOn_34 : decode cX5_stirOn 34 = .ok (.iload_n 1, 1) := by decide +kernel
theorem dX5_stirOn_35 : decode cX5_stirOn 35 = .ok (.ishl, 1) := by decide +kernel
theorem dX5_stirOn_36 : decode cX5_stirOn 36 = .ok (.ior, 1) := by decide +kernel
theorem dX5_stirOn_37 : decode cX5_stirOn 37 = .ok (.iastore, 1) := by decide +kernel
theorem dX5_stirOn_38 : decode cX5_stirOn 38 = .ok (.return_, 1) := by decide +kernel
theorem dX5_nurseOn_0 : decode cX5_nurseOn 0 = .ok (.aload_n 0, 1) := by decide +kernel
theorem dX5_nurseOn_1 : decode cX5_nurseOn 1 = .ok (.bipush 25, 2) := by decide +kernel
theorem dX5_nurseOn_3 : decode cX5_nurseOn 3 = .ok (.iload_n 1, 1) := by decide +kernel
theorem dX5_nurseOn_4 : decode cX5_nurseOn 4 = .ok (.iadd, 1) := by decide +kernel
theorem dX5_nurseOn_5 : decode cX5_nurseOn 5 = .ok (.aload_n 0, 1) := by decide +kernel
theorem dX5_nurseOn_6 : decode cX5_nurseOn 6 = .ok (.bipush 25, 2) := by decide +kernel
theorem dX5_nurseOn_8 : decode cX5_nurseOn 8 = .ok (.iload_n 1, 1) := by decide +kernel
theorem dX5_nurseOn_9 : decode cX5_nurseOn 9 = .ok (.iadd, 1) := by decide +kernel
theorem dX5_nurseOn_10 : decode cX5_nurseOn 10 = .ok (.iaload, 1) := by decide +kernel
theorem dX5_nurseOn_11 : decode cX5_nurseOn 11 = .ok (.iload_n 2, 1) := by decide +kernel
theorem dX5_nurseOn_12 : decode cX5_nurseOn 12 = .ok (.if_icmp .le 14, 3) := by decide +kernel
theorem dX5_nurseOn_15 : decode cX5_nurseOn 15 = .ok (.aload_n 0, 1) := by decide +kernel
theorem dX5_nurseOn_16 : decode cX5_nurseOn 16 = .ok (.bipush 25, 2) := by decide +kernel
theorem dX5_nurseOn_18 : decode cX5_nurseOn 18 = .ok (.iload_n 1, 1) := by decide +kernel
theorem dX5_nurseOn_19 : decode cX5_nurseOn 19 = .ok (.iadd, 1) := by decide +kernel
theorem dX5_nurseOn_20 : decode cX5_nurseOn 20 = .ok (.iaload, 1) := by decide +kernel
theorem dX5_nurseOn_21 : decode cX5_nurseOn 21 = .ok (.iload_n 2, 1) := by decide +kernel
theorem dX5_nurseOn_22 : decode cX5_nurseOn 22 = .ok (.isub, 1) := by decide +kernel
theorem dX5_nurseOn_23 : decode cX5_nurseOn 23 = .ok (.goto 4, 3) := by decide +kernel
theorem dX5_nurseOn_26 : decode cX5_nurseOn 26 = .ok (.iconst 0, 1) := by decide +kernel
theorem dX5_nurseOn_27 : decode cX5_nurseOn 27 = .ok (.iastore, 1) := by decide +kernel
theorem dX5_nurseOn_28 : decode cX5_nurseOn 28 = .ok (.return_, 1) := by decide +kernel
theorem dX5_wedOn_0 : decode cX5_wedOn 0 = .ok (.aload_n 0, 1) := by decide +kernel
theorem dX5_wedOn_1 : decode cX5_wedOn 1 = .ok (.iconst 2, 1) := by decide +kernel
theorem dX5_wedOn_2 : decode cX5_wedOn 2 = .ok (.dup2, 1) := by decide +kernel
theorem dX5_wedOn_3 : decode cX5_wedOn 3 = .ok (.iaload, 1) := by decide +kernel
theorem dX5_wedOn_4 : decode cX5_wedOn 4 = .ok (.iconst 1, 1) := by decide +kernel
theorem dX5_wedOn_5 : decode cX5_wedOn 5 = .ok (.iload_n 1, 1) := by decide +kernel
theorem dX5_wedOn_6 : decode cX5_wedOn 6 = .ok (.ishl, 1) := by decide +kernel
theorem dX5_wedOn_7 : decode cX5_wedOn 7 = .ok (.iconst (-1), 1) := by decide +kernel
theorem dX5_wedOn_8 : decode cX5_wedOn 8 = .ok (.ixor, 1) := by decide +kernel
theorem dX5_wedOn_9 : decode cX5_wedOn 9 = .ok (.iand, 1) := by decide +kernel
theorem dX5_wedOn_10 : decode cX5_wedOn 10 = .ok (.iastore, 1) := by decide +kernel
theorem dX5_wedOn_11 : decode cX5_wedOn 11 = .ok (.aload_n 0, 1) := by decide +kernel
theorem dX5_wedOn_12 : decode cX5_wedOn 12 = .ok (.bipush 11, 2) := by decide +kernel
theorem dX5_wedOn_14 : decode cX5_wedOn 14 = .ok (.iload_n 1, 1) := by decide +kernel
theorem dX5_wedOn_15 : decode cX5_wedOn 15 = .ok (.iadd, 1) := by decide +kernel
theorem dX5_wedOn_16 : decode cX5_wedOn 16 = .ok (.iconst 0, 1) := by decide +kernel
theorem dX5_wedOn_17 : decode cX5_wedOn 17 = .ok (.iastore, 1) := by decide +kernel
theorem dX5_wedOn_18 : decode cX5_wedOn 18 = .ok (.aload_n 0, 1) := by decide +kernel
theorem dX5_wedOn_19 : decode cX5_wedOn 19 = .ok (.bipush 18, 2) := by decide +kernel
theorem dX5_wedOn_21 : decode cX5_wedOn 21 = .ok (.iload_n 1, 1) := by decide +kernel
theorem dX5_wedOn_22 : decode cX5_wedOn 22 = .ok (.iadd, 1) := by decide +kernel
theorem dX5_wedOn_23 : decode cX5_wedOn 23 = .ok (.bipush 20, 2) := by decide +kernel
theorem dX5_wedOn_25 : decode cX5_wedOn 25 = .ok (.iastore, 1) := by decide +kernel
theorem dX5_wedOn_26 : decode cX5_wedOn 26 = .ok (.aload_n 0, 1) := by decide +kernel
theorem dX5_wedOn_27 : decode cX5_wedOn 27 = .ok (.bipush 25, 2) := by decide +kernel
theorem dX5_wedOn_29 : decode cX5_wedOn 29 = .ok (.iload_n 1, 1) := by decide +kernel
theorem dX5_wedOn_30 : decode cX5_wedOn 30 = .ok (.iadd, 1) := by decide +kernel
theorem dX5_wedOn_31 : decode cX5_wedOn 31 = .ok (.iconst 0, 1) := by decide +kernel
theorem dX5_wedOn_32 : decode cX5_wedOn 32 = .ok (.iastore, 1) := by decide +kernel
theorem dX5_wedOn_33 : decode cX5_wedOn 33 = .ok (.return_, 1) := by decide +kernel
theorem dX5_togetherOf_0 : decode cX5_togetherOf 0 = .ok (.iconst 1, 1) := by decide +kernel
theorem dX5_togetherOf_1 : decode cX5_togetherOf 1 = .ok (.aload_n 0, 1) := by decide +kernel
theorem dX5_togetherOf_2 : decode cX5_togetherOf 2 = .ok (.iconst 0, 1) := by decide +kernel
theorem dX5_togetherOf_3 : decode cX5_togetherOf 3 = .ok (.iaload, 1) := by decide +kernel
theorem dX5_togetherOf_4 : decode cX5_togetherOf 4 = .ok (.ishl, 1) := by decide +kernel
theorem dX5_togetherOf_5 : decode cX5_togetherOf 5 = .ok (.iconst 1, 1) := by decide +kernel
theorem dX5_togetherOf_6 : decode cX5_togetherOf 6 = .ok (.isub, 1) := by decide +kernel
theorem dX5_togetherOf_7 : decode cX5_togetherOf 7 = .ok (.aload_n 0, 1) := by decide +kernel
theorem dX5_togetherOf_8 : decode cX5_togetherOf 8 = .ok (.iconst 2, 1) := by decide +kernel
theorem dX5_togetherOf_9 : decode cX5_togetherOf 9 = .ok (.iaload, 1) := by decide +kernel
theorem dX5_togetherOf_10 : decode cX5_togetherOf 10 = .ok (.iconst (-1), 1) := by decide +kernel
theorem dX5_togetherOf_11 : decode cX5_togetherOf 11 = .ok (.ixor, 1) := by decide +kernel
theorem dX5_togetherOf_12 : decode cX5_togetherOf 12 = .ok (.iand, 1) := by decide +kernel
theorem dX5_togetherOf_13 : decode cX5_togetherOf 13 = .ok (.ireturn, 1) := by decide +kernel
theorem dX5_join_0 : decode cX5_join 0 = .ok (.aload_n 0, 1) := by decide +kernel
theorem dX5_join_1 : decode cX5_join 1 = .ok (.iconst 0, 1) := by decide +kernel
theorem dX5_join_2 : decode cX5_join 2 = .ok (.iaload, 1) := by decide +kernel
theorem dX5_join_3 : decode cX5_join 3 = .ok (.istore 6, 2) := by decide +kernel
theorem dX5_join_5 : decode cX5_join 5 = .ok (.aload_n 0, 1) := by decide +kernel
theorem dX5_join_6 : decode cX5_join 6 = .ok (.iconst 4, 1) := by decide +kernel
theorem dX5_join_7 : decode cX5_join 7 = .ok (.iload 6, 2) := by decide +kernel
theorem dX5_join_9 : decode cX5_join 9 = .ok (.iadd, 1) := by decide +kernel
theorem dX5_join_10 : decode cX5_join 10 = .ok (.iload_n 1, 1) := by decide +kernel
theorem dX5_join_11 : decode cX5_join 11 = .ok (.iastore, 1) := by decide +kernel
theorem dX5_join_12 : decode cX5_join 12 = .ok (.aload_n 0, 1) := by decide +kernel
theorem dX5_join_13 : decode cX5_join 13 = .ok (.bipush 11, 2) := by decide +kernel
theorem dX5_join_15 : decode cX5_join 15 = .ok (.iload 6, 2) := by decide +kernel
theorem dX5_join_17 : decode cX5_join 17 = .ok (.iadd, 1) := by decide +kernel
theorem dX5_join_18 : decode cX5_join 18 = .ok (.iload_n 2, 1) := by decide +kernel
theorem dX5_join_19 : decode cX5_join 19 = .ok (.iastore, 1) := by decide +kernel
theorem dX5_join_20 : decode cX5_join 20 = .ok (.aload_n 0, 1) := by decide +kernel
theorem dX5_join_21 : decode cX5_join 21 = .ok (.bipush 18, 2) := by decide +kernel
theorem dX5_join_23 : decode cX5_join 23 = .ok (.iload 6, 2) := by decide +kernel
theorem dX5_join_25 : decode cX5_join 25 = .ok (.iadd, 1) := by decide +kernel
theorem dX5_join_26 : decode cX5_join 26 = .ok (.iload_n 3, 1) := by decide +kernel
theorem dX5_join_27 : decode cX5_join 27 = .ok (.iastore, 1) := by decide +kernel
theorem dX5_join_28 : decode cX5_join 28 = .ok (.aload_n 0, 1) := by decide +kernel
theorem dX5_join_29 : decode cX5_join 29 = .ok (.bipush 25, 2) := by decide +kernel
theorem dX5_join_31 : decode cX5_join 31 = .ok (.iload 6, 2) := by decide +kernel
theorem dX5_join_33 : decode cX5_join 33 = .ok (.iadd, 1) := by decide +kernel
theorem dX5_join_34 : decode cX5_join 34 = .ok (.iload 4, 2) := by decide +kernel
theorem dX5_join_36 : decode cX5_join 36 = .ok (.iastore, 1) := by decide +kernel
theorem dX5_join_37 : decode cX5_join 37 = .ok (.aload_n 0, 1) := by decide +kernel
theorem dX5_join_38 : decode cX5_join 38 = .ok (.iconst 2, 1) := by decide +kernel
theorem dX5_join_39 : decode cX5_join 39 = .ok (.iload 5, 2) := by decide +kernel
theorem dX5_join_41 : decode cX5_join 41 = .ok (.ifCond .eq 14, 3) := by decide +kernel
theorem dX5_join_44 : decode cX5_join 44 = .ok (.aload_n 0, 1) := by decide +kernel
theorem dX5_join_45 : decode cX5_join 45 = .ok (.iconst 2, 1) := by decide +kernel
theorem dX5_join_46 : decode cX5_join 46 = .ok (.iaload, 1) := by decide +kernel
theorem dX5_join_47 : decode cX5_join 47 = .ok (.iconst 1, 1) := by decide +kernel
theorem dX5_join_48 : decode cX5_join 48 = .ok (.iload 6, 2) := by decide +kernel
theorem dX5_join_50 : decode cX5_join 50 = .ok (.ishl, 1) := by decide +kernel
theorem dX5_join_51 : decode cX5_join 51 = .ok (.ior, 1) := by decide +kernel
theorem dX5_join_52 : decode cX5_join 52 = .ok (.goto 13, 3) := by decide +kernel
theorem dX5_join_55 : decode cX5_join 55 = .ok (.aload_n 0, 1) := by decide +kernel
theorem dX5_join_56 : decode cX5_join 56 = .ok (.iconst 2, 1) := by decide +kernel
theorem dX5_join_57 : decode cX5_join 57 = .ok (.iaload, 1) := by decide +kernel
theorem dX5_join_58 : decode cX5_join 58 = .ok (.iconst 1, 1) := by decide +kernel
theorem dX5_join_59 : decode cX5_join 59 = .ok (.iload 6, 2) := by decide +kernel
theorem dX5_join_61 : decode cX5_join 61 = .ok (.ishl, 1) := by decide +kernel
theorem dX5_join_62 : decode cX5_join 62 = .ok (.iconst (-1), 1) := by decide +kernel
theorem dX5_join_63 : decode cX5_join 63 = .ok (.ixor, 1) := by decide +kernel
theorem dX5_join_64 : decode cX5_join 64 = .ok (.iand, 1) := by decide +kernel
theorem dX5_join_65 : decode cX5_join 65 = .ok (.iastore, 1) := by decide +kernel
theorem dX5_join_66 : decode cX5_join 66 = .ok (.aload_n 0, 1) := by decide +kernel
theorem dX5_join_67 : decode cX5_join 67 = .ok (.iconst 0, 1) := by decide +kernel
theorem dX5_join_68 : decode cX5_join 68 = .ok (.dup2, 1) := by decide +kernel
theorem dX5_join_69 : decode cX5_join 69 = .ok (.iaload, 1) := by decide +kernel
theorem dX5_join_70 : decode cX5_join 70 = .ok (.iconst 1, 1) := by decide +kernel
theorem dX5_join_71 : decode cX5_join 71 = .ok (.iadd, 1) := by decide +kernel
theorem dX5_join_72 : decode cX5_join 72 = .ok (.iastore, 1) := by decide +kernel
theorem dX5_join_73 : decode cX5_join 73 = .ok (.return_, 1) := by decide +kernel
theorem dX5_couple_0 : decode cX5_couple 0 = .ok (.iload_n 1, 1) := by decide +kernel
theorem dX5_couple_1 : decode cX5_couple 1 = .ok (.iconst 0, 1) := by decide +kernel
theorem dX5_couple_2 : decode cX5_couple 2 = .ok (.iconst 4, 1) := by decide +kernel
theorem dX5_couple_3 : decode cX5_couple 3 = .ok (.invokestatic 45, 3) := by decide +kernel
theorem dX5_couple_6 : decode cX5_couple 6 = .ok (.ifCond .eq 13, 3) := by decide +kernel
theorem dX5_couple_9 : decode cX5_couple 9 = .ok (.iload_n 2, 1) := by decide +kernel
theorem dX5_couple_10 : decode cX5_couple 10 = .ok (.iconst 0, 1) := by decide +kernel
theorem dX5_couple_11 : decode cX5_couple 11 = .ok (.bipush 80, 2) := by decide +kernel
theorem dX5_couple_13 : decode cX5_couple 13 = .ok (.invokestatic 45, 3) := by decide +kernel
theorem dX5_couple_16 : decode cX5_couple 16 = .ok (.ifCond .ne 5, 3) := by decide +kernel
theorem dX5_couple_19 : decode cX5_couple 19 = .ok (.iconst (-1), 1) := by decide +kernel
theorem dX5_couple_20 : decode cX5_couple 20 = .ok (.ireturn, 1) := by decide +kernel
theorem dX5_couple_21 : decode cX5_couple 21 = .ok (.aload_n 0, 1) := by decide +kernel
theorem dX5_couple_22 : decode cX5_couple 22 = .ok (.getfield 7, 3) := by decide +kernel
theorem dX5_couple_25 : decode cX5_couple 25 = .ok (.iconst 0, 1) := by decide +kernel
theorem dX5_couple_26 : decode cX5_couple 26 = .ok (.iaload, 1) := by decide +kernel
theorem dX5_couple_27 : decode cX5_couple 27 = .ok (.bipush 7, 2) := by decide +kernel
theorem dX5_couple_29 : decode cX5_couple 29 = .ok (.if_icmp .ne 6, 3) := by decide +kernel
theorem dX5_couple_32 : decode cX5_couple 32 = .ok (.bipush (-3), 2) := by decide +kernel
theorem dX5_couple_34 : decode cX5_couple 34 = .ok (.ireturn, 1) := by decide +kernel
theorem dX5_couple_35 : decode cX5_couple 35 = .ok (.aload_n 0, 1) := by decide +kernel
theorem dX5_couple_36 : decode cX5_couple 36 = .ok (.getfield 7, 3) := by decide +kernel
theorem dX5_couple_39 : decode cX5_couple 39 = .ok (.iload_n 1, 1) := by decide +kernel
theorem dX5_couple_40 : decode cX5_couple 40 = .ok (.iload_n 2, 1) := by decide +kernel
theorem dX5_couple_41 : decode cX5_couple 41 = .ok (.bipush 40, 2) := by decide +kernel
theorem dX5_couple_43 : decode cX5_couple 43 = .ok (.iconst 0, 1) := by decide +kernel
theorem dX5_couple_44 : decode cX5_couple 44 = .ok (.iconst 0, 1) := by decide +kernel
theorem dX5_couple_45 : decode cX5_couple 45 = .ok (.invokestatic 71, 3) := by decide +kernel
theorem dX5_couple_48 : decode cX5_couple 48 = .ok (.aload_n 0, 1) := by decide +kernel
theorem dX5_couple_49 : decode cX5_couple 49 = .ok (.iconst 0, 1) := by decide +kernel
theorem dX5_couple_50 : decode cX5_couple 50 = .ok (.putfield 75, 3) := by decide +kernel
theorem dX5_couple_53 : decode cX5_couple 53 = .ok (.aload_n 0, 1) := by decide +kernel
theorem dX5_couple_54 : decode cX5_couple 54 = .ok (.getfield 7, 3) := by decide +kernel
theorem dX5_couple_57 : decode cX5_couple 57 = .ok (.iconst 0, 1) := by decide +kernel
theorem dX5_couple_58 : decode cX5_couple 58 = .ok (.iaload, 1) := by decide +kernel
theorem dX5_couple_59 : decode cX5_couple 59 = .ok (.iconst 1, 1) := by decide +kernel
theorem dX5_couple_60 : decode cX5_couple 60 = .ok (.isub, 1) := by decide +kernel
theorem dX5_couple_61 : decode cX5_couple 61 = .ok (.ireturn, 1) := by decide +kernel
theorem dX5_of_0 : decode cX5_of 0 = .ok (.aload_n 0, 1) := by decide +kernel
theorem dX5_of_1 : decode cX5_of 1 = .ok (.iload_n 1, 1) := by decide +kernel
theorem dX5_of_2 : decode cX5_of 2 = .ok (.invokevirtual 79, 3) := by decide +kernel
theorem dX5_of_5 : decode cX5_of 5 = .ok (.ifCond .ne 5, 3) := by decide +kernel
theorem dX5_of_8 : decode cX5_of 8 = .ok (.iconst (-1), 1) := by decide +kernel
theorem dX5_of_9 : decode cX5_of 9 = .ok (.ireturn, 1) := by decide +kernel
theorem dX5_of_10 : decode cX5_of 10 = .ok (.iload_n 2, 1) := by decide +kernel
theorem dX5_of_11 : decode cX5_of 11 = .ok (.tableswitch 121 0 5 #[37, 46, 56, 66, 76, 93], 37) := by decide +kernel
theorem dX5_of_48 : decode cX5_of 48 = .ok (.aload_n 0, 1) := by decide +kernel
theorem dX5_of_49 : decode cX5_of 49 = .ok (.getfield 7, 3) := by decide +kernel
theorem dX5_of_52 : decode cX5_of 52 = .ok (.iconst 4, 1) := by decide +kernel
theorem dX5_of_53 : decode cX5_of 53 = .ok (.iload_n 1, 1) := by decide +kernel
theorem dX5_of_54 : decode cX5_of 54 = .ok (.iadd, 1) := by decide +kernel
theorem dX5_of_55 : decode cX5_of 55 = .ok (.iaload, 1) := by decide +kernel
theorem dX5_of_56 : decode cX5_of 56 = .ok (.ireturn, 1) := by decide +kernel
theorem dX5_of_57 : decode cX5_of 57 = .ok (.aload_n 0, 1) := by decide +kernel
theorem dX5_of_58 : decode cX5_of 58 = .ok (.getfield 7, 3) := by decide +kernel
theorem dX5_of_61 : decode cX5_of 61 = .ok (.bipush 11, 2) := by decide +kernel
theorem dX5_of_63 : decode cX5_of 63 = .ok (.iload_n 1, 1) := by decide +kernel
theorem dX5_of_64 : decode cX5_of 64 = .ok (.iadd, 1) := by decide +kernel
theorem dX5_of_65 : decode cX5_of 65 = .ok (.iaload, 1) := by decide +kernel
theorem dX5_of_66 : decode cX5_of 66 = .ok (.ireturn, 1) := by decide +kernel
theorem dX5_of_67 : decode cX5_of 67 = .ok (.aload_n 0, 1) := by decide +kernel
theorem dX5_of_68 : decode cX5_of 68 = .ok (.getfield 7, 3) := by decide +kernel
theorem dX5_of_71 : decode cX5_of 71 = .ok (.bipush 18, 2) := by decide +kernel
theorem dX5_of_73 : decode cX5_of 73 = .ok (.iload_n 1, 1) := by decide +kernel
theorem dX5_of_74 : decode cX5_of 74 = .ok (.iadd, 1) := by decide +kernel
theorem dX5_of_75 : decode cX5_of 75 = .ok (.iaload, 1) := by decide +kernel
theorem dX5_of_76 : decode cX5_of 76 = .ok (.ireturn, 1) := by decide +kernel
theorem dX5_of_77 : decode cX5_of 77 = .ok (.aload_n 0, 1) := by decide +kernel
theorem dX5_of_78 : decode cX5_of 78 = .ok (.getfield 7, 3) := by decide +kernel
theorem dX5_of_81 : decode cX5_of 81 = .ok (.bipush 25, 2) := by decide +kernel
theorem dX5_of_83 : decode cX5_of 83 = .ok (.iload_n 1, 1) := by decide +kernel
theorem dX5_of_84 : decode cX5_of 84 = .ok (.iadd, 1) := by decide +kernel
theorem dX5_of_85 : decode cX5_of 85 = .ok (.iaload, 1) := by decide +kernel
theorem dX5_of_86 : decode cX5_of 86 = .ok (.ireturn, 1) := by decide +kernel
theorem dX5_of_87 : decode cX5_of 87 = .ok (.aload_n 0, 1) := by decide +kernel
theorem dX5_of_88 : decode cX5_of 88 = .ok (.getfield 7, 3) := by decide +kernel
theorem dX5_of_91 : decode cX5_of 91 = .ok (.iload_n 1, 1) := by decide +kernel
theorem dX5_of_92 : decode cX5_of 92 = .ok (.invokestatic 53, 3) := by decide +kernel
theorem dX5_of_95 : decode cX5_of 95 = .ok (.ifCond .eq 7, 3) := by decide +kernel
theorem dX5_of_98 : decode cX5_of 98 = .ok (.iconst 1, 1) := by decide +kernel
theorem dX5_of_99 : decode cX5_of 99 = .ok (.goto 4, 3) := by decide +kernel
theorem dX5_of_102 : decode cX5_of 102 = .ok (.iconst 0, 1) := by decide +kernel
theorem dX5_of_103 : decode cX5_of 103 = .ok (.ireturn, 1) := by decide +kernel
theorem dX5_of_104 : decode cX5_of 104 = .ok (.aload_n 0, 1) := by decide +kernel
theorem dX5_of_105 : decode cX5_of 105 = .ok (.getfield 7, 3) := by decide +kernel
theorem dX5_of_108 : decode cX5_of 108 = .ok (.iload_n 1, 1) := by decide +kernel
theorem dX5_of_109 : decode cX5_of 109 = .ok (.invokestatic 53, 3) := by decide +kernel
theorem dX5_of_112 : decode cX5_of 112 = .ok (.ifCond .eq 8, 3) := by decide +kernel
theorem dX5_of_115 : decode cX5_of 115 = .ok (.bipush 10, 2) := by decide +kernel
theorem dX5_of_117 : decode cX5_of 117 = .ok (.goto 14, 3) := by decide +kernel
theorem dX5_of_120 : decode cX5_of 120 = .ok (.aload_n 0, 1) := by decide +kernel
theorem dX5_of_121 : decode cX5_of 121 = .ok (.getfield 7, 3) := by decide +kernel
theorem dX5_of_124 : decode cX5_of 124 = .ok (.iload_n 1, 1) := by decide +kernel
theorem dX5_of_125 : decode cX5_of 125 = .ok (.invokestatic 68, 3) := by decide +kernel
theorem dX5_of_128 : decode cX5_of 128 = .ok (.bipush 10, 2) := by decide +kernel
theorem dX5_of_130 : decode cX5_of 130 = .ok (.iadd, 1) := by decide +kernel
theorem dX5_of_131 : decode cX5_of 131 = .ok (.ireturn, 1) := by decide +kernel
theorem dX5_of_132 : decode cX5_of 132 = .ok (.iconst (-1), 1) := by decide +kernel
theorem dX5_of_133 : decode cX5_of 133 = .ok (.ireturn, 1) := by decide +kernel
theorem dX5_type_0 : decode cX5_type 0 = .ok (.iload_n 1, 1) := by decide +kernel
theorem dX5_type_1 : decode cX5_type 1 = .ok (.bipush 32, 2) := by decide +kernel
theorem dX5_type_3 : decode cX5_type 3 = .ok (.bipush 126, 2) := by decide +kernel
theorem dX5_type_5 : decode cX5_type 5 = .ok (.invokestatic 45, 3) := by decide +kernel
theorem dX5_type_8 : decode cX5_type 8 = .ok (.ifCond .ne 5, 3) := by decide +kernel
theorem dX5_type_11 : decode cX5_type 11 = .ok (.iconst (-1), 1) := by decide +kernel
theorem dX5_type_12 : decode cX5_type 12 = .ok (.ireturn, 1) := by decide +kernel
theorem dX5_type_13 : decode cX5_type 13 = .ok (.aload_n 0, 1) := by decide +kernel
theorem dX5_type_14 : decode cX5_type 14 = .ok (.getfield 83, 3) := by decide +kernel
theorem dX5_type_17 : decode cX5_type 17 = .ok (.bipush 80, 2) := by decide +kernel
theorem dX5_type_19 : decode cX5_type 19 = .ok (.if_icmp .ne 6, 3) := by decide +kernel
theorem dX5_type_22 : decode cX5_type 22 = .ok (.bipush (-3), 2) := by decide +kernel
theorem dX5_type_24 : decode cX5_type 24 = .ok (.ireturn, 1) := by decide +kernel
theorem dX5_type_25 : decode cX5_type 25 = .ok (.aload_n 0, 1) := by decide +kernel
theorem dX5_type_26 : decode cX5_type 26 = .ok (.getfield 28, 3) := by decide +kernel
theorem dX5_type_29 : decode cX5_type 29 = .ok (.aload_n 0, 1) := by decide +kernel
theorem dX5_type_30 : decode cX5_type 30 = .ok (.getfield 83, 3) := by decide +kernel
theorem dX5_type_33 : decode cX5_type 33 = .ok (.iload_n 1, 1) := by decide +kernel
theorem dX5_type_34 : decode cX5_type 34 = .ok (.i2b, 1) := by decide +kernel
theorem dX5_type_35 : decode cX5_type 35 = .ok (.bastore, 1) := by decide +kernel
theorem dX5_type_36 : decode cX5_type 36 = .ok (.aload_n 0, 1) := by decide +kernel
theorem dX5_type_37 : decode cX5_type 37 = .ok (.dup, 1) := by decide +kernel
theorem dX5_type_38 : decode cX5_type 38 = .ok (.getfield 83, 3) := by decide +kernel
theorem dX5_type_41 : decode cX5_type 41 = .ok (.iconst 1, 1) := by decide +kernel
theorem dX5_type_42 : decode cX5_type 42 = .ok (.iadd, 1) := by decide +kernel
theorem dX5_type_43 : decode cX5_type 43 = .ok (.putfield 83, 3) := by decide +kernel
theorem dX5_type_46 : decode cX5_type 46 = .ok (.aload_n 0, 1) := by decide +kernel
theorem dX5_type_47 : decode cX5_type 47 = .ok (.getfield 83, 3) := by decide +kernel
theorem dX5_type_50 : decode cX5_type 50 = .ok (.ireturn, 1) := by decide +kernel
theorem dX5_here_0 : decode cX5_here 0 = .ok (.aload_n 0, 1) := by decide +kernel
theorem dX5_here_1 : decode cX5_here 1 = .ok (.getfield 86, 3) := by decide +kernel
theorem dX5_here_4 : decode cX5_here 4 = .ok (.aload_n 0, 1) := by decide +kernel
theorem dX5_here_5 : decode cX5_here 5 = .ok (.getfield 83, 3) := by decide +kernel
theorem dX5_here_8 : decode cX5_here 8 = .ok (.if_icmp .ge 30, 3) := by decide +kernel
theorem dX5_here_11 : decode cX5_here 11 = .ok (.aload_n 0, 1) := by decide +kernel
theorem dX5_here_12 : decode cX5_here 12 = .ok (.getfield 28, 3) := by decide +kernel
theorem dX5_here_15 : decode cX5_here 15 = .ok (.aload_n 0, 1) := by decide +kernel
theorem dX5_here_16 : decode cX5_here 16 = .ok (.getfield 86, 3) := by decide +kernel
theorem dX5_here_19 : decode cX5_here 19 = .ok (.baload, 1) := by decide +kernel
theorem dX5_here_20 : decode cX5_here 20 = .ok (.bipush 32, 2) := by decide +kernel
theorem dX5_here_22 : decode cX5_here 22 = .ok (.if_icmp .ne 16, 3) := by decide +kernel
theorem dX5_here_25 : decode cX5_here 25 = .ok (.aload_n 0, 1) := by decide +kernel
theorem dX5_here_26 : decode cX5_here 26 = .ok (.dup, 1) := by decide +kernel
theorem dX5_here_27 : decode cX5_here 27 = .ok (.getfield 86, 3) := by decide +kernel
theorem dX5_here_30 : decode cX5_here 30 = .ok (.iconst 1, 1) := by decide +kernel
theorem dX5_here_31 : decode cX5_here 31 = .ok (.iadd, 1) := by decide +kernel
theorem dX5_here_32 : decode cX5_here 32 = .ok (.putfield 86, 3) := by decide +kernel
theorem dX5_here_35 : decode cX5_here 35 = .ok (.goto (-35), 3) := by decide +kernel
theorem dX5_here_38 : decode cX5_here 38 = .ok (.aload_n 0, 1) := by decide +kernel
theorem dX5_here_39 : decode cX5_here 39 = .ok (.getfield 86, 3) := by decide +kernel
theorem dX5_here_42 : decode cX5_here 42 = .ok (.aload_n 0, 1) := by decide +kernel
theorem dX5_here_43 : decode cX5_here 43 = .ok (.getfield 83, 3) := by decide +kernel
theorem dX5_here_46 : decode cX5_here 46 = .ok (.if_icmp .ge 15, 3) := by decide +kernel
theorem dX5_here_49 : decode cX5_here 49 = .ok (.aload_n 0, 1) := by decide +kernel
theorem dX5_here_50 : decode cX5_here 50 = .ok (.getfield 28, 3) := by decide +kernel
theorem dX5_here_53 : decode cX5_here 53 = .ok (.aload_n 0, 1) := by decide +kernel
theorem dX5_here_54 : decode cX5_here 54 = .ok (.getfield 86, 3) := by decide +kernel
theorem dX5_here_57 : decode cX5_here 57 = .ok (.baload, 1) := by decide +kernel
theorem dX5_here_58 : decode cX5_here 58 = .ok (.goto 5, 3) := by decide +kernel
theorem dX5_here_61 : decode cX5_here 61 = .ok (.bipush (-4), 2) := by decide +kernel
theorem dX5_here_63 : decode cX5_here 63 = .ok (.ireturn, 1) := by decide +kernel
theorem dX5_wrongAt_0 : decode cX5_wrongAt 0 = .ok (.aload_n 0, 1) := by decide +kernel
theorem dX5_wrongAt_1 : decode cX5_wrongAt 1 = .ok (.aload_n 0, 1) := by decide +kernel
theorem dX5_wrongAt_2 : decode cX5_wrongAt 2 = .ok (.getfield 89, 3) := by decide +kernel
theorem dX5_wrongAt_5 : decode cX5_wrongAt 5 = .ok (.ifCond .eq 10, 3) := by decide +kernel
theorem dX5_wrongAt_8 : decode cX5_wrongAt 8 = .ok (.aload_n 0, 1) := by decide +kernel
theorem dX5_wrongAt_9 : decode cX5_wrongAt 9 = .ok (.getfield 93, 3) := by decide +kernel
theorem dX5_wrongAt_12 : decode cX5_wrongAt 12 = .ok (.goto 4, 3) := by decide +kernel
theorem dX5_wrongAt_15 : decode cX5_wrongAt 15 = .ok (.iload_n 1, 1) := by decide +kernel
theorem dX5_wrongAt_16 : decode cX5_wrongAt 16 = .ok (.putfield 93, 3) := by decide +kernel
theorem dX5_wrongAt_19 : decode cX5_wrongAt 19 = .ok (.aload_n 0, 1) := by decide +kernel
theorem dX5_wrongAt_20 : decode cX5_wrongAt 20 = .ok (.iconst 1, 1) := by decide +kernel
theorem dX5_wrongAt_21 : decode cX5_wrongAt 21 = .ok (.putfield 89, 3) := by decide +kernel
theorem dX5_wrongAt_24 : decode cX5_wrongAt 24 = .ok (.return_, 1) := by decide +kernel
theorem dX5_number_0 : decode cX5_number 0 = .ok (.aload_n 0, 1) := by decide +kernel
theorem dX5_number_1 : decode cX5_number 1 = .ok (.invokevirtual 96, 3) := by decide +kernel
theorem dX5_number_4 : decode cX5_number 4 = .ok (.bipush 48, 2) := by decide +kernel
theorem dX5_number_6 : decode cX5_number 6 = .ok (.bipush 57, 2) := by decide +kernel
theorem dX5_number_8 : decode cX5_number 8 = .ok (.invokestatic 45, 3) := by decide +kernel
theorem dX5_number_11 : decode cX5_number 11 = .ok (.istore_n 3, 1) := by decide +kernel
theorem dX5_number_12 : decode cX5_number 12 = .ok (.aload_n 0, 1) := by decide +kernel
theorem dX5_number_13 : decode cX5_number 13 = .ok (.getfield 86, 3) := by decide +kernel
theorem dX5_number_16 : decode cX5_number 16 = .ok (.istore 4, 2) := by decide +kernel
theorem dX5_number_18 : decode cX5_number 18 = .ok (.iconst 0, 1) := by decide +kernel
theorem dX5_number_19 : decode cX5_number 19 = .ok (.istore 5, 2) := by decide +kernel
theorem dX5_number_21 : decode cX5_number 21 = .ok (.iconst 0, 1) := by decide +kernel
theorem dX5_number_22 : decode cX5_number 22 = .ok (.istore 6, 2) := by decide +kernel
theorem dX5_number_24 : decode cX5_number 24 = .ok (.iload 6, 2) := by decide +kernel
theorem dX5_number_26 : decode cX5_number 26 = .ok (.iconst 2, 1) := by decide +kernel
theorem dX5_number_27 : decode cX5_number 27 = .ok (.if_icmp .ge 69, 3) := by decide +kernel
theorem dX5_number_30 : decode cX5_number 30 = .ok (.aload_n 0, 1) := by decide +kernel
theorem dX5_number_31 : decode cX5_number 31 = .ok (.getfield 86, 3) := by decide +kernel
theorem dX5_number_34 : decode cX5_number 34 = .ok (.aload_n 0, 1) := by decide +kernel
theorem dX5_number_35 : decode cX5_number 35 = .ok (.getfield 83, 3) := by decide +kernel
theorem dX5_number_38 : decode cX5_number 38 = .ok (.if_icmp .ge 58, 3) := by decide +kernel
theorem dX5_number_41 : decode cX5_number 41 = .ok (.aload_n 0, 1) := by decide +kernel
theorem dX5_number_42 : decode cX5_number 42 = .ok (.getfield 28, 3) := by decide +kernel
theorem dX5_number_45 : decode cX5_number 45 = .ok (.aload_n 0, 1) := by decide +kernel
theorem dX5_number_46 : decode cX5_number 46 = .ok (.getfield 86, 3) := by decide +kernel
theorem dX5_number_49 : decode cX5_number 49 = .ok (.baload, 1) := by decide +kernel
theorem dX5_number_50 : decode cX5_number 50 = .ok (.bipush 48, 2) := by decide +kernel
theorem dX5_number_52 : decode cX5_number 52 = .ok (.bipush 57, 2) := by decide +kernel
theorem dX5_number_54 : decode cX5_number 54 = .ok (.invokestatic 45, 3) := by decide +kernel
theorem dX5_number_57 : decode cX5_number 57 = .ok (.ifCond .eq 39, 3) := by decide +kernel
theorem dX5_number_60 : decode cX5_number 60 = .ok (.bipush 10, 2) := by decide +kernel
theorem dX5_number_62 : decode cX5_number 62 = .ok (.iload 5, 2) := by decide +kernel
theorem dX5_number_64 : decode cX5_number 64 = .ok (.imul, 1) := by decide +kernel
theorem dX5_number_65 : decode cX5_number 65 = .ok (.aload_n 0, 1) := by decide +kernel
theorem dX5_number_66 : decode cX5_number 66 = .ok (.getfield 28, 3) := by decide +kernel
theorem dX5_number_69 : decode cX5_number 69 = .ok (.aload_n 0, 1) := by decide +kernel
theorem dX5_number_70 : decode cX5_number 70 = .ok (.getfield 86, 3) := by decide +kernel
theorem dX5_number_73 : decode cX5_number 73 = .ok (.baload, 1) := by decide +kernel
theorem dX5_number_74 : decode cX5_number 74 = .ok (.iadd, 1) := by decide +kernel
theorem dX5_number_75 : decode cX5_number 75 = .ok (.bipush 48, 2) := by decide +kernel
theorem dX5_number_77 : decode cX5_number 77 = .ok (.isub, 1) := by decide +kernel
theorem dX5_number_78 : decode cX5_number 78 = .ok (.istore 5, 2) := by decide +kernel
theorem dX5_number_80 : decode cX5_number 80 = .ok (.aload_n 0, 1) := by decide +kernel
theorem dX5_number_81 : decode cX5_number 81 = .ok (.dup, 1) := by decide +kernel
theorem dX5_number_82 : decode cX5_number 82 = .ok (.getfield 86, 3) := by decide +kernel
theorem dX5_number_85 : decode cX5_number 85 = .ok (.iconst 1, 1) := by decide +kernel
theorem dX5_number_86 : decode cX5_number 86 = .ok (.iadd, 1) := by decide +kernel
theorem dX5_number_87 : decode cX5_number 87 = .ok (.putfield 86, 3) := by decide +kernel
theorem dX5_number_90 : decode cX5_number 90 = .ok (.iinc 6 1, 3) := by decide +kernel
theorem dX5_number_93 : decode cX5_number 93 = .ok (.goto (-69), 3) := by decide +kernel
theorem dX5_number_96 : decode cX5_number 96 = .ok (.iload_n 3, 1) := by decide +kernel
theorem dX5_number_97 : decode cX5_number 97 = .ok (.ifCond .eq 13, 3) := by decide +kernel
theorem dX5_number_100 : decode cX5_number 100 = .ok (.iload 5, 2) := by decide +kernel
theorem dX5_number_102 : decode cX5_number 102 = .ok (.iload_n 1, 1) := by decide +kernel
theorem dX5_number_103 : decode cX5_number 103 = .ok (.iload_n 2, 1) := by decide +kernel
theorem dX5_number_104 : decode cX5_number 104 = .ok (.invokestatic 45, 3) := by decide +kernel
theorem dX5_number_107 : decode cX5_number 107 = .ok (.ifCond .ne 12, 3) := by decide +kernel
theorem dX5_number_110 : decode cX5_number 110 = .ok (.aload_n 0, 1) := by decide +kernel
theorem dX5_number_111 : decode cX5_number 111 = .ok (.iload 4, 2) := by decide +kernel
theorem dX5_number_113 : decode cX5_number 113 = .ok (.invokevirtual 100, 3) := by decide +kernel
theorem dX5_number_116 : decode cX5_number 116 = .ok (.goto 41, 3) := by decide +kernel
theorem dX5_number_119 : decode cX5_number 119 = .ok (.aload_n 0, 1) := by decide +kernel
theorem dX5_number_120 : decode cX5_number 120 = .ok (.getfield 86, 3) := by decide +kernel
theorem dX5_number_123 : decode cX5_number 123 = .ok (.aload_n 0, 1) := by decide +kernel
theorem dX5_number_124 : decode cX5_number 124 = .ok (.getfield 83, 3) := by decide +kernel
theorem dX5_number_127 : decode cX5_number 127 = .ok (.if_icmp .ge 30, 3) := by decide +kernel
theorem dX5_number_130 : decode cX5_number 130 = .ok (.aload_n 0, 1) := by decide +kernel
theorem dX5_number_131 : decode cX5_number 131 = .ok (.getfield 28, 3) := by decide +kernel
theorem dX5_number_134 : decode cX5_number 134 = .ok (.aload_n 0, 1) := by decide +kernel
theorem dX5_number_135 : decode cX5_number 135 = .ok (.getfield 86, 3) := by decide +kernel
theorem dX5_number_138 : decode cX5_number 138 = .ok (.baload, 1) := by decide +kernel
theorem dX5_number_139 : decode cX5_number 139 = .ok (.bipush 48, 2) := by decide +kernel
theorem dX5_number_141 : decode cX5_number 141 = .ok (.bipush 57, 2) := by decide +kernel
theorem dX5_number_143 : decode cX5_number 143 = .ok (.invokestatic 45, 3) := by decide +kernel
theorem dX5_number_146 : decode cX5_number 146 = .ok (.ifCond .eq 11, 3) := by decide +kernel
theorem dX5_number_149 : decode cX5_number 149 = .ok (.aload_n 0, 1) := by decide +kernel
theorem dX5_number_150 : decode cX5_number 150 = .ok (.aload_n 0, 1) := by decide +kernel
theorem dX5_number_151 : decode cX5_number 151 = .ok (.getfield 86, 3) := by decide +kernel
theorem dX5_number_154 : decode cX5_number 154 = .ok (.invokevirtual 100, 3) := by decide +kernel
theorem dX5_number_157 : decode cX5_number 157 = .ok (.iload 5, 2) := by decide +kernel
theorem dX5_number_159 : decode cX5_number 159 = .ok (.ireturn, 1) := by decide +kernel
theorem dX5_takes_0 : decode cX5_takes 0 = .ok (.aload_n 0, 1) := by decide +kernel
theorem dX5_takes_1 : decode cX5_takes 1 = .ok (.invokevirtual 96, 3) := by decide +kernel
theorem dX5_takes_4 : decode cX5_takes 4 = .ok (.iload_n 1, 1) := by decide +kernel
theorem dX5_takes_5 : decode cX5_takes 5 = .ok (.if_icmp .ne 7, 3) := by decide +kernel
theorem dX5_takes_8 : decode cX5_takes 8 = .ok (.iconst 1, 1) := by decide +kernel
theorem dX5_takes_9 : decode cX5_takes 9 = .ok (.goto 4, 3) := by decide +kernel
theorem dX5_takes_12 : decode cX5_takes 12 = .ok (.iconst 0, 1) := by decide +kernel
theorem dX5_takes_13 : decode cX5_takes 13 = .ok (.istore_n 2, 1) := by decide +kernel
theorem dX5_takes_14 : decode cX5_takes 14 = .ok (.aload_n 0, 1) := by decide +kernel
theorem dX5_takes_15 : decode cX5_takes 15 = .ok (.dup, 1) := by decide +kernel
theorem dX5_takes_16 : decode cX5_takes 16 = .ok (.getfield 86, 3) := by decide +kernel
theorem dX5_takes_19 : decode cX5_takes 19 = .ok (.iload_n 2, 1) := by decide +kernel
theorem dX5_takes_20 : decode cX5_takes 20 = .ok (.ifCond .eq 7, 3) := by decide +kernel
theorem dX5_takes_23 : decode cX5_takes 23 = .ok (.iconst 1, 1) := by decide +kernel
theorem dX5_takes_24 : decode cX5_takes 24 = .ok (.goto 4, 3) := by decide +kernel
theorem dX5_takes_27 : decode cX5_takes 27 = .ok (.iconst 0, 1) := by decide +kernel
theorem dX5_takes_28 : decode cX5_takes 28 = .ok (.iadd, 1) := by decide +kernel
theorem dX5_takes_29 : decode cX5_takes 29 = .ok (.putfield 86, 3) := by decide +kernel
theorem dX5_takes_32 : decode cX5_takes 32 = .ok (.iload_n 2, 1) := by decide +kernel
theorem dX5_takes_33 : decode cX5_takes 33 = .ok (.ireturn, 1) := by decide +kernel
theorem dX5_readCouple_0 : decode cX5_readCouple 0 = .ok (.aload_n 0, 1) := by decide +kernel
theorem dX5_readCouple_1 : decode cX5_readCouple 1 = .ok (.invokevirtual 96, 3) := by decide +kernel
theorem dX5_readCouple_4 : decode cX5_readCouple 4 = .ok (.istore_n 1, 1) := by decide +kernel
theorem dX5_readCouple_5 : decode cX5_readCouple 5 = .ok (.iload_n 1, 1) := by decide +kernel
theorem dX5_readCouple_6 : decode cX5_readCouple 6 = .ok (.bipush 112, 2) := by decide +kernel
theorem dX5_readCouple_8 : decode cX5_readCouple 8 = .ok (.if_icmp .ne 7, 3) := by decide +kernel
theorem dX5_readCouple_11 : decode cX5_readCouple 11 = .ok (.iconst 0, 1) := by decide +kernel
theorem dX5_readCouple_12 : decode cX5_readCouple 12 = .ok (.goto 45, 3) := by decide +kernel
theorem dX5_readCouple_15 : decode cX5_readCouple 15 = .ok (.iload_n 1, 1) := by decide +kernel
theorem dX5_readCouple_16 : decode cX5_readCouple 16 = .ok (.bipush 100, 2) := by decide +kernel
theorem dX5_readCouple_18 : decode cX5_readCouple 18 = .ok (.if_icmp .ne 7, 3) := by decide +kernel
theorem dX5_readCouple_21 : decode cX5_readCouple 21 = .ok (.iconst 1, 1) := by decide +kernel
theorem dX5_readCouple_22 : decode cX5_readCouple 22 = .ok (.goto 35, 3) := by decide +kernel
theorem dX5_readCouple_25 : decode cX5_readCouple 25 = .ok (.iload_n 1, 1) := by decide +kernel
theorem dX5_readCouple_26 : decode cX5_readCouple 26 = .ok (.bipush 115, 2) := by decide +kernel
theorem dX5_readCouple_28 : decode cX5_readCouple 28 = .ok (.if_icmp .ne 7, 3) := by decide +kernel
theorem dX5_readCouple_31 : decode cX5_readCouple 31 = .ok (.iconst 2, 1) := by decide +kernel
theorem dX5_readCouple_32 : decode cX5_readCouple 32 = .ok (.goto 25, 3) := by decide +kernel
theorem dX5_readCouple_35 : decode cX5_readCouple 35 = .ok (.iload_n 1, 1) := by decide +kernel
theorem dX5_readCouple_36 : decode cX5_readCouple 36 = .ok (.bipush 108, 2) := by decide +kernel
theorem dX5_readCouple_38 : decode cX5_readCouple 38 = .ok (.if_icmp .ne 7, 3) := by decide +kernel
theorem dX5_readCouple_41 : decode cX5_readCouple 41 = .ok (.iconst 3, 1) := by decide +kernel
theorem dX5_readCouple_42 : decode cX5_readCouple 42 = .ok (.goto 15, 3) := by decide +kernel
theorem dX5_readCouple_45 : decode cX5_readCouple 45 = .ok (.iload_n 1, 1) := by decide +kernel
theorem dX5_readCouple_46 : decode cX5_readCouple 46 = .ok (.bipush 98, 2) := by decide +kernel
theorem dX5_readCouple_48 : decode cX5_readCouple 48 = .ok (.if_icmp .ne 7, 3) := by decide +kernel
theorem dX5_readCouple_51 : decode cX5_readCouple 51 = .ok (.iconst 4, 1) := by decide +kernel
theorem dX5_readCouple_52 : decode cX5_readCouple 52 = .ok (.goto 5, 3) := by decide +kernel
theorem dX5_readCouple_55 : decode cX5_readCouple 55 = .ok (.bipush (-4), 2) := by decide +kernel
theorem dX5_readCouple_57 : decode cX5_readCouple 57 = .ok (.istore_n 2, 1) := by decide +kernel
theorem dX5_readCouple_58 : decode cX5_readCouple 58 = .ok (.iload_n 2, 1) := by decide +kernel
theorem dX5_readCouple_59 : decode cX5_readCouple 59 = .ok (.bipush (-4), 2) := by decide +kernel
theorem dX5_readCouple_61 : decode cX5_readCouple 61 = .ok (.if_icmp .ne 12, 3) := by decide +kernel
theorem dX5_readCouple_64 : decode cX5_readCouple 64 = .ok (.aload_n 0, 1) := by decide +kernel
theorem dX5_readCouple_65 : decode cX5_readCouple 65 = .ok (.aload_n 0, 1) := by decide +kernel
theorem dX5_readCouple_66 : decode cX5_readCouple 66 = .ok (.getfield 86, 3) := by decide +kernel
theorem dX5_readCouple_69 : decode cX5_readCouple 69 = .ok (.invokevirtual 100, 3) := by decide +kernel
theorem dX5_readCouple_72 : decode cX5_readCouple 72 = .ok (.return_, 1) := by decide +kernel
theorem dX5_readCouple_73 : decode cX5_readCouple 73 = .ok (.aload_n 0, 1) := by decide +kernel
theorem dX5_readCouple_74 : decode cX5_readCouple 74 = .ok (.dup, 1) := by decide +kernel
theorem dX5_readCouple_75 : decode cX5_readCouple 75 = .ok (.getfield 86, 3) := by decide +kernel
theorem dX5_readCouple_78 : decode cX5_readCouple 78 = .ok (.iconst 1, 1) := by decide +kernel
theorem dX5_readCouple_79 : decode cX5_readCouple 79 = .ok (.iadd, 1) := by decide +kernel
theorem dX5_readCouple_80 : decode cX5_readCouple 80 = .ok (.putfield 86, 3) := by decide +kernel
theorem dX5_readCouple_83 : decode cX5_readCouple 83 = .ok (.aload_n 0, 1) := by decide +kernel
theorem dX5_readCouple_84 : decode cX5_readCouple 84 = .ok (.iconst 0, 1) := by decide +kernel
theorem dX5_readCouple_85 : decode cX5_readCouple 85 = .ok (.bipush 80, 2) := by decide +kernel
theorem dX5_readCouple_87 : decode cX5_readCouple 87 = .ok (.invokevirtual 104, 3) := by decide +kernel
theorem dX5_readCouple_90 : decode cX5_readCouple 90 = .ok (.istore_n 3, 1) := by decide +kernel
theorem dX5_readCouple_91 : decode cX5_readCouple 91 = .ok (.aload_n 0, 1) := by decide +kernel
theorem dX5_readCouple_92 : decode cX5_readCouple 92 = .ok (.getfield 89, 3) := by decide +kernel
theorem dX5_readCouple_95 : decode cX5_readCouple 95 = .ok (.ifCond .ne 23, 3) := by decide +kernel
theorem dX5_readCouple_98 : decode cX5_readCouple 98 = .ok (.aload_n 0, 1) := by decide +kernel
theorem dX5_readCouple_99 : decode cX5_readCouple 99 = .ok (.bipush 64, 2) := by decide +kernel
theorem dX5_readCouple_101 : decode cX5_readCouple 101 = .ok (.invokevirtual 108, 3) := by decide +kernel
theorem dX5_readCouple_104 : decode cX5_readCouple 104 = .ok (.ifCond .eq 14, 3) := by decide +kernel
theorem dX5_readCouple_107 : decode cX5_readCouple 107 = .ok (.aload_n 0, 1) := by decide +kernel
theorem dX5_readCouple_108 : decode cX5_readCouple 108 = .ok (.bipush 20, 2) := by decide +kernel
theorem dX5_readCouple_110 : decode cX5_readCouple 110 = .ok (.bipush 99, 2) := by decide +kernel
theorem dX5_readCouple_112 : decode cX5_readCouple 112 = .ok (.invokevirtual 104, 3) := by decide +kernel
theorem dX5_readCouple_115 : decode cX5_readCouple 115 = .ok (.goto 5, 3) := by decide +kernel
theorem dX5_readCouple_118 : decode cX5_readCouple 118 = .ok (.bipush 40, 2) := by decide +kernel
theorem dX5_readCouple_120 : decode cX5_readCouple 120 = .ok (.istore 4, 2) := by decide +kernel
theorem dX5_readCouple_122 : decode cX5_readCouple 122 = .ok (.aload_n 0, 1) := by decide +kernel
theorem dX5_readCouple_123 : decode cX5_readCouple 123 = .ok (.getfield 89, 3) := by decide +kernel
theorem dX5_readCouple_126 : decode cX5_readCouple 126 = .ok (.ifCond .ne 22, 3) := by decide +kernel
theorem dX5_readCouple_129 : decode cX5_readCouple 129 = .ok (.aload_n 0, 1) := by decide +kernel
theorem dX5_readCouple_130 : decode cX5_readCouple 130 = .ok (.bipush 126, 2) := by decide +kernel
theorem dX5_readCouple_132 : decode cX5_readCouple 132 = .ok (.invokevirtual 108, 3) := by decide +kernel
theorem dX5_readCouple_135 : decode cX5_readCouple 135 = .ok (.ifCond .eq 13, 3) := by decide +kernel
theorem dX5_readCouple_138 : decode cX5_readCouple 138 = .ok (.aload_n 0, 1) := by decide +kernel
theorem dX5_readCouple_139 : decode cX5_readCouple 139 = .ok (.iconst 0, 1) := by decide +kernel
theorem dX5_readCouple_140 : decode cX5_readCouple 140 = .ok (.bipush 19, 2) := by decide +kernel
theorem dX5_readCouple_142 : decode cX5_readCouple 142 = .ok (.invokevirtual 104, 3) := by decide +kernel
theorem dX5_readCouple_145 : decode cX5_readCouple 145 = .ok (.goto 4, 3) := by decide +kernel
theorem dX5_readCouple_148 : decode cX5_readCouple 148 = .ok (.iconst 0, 1) := by decide +kernel
theorem dX5_readCouple_149 : decode cX5_readCouple 149 = .ok (.istore 5, 2) := by decide +kernel
theorem dX5_readCouple_151 : decode cX5_readCouple 151 = .ok (.aload_n 0, 1) := by decide +kernel
theorem dX5_readCouple_152 : decode cX5_readCouple 152 = .ok (.getfield 89, 3) := by decide +kernel
theorem dX5_readCouple_155 : decode cX5_readCouple 155 = .ok (.ifCond .ne 16, 3) := by decide +kernel
theorem dX5_readCouple_158 : decode cX5_readCouple 158 = .ok (.aload_n 0, 1) := by decide +kernel
theorem dX5_readCouple_159 : decode cX5_readCouple 159 = .ok (.bipush 120, 2) := by decide +kernel
theorem dX5_readCouple_161 : decode cX5_readCouple 161 = .ok (.invokevirtual 108, 3) := by decide +kernel
theorem dX5_readCouple_164 : decode cX5_readCouple 164 = .ok (.ifCond .eq 7, 3) := by decide +kernel
theorem dX5_readCouple_167 : decode cX5_readCouple 167 = .ok (.iconst 1, 1) := by decide +kernel
theorem dX5_readCouple_168 : decode cX5_readCouple 168 = .ok (.goto 4, 3) := by decide +kernel
theorem dX5_readCouple_171 : decode cX5_readCouple 171 = .ok (.iconst 0, 1) := by decide +kernel
theorem dX5_readCouple_172 : decode cX5_readCouple 172 = .ok (.istore 6, 2) := by decide +kernel
theorem dX5_readCouple_174 : decode cX5_readCouple 174 = .ok (.aload_n 0, 1) := by decide +kernel
theorem dX5_readCouple_175 : decode cX5_readCouple 175 = .ok (.getfield 89, 3) := by decide +kernel
theorem dX5_readCouple_178 : decode cX5_readCouple 178 = .ok (.ifCond .ne 18, 3) := by decide +kernel
theorem dX5_readCouple_181 : decode cX5_readCouple 181 = .ok (.aload_n 0, 1) := by decide +kernel
theorem dX5_readCouple_182 : decode cX5_readCouple 182 = .ok (.getfield 13, 3) := by decide +kernel
theorem dX5_readCouple_185 : decode cX5_readCouple 185 = .ok (.iload_n 2, 1) := by decide +kernel
theorem dX5_readCouple_186 : decode cX5_readCouple 186 = .ok (.iload_n 3, 1) := by decide +kernel
theorem dX5_readCouple_187 : decode cX5_readCouple 187 = .ok (.iload 4, 2) := by decide +kernel
theorem dX5_readCouple_189 : decode cX5_readCouple 189 = .ok (.iload 5, 2) := by decide +kernel
theorem dX5_readCouple_191 : decode cX5_readCouple 191 = .ok (.iload 6, 2) := by decide +kernel
theorem dX5_readCouple_193 : decode cX5_readCouple 193 = .ok (.invokestatic 71, 3) := by decide +kernel
theorem dX5_readCouple_196 : decode cX5_readCouple 196 = .ok (.return_, 1) := by decide +kernel
theorem dX5_town_0 : decode cX5_town 0 = .ok (.iconst 0, 1) := by decide +kernel
theorem dX5_town_1 : decode cX5_town 1 = .ok (.istore_n 1, 1) := by decide +kernel
theorem dX5_town_2 : decode cX5_town 2 = .ok (.iload_n 1, 1) := by decide +kernel
theorem dX5_town_3 : decode cX5_town 3 = .ok (.bipush 32, 2) := by decide +kernel
theorem dX5_town_5 : decode cX5_town 5 = .ok (.if_icmp .ge 16, 3) := by decide +kernel
theorem dX5_town_8 : decode cX5_town 8 = .ok (.aload_n 0, 1) := by decide +kernel
theorem dX5_town_9 : decode cX5_town 9 = .ok (.getfield 13, 3) := by decide +kernel
theorem dX5_town_12 : decode cX5_town 12 = .ok (.iload_n 1, 1) := by decide +kernel
theorem dX5_town_13 : decode cX5_town 13 = .ok (.iconst 0, 1) := by decide +kernel
theorem dX5_town_14 : decode cX5_town 14 = .ok (.iastore, 1) := by decide +kernel
theorem dX5_town_15 : decode cX5_town 15 = .ok (.iinc 1 1, 3) := by decide +kernel
theorem dX5_town_18 : decode cX5_town 18 = .ok (.goto (-16), 3) := by decide +kernel
theorem dX5_town_21 : decode cX5_town 21 = .ok (.aload_n 0, 1) := by decide +kernel
theorem dX5_town_22 : decode cX5_town 22 = .ok (.getfield 13, 3) := by decide +kernel
theorem dX5_town_25 : decode cX5_town 25 = .ok (.iconst 3, 1) := by decide +kernel
theorem dX5_town_26 : decode cX5_town 26 = .ok (.aload_n 0, 1) := by decide +kernel
theorem dX5_town_27 : decode cX5_town 27 = .ok (.getfield 7, 3) := by decide +kernel
theorem dX5_town_30 : decode cX5_town 30 = .ok (.iconst 3, 1) := by decide +kernel
theorem dX5_town_31 : decode cX5_town 31 = .ok (.iaload, 1) := by decide +kernel
theorem dX5_town_32 : decode cX5_town 32 = .ok (.iastore, 1) := by decide +kernel
theorem dX5_town_33 : decode cX5_town 33 = .ok (.aload_n 0, 1) := by decide +kernel
theorem dX5_town_34 : decode cX5_town 34 = .ok (.iconst 0, 1) := by decide +kernel
theorem dX5_town_35 : decode cX5_town 35 = .ok (.putfield 86, 3) := by decide +kernel
theorem dX5_town_38 : decode cX5_town 38 = .ok (.aload_n 0, 1) := by decide +kernel
theorem dX5_town_39 : decode cX5_town 39 = .ok (.iconst 0, 1) := by decide +kernel
theorem dX5_town_40 : decode cX5_town 40 = .ok (.putfield 89, 3) := by decide +kernel
theorem dX5_town_43 : decode cX5_town 43 = .ok (.aload_n 0, 1) := by decide +kernel
theorem dX5_town_44 : decode cX5_town 44 = .ok (.invokevirtual 111, 3) := by decide +kernel
theorem dX5_town_47 : decode cX5_town 47 = .ok (.aload_n 0, 1) := by decide +kernel
theorem dX5_town_48 : decode cX5_town 48 = .ok (.getfield 89, 3) := by decide +kernel
theorem dX5_town_51 : decode cX5_town 51 = .ok (.ifCond .ne 50, 3) := by decide +kernel
theorem dX5_town_54 : decode cX5_town 54 = .ok (.aload_n 0, 1) := by decide +kernel
theorem dX5_town_55 : decode cX5_town 55 = .ok (.invokevirtual 96, 3) := by decide +kernel
theorem dX5_town_58 : decode cX5_town 58 = .ok (.bipush (-4), 2) := by decide +kernel
theorem dX5_town_60 : decode cX5_town 60 = .ok (.if_icmp .eq 41, 3) := by decide +kernel
theorem dX5_town_63 : decode cX5_town 63 = .ok (.aload_n 0, 1) := by decide +kernel
theorem dX5_town_64 : decode cX5_town 64 = .ok (.getfield 13, 3) := by decide +kernel
theorem dX5_town_67 : decode cX5_town 67 = .ok (.iconst 0, 1) := by decide +kernel
theorem dX5_town_68 : decode cX5_town 68 = .ok (.iaload, 1) := by decide +kernel
theorem dX5_town_69 : decode cX5_town 69 = .ok (.bipush 7, 2) := by decide +kernel
theorem dX5_town_71 : decode cX5_town 71 = .ok (.if_icmp .ge 19, 3) := by decide +kernel
theorem dX5_town_74 : decode cX5_town 74 = .ok (.aload_n 0, 1) := by decide +kernel
theorem dX5_town_75 : decode cX5_town 75 = .ok (.bipush 44, 2) := by decide +kernel
theorem dX5_town_77 : decode cX5_town 77 = .ok (.invokevirtual 108, 3) := by decide +kernel
theorem dX5_town_80 : decode cX5_town 80 = .ok (.ifCond .eq 10, 3) := by decide +kernel
theorem dX5_town_83 : decode cX5_town 83 = .ok (.aload_n 0, 1) := by decide +kernel
theorem dX5_town_84 : decode cX5_town 84 = .ok (.invokevirtual 111, 3) := by decide +kernel
theorem dX5_town_87 : decode cX5_town 87 = .ok (.goto (-40), 3) := by decide +kernel
theorem dX5_town_90 : decode cX5_town 90 = .ok (.aload_n 0, 1) := by decide +kernel
theorem dX5_town_91 : decode cX5_town 91 = .ok (.aload_n 0, 1) := by decide +kernel
theorem dX5_town_92 : decode cX5_town 92 = .ok (.getfield 86, 3) := by decide +kernel
theorem dX5_town_95 : decode cX5_town 95 = .ok (.invokevirtual 100, 3) := by decide +kernel
theorem dX5_town_98 : decode cX5_town 98 = .ok (.goto (-51), 3) := by decide +kernel
theorem dX5_town_101 : decode cX5_town 101 = .ok (.aload_n 0, 1) := by decide +kernel
theorem dX5_town_102 : decode cX5_town 102 = .ok (.iconst 0, 1) := by decide +kernel
theorem dX5_town_103 : decode cX5_town 103 = .ok (.putfield 83, 3) := by decide +kernel
theorem dX5_town_106 : decode cX5_town 106 = .ok (.aload_n 0, 1) := by decide +kernel
theorem dX5_town_107 : decode cX5_town 107 = .ok (.getfield 89, 3) := by decide +kernel
theorem dX5_town_110 : decode cX5_town 110 = .ok (.ifCond .eq 11, 3) := by decide +kernel
theorem dX5_town_113 : decode cX5_town 113 = .ok (.bipush (-20), 2) := by decide +kernel
theorem dX5_town_115 : decode cX5_town 115 = .ok (.aload_n 0, 1) := by decide +kernel
theorem dX5_town_116 : decode cX5_town 116 = .ok (.getfield 93, 3) := by decide +kernel
theorem dX5_town_119 : decode cX5_town 119 = .ok (.isub, 1) := by decide +kernel
theorem dX5_town_120 : decode cX5_town 120 = .ok (.ireturn, 1) := by decide +kernel
theorem dX5_town_121 : decode cX5_town 121 = .ok (.iconst 0, 1) := by decide +kernel
theorem dX5_town_122 : decode cX5_town 122 = .ok (.istore_n 1, 1) := by decide +kernel
theorem dX5_town_123 : decode cX5_town 123 = .ok (.iload_n 1, 1) := by decide +kernel
theorem dX5_town_124 : decode cX5_town 124 = .ok (.bipush 32, 2) := by decide +kernel
theorem dX5_town_126 : decode cX5_town 126 = .ok (.if_icmp .ge 21, 3) := by decide +kernel
theorem dX5_town_129 : decode cX5_town 129 = .ok (.aload_n 0, 1) := by decide +kernel
theorem dX5_town_130 : decode cX5_town 130 = .ok (.getfield 7, 3) := by decide +kernel
theorem dX5_town_133 : decode cX5_town 133 = .ok (.iload_n 1, 1) := by decide +kernel
theorem dX5_town_134 : decode cX5_town 134 = .ok (.aload_n 0, 1) := by decide +kernel
theorem dX5_town_135 : decode cX5_town 135 = .ok (.getfield 13, 3) := by decide +kernel
theorem dX5_town_138 : decode cX5_town 138 = .ok (.iload_n 1, 1) := by decide +kernel
theorem dX5_town_139 : decode cX5_town 139 = .ok (.iaload, 1) := by decide +kernel
theorem dX5_town_140 : decode cX5_town 140 = .ok (.iastore, 1) := by decide +kernel
theorem dX5_town_141 : decode cX5_town 141 = .ok (.iinc 1 1, 3) := by decide +kernel
theorem dX5_town_144 : decode cX5_town 144 = .ok (.goto (-21), 3) := by decide +kernel
theorem dX5_town_147 : decode cX5_town 147 = .ok (.aload_n 0, 1) := by decide +kernel
theorem dX5_town_148 : decode cX5_town 148 = .ok (.iconst 0, 1) := by decide +kernel
theorem dX5_town_149 : decode cX5_town 149 = .ok (.putfield 75, 3) := by decide +kernel
theorem dX5_town_152 : decode cX5_town 152 = .ok (.aload_n 0, 1) := by decide +kernel
theorem dX5_town_153 : decode cX5_town 153 = .ok (.getfield 7, 3) := by decide +kernel
theorem dX5_town_156 : decode cX5_town 156 = .ok (.iconst 0, 1) := by decide +kernel
theorem dX5_town_157 : decode cX5_town 157 = .ok (.iaload, 1) := by decide +kernel
theorem dX5_town_158 : decode cX5_town 158 = .ok (.ireturn, 1) := by decide +kernel
theorem dX5_count_0 : decode cX5_count 0 = .ok (.iconst 0, 1) := by decide +kernel
theorem dX5_count_1 : decode cX5_count 1 = .ok (.istore_n 2, 1) := by decide +kernel
theorem dX5_count_2 : decode cX5_count 2 = .ok (.iload_n 1, 1) := by decide +kernel
theorem dX5_count_3 : decode cX5_count 3 = .ok (.tableswitch 131 0 6 #[41, 48, 55, 63, 71, 79, 126], 41) := by decide +kernel
theorem dX5_count_44 : decode cX5_count 44 = .ok (.aload_n 0, 1) := by decide +kernel
theorem dX5_count_45 : decode cX5_count 45 = .ok (.getfield 7, 3) := by decide +kernel
theorem dX5_count_48 : decode cX5_count 48 = .ok (.iconst 0, 1) := by decide +kernel
theorem dX5_count_49 : decode cX5_count 49 = .ok (.iaload, 1) := by decide +kernel
theorem dX5_count_50 : decode cX5_count 50 = .ok (.ireturn, 1) := by decide +kernel
theorem dX5_count_51 : decode cX5_count 51 = .ok (.aload_n 0, 1) := by decide +kernel
theorem dX5_count_52 : decode cX5_count 52 = .ok (.getfield 7, 3) := by decide +kernel
theorem dX5_count_55 : decode cX5_count 55 = .ok (.iconst 1, 1) := by decide +kernel
theorem dX5_count_56 : decode cX5_count 56 = .ok (.iaload, 1) := by decide +kernel
theorem dX5_count_57 : decode cX5_count 57 = .ok (.ireturn, 1) := by decide +kernel
theorem dX5_count_58 : decode cX5_count 58 = .ok (.aload_n 0, 1) := by decide +kernel
theorem dX5_count_59 : decode cX5_count 59 = .ok (.getfield 7, 3) := by decide +kernel
theorem dX5_count_62 : decode cX5_count 62 = .ok (.invokestatic 61, 3) := by decide +kernel
theorem dX5_count_65 : decode cX5_count 65 = .ok (.ireturn, 1) := by decide +kernel
theorem dX5_count_66 : decode cX5_count 66 = .ok (.aload_n 0, 1) := by decide +kernel
theorem dX5_count_67 : decode cX5_count 67 = .ok (.getfield 7, 3) := by decide +kernel
theorem dX5_count_70 : decode cX5_count 70 = .ok (.invokestatic 65, 3) := by decide +kernel
theorem dX5_count_73 : decode cX5_count 73 = .ok (.ireturn, 1) := by decide +kernel
theorem dX5_count_74 : decode cX5_count 74 = .ok (.aload_n 0, 1) := by decide +kernel
theorem dX5_count_75 : decode cX5_count 75 = .ok (.getfield 7, 3) := by decide +kernel
theorem dX5_count_78 : decode cX5_count 78 = .ok (.invokestatic 114, 3) := by decide +kernel
theorem dX5_count_81 : decode cX5_count 81 = .ok (.ireturn, 1) := by decide +kernel
theorem dX5_count_82 : decode cX5_count 82 = .ok (.iconst 0, 1) := by decide +kernel
theorem dX5_count_83 : decode cX5_count 83 = .ok (.istore_n 3, 1) := by decide +kernel
theorem dX5_count_84 : decode cX5_count 84 = .ok (.iload_n 3, 1) := by decide +kernel
theorem dX5_count_85 : decode cX5_count 85 = .ok (.aload_n 0, 1) := by decide +kernel
theorem dX5_count_86 : decode cX5_count 86 = .ok (.getfield 7, 3) := by decide +kernel
theorem dX5_count_89 : decode cX5_count 89 = .ok (.iconst 0, 1) := by decide +kernel
theorem dX5_count_90 : decode cX5_count 90 = .ok (.iaload, 1) := by decide +kernel
theorem dX5_count_91 : decode cX5_count 91 = .ok (.if_icmp .ge 36, 3) := by decide +kernel
theorem dX5_count_94 : decode cX5_count 94 = .ok (.iload_n 2, 1) := by decide +kernel
theorem dX5_count_95 : decode cX5_count 95 = .ok (.aload_n 0, 1) := by decide +kernel
theorem dX5_count_96 : decode cX5_count 96 = .ok (.getfield 7, 3) := by decide +kernel
theorem dX5_count_99 : decode cX5_count 99 = .ok (.iload_n 3, 1) := by decide +kernel
theorem dX5_count_100 : decode cX5_count 100 = .ok (.invokestatic 53, 3) := by decide +kernel
theorem dX5_count_103 : decode cX5_count 103 = .ok (.ifCond .eq 7, 3) := by decide +kernel
theorem dX5_count_106 : decode cX5_count 106 = .ok (.iconst 0, 1) := by decide +kernel
theorem dX5_count_107 : decode cX5_count 107 = .ok (.goto 12, 3) := by decide +kernel
theorem dX5_count_110 : decode cX5_count 110 = .ok (.aload_n 0, 1) := by decide +kernel
theorem dX5_count_111 : decode cX5_count 111 = .ok (.getfield 7, 3) := by decide +kernel
theorem dX5_count_114 : decode cX5_count 114 = .ok (.bipush 25, 2) := by decide +kernel
theorem dX5_count_116 : decode cX5_count 116 = .ok (.iload_n 3, 1) := by decide +kernel
theorem dX5_count_117 : decode cX5_count 117 = .ok (.iadd, 1) := by decide +kernel
theorem dX5_count_118 : decode cX5_count 118 = .ok (.iaload, 1) := by decide +kernel
theorem dX5_count_119 : decode cX5_count 119 = .ok (.iadd, 1) := by decide +kernel
theorem dX5_count_120 : decode cX5_count 120 = .ok (.istore_n 2, 1) := by decide +kernel
theorem dX5_count_121 : decode cX5_count 121 = .ok (.iinc 3 1, 3) := by decide +kernel
theorem dX5_count_124 : decode cX5_count 124 = .ok (.goto (-40), 3) := by decide +kernel
theorem dX5_count_127 : decode cX5_count 127 = .ok (.iload_n 2, 1) := by decide +kernel
theorem dX5_count_128 : decode cX5_count 128 = .ok (.ireturn, 1) := by decide +kernel
theorem dX5_count_129 : decode cX5_count 129 = .ok (.aload_n 0, 1) := by decide +kernel
theorem dX5_count_130 : decode cX5_count 130 = .ok (.getfield 75, 3) := by decide +kernel
theorem dX5_count_133 : decode cX5_count 133 = .ok (.ireturn, 1) := by decide +kernel
theorem dX5_count_134 : decode cX5_count 134 = .ok (.iconst (-1), 1) := by decide +kernel
theorem dX5_count_135 : decode cX5_count 135 = .ok (.ireturn, 1) := by decide +kernel
theorem dX5_know_0 : decode cX5_know 0 = .ok (.aload_n 0, 1) := by decide +kernel
theorem dX5_know_1 : decode cX5_know 1 = .ok (.getfield 75, 3) := by decide +kernel
theorem dX5_know_4 : decode cX5_know 4 = .ok (.bipush 8, 2) := by decide +kernel
theorem dX5_know_6 : decode cX5_know 6 = .ok (.if_icmp .ne 43, 3) := by decide +kernel
theorem dX5_know_9 : decode cX5_know 9 = .ok (.iconst 0, 1) := by decide +kernel
theorem dX5_know_10 : decode cX5_know 10 = .ok (.istore_n 1, 1) := by decide +kernel
theorem dX5_know_11 : decode cX5_know 11 = .ok (.iload_n 1, 1) := by decide +kernel
theorem dX5_know_12 : decode cX5_know 12 = .ok (.sipush 224, 3) := by decide +kernel
theorem dX5_know_15 : decode cX5_know 15 = .ok (.if_icmp .ge 24, 3) := by decide +kernel
theorem dX5_know_18 : decode cX5_know 18 = .ok (.aload_n 0, 1) := by decide +kernel
theorem dX5_know_19 : decode cX5_know 19 = .ok (.getfield 16, 3) := by decide +kernel
theorem dX5_know_22 : decode cX5_know 22 = .ok (.iload_n 1, 1) := by decide +kernel
theorem dX5_know_23 : decode cX5_know 23 = .ok (.aload_n 0, 1) := by decide +kernel
theorem dX5_know_24 : decode cX5_know 24 = .ok (.getfield 16, 3) := by decide +kernel
theorem dX5_know_27 : decode cX5_know 27 = .ok (.bipush 32, 2) := by decide +kernel
theorem dX5_know_29 : decode cX5_know 29 = .ok (.iload_n 1, 1) := by decide +kernel
theorem dX5_know_30 : decode cX5_know 30 = .ok (.iadd, 1) := by decide +kernel
theorem dX5_know_31 : decode cX5_know 31 = .ok (.iaload, 1) := by decide +kernel
theorem dX5_know_32 : decode cX5_know 32 = .ok (.iastore, 1) := by decide +kernel
theorem dX5_know_33 : decode cX5_know 33 = .ok (.iinc 1 1, 3) := by decide +kernel
theorem dX5_know_36 : decode cX5_know 36 = .ok (.goto (-25), 3) := by decide +kernel
theorem dX5_know_39 : decode cX5_know 39 = .ok (.aload_n 0, 1) := by decide +kernel
theorem dX5_know_40 : decode cX5_know 40 = .ok (.dup, 1) := by decide +kernel
theorem dX5_know_41 : decode cX5_know 41 = .ok (.getfield 75, 3) := by decide +kernel
theorem dX5_know_44 : decode cX5_know 44 = .ok (.iconst 1, 1) := by decide +kernel
theorem dX5_know_45 : decode cX5_know 45 = .ok (.isub, 1) := by decide +kernel
theorem dX5_know_46 : decode cX5_know 46 = .ok (.putfield 75, 3) := by decide +kernel
theorem dX5_know_49 : decode cX5_know 49 = .ok (.iconst 0, 1) := by decide +kernel
theorem dX5_know_50 : decode cX5_know 50 = .ok (.istore_n 1, 1) := by decide +kernel
theorem dX5_know_51 : decode cX5_know 51 = .ok (.iload_n 1, 1) := by decide +kernel
theorem dX5_know_52 : decode cX5_know 52 = .ok (.bipush 32, 2) := by decide +kernel
theorem dX5_know_54 : decode cX5_know 54 = .ok (.if_icmp .ge 29, 3) := by decide +kernel
theorem dX5_know_57 : decode cX5_know 57 = .ok (.aload_n 0, 1) := by decide +kernel
theorem dX5_know_58 : decode cX5_know 58 = .ok (.getfield 16, 3) := by decide +kernel
theorem dX5_know_61 : decode cX5_know 61 = .ok (.bipush 32, 2) := by decide +kernel
theorem dX5_know_63 : decode cX5_know 63 = .ok (.aload_n 0, 1) := by decide +kernel
theorem dX5_know_64 : decode cX5_know 64 = .ok (.getfield 75, 3) := by decide +kernel
theorem dX5_know_67 : decode cX5_know 67 = .ok (.imul, 1) := by decide +kernel
theorem dX5_know_68 : decode cX5_know 68 = .ok (.iload_n 1, 1) := by decide +kernel
theorem dX5_know_69 : decode cX5_know 69 = .ok (.iadd, 1) := by decide +kernel
theorem dX5_know_70 : decode cX5_know 70 = .ok (.aload_n 0, 1) := by decide +kernel
theorem dX5_know_71 : decode cX5_know 71 = .ok (.getfield 7, 3) := by decide +kernel
theorem dX5_know_74 : decode cX5_know 74 = .ok (.iload_n 1, 1) := by decide +kernel
theorem dX5_know_75 : decode cX5_know 75 = .ok (.iaload, 1) := by decide +kernel
theorem dX5_know_76 : decode cX5_know 76 = .ok (.iastore, 1) := by decide +kernel
theorem dX5_know_77 : decode cX5_know 77 = .ok (.iinc 1 1, 3) := by decide +kernel
theorem dX5_know_80 : decode cX5_know 80 = .ok (.goto (-29), 3) := by decide +kernel
theorem dX5_know_83 : decode cX5_know 83 = .ok (.aload_n 0, 1) := by decide +kernel
theorem dX5_know_84 : decode cX5_know 84 = .ok (.dup, 1) := by decide +kernel
theorem dX5_know_85 : decode cX5_know 85 = .ok (.getfield 75, 3) := by decide +kernel
theorem dX5_know_88 : decode cX5_know 88 = .ok (.iconst 1, 1) := by decide +kernel
theorem dX5_know_89 : decode cX5_know 89 = .ok (.iadd, 1) := by decide +kernel
theorem dX5_know_90 : decode cX5_know 90 = .ok (.putfield 75, 3) := by decide +kernel
theorem dX5_know_93 : decode cX5_know 93 = .ok (.return_, 1) := by decide +kernel
theorem dX5_years_0 : decode cX5_years 0 = .ok (.iload_n 1, 1) := by decide +kernel
theorem dX5_years_1 : decode cX5_years 1 = .ok (.iconst 1, 1) := by decide +kernel
theorem dX5_years_2 : decode cX5_years 2 = .ok (.bipush 40, 2) := by decide +kernel
theorem dX5_years_4 : decode cX5_years 4 = .ok (.invokestatic 45, 3) := by decide +kernel
theorem dX5_years_7 : decode cX5_years 7 = .ok (.ifCond .ne 5, 3) := by decide +kernel
theorem dX5_years_10 : decode cX5_years 10 = .ok (.iconst (-1), 1) := by decide +kernel
theorem dX5_years_11 : decode cX5_years 11 = .ok (.ireturn, 1) := by decide +kernel
theorem dX5_years_12 : decode cX5_years 12 = .ok (.aload_n 0, 1) := by decide +kernel
theorem dX5_years_13 : decode cX5_years 13 = .ok (.getfield 7, 3) := by decide +kernel
theorem dX5_years_16 : decode cX5_years 16 = .ok (.iconst 1, 1) := by decide +kernel
theorem dX5_years_17 : decode cX5_years 17 = .ok (.iaload, 1) := by decide +kernel
theorem dX5_years_18 : decode cX5_years 18 = .ok (.iload_n 1, 1) := by decide +kernel
theorem dX5_years_19 : decode cX5_years 19 = .ok (.iadd, 1) := by decide +kernel
theorem dX5_years_20 : decode cX5_years 20 = .ok (.sipush 9999, 3) := by decide +kernel
theorem dX5_years_23 : decode cX5_years 23 = .ok (.if_icmp .le 6, 3) := by decide +kernel
theorem dX5_years_26 : decode cX5_years 26 = .ok (.bipush (-3), 2) := by decide +kernel
theorem dX5_years_28 : decode cX5_years 28 = .ok (.ireturn, 1) := by decide +kernel
theorem dX5_years_29 : decode cX5_years 29 = .ok (.iconst 0, 1) := by decide +kernel
theorem dX5_years_30 : decode cX5_years 30 = .ok (.istore_n 2, 1) := by decide +kernel
theorem dX5_years_31 : decode cX5_years 31 = .ok (.iload_n 2, 1) := by decide +kernel
theorem dX5_years_32 : decode cX5_years 32 = .ok (.iload_n 1, 1) := by decide +kernel
theorem dX5_years_33 : decode cX5_years 33 = .ok (.if_icmp .ge 21, 3) := by decide +kernel
theorem dX5_years_36 : decode cX5_years 36 = .ok (.aload_n 0, 1) := by decide +kernel
theorem dX5_years_37 : decode cX5_years 37 = .ok (.invokevirtual 117, 3) := by decide +kernel
theorem dX5_years_40 : decode cX5_years 40 = .ok (.aload_n 0, 1) := by decide +kernel
theorem dX5_years_41 : decode cX5_years 41 = .ok (.aload_n 0, 1) := by decide +kernel
theorem dX5_years_42 : decode cX5_years 42 = .ok (.getfield 7, 3) := by decide +kernel
theorem dX5_years_45 : decode cX5_years 45 = .ok (.invokevirtual 120, 3) := by decide +kernel
theorem dX5_years_48 : decode cX5_years 48 = .ok (.iinc 2 1, 3) := by decide +kernel
theorem dX5_years_51 : decode cX5_years 51 = .ok (.goto (-20), 3) := by decide +kernel
theorem dX5_years_54 : decode cX5_years 54 = .ok (.aload_n 0, 1) := by decide +kernel
theorem dX5_years_55 : decode cX5_years 55 = .ok (.getfield 7, 3) := by decide +kernel
theorem dX5_years_58 : decode cX5_years 58 = .ok (.invokestatic 61, 3) := by decide +kernel
theorem dX5_years_61 : decode cX5_years 61 = .ok (.ireturn, 1) := by decide +kernel
theorem dX5_nurse_0 : decode cX5_nurse 0 = .ok (.aload_n 0, 1) := by decide +kernel
theorem dX5_nurse_1 : decode cX5_nurse 1 = .ok (.iload_n 1, 1) := by decide +kernel
theorem dX5_nurse_2 : decode cX5_nurse 2 = .ok (.invokevirtual 79, 3) := by decide +kernel
theorem dX5_nurse_5 : decode cX5_nurse 5 = .ok (.ifCond .eq 13, 3) := by decide +kernel
theorem dX5_nurse_8 : decode cX5_nurse 8 = .ok (.iload_n 2, 1) := by decide +kernel
theorem dX5_nurse_9 : decode cX5_nurse 9 = .ok (.iconst 1, 1) := by decide +kernel
theorem dX5_nurse_10 : decode cX5_nurse 10 = .ok (.bipush 19, 2) := by decide +kernel
theorem dX5_nurse_12 : decode cX5_nurse 12 = .ok (.invokestatic 45, 3) := by decide +kernel
theorem dX5_nurse_15 : decode cX5_nurse 15 = .ok (.ifCond .ne 5, 3) := by decide +kernel
theorem dX5_nurse_18 : decode cX5_nurse 18 = .ok (.iconst (-1), 1) := by decide +kernel
theorem dX5_nurse_19 : decode cX5_nurse 19 = .ok (.ireturn, 1) := by decide +kernel
theorem dX5_nurse_20 : decode cX5_nurse 20 = .ok (.aload_n 0, 1) := by decide +kernel
theorem dX5_nurse_21 : decode cX5_nurse 21 = .ok (.getfield 7, 3) := by decide +kernel
theorem dX5_nurse_24 : decode cX5_nurse 24 = .ok (.iload_n 1, 1) := by decide +kernel
theorem dX5_nurse_25 : decode cX5_nurse 25 = .ok (.invokestatic 53, 3) := by decide +kernel
theorem dX5_nurse_28 : decode cX5_nurse 28 = .ok (.ifCond .ne 15, 3) := by decide +kernel
theorem dX5_nurse_31 : decode cX5_nurse 31 = .ok (.aload_n 0, 1) := by decide +kernel
theorem dX5_nurse_32 : decode cX5_nurse 32 = .ok (.getfield 7, 3) := by decide +kernel
theorem dX5_nurse_35 : decode cX5_nurse 35 = .ok (.bipush 25, 2) := by decide +kernel
theorem dX5_nurse_37 : decode cX5_nurse 37 = .ok (.iload_n 1, 1) := by decide +kernel
theorem dX5_nurse_38 : decode cX5_nurse 38 = .ok (.iadd, 1) := by decide +kernel
theorem dX5_nurse_39 : decode cX5_nurse 39 = .ok (.iaload, 1) := by decide +kernel
theorem dX5_nurse_40 : decode cX5_nurse 40 = .ok (.ifCond .ne 6, 3) := by decide +kernel
theorem dX5_nurse_43 : decode cX5_nurse 43 = .ok (.bipush (-2), 2) := by decide +kernel
theorem dX5_nurse_45 : decode cX5_nurse 45 = .ok (.ireturn, 1) := by decide +kernel
theorem dX5_nurse_46 : decode cX5_nurse 46 = .ok (.aload_n 0, 1) := by decide +kernel
theorem dX5_nurse_47 : decode cX5_nurse 47 = .ok (.invokevirtual 117, 3) := by decide +kernel
theorem dX5_nurse_50 : decode cX5_nurse 50 = .ok (.aload_n 0, 1) := by decide +kernel
theorem dX5_nurse_51 : decode cX5_nurse 51 = .ok (.getfield 7, 3) := by decide +kernel
theorem dX5_nurse_54 : decode cX5_nurse 54 = .ok (.iload_n 1, 1) := by decide +kernel
theorem dX5_nurse_55 : decode cX5_nurse 55 = .ok (.iload_n 2, 1) := by decide +kernel
theorem dX5_nurse_56 : decode cX5_nurse 56 = .ok (.invokestatic 124, 3) := by decide +kernel
theorem dX5_nurse_59 : decode cX5_nurse 59 = .ok (.aload_n 0, 1) := by decide +kernel
theorem dX5_nurse_60 : decode cX5_nurse 60 = .ok (.getfield 7, 3) := by decide +kernel
theorem dX5_nurse_63 : decode cX5_nurse 63 = .ok (.bipush 25, 2) := by decide +kernel
theorem dX5_nurse_65 : decode cX5_nurse 65 = .ok (.iload_n 1, 1) := by decide +kernel
theorem dX5_nurse_66 : decode cX5_nurse 66 = .ok (.iadd, 1) := by decide +kernel
theorem dX5_nurse_67 : decode cX5_nurse 67 = .ok (.iaload, 1) := by decide +kernel
theorem dX5_nurse_68 : decode cX5_nurse 68 = .ok (.ireturn, 1) := by decide +kernel
theorem dX5_stir_0 : decode cX5_stir 0 = .ok (.aload_n 0, 1) := by decide +kernel
theorem dX5_stir_1 : decode cX5_stir 1 = .ok (.iload_n 1, 1) := by decide +kernel
theorem dX5_stir_2 : decode cX5_stir 2 = .ok (.invokevirtual 79, 3) := by decide +kernel
theorem dX5_stir_5 : decode cX5_stir 5 = .ok (.ifCond .eq 13, 3) := by decide +kernel
theorem dX5_stir_8 : decode cX5_stir 8 = .ok (.iload_n 2, 1) := by decide +kernel
theorem dX5_stir_9 : decode cX5_stir 9 = .ok (.iconst 1, 1) := by decide +kernel
theorem dX5_stir_10 : decode cX5_stir 10 = .ok (.bipush 20, 2) := by decide +kernel
theorem dX5_stir_12 : decode cX5_stir 12 = .ok (.invokestatic 45, 3) := by decide +kernel
theorem dX5_stir_15 : decode cX5_stir 15 = .ok (.ifCond .ne 5, 3) := by decide +kernel
theorem dX5_stir_18 : decode cX5_stir 18 = .ok (.iconst (-1), 1) := by decide +kernel
theorem dX5_stir_19 : decode cX5_stir 19 = .ok (.ireturn, 1) := by decide +kernel
theorem dX5_stir_20 : decode cX5_stir 20 = .ok (.aload_n 0, 1) := by decide +kernel
theorem dX5_stir_21 : decode cX5_stir 21 = .ok (.getfield 7, 3) := by decide +kernel
theorem dX5_stir_24 : decode cX5_stir 24 = .ok (.iload_n 1, 1) := by decide +kernel
theorem dX5_stir_25 : decode cX5_stir 25 = .ok (.invokestatic 53, 3) := by decide +kernel
theorem dX5_stir_28 : decode cX5_stir 28 = .ok (.ifCond .eq 6, 3) := by decide +kernel
theorem dX5_stir_31 : decode cX5_stir 31 = .ok (.bipush (-2), 2) := by decide +kernel
theorem dX5_stir_33 : decode cX5_stir 33 = .ok (.ireturn, 1) := by decide +kernel
theorem dX5_stir_34 : decode cX5_stir 34 = .ok (.aload_n 0, 1) := by decide +kernel
theorem dX5_stir_35 : decode cX5_stir 35 = .ok (.invokevirtual 117, 3) := by decide +kernel
theorem dX5_stir_38 : decode cX5_stir 38 = .ok (.aload_n 0, 1) := by decide +kernel
theorem dX5_stir_39 : decode cX5_stir 39 = .ok (.getfield 7, 3) := by decide +kernel
theorem dX5_stir_42 : decode cX5_stir 42 = .ok (.iload_n 1, 1) := by decide +kernel
theorem dX5_stir_43 : decode cX5_stir 43 = .ok (.iload_n 2, 1) := by decide +kernel
theorem dX5_stir_44 : decode cX5_stir 44 = .ok (.invokestatic 128, 3) := by decide +kernel
theorem dX5_stir_47 : decode cX5_stir 47 = .ok (.aload_n 0, 1) := by decide +kernel
theorem dX5_stir_48 : decode cX5_stir 48 = .ok (.getfield 7, 3) := by decide +kernel
theorem dX5_stir_51 : decode cX5_stir 51 = .ok (.bipush 25, 2) := by decide +kernel
theorem dX5_stir_53 : decode cX5_stir 53 = .ok (.iload_n 1, 1) := by decide +kernel
theorem dX5_stir_54 : decode cX5_stir 54 = .ok (.iadd, 1) := by decide +kernel
theorem dX5_stir_55 : decode cX5_stir 55 = .ok (.iaload, 1) := by decide +kernel
theorem dX5_stir_56 : decode cX5_stir 56 = .ok (.ireturn, 1) := by decide +kernel
theorem dX5_wed_0 : decode cX5_wed 0 = .ok (.aload_n 0, 1) := by decide +kernel
theorem dX5_wed_1 : decode cX5_wed 1 = .ok (.iload_n 1, 1) := by decide +kernel
theorem dX5_wed_2 : decode cX5_wed 2 = .ok (.invokevirtual 79, 3) := by decide +kernel
theorem dX5_wed_5 : decode cX5_wed 5 = .ok (.ifCond .ne 5, 3) := by decide +kernel
theorem dX5_wed_8 : decode cX5_wed 8 = .ok (.iconst (-1), 1) := by decide +kernel
theorem dX5_wed_9 : decode cX5_wed 9 = .ok (.ireturn, 1) := by decide +kernel
theorem dX5_wed_10 : decode cX5_wed 10 = .ok (.aload_n 0, 1) := by decide +kernel
theorem dX5_wed_11 : decode cX5_wed 11 = .ok (.getfield 7, 3) := by decide +kernel
theorem dX5_wed_14 : decode cX5_wed 14 = .ok (.iload_n 1, 1) := by decide +kernel
theorem dX5_wed_15 : decode cX5_wed 15 = .ok (.invokestatic 53, 3) := by decide +kernel
theorem dX5_wed_18 : decode cX5_wed 18 = .ok (.ifCond .ne 6, 3) := by decide +kernel
theorem dX5_wed_21 : decode cX5_wed 21 = .ok (.bipush (-2), 2) := by decide +kernel
theorem dX5_wed_23 : decode cX5_wed 23 = .ok (.ireturn, 1) := by decide +kernel
theorem dX5_wed_24 : decode cX5_wed 24 = .ok (.aload_n 0, 1) := by decide +kernel
theorem dX5_wed_25 : decode cX5_wed 25 = .ok (.invokevirtual 117, 3) := by decide +kernel
theorem dX5_wed_28 : decode cX5_wed 28 = .ok (.aload_n 0, 1) := by decide +kernel
theorem dX5_wed_29 : decode cX5_wed 29 = .ok (.getfield 7, 3) := by decide +kernel
theorem dX5_wed_32 : decode cX5_wed 32 = .ok (.iload_n 1, 1) := by decide +kernel
theorem dX5_wed_33 : decode cX5_wed 33 = .ok (.invokestatic 131, 3) := by decide +kernel
theorem dX5_wed_36 : decode cX5_wed 36 = .ok (.aload_n 0, 1) := by decide +kernel
theorem dX5_wed_37 : decode cX5_wed 37 = .ok (.getfield 7, 3) := by decide +kernel
theorem dX5_wed_40 : decode cX5_wed 40 = .ok (.invokestatic 61, 3) := by decide +kernel
theorem dX5_wed_43 : decode cX5_wed 43 = .ok (.ireturn, 1) := by decide +kernel
theorem dX5_drift_0 : decode cX5_drift 0 = .ok (.iload_n 1, 1) := by decide +kernel
theorem dX5_drift_1 : decode cX5_drift 1 = .ok (.iconst 1, 1) := by decide +kernel
theorem dX5_drift_2 : decode cX5_drift 2 = .ok (.bipush 40, 2) := by decide +kernel
theorem dX5_drift_4 : decode cX5_drift 4 = .ok (.invokestatic 45, 3) := by decide +kernel
theorem dX5_drift_7 : decode cX5_drift 7 = .ok (.ifCond .ne 5, 3) := by decide +kernel
theorem dX5_drift_10 : decode cX5_drift 10 = .ok (.iconst (-1), 1) := by decide +kernel
theorem dX5_drift_11 : decode cX5_drift 11 = .ok (.ireturn, 1) := by decide +kernel
theorem dX5_drift_12 : decode cX5_drift 12 = .ok (.aload_n 0, 1) := by decide +kernel
theorem dX5_drift_13 : decode cX5_drift 13 = .ok (.getfield 7, 3) := by decide +kernel
theorem dX5_drift_16 : decode cX5_drift 16 = .ok (.iconst 1, 1) := by decide +kernel
theorem dX5_drift_17 : decode cX5_drift 17 = .ok (.iaload, 1) := by decide +kernel
theorem dX5_drift_18 : decode cX5_drift 18 = .ok (.iload_n 1, 1) := by decide +kernel
theorem dX5_drift_19 : decode cX5_drift 19 = .ok (.iadd, 1) := by decide +kernel
theorem dX5_drift_20 : decode cX5_drift 20 = .ok (.sipush 9999, 3) := by decide +kernel
theorem dX5_drift_23 : decode cX5_drift 23 = .ok (.if_icmp .le 6, 3) := by decide +kernel
theorem dX5_drift_26 : decode cX5_drift 26 = .ok (.bipush (-3), 2) := by decide +kernel
theorem dX5_drift_28 : decode cX5_drift 28 = .ok (.ireturn, 1) := by decide +kernel
theorem dX5_drift_29 : decode cX5_drift 29 = .ok (.iconst 0, 1) := by decide +kernel
theorem dX5_drift_30 : decode cX5_drift 30 = .ok (.istore_n 2, 1) := by decide +kernel
