theorem dX5_drift_31 : decode cX5_drift 31 = .ok (.iload_n 2, 1) := by decide +kernel
theorem dX5_drift_32 : decode cX5_drift 32 = .ok (.iload_n 1, 1) := by decide +kernel
theorem dX5_drift_33 : decode cX5_drift 33 = .ok (.if_icmp .ge 125, 3) := by decide +kernel
theorem dX5_drift_36 : decode cX5_drift 36 = .ok (.aload_n 0, 1) := by decide +kernel
theorem dX5_drift_37 : decode cX5_drift 37 = .ok (.invokevirtual 117, 3) := by decide +kernel
theorem dX5_drift_40 : decode cX5_drift 40 = .ok (.aload_n 0, 1) := by decide +kernel
theorem dX5_drift_41 : decode cX5_drift 41 = .ok (.getfield 7, 3) := by decide +kernel
theorem dX5_drift_44 : decode cX5_drift 44 = .ok (.iconst 3, 1) := by decide +kernel
theorem dX5_drift_45 : decode cX5_drift 45 = .ok (.aload_n 0, 1) := by decide +kernel
theorem dX5_drift_46 : decode cX5_drift 46 = .ok (.getfield 7, 3) := by decide +kernel
theorem dX5_drift_49 : decode cX5_drift 49 = .ok (.iconst 3, 1) := by decide +kernel
theorem dX5_drift_50 : decode cX5_drift 50 = .ok (.iaload, 1) := by decide +kernel
theorem dX5_drift_51 : decode cX5_drift 51 = .ok (.i2l, 1) := by decide +kernel
theorem dX5_drift_52 : decode cX5_drift 52 = .ok (.ldc2_w 135, 3) := by decide +kernel
theorem dX5_drift_55 : decode cX5_drift 55 = .ok (.lmul, 1) := by decide +kernel
theorem dX5_drift_56 : decode cX5_drift 56 = .ok (.ldc2_w 137, 3) := by decide +kernel
theorem dX5_drift_59 : decode cX5_drift 59 = .ok (.ladd, 1) := by decide +kernel
theorem dX5_drift_60 : decode cX5_drift 60 = .ok (.ldc2_w 139, 3) := by decide +kernel
theorem dX5_drift_63 : decode cX5_drift 63 = .ok (.lrem, 1) := by decide +kernel
theorem dX5_drift_64 : decode cX5_drift 64 = .ok (.l2i, 1) := by decide +kernel
theorem dX5_drift_65 : decode cX5_drift 65 = .ok (.iastore, 1) := by decide +kernel
theorem dX5_drift_66 : decode cX5_drift 66 = .ok (.aload_n 0, 1) := by decide +kernel
theorem dX5_drift_67 : decode cX5_drift 67 = .ok (.getfield 7, 3) := by decide +kernel
theorem dX5_drift_70 : decode cX5_drift 70 = .ok (.iconst 0, 1) := by decide +kernel
theorem dX5_drift_71 : decode cX5_drift 71 = .ok (.iaload, 1) := by decide +kernel
theorem dX5_drift_72 : decode cX5_drift 72 = .ok (.ifCond .le 72, 3) := by decide +kernel
theorem dX5_drift_75 : decode cX5_drift 75 = .ok (.aload_n 0, 1) := by decide +kernel
theorem dX5_drift_76 : decode cX5_drift 76 = .ok (.getfield 7, 3) := by decide +kernel
theorem dX5_drift_79 : decode cX5_drift 79 = .ok (.iconst 3, 1) := by decide +kernel
theorem dX5_drift_80 : decode cX5_drift 80 = .ok (.iaload, 1) := by decide +kernel
theorem dX5_drift_81 : decode cX5_drift 81 = .ok (.ldc 141, 2) := by decide +kernel
theorem dX5_drift_83 : decode cX5_drift 83 = .ok (.idiv, 1) := by decide +kernel
theorem dX5_drift_84 : decode cX5_drift 84 = .ok (.aload_n 0, 1) := by decide +kernel
theorem dX5_drift_85 : decode cX5_drift 85 = .ok (.getfield 7, 3) := by decide +kernel
theorem dX5_drift_88 : decode cX5_drift 88 = .ok (.iconst 0, 1) := by decide +kernel
theorem dX5_drift_89 : decode cX5_drift 89 = .ok (.iaload, 1) := by decide +kernel
theorem dX5_drift_90 : decode cX5_drift 90 = .ok (.irem, 1) := by decide +kernel
theorem dX5_drift_91 : decode cX5_drift 91 = .ok (.istore_n 3, 1) := by decide +kernel
theorem dX5_drift_92 : decode cX5_drift 92 = .ok (.aload_n 0, 1) := by decide +kernel
theorem dX5_drift_93 : decode cX5_drift 93 = .ok (.getfield 7, 3) := by decide +kernel
theorem dX5_drift_96 : decode cX5_drift 96 = .ok (.iconst 3, 1) := by decide +kernel
theorem dX5_drift_97 : decode cX5_drift 97 = .ok (.iaload, 1) := by decide +kernel
theorem dX5_drift_98 : decode cX5_drift 98 = .ok (.sipush 128, 3) := by decide +kernel
theorem dX5_drift_101 : decode cX5_drift 101 = .ok (.idiv, 1) := by decide +kernel
theorem dX5_drift_102 : decode cX5_drift 102 = .ok (.bipush 7, 2) := by decide +kernel
theorem dX5_drift_104 : decode cX5_drift 104 = .ok (.irem, 1) := by decide +kernel
theorem dX5_drift_105 : decode cX5_drift 105 = .ok (.istore 4, 2) := by decide +kernel
theorem dX5_drift_107 : decode cX5_drift 107 = .ok (.aload_n 0, 1) := by decide +kernel
theorem dX5_drift_108 : decode cX5_drift 108 = .ok (.getfield 7, 3) := by decide +kernel
theorem dX5_drift_111 : decode cX5_drift 111 = .ok (.iload_n 3, 1) := by decide +kernel
theorem dX5_drift_112 : decode cX5_drift 112 = .ok (.invokestatic 53, 3) := by decide +kernel
theorem dX5_drift_115 : decode cX5_drift 115 = .ok (.ifCond .ne 16, 3) := by decide +kernel
theorem dX5_drift_118 : decode cX5_drift 118 = .ok (.aload_n 0, 1) := by decide +kernel
theorem dX5_drift_119 : decode cX5_drift 119 = .ok (.getfield 7, 3) := by decide +kernel
theorem dX5_drift_122 : decode cX5_drift 122 = .ok (.iload_n 3, 1) := by decide +kernel
theorem dX5_drift_123 : decode cX5_drift 123 = .ok (.iload 4, 2) := by decide +kernel
theorem dX5_drift_125 : decode cX5_drift 125 = .ok (.invokestatic 128, 3) := by decide +kernel
theorem dX5_drift_128 : decode cX5_drift 128 = .ok (.goto 16, 3) := by decide +kernel
theorem dX5_drift_131 : decode cX5_drift 131 = .ok (.iload 4, 2) := by decide +kernel
theorem dX5_drift_133 : decode cX5_drift 133 = .ok (.ifCond .ne 11, 3) := by decide +kernel
theorem dX5_drift_136 : decode cX5_drift 136 = .ok (.aload_n 0, 1) := by decide +kernel
theorem dX5_drift_137 : decode cX5_drift 137 = .ok (.getfield 7, 3) := by decide +kernel
theorem dX5_drift_140 : decode cX5_drift 140 = .ok (.iload_n 3, 1) := by decide +kernel
theorem dX5_drift_141 : decode cX5_drift 141 = .ok (.invokestatic 131, 3) := by decide +kernel
theorem dX5_drift_144 : decode cX5_drift 144 = .ok (.aload_n 0, 1) := by decide +kernel
theorem dX5_drift_145 : decode cX5_drift 145 = .ok (.aload_n 0, 1) := by decide +kernel
theorem dX5_drift_146 : decode cX5_drift 146 = .ok (.getfield 7, 3) := by decide +kernel
theorem dX5_drift_149 : decode cX5_drift 149 = .ok (.invokevirtual 120, 3) := by decide +kernel
theorem dX5_drift_152 : decode cX5_drift 152 = .ok (.iinc 2 1, 3) := by decide +kernel
theorem dX5_drift_155 : decode cX5_drift 155 = .ok (.goto (-124), 3) := by decide +kernel
theorem dX5_drift_158 : decode cX5_drift 158 = .ok (.aload_n 0, 1) := by decide +kernel
theorem dX5_drift_159 : decode cX5_drift 159 = .ok (.getfield 7, 3) := by decide +kernel
theorem dX5_drift_162 : decode cX5_drift 162 = .ok (.invokestatic 61, 3) := by decide +kernel
theorem dX5_drift_165 : decode cX5_drift 165 = .ok (.ireturn, 1) := by decide +kernel
theorem dX5_undo_0 : decode cX5_undo 0 = .ok (.aload_n 0, 1) := by decide +kernel
theorem dX5_undo_1 : decode cX5_undo 1 = .ok (.getfield 75, 3) := by decide +kernel
theorem dX5_undo_4 : decode cX5_undo 4 = .ok (.ifCond .ne 6, 3) := by decide +kernel
theorem dX5_undo_7 : decode cX5_undo 7 = .ok (.bipush (-4), 2) := by decide +kernel
theorem dX5_undo_9 : decode cX5_undo 9 = .ok (.ireturn, 1) := by decide +kernel
theorem dX5_undo_10 : decode cX5_undo 10 = .ok (.aload_n 0, 1) := by decide +kernel
theorem dX5_undo_11 : decode cX5_undo 11 = .ok (.dup, 1) := by decide +kernel
theorem dX5_undo_12 : decode cX5_undo 12 = .ok (.getfield 75, 3) := by decide +kernel
theorem dX5_undo_15 : decode cX5_undo 15 = .ok (.iconst 1, 1) := by decide +kernel
theorem dX5_undo_16 : decode cX5_undo 16 = .ok (.isub, 1) := by decide +kernel
theorem dX5_undo_17 : decode cX5_undo 17 = .ok (.putfield 75, 3) := by decide +kernel
theorem dX5_undo_20 : decode cX5_undo 20 = .ok (.iconst 0, 1) := by decide +kernel
theorem dX5_undo_21 : decode cX5_undo 21 = .ok (.istore_n 1, 1) := by decide +kernel
theorem dX5_undo_22 : decode cX5_undo 22 = .ok (.iload_n 1, 1) := by decide +kernel
theorem dX5_undo_23 : decode cX5_undo 23 = .ok (.bipush 32, 2) := by decide +kernel
theorem dX5_undo_25 : decode cX5_undo 25 = .ok (.if_icmp .ge 29, 3) := by decide +kernel
theorem dX5_undo_28 : decode cX5_undo 28 = .ok (.aload_n 0, 1) := by decide +kernel
theorem dX5_undo_29 : decode cX5_undo 29 = .ok (.getfield 7, 3) := by decide +kernel
theorem dX5_undo_32 : decode cX5_undo 32 = .ok (.iload_n 1, 1) := by decide +kernel
theorem dX5_undo_33 : decode cX5_undo 33 = .ok (.aload_n 0, 1) := by decide +kernel
theorem dX5_undo_34 : decode cX5_undo 34 = .ok (.getfield 16, 3) := by decide +kernel
theorem dX5_undo_37 : decode cX5_undo 37 = .ok (.bipush 32, 2) := by decide +kernel
theorem dX5_undo_39 : decode cX5_undo 39 = .ok (.aload_n 0, 1) := by decide +kernel
theorem dX5_undo_40 : decode cX5_undo 40 = .ok (.getfield 75, 3) := by decide +kernel
theorem dX5_undo_43 : decode cX5_undo 43 = .ok (.imul, 1) := by decide +kernel
theorem dX5_undo_44 : decode cX5_undo 44 = .ok (.iload_n 1, 1) := by decide +kernel
theorem dX5_undo_45 : decode cX5_undo 45 = .ok (.iadd, 1) := by decide +kernel
theorem dX5_undo_46 : decode cX5_undo 46 = .ok (.iaload, 1) := by decide +kernel
theorem dX5_undo_47 : decode cX5_undo 47 = .ok (.iastore, 1) := by decide +kernel
theorem dX5_undo_48 : decode cX5_undo 48 = .ok (.iinc 1 1, 3) := by decide +kernel
theorem dX5_undo_51 : decode cX5_undo 51 = .ok (.goto (-29), 3) := by decide +kernel
theorem dX5_undo_54 : decode cX5_undo 54 = .ok (.aload_n 0, 1) := by decide +kernel
theorem dX5_undo_55 : decode cX5_undo 55 = .ok (.getfield 75, 3) := by decide +kernel
theorem dX5_undo_58 : decode cX5_undo 58 = .ok (.ireturn, 1) := by decide +kernel
theorem dX5_seed_0 : decode cX5_seed 0 = .ok (.iload_n 1, 1) := by decide +kernel
theorem dX5_seed_1 : decode cX5_seed 1 = .ok (.ifCond .ge 5, 3) := by decide +kernel
theorem dX5_seed_4 : decode cX5_seed 4 = .ok (.iconst (-1), 1) := by decide +kernel
theorem dX5_seed_5 : decode cX5_seed 5 = .ok (.ireturn, 1) := by decide +kernel
theorem dX5_seed_6 : decode cX5_seed 6 = .ok (.aload_n 0, 1) := by decide +kernel
theorem dX5_seed_7 : decode cX5_seed 7 = .ok (.getfield 7, 3) := by decide +kernel
theorem dX5_seed_10 : decode cX5_seed 10 = .ok (.iconst 3, 1) := by decide +kernel
theorem dX5_seed_11 : decode cX5_seed 11 = .ok (.iaload, 1) := by decide +kernel
theorem dX5_seed_12 : decode cX5_seed 12 = .ok (.istore_n 2, 1) := by decide +kernel
theorem dX5_seed_13 : decode cX5_seed 13 = .ok (.aload_n 0, 1) := by decide +kernel
theorem dX5_seed_14 : decode cX5_seed 14 = .ok (.getfield 7, 3) := by decide +kernel
theorem dX5_seed_17 : decode cX5_seed 17 = .ok (.iconst 3, 1) := by decide +kernel
theorem dX5_seed_18 : decode cX5_seed 18 = .ok (.iload_n 1, 1) := by decide +kernel
theorem dX5_seed_19 : decode cX5_seed 19 = .ok (.iastore, 1) := by decide +kernel
theorem dX5_seed_20 : decode cX5_seed 20 = .ok (.iload_n 2, 1) := by decide +kernel
theorem dX5_seed_21 : decode cX5_seed 21 = .ok (.ireturn, 1) := by decide +kernel
theorem dX5_goOn_0 : decode cX5_goOn 0 = .ok (.iconst 0, 1) := by decide +kernel
theorem dX5_goOn_1 : decode cX5_goOn 1 = .ok (.istore_n 2, 1) := by decide +kernel
theorem dX5_goOn_2 : decode cX5_goOn 2 = .ok (.iload_n 2, 1) := by decide +kernel
theorem dX5_goOn_3 : decode cX5_goOn 3 = .ok (.iload_n 1, 1) := by decide +kernel
theorem dX5_goOn_4 : decode cX5_goOn 4 = .ok (.if_icmp .ge 17, 3) := by decide +kernel
theorem dX5_goOn_7 : decode cX5_goOn 7 = .ok (.aload_n 0, 1) := by decide +kernel
theorem dX5_goOn_8 : decode cX5_goOn 8 = .ok (.aload_n 0, 1) := by decide +kernel
theorem dX5_goOn_9 : decode cX5_goOn 9 = .ok (.getfield 13, 3) := by decide +kernel
theorem dX5_goOn_12 : decode cX5_goOn 12 = .ok (.invokevirtual 120, 3) := by decide +kernel
theorem dX5_goOn_15 : decode cX5_goOn 15 = .ok (.iinc 2 1, 3) := by decide +kernel
theorem dX5_goOn_18 : decode cX5_goOn 18 = .ok (.goto (-16), 3) := by decide +kernel
theorem dX5_goOn_21 : decode cX5_goOn 21 = .ok (.return_, 1) := by decide +kernel
theorem dX5_keys_0 : decode cX5_keys 0 = .ok (.iload_n 1, 1) := by decide +kernel
theorem dX5_keys_1 : decode cX5_keys 1 = .ok (.iconst 0, 1) := by decide +kernel
theorem dX5_keys_2 : decode cX5_keys 2 = .ok (.bipush 60, 2) := by decide +kernel
theorem dX5_keys_4 : decode cX5_keys 4 = .ok (.invokestatic 45, 3) := by decide +kernel
theorem dX5_keys_7 : decode cX5_keys 7 = .ok (.ifCond .ne 5, 3) := by decide +kernel
theorem dX5_keys_10 : decode cX5_keys 10 = .ok (.iconst (-1), 1) := by decide +kernel
theorem dX5_keys_11 : decode cX5_keys 11 = .ok (.ireturn, 1) := by decide +kernel
theorem dX5_keys_12 : decode cX5_keys 12 = .ok (.aload_n 0, 1) := by decide +kernel
theorem dX5_keys_13 : decode cX5_keys 13 = .ok (.invokevirtual 142, 3) := by decide +kernel
theorem dX5_keys_16 : decode cX5_keys 16 = .ok (.aload_n 0, 1) := by decide +kernel
theorem dX5_keys_17 : decode cX5_keys 17 = .ok (.iload_n 1, 1) := by decide +kernel
theorem dX5_keys_18 : decode cX5_keys 18 = .ok (.invokevirtual 145, 3) := by decide +kernel
theorem dX5_keys_21 : decode cX5_keys 21 = .ok (.aload_n 0, 1) := by decide +kernel
theorem dX5_keys_22 : decode cX5_keys 22 = .ok (.getfield 13, 3) := by decide +kernel
theorem dX5_keys_25 : decode cX5_keys 25 = .ok (.invokestatic 61, 3) := by decide +kernel
theorem dX5_keys_28 : decode cX5_keys 28 = .ok (.ireturn, 1) := by decide +kernel
theorem dX5_ahead_0 : decode cX5_ahead 0 = .ok (.aload_n 0, 1) := by decide +kernel
theorem dX5_ahead_1 : decode cX5_ahead 1 = .ok (.iload_n 1, 1) := by decide +kernel
theorem dX5_ahead_2 : decode cX5_ahead 2 = .ok (.invokevirtual 79, 3) := by decide +kernel
theorem dX5_ahead_5 : decode cX5_ahead 5 = .ok (.ifCond .eq 13, 3) := by decide +kernel
theorem dX5_ahead_8 : decode cX5_ahead 8 = .ok (.iload_n 2, 1) := by decide +kernel
theorem dX5_ahead_9 : decode cX5_ahead 9 = .ok (.iconst 0, 1) := by decide +kernel
theorem dX5_ahead_10 : decode cX5_ahead 10 = .ok (.bipush 60, 2) := by decide +kernel
theorem dX5_ahead_12 : decode cX5_ahead 12 = .ok (.invokestatic 45, 3) := by decide +kernel
theorem dX5_ahead_15 : decode cX5_ahead 15 = .ok (.ifCond .ne 5, 3) := by decide +kernel
theorem dX5_ahead_18 : decode cX5_ahead 18 = .ok (.iconst (-1), 1) := by decide +kernel
theorem dX5_ahead_19 : decode cX5_ahead 19 = .ok (.ireturn, 1) := by decide +kernel
theorem dX5_ahead_20 : decode cX5_ahead 20 = .ok (.aload_n 0, 1) := by decide +kernel
theorem dX5_ahead_21 : decode cX5_ahead 21 = .ok (.invokevirtual 142, 3) := by decide +kernel
theorem dX5_ahead_24 : decode cX5_ahead 24 = .ok (.aload_n 0, 1) := by decide +kernel
theorem dX5_ahead_25 : decode cX5_ahead 25 = .ok (.iload_n 2, 1) := by decide +kernel
theorem dX5_ahead_26 : decode cX5_ahead 26 = .ok (.invokevirtual 145, 3) := by decide +kernel
theorem dX5_ahead_29 : decode cX5_ahead 29 = .ok (.aload_n 0, 1) := by decide +kernel
theorem dX5_ahead_30 : decode cX5_ahead 30 = .ok (.getfield 13, 3) := by decide +kernel
theorem dX5_ahead_33 : decode cX5_ahead 33 = .ok (.bipush 25, 2) := by decide +kernel
theorem dX5_ahead_35 : decode cX5_ahead 35 = .ok (.iload_n 1, 1) := by decide +kernel
theorem dX5_ahead_36 : decode cX5_ahead 36 = .ok (.iadd, 1) := by decide +kernel
theorem dX5_ahead_37 : decode cX5_ahead 37 = .ok (.iaload, 1) := by decide +kernel
theorem dX5_ahead_38 : decode cX5_ahead 38 = .ok (.ireturn, 1) := by decide +kernel
theorem dX5_then_0 : decode cX5_then 0 = .ok (.iload_n 1, 1) := by decide +kernel
theorem dX5_then_1 : decode cX5_then 1 = .ok (.iconst 0, 1) := by decide +kernel
theorem dX5_then_2 : decode cX5_then 2 = .ok (.bipush 60, 2) := by decide +kernel
theorem dX5_then_4 : decode cX5_then 4 = .ok (.invokestatic 45, 3) := by decide +kernel
theorem dX5_then_7 : decode cX5_then 7 = .ok (.ifCond .ne 5, 3) := by decide +kernel
theorem dX5_then_10 : decode cX5_then 10 = .ok (.iconst (-1), 1) := by decide +kernel
theorem dX5_then_11 : decode cX5_then 11 = .ok (.ireturn, 1) := by decide +kernel
theorem dX5_then_12 : decode cX5_then 12 = .ok (.aload_n 0, 1) := by decide +kernel
theorem dX5_then_13 : decode cX5_then 13 = .ok (.invokevirtual 142, 3) := by decide +kernel
theorem dX5_then_16 : decode cX5_then 16 = .ok (.aload_n 0, 1) := by decide +kernel
theorem dX5_then_17 : decode cX5_then 17 = .ok (.iload_n 1, 1) := by decide +kernel
theorem dX5_then_18 : decode cX5_then 18 = .ok (.invokevirtual 145, 3) := by decide +kernel
theorem dX5_then_21 : decode cX5_then 21 = .ok (.aload_n 0, 1) := by decide +kernel
theorem dX5_then_22 : decode cX5_then 22 = .ok (.getfield 13, 3) := by decide +kernel
theorem dX5_then_25 : decode cX5_then 25 = .ok (.invokestatic 114, 3) := by decide +kernel
theorem dX5_then_28 : decode cX5_then 28 = .ok (.ireturn, 1) := by decide +kernel
theorem dX5_rises_0 : decode cX5_rises 0 = .ok (.aload_n 0, 1) := by decide +kernel
theorem dX5_rises_1 : decode cX5_rises 1 = .ok (.iload_n 1, 1) := by decide +kernel
theorem dX5_rises_2 : decode cX5_rises 2 = .ok (.invokevirtual 79, 3) := by decide +kernel
theorem dX5_rises_5 : decode cX5_rises 5 = .ok (.ifCond .eq 12, 3) := by decide +kernel
theorem dX5_rises_8 : decode cX5_rises 8 = .ok (.iload_n 2, 1) := by decide +kernel
theorem dX5_rises_9 : decode cX5_rises 9 = .ok (.iconst 0, 1) := by decide +kernel
theorem dX5_rises_10 : decode cX5_rises 10 = .ok (.iconst 1, 1) := by decide +kernel
theorem dX5_rises_11 : decode cX5_rises 11 = .ok (.invokestatic 45, 3) := by decide +kernel
theorem dX5_rises_14 : decode cX5_rises 14 = .ok (.ifCond .ne 5, 3) := by decide +kernel
theorem dX5_rises_17 : decode cX5_rises 17 = .ok (.iconst (-1), 1) := by decide +kernel
theorem dX5_rises_18 : decode cX5_rises 18 = .ok (.ireturn, 1) := by decide +kernel
theorem dX5_rises_19 : decode cX5_rises 19 = .ok (.aload_n 0, 1) := by decide +kernel
theorem dX5_rises_20 : decode cX5_rises 20 = .ok (.invokevirtual 142, 3) := by decide +kernel
theorem dX5_rises_23 : decode cX5_rises 23 = .ok (.bipush (-4), 2) := by decide +kernel
theorem dX5_rises_25 : decode cX5_rises 25 = .ok (.istore_n 3, 1) := by decide +kernel
theorem dX5_rises_26 : decode cX5_rises 26 = .ok (.iconst 0, 1) := by decide +kernel
theorem dX5_rises_27 : decode cX5_rises 27 = .ok (.istore 4, 2) := by decide +kernel
theorem dX5_rises_29 : decode cX5_rises 29 = .ok (.iconst 0, 1) := by decide +kernel
theorem dX5_rises_30 : decode cX5_rises 30 = .ok (.istore 5, 2) := by decide +kernel
theorem dX5_rises_32 : decode cX5_rises 32 = .ok (.iload 5, 2) := by decide +kernel
theorem dX5_rises_34 : decode cX5_rises 34 = .ok (.bipush 60, 2) := by decide +kernel
theorem dX5_rises_36 : decode cX5_rises 36 = .ok (.if_icmp .gt 68, 3) := by decide +kernel
theorem dX5_rises_39 : decode cX5_rises 39 = .ok (.aload_n 0, 1) := by decide +kernel
theorem dX5_rises_40 : decode cX5_rises 40 = .ok (.getfield 13, 3) := by decide +kernel
theorem dX5_rises_43 : decode cX5_rises 43 = .ok (.invokestatic 61, 3) := by decide +kernel
theorem dX5_rises_46 : decode cX5_rises 46 = .ok (.iload_n 1, 1) := by decide +kernel
theorem dX5_rises_47 : decode cX5_rises 47 = .ok (.if_icmp .ne 7, 3) := by decide +kernel
theorem dX5_rises_50 : decode cX5_rises 50 = .ok (.iconst 1, 1) := by decide +kernel
theorem dX5_rises_51 : decode cX5_rises 51 = .ok (.goto 4, 3) := by decide +kernel
theorem dX5_rises_54 : decode cX5_rises 54 = .ok (.iconst 0, 1) := by decide +kernel
theorem dX5_rises_55 : decode cX5_rises 55 = .ok (.istore 6, 2) := by decide +kernel
theorem dX5_rises_57 : decode cX5_rises 57 = .ok (.iload 6, 2) := by decide +kernel
theorem dX5_rises_59 : decode cX5_rises 59 = .ok (.ifCond .eq 14, 3) := by decide +kernel
theorem dX5_rises_62 : decode cX5_rises 62 = .ok (.iload_n 3, 1) := by decide +kernel
theorem dX5_rises_63 : decode cX5_rises 63 = .ok (.bipush (-4), 2) := by decide +kernel
theorem dX5_rises_65 : decode cX5_rises 65 = .ok (.if_icmp .ne 8, 3) := by decide +kernel
theorem dX5_rises_68 : decode cX5_rises 68 = .ok (.iload 5, 2) := by decide +kernel
theorem dX5_rises_70 : decode cX5_rises 70 = .ok (.goto 4, 3) := by decide +kernel
theorem dX5_rises_73 : decode cX5_rises 73 = .ok (.iload_n 3, 1) := by decide +kernel
theorem dX5_rises_74 : decode cX5_rises 74 = .ok (.istore_n 3, 1) := by decide +kernel
theorem dX5_rises_75 : decode cX5_rises 75 = .ok (.iload 4, 2) := by decide +kernel
theorem dX5_rises_77 : decode cX5_rises 77 = .ok (.iload 6, 2) := by decide +kernel
theorem dX5_rises_79 : decode cX5_rises 79 = .ok (.ifCond .eq 7, 3) := by decide +kernel
theorem dX5_rises_82 : decode cX5_rises 82 = .ok (.iconst 1, 1) := by decide +kernel
theorem dX5_rises_83 : decode cX5_rises 83 = .ok (.goto 4, 3) := by decide +kernel
theorem dX5_rises_86 : decode cX5_rises 86 = .ok (.iconst 0, 1) := by decide +kernel
theorem dX5_rises_87 : decode cX5_rises 87 = .ok (.iadd, 1) := by decide +kernel
theorem dX5_rises_88 : decode cX5_rises 88 = .ok (.istore 4, 2) := by decide +kernel
theorem dX5_rises_90 : decode cX5_rises 90 = .ok (.aload_n 0, 1) := by decide +kernel
theorem dX5_rises_91 : decode cX5_rises 91 = .ok (.aload_n 0, 1) := by decide +kernel
theorem dX5_rises_92 : decode cX5_rises 92 = .ok (.getfield 13, 3) := by decide +kernel
theorem dX5_rises_95 : decode cX5_rises 95 = .ok (.invokevirtual 120, 3) := by decide +kernel
theorem dX5_rises_98 : decode cX5_rises 98 = .ok (.iinc 5 1, 3) := by decide +kernel
theorem dX5_rises_101 : decode cX5_rises 101 = .ok (.goto (-69), 3) := by decide +kernel
theorem dX5_rises_104 : decode cX5_rises 104 = .ok (.iload_n 2, 1) := by decide +kernel
theorem dX5_rises_105 : decode cX5_rises 105 = .ok (.ifCond .ne 7, 3) := by decide +kernel
theorem dX5_rises_108 : decode cX5_rises 108 = .ok (.iload_n 3, 1) := by decide +kernel
theorem dX5_rises_109 : decode cX5_rises 109 = .ok (.goto 5, 3) := by decide +kernel
theorem dX5_rises_112 : decode cX5_rises 112 = .ok (.iload 4, 2) := by decide +kernel
theorem dX5_rises_114 : decode cX5_rises 114 = .ok (.ireturn, 1) := by decide +kernel
theorem dX5_parts_0 : decode cX5_parts 0 = .ok (.aload_n 0, 1) := by decide +kernel
theorem dX5_parts_1 : decode cX5_parts 1 = .ok (.iload_n 1, 1) := by decide +kernel
theorem dX5_parts_2 : decode cX5_parts 2 = .ok (.invokevirtual 79, 3) := by decide +kernel
theorem dX5_parts_5 : decode cX5_parts 5 = .ok (.ifCond .ne 5, 3) := by decide +kernel
theorem dX5_parts_8 : decode cX5_parts 8 = .ok (.iconst (-1), 1) := by decide +kernel
theorem dX5_parts_9 : decode cX5_parts 9 = .ok (.ireturn, 1) := by decide +kernel
theorem dX5_parts_10 : decode cX5_parts 10 = .ok (.aload_n 0, 1) := by decide +kernel
theorem dX5_parts_11 : decode cX5_parts 11 = .ok (.invokevirtual 142, 3) := by decide +kernel
theorem dX5_parts_14 : decode cX5_parts 14 = .ok (.iconst 1, 1) := by decide +kernel
theorem dX5_parts_15 : decode cX5_parts 15 = .ok (.istore_n 2, 1) := by decide +kernel
theorem dX5_parts_16 : decode cX5_parts 16 = .ok (.iload_n 2, 1) := by decide +kernel
theorem dX5_parts_17 : decode cX5_parts 17 = .ok (.bipush 60, 2) := by decide +kernel
theorem dX5_parts_19 : decode cX5_parts 19 = .ok (.if_icmp .gt 41, 3) := by decide +kernel
theorem dX5_parts_22 : decode cX5_parts 22 = .ok (.aload_n 0, 1) := by decide +kernel
theorem dX5_parts_23 : decode cX5_parts 23 = .ok (.getfield 7, 3) := by decide +kernel
theorem dX5_parts_26 : decode cX5_parts 26 = .ok (.iload_n 1, 1) := by decide +kernel
theorem dX5_parts_27 : decode cX5_parts 27 = .ok (.invokestatic 53, 3) := by decide +kernel
theorem dX5_parts_30 : decode cX5_parts 30 = .ok (.ifCond .ne 30, 3) := by decide +kernel
theorem dX5_parts_33 : decode cX5_parts 33 = .ok (.aload_n 0, 1) := by decide +kernel
theorem dX5_parts_34 : decode cX5_parts 34 = .ok (.aload_n 0, 1) := by decide +kernel
theorem dX5_parts_35 : decode cX5_parts 35 = .ok (.getfield 13, 3) := by decide +kernel
theorem dX5_parts_38 : decode cX5_parts 38 = .ok (.invokevirtual 120, 3) := by decide +kernel
theorem dX5_parts_41 : decode cX5_parts 41 = .ok (.aload_n 0, 1) := by decide +kernel
theorem dX5_parts_42 : decode cX5_parts 42 = .ok (.getfield 13, 3) := by decide +kernel
theorem dX5_parts_45 : decode cX5_parts 45 = .ok (.iload_n 1, 1) := by decide +kernel
theorem dX5_parts_46 : decode cX5_parts 46 = .ok (.invokestatic 53, 3) := by decide +kernel
theorem dX5_parts_49 : decode cX5_parts 49 = .ok (.ifCond .eq 5, 3) := by decide +kernel
theorem dX5_parts_52 : decode cX5_parts 52 = .ok (.iload_n 2, 1) := by decide +kernel
theorem dX5_parts_53 : decode cX5_parts 53 = .ok (.ireturn, 1) := by decide +kernel
theorem dX5_parts_54 : decode cX5_parts 54 = .ok (.iinc 2 1, 3) := by decide +kernel
theorem dX5_parts_57 : decode cX5_parts 57 = .ok (.goto (-41), 3) := by decide +kernel
theorem dX5_parts_60 : decode cX5_parts 60 = .ok (.bipush (-4), 2) := by decide +kernel
theorem dX5_parts_62 : decode cX5_parts 62 = .ok (.ireturn, 1) := by decide +kernel
theorem dX5_ever_0 : decode cX5_ever 0 = .ok (.aload_n 0, 1) := by decide +kernel
theorem dX5_ever_1 : decode cX5_ever 1 = .ok (.invokevirtual 142, 3) := by decide +kernel
theorem dX5_ever_4 : decode cX5_ever 4 = .ok (.iconst 0, 1) := by decide +kernel
theorem dX5_ever_5 : decode cX5_ever 5 = .ok (.istore_n 1, 1) := by decide +kernel
theorem dX5_ever_6 : decode cX5_ever 6 = .ok (.iconst 0, 1) := by decide +kernel
theorem dX5_ever_7 : decode cX5_ever 7 = .ok (.istore_n 2, 1) := by decide +kernel
theorem dX5_ever_8 : decode cX5_ever 8 = .ok (.iload_n 2, 1) := by decide +kernel
theorem dX5_ever_9 : decode cX5_ever 9 = .ok (.bipush 60, 2) := by decide +kernel
theorem dX5_ever_11 : decode cX5_ever 11 = .ok (.if_icmp .gt 41, 3) := by decide +kernel
theorem dX5_ever_14 : decode cX5_ever 14 = .ok (.aload_n 0, 1) := by decide +kernel
theorem dX5_ever_15 : decode cX5_ever 15 = .ok (.getfield 13, 3) := by decide +kernel
theorem dX5_ever_18 : decode cX5_ever 18 = .ok (.invokestatic 61, 3) := by decide +kernel
theorem dX5_ever_21 : decode cX5_ever 21 = .ok (.istore_n 3, 1) := by decide +kernel
theorem dX5_ever_22 : decode cX5_ever 22 = .ok (.iload_n 1, 1) := by decide +kernel
theorem dX5_ever_23 : decode cX5_ever 23 = .ok (.iload_n 3, 1) := by decide +kernel
theorem dX5_ever_24 : decode cX5_ever 24 = .ok (.bipush (-4), 2) := by decide +kernel
theorem dX5_ever_26 : decode cX5_ever 26 = .ok (.if_icmp .ne 7, 3) := by decide +kernel
theorem dX5_ever_29 : decode cX5_ever 29 = .ok (.iconst 0, 1) := by decide +kernel
theorem dX5_ever_30 : decode cX5_ever 30 = .ok (.goto 6, 3) := by decide +kernel
theorem dX5_ever_33 : decode cX5_ever 33 = .ok (.iconst 1, 1) := by decide +kernel
theorem dX5_ever_34 : decode cX5_ever 34 = .ok (.iload_n 3, 1) := by decide +kernel
theorem dX5_ever_35 : decode cX5_ever 35 = .ok (.ishl, 1) := by decide +kernel
theorem dX5_ever_36 : decode cX5_ever 36 = .ok (.ior, 1) := by decide +kernel
theorem dX5_ever_37 : decode cX5_ever 37 = .ok (.istore_n 1, 1) := by decide +kernel
theorem dX5_ever_38 : decode cX5_ever 38 = .ok (.aload_n 0, 1) := by decide +kernel
theorem dX5_ever_39 : decode cX5_ever 39 = .ok (.aload_n 0, 1) := by decide +kernel
theorem dX5_ever_40 : decode cX5_ever 40 = .ok (.getfield 13, 3) := by decide +kernel
theorem dX5_ever_43 : decode cX5_ever 43 = .ok (.invokevirtual 120, 3) := by decide +kernel
theorem dX5_ever_46 : decode cX5_ever 46 = .ok (.iinc 2 1, 3) := by decide +kernel
theorem dX5_ever_49 : decode cX5_ever 49 = .ok (.goto (-41), 3) := by decide +kernel
theorem dX5_ever_52 : decode cX5_ever 52 = .ok (.iload_n 1, 1) := by decide +kernel
theorem dX5_ever_53 : decode cX5_ever 53 = .ok (.ireturn, 1) := by decide +kernel
theorem dX5_rivals_0 : decode cX5_rivals 0 = .ok (.aload_n 0, 1) := by decide +kernel
theorem dX5_rivals_1 : decode cX5_rivals 1 = .ok (.iload_n 1, 1) := by decide +kernel
theorem dX5_rivals_2 : decode cX5_rivals 2 = .ok (.invokevirtual 79, 3) := by decide +kernel
theorem dX5_rivals_5 : decode cX5_rivals 5 = .ok (.ifCond .eq 22, 3) := by decide +kernel
theorem dX5_rivals_8 : decode cX5_rivals 8 = .ok (.iload_n 2, 1) := by decide +kernel
theorem dX5_rivals_9 : decode cX5_rivals 9 = .ok (.iconst 0, 1) := by decide +kernel
theorem dX5_rivals_10 : decode cX5_rivals 10 = .ok (.bipush 40, 2) := by decide +kernel
theorem dX5_rivals_12 : decode cX5_rivals 12 = .ok (.invokestatic 45, 3) := by decide +kernel
theorem dX5_rivals_15 : decode cX5_rivals 15 = .ok (.ifCond .eq 12, 3) := by decide +kernel
theorem dX5_rivals_18 : decode cX5_rivals 18 = .ok (.iload_n 3, 1) := by decide +kernel
theorem dX5_rivals_19 : decode cX5_rivals 19 = .ok (.iconst 0, 1) := by decide +kernel
theorem dX5_rivals_20 : decode cX5_rivals 20 = .ok (.iconst 1, 1) := by decide +kernel
theorem dX5_rivals_21 : decode cX5_rivals 21 = .ok (.invokestatic 45, 3) := by decide +kernel
theorem dX5_rivals_24 : decode cX5_rivals 24 = .ok (.ifCond .ne 5, 3) := by decide +kernel
theorem dX5_rivals_27 : decode cX5_rivals 27 = .ok (.iconst (-1), 1) := by decide +kernel
theorem dX5_rivals_28 : decode cX5_rivals 28 = .ok (.ireturn, 1) := by decide +kernel
theorem dX5_rivals_29 : decode cX5_rivals 29 = .ok (.aload_n 0, 1) := by decide +kernel
theorem dX5_rivals_30 : decode cX5_rivals 30 = .ok (.getfield 7, 3) := by decide +kernel
theorem dX5_rivals_33 : decode cX5_rivals 33 = .ok (.invokestatic 114, 3) := by decide +kernel
theorem dX5_rivals_36 : decode cX5_rivals 36 = .ok (.iconst 1, 1) := by decide +kernel
theorem dX5_rivals_37 : decode cX5_rivals 37 = .ok (.iload_n 1, 1) := by decide +kernel
theorem dX5_rivals_38 : decode cX5_rivals 38 = .ok (.ishl, 1) := by decide +kernel
theorem dX5_rivals_39 : decode cX5_rivals 39 = .ok (.iconst (-1), 1) := by decide +kernel
theorem dX5_rivals_40 : decode cX5_rivals 40 = .ok (.ixor, 1) := by decide +kernel
theorem dX5_rivals_41 : decode cX5_rivals 41 = .ok (.iand, 1) := by decide +kernel
theorem dX5_rivals_42 : decode cX5_rivals 42 = .ok (.istore 4, 2) := by decide +kernel
theorem dX5_rivals_44 : decode cX5_rivals 44 = .ok (.bipush (-4), 2) := by decide +kernel
theorem dX5_rivals_46 : decode cX5_rivals 46 = .ok (.istore 5, 2) := by decide +kernel
theorem dX5_rivals_48 : decode cX5_rivals 48 = .ok (.iconst 0, 1) := by decide +kernel
theorem dX5_rivals_49 : decode cX5_rivals 49 = .ok (.istore 6, 2) := by decide +kernel
theorem dX5_rivals_51 : decode cX5_rivals 51 = .ok (.iload 6, 2) := by decide +kernel
theorem dX5_rivals_53 : decode cX5_rivals 53 = .ok (.iload 4, 2) := by decide +kernel
theorem dX5_rivals_55 : decode cX5_rivals 55 = .ok (.if_icmp .gt 79, 3) := by decide +kernel
theorem dX5_rivals_58 : decode cX5_rivals 58 = .ok (.iload 6, 2) := by decide +kernel
theorem dX5_rivals_60 : decode cX5_rivals 60 = .ok (.iload 4, 2) := by decide +kernel
theorem dX5_rivals_62 : decode cX5_rivals 62 = .ok (.iconst (-1), 1) := by decide +kernel
theorem dX5_rivals_63 : decode cX5_rivals 63 = .ok (.ixor, 1) := by decide +kernel
theorem dX5_rivals_64 : decode cX5_rivals 64 = .ok (.iand, 1) := by decide +kernel
theorem dX5_rivals_65 : decode cX5_rivals 65 = .ok (.ifCond .ne 63, 3) := by decide +kernel
theorem dX5_rivals_68 : decode cX5_rivals 68 = .ok (.iload 5, 2) := by decide +kernel
theorem dX5_rivals_70 : decode cX5_rivals 70 = .ok (.bipush (-4), 2) := by decide +kernel
theorem dX5_rivals_72 : decode cX5_rivals 72 = .ok (.if_icmp .eq 16, 3) := by decide +kernel
theorem dX5_rivals_75 : decode cX5_rivals 75 = .ok (.iload 6, 2) := by decide +kernel
theorem dX5_rivals_77 : decode cX5_rivals 77 = .ok (.invokestatic 148, 3) := by decide +kernel
theorem dX5_rivals_80 : decode cX5_rivals 80 = .ok (.iload 5, 2) := by decide +kernel
theorem dX5_rivals_82 : decode cX5_rivals 82 = .ok (.invokestatic 148, 3) := by decide +kernel
theorem dX5_rivals_85 : decode cX5_rivals 85 = .ok (.if_icmp .ge 43, 3) := by decide +kernel
theorem dX5_rivals_88 : decode cX5_rivals 88 = .ok (.aload_n 0, 1) := by decide +kernel
theorem dX5_rivals_89 : decode cX5_rivals 89 = .ok (.invokevirtual 142, 3) := by decide +kernel
theorem dX5_rivals_92 : decode cX5_rivals 92 = .ok (.aload_n 0, 1) := by decide +kernel
theorem dX5_rivals_93 : decode cX5_rivals 93 = .ok (.getfield 13, 3) := by decide +kernel
theorem dX5_rivals_96 : decode cX5_rivals 96 = .ok (.iconst 2, 1) := by decide +kernel
theorem dX5_rivals_97 : decode cX5_rivals 97 = .ok (.dup2, 1) := by decide +kernel
theorem dX5_rivals_98 : decode cX5_rivals 98 = .ok (.iaload, 1) := by decide +kernel
theorem dX5_rivals_99 : decode cX5_rivals 99 = .ok (.iload 6, 2) := by decide +kernel
theorem dX5_rivals_101 : decode cX5_rivals 101 = .ok (.ior, 1) := by decide +kernel
theorem dX5_rivals_102 : decode cX5_rivals 102 = .ok (.iastore, 1) := by decide +kernel
theorem dX5_rivals_103 : decode cX5_rivals 103 = .ok (.aload_n 0, 1) := by decide +kernel
theorem dX5_rivals_104 : decode cX5_rivals 104 = .ok (.iload_n 2, 1) := by decide +kernel
theorem dX5_rivals_105 : decode cX5_rivals 105 = .ok (.invokevirtual 145, 3) := by decide +kernel
theorem dX5_rivals_108 : decode cX5_rivals 108 = .ok (.aload_n 0, 1) := by decide +kernel
theorem dX5_rivals_109 : decode cX5_rivals 109 = .ok (.getfield 13, 3) := by decide +kernel
theorem dX5_rivals_112 : decode cX5_rivals 112 = .ok (.invokestatic 61, 3) := by decide +kernel
theorem dX5_rivals_115 : decode cX5_rivals 115 = .ok (.iload_n 1, 1) := by decide +kernel
theorem dX5_rivals_116 : decode cX5_rivals 116 = .ok (.if_icmp .ne 8, 3) := by decide +kernel
theorem dX5_rivals_119 : decode cX5_rivals 119 = .ok (.iload 6, 2) := by decide +kernel
theorem dX5_rivals_121 : decode cX5_rivals 121 = .ok (.goto 5, 3) := by decide +kernel
theorem dX5_rivals_124 : decode cX5_rivals 124 = .ok (.iload 5, 2) := by decide +kernel
theorem dX5_rivals_126 : decode cX5_rivals 126 = .ok (.istore 5, 2) := by decide +kernel
theorem dX5_rivals_128 : decode cX5_rivals 128 = .ok (.iinc 6 1, 3) := by decide +kernel
theorem dX5_rivals_131 : decode cX5_rivals 131 = .ok (.goto (-80), 3) := by decide +kernel
theorem dX5_rivals_134 : decode cX5_rivals 134 = .ok (.iload 5, 2) := by decide +kernel
theorem dX5_rivals_136 : decode cX5_rivals 136 = .ok (.bipush (-4), 2) := by decide +kernel
theorem dX5_rivals_138 : decode cX5_rivals 138 = .ok (.if_icmp .eq 8, 3) := by decide +kernel
theorem dX5_rivals_141 : decode cX5_rivals 141 = .ok (.iload_n 3, 1) := by decide +kernel
theorem dX5_rivals_142 : decode cX5_rivals 142 = .ok (.iconst 1, 1) := by decide +kernel
theorem dX5_rivals_143 : decode cX5_rivals 143 = .ok (.if_icmp .ne 8, 3) := by decide +kernel
theorem dX5_rivals_146 : decode cX5_rivals 146 = .ok (.iload 5, 2) := by decide +kernel
theorem dX5_rivals_148 : decode cX5_rivals 148 = .ok (.goto 8, 3) := by decide +kernel
theorem dX5_rivals_151 : decode cX5_rivals 151 = .ok (.iload 5, 2) := by decide +kernel
theorem dX5_rivals_153 : decode cX5_rivals 153 = .ok (.invokestatic 148, 3) := by decide +kernel
theorem dX5_rivals_156 : decode cX5_rivals 156 = .ok (.ireturn, 1) := by decide +kernel
theorem dX5_needs_0 : decode cX5_needs 0 = .ok (.aload_n 0, 1) := by decide +kernel
theorem dX5_needs_1 : decode cX5_needs 1 = .ok (.iload_n 1, 1) := by decide +kernel
theorem dX5_needs_2 : decode cX5_needs 2 = .ok (.invokevirtual 79, 3) := by decide +kernel
theorem dX5_needs_5 : decode cX5_needs 5 = .ok (.ifCond .eq 13, 3) := by decide +kernel
theorem dX5_needs_8 : decode cX5_needs 8 = .ok (.iload_n 2, 1) := by decide +kernel
theorem dX5_needs_9 : decode cX5_needs 9 = .ok (.iconst 1, 1) := by decide +kernel
theorem dX5_needs_10 : decode cX5_needs 10 = .ok (.bipush 40, 2) := by decide +kernel
theorem dX5_needs_12 : decode cX5_needs 12 = .ok (.invokestatic 45, 3) := by decide +kernel
theorem dX5_needs_15 : decode cX5_needs 15 = .ok (.ifCond .ne 5, 3) := by decide +kernel
theorem dX5_needs_18 : decode cX5_needs 18 = .ok (.iconst (-1), 1) := by decide +kernel
theorem dX5_needs_19 : decode cX5_needs 19 = .ok (.ireturn, 1) := by decide +kernel
theorem dX5_needs_20 : decode cX5_needs 20 = .ok (.aload_n 0, 1) := by decide +kernel
theorem dX5_needs_21 : decode cX5_needs 21 = .ok (.getfield 7, 3) := by decide +kernel
theorem dX5_needs_24 : decode cX5_needs 24 = .ok (.iload_n 1, 1) := by decide +kernel
theorem dX5_needs_25 : decode cX5_needs 25 = .ok (.invokestatic 53, 3) := by decide +kernel
theorem dX5_needs_28 : decode cX5_needs 28 = .ok (.ifCond .eq 6, 3) := by decide +kernel
theorem dX5_needs_31 : decode cX5_needs 31 = .ok (.bipush (-2), 2) := by decide +kernel
theorem dX5_needs_33 : decode cX5_needs 33 = .ok (.ireturn, 1) := by decide +kernel
theorem dX5_needs_34 : decode cX5_needs 34 = .ok (.iconst 0, 1) := by decide +kernel
theorem dX5_needs_35 : decode cX5_needs 35 = .ok (.istore_n 3, 1) := by decide +kernel
theorem dX5_needs_36 : decode cX5_needs 36 = .ok (.iload_n 3, 1) := by decide +kernel
theorem dX5_needs_37 : decode cX5_needs 37 = .ok (.bipush 19, 2) := by decide +kernel
theorem dX5_needs_39 : decode cX5_needs 39 = .ok (.if_icmp .gt 40, 3) := by decide +kernel
theorem dX5_needs_42 : decode cX5_needs 42 = .ok (.aload_n 0, 1) := by decide +kernel
theorem dX5_needs_43 : decode cX5_needs 43 = .ok (.invokevirtual 142, 3) := by decide +kernel
theorem dX5_needs_46 : decode cX5_needs 46 = .ok (.aload_n 0, 1) := by decide +kernel
theorem dX5_needs_47 : decode cX5_needs 47 = .ok (.getfield 13, 3) := by decide +kernel
theorem dX5_needs_50 : decode cX5_needs 50 = .ok (.iload_n 1, 1) := by decide +kernel
theorem dX5_needs_51 : decode cX5_needs 51 = .ok (.iload_n 3, 1) := by decide +kernel
theorem dX5_needs_52 : decode cX5_needs 52 = .ok (.invokestatic 124, 3) := by decide +kernel
theorem dX5_needs_55 : decode cX5_needs 55 = .ok (.aload_n 0, 1) := by decide +kernel
theorem dX5_needs_56 : decode cX5_needs 56 = .ok (.iload_n 2, 1) := by decide +kernel
theorem dX5_needs_57 : decode cX5_needs 57 = .ok (.invokevirtual 145, 3) := by decide +kernel
theorem dX5_needs_60 : decode cX5_needs 60 = .ok (.aload_n 0, 1) := by decide +kernel
theorem dX5_needs_61 : decode cX5_needs 61 = .ok (.getfield 13, 3) := by decide +kernel
theorem dX5_needs_64 : decode cX5_needs 64 = .ok (.iload_n 1, 1) := by decide +kernel
theorem dX5_needs_65 : decode cX5_needs 65 = .ok (.invokestatic 53, 3) := by decide +kernel
theorem dX5_needs_68 : decode cX5_needs 68 = .ok (.ifCond .ne 5, 3) := by decide +kernel
theorem dX5_needs_71 : decode cX5_needs 71 = .ok (.iload_n 3, 1) := by decide +kernel
theorem dX5_needs_72 : decode cX5_needs 72 = .ok (.ireturn, 1) := by decide +kernel
theorem dX5_needs_73 : decode cX5_needs 73 = .ok (.iinc 3 1, 3) := by decide +kernel
theorem dX5_needs_76 : decode cX5_needs 76 = .ok (.goto (-40), 3) := by decide +kernel
theorem dX5_needs_79 : decode cX5_needs 79 = .ok (.bipush (-4), 2) := by decide +kernel
theorem dX5_needs_81 : decode cX5_needs 81 = .ok (.ireturn, 1) := by decide +kernel
theorem dX5_soothe_0 : decode cX5_soothe 0 = .ok (.iload_n 1, 1) := by decide +kernel
theorem dX5_soothe_1 : decode cX5_soothe 1 = .ok (.iconst 1, 1) := by decide +kernel
theorem dX5_soothe_2 : decode cX5_soothe 2 = .ok (.bipush 40, 2) := by decide +kernel
theorem dX5_soothe_4 : decode cX5_soothe 4 = .ok (.invokestatic 45, 3) := by decide +kernel
theorem dX5_soothe_7 : decode cX5_soothe 7 = .ok (.ifCond .eq 12, 3) := by decide +kernel
theorem dX5_soothe_10 : decode cX5_soothe 10 = .ok (.iload_n 2, 1) := by decide +kernel
theorem dX5_soothe_11 : decode cX5_soothe 11 = .ok (.iconst 0, 1) := by decide +kernel
theorem dX5_soothe_12 : decode cX5_soothe 12 = .ok (.iconst 1, 1) := by decide +kernel
theorem dX5_soothe_13 : decode cX5_soothe 13 = .ok (.invokestatic 45, 3) := by decide +kernel
theorem dX5_soothe_16 : decode cX5_soothe 16 = .ok (.ifCond .ne 5, 3) := by decide +kernel
theorem dX5_soothe_19 : decode cX5_soothe 19 = .ok (.iconst (-1), 1) := by decide +kernel
theorem dX5_soothe_20 : decode cX5_soothe 20 = .ok (.ireturn, 1) := by decide +kernel
theorem dX5_soothe_21 : decode cX5_soothe 21 = .ok (.bipush (-4), 2) := by decide +kernel
theorem dX5_soothe_23 : decode cX5_soothe 23 = .ok (.istore_n 3, 1) := by decide +kernel
theorem dX5_soothe_24 : decode cX5_soothe 24 = .ok (.bipush (-4), 2) := by decide +kernel
theorem dX5_soothe_26 : decode cX5_soothe 26 = .ok (.istore 4, 2) := by decide +kernel
theorem dX5_soothe_28 : decode cX5_soothe 28 = .ok (.iconst 0, 1) := by decide +kernel
theorem dX5_soothe_29 : decode cX5_soothe 29 = .ok (.istore 5, 2) := by decide +kernel
theorem dX5_soothe_31 : decode cX5_soothe 31 = .ok (.iload 5, 2) := by decide +kernel
theorem dX5_soothe_33 : decode cX5_soothe 33 = .ok (.aload_n 0, 1) := by decide +kernel
theorem dX5_soothe_34 : decode cX5_soothe 34 = .ok (.getfield 7, 3) := by decide +kernel
theorem dX5_soothe_37 : decode cX5_soothe 37 = .ok (.iconst 0, 1) := by decide +kernel
theorem dX5_soothe_38 : decode cX5_soothe 38 = .ok (.iaload, 1) := by decide +kernel
theorem dX5_soothe_39 : decode cX5_soothe 39 = .ok (.if_icmp .ge 66, 3) := by decide +kernel
theorem dX5_soothe_42 : decode cX5_soothe 42 = .ok (.aload_n 0, 1) := by decide +kernel
theorem dX5_soothe_43 : decode cX5_soothe 43 = .ok (.getfield 7, 3) := by decide +kernel
theorem dX5_soothe_46 : decode cX5_soothe 46 = .ok (.iload 5, 2) := by decide +kernel
theorem dX5_soothe_48 : decode cX5_soothe 48 = .ok (.invokestatic 53, 3) := by decide +kernel
theorem dX5_soothe_51 : decode cX5_soothe 51 = .ok (.ifCond .ne 48, 3) := by decide +kernel
theorem dX5_soothe_54 : decode cX5_soothe 54 = .ok (.aload_n 0, 1) := by decide +kernel
theorem dX5_soothe_55 : decode cX5_soothe 55 = .ok (.invokevirtual 142, 3) := by decide +kernel
theorem dX5_soothe_58 : decode cX5_soothe 58 = .ok (.aload_n 0, 1) := by decide +kernel
theorem dX5_soothe_59 : decode cX5_soothe 59 = .ok (.getfield 13, 3) := by decide +kernel
theorem dX5_soothe_62 : decode cX5_soothe 62 = .ok (.iload 5, 2) := by decide +kernel
theorem dX5_soothe_64 : decode cX5_soothe 64 = .ok (.iconst 5, 1) := by decide +kernel
theorem dX5_soothe_65 : decode cX5_soothe 65 = .ok (.invokestatic 124, 3) := by decide +kernel
theorem dX5_soothe_68 : decode cX5_soothe 68 = .ok (.aload_n 0, 1) := by decide +kernel
theorem dX5_soothe_69 : decode cX5_soothe 69 = .ok (.iload_n 1, 1) := by decide +kernel
theorem dX5_soothe_70 : decode cX5_soothe 70 = .ok (.invokevirtual 145, 3) := by decide +kernel
theorem dX5_soothe_73 : decode cX5_soothe 73 = .ok (.aload_n 0, 1) := by decide +kernel
theorem dX5_soothe_74 : decode cX5_soothe 74 = .ok (.getfield 13, 3) := by decide +kernel
theorem dX5_soothe_77 : decode cX5_soothe 77 = .ok (.invokestatic 114, 3) := by decide +kernel
theorem dX5_soothe_80 : decode cX5_soothe 80 = .ok (.invokestatic 148, 3) := by decide +kernel
theorem dX5_soothe_83 : decode cX5_soothe 83 = .ok (.istore 6, 2) := by decide +kernel
theorem dX5_soothe_85 : decode cX5_soothe 85 = .ok (.iload 6, 2) := by decide +kernel
theorem dX5_soothe_87 : decode cX5_soothe 87 = .ok (.iload 4, 2) := by decide +kernel
theorem dX5_soothe_89 : decode cX5_soothe 89 = .ok (.if_icmp .le 10, 3) := by decide +kernel
theorem dX5_soothe_92 : decode cX5_soothe 92 = .ok (.iload 5, 2) := by decide +kernel
theorem dX5_soothe_94 : decode cX5_soothe 94 = .ok (.istore_n 3, 1) := by decide +kernel
theorem dX5_soothe_95 : decode cX5_soothe 95 = .ok (.iload 6, 2) := by decide +kernel
theorem dX5_soothe_97 : decode cX5_soothe 97 = .ok (.istore 4, 2) := by decide +kernel
theorem dX5_soothe_99 : decode cX5_soothe 99 = .ok (.iinc 5 1, 3) := by decide +kernel
theorem dX5_soothe_102 : decode cX5_soothe 102 = .ok (.goto (-71), 3) := by decide +kernel
theorem dX5_soothe_105 : decode cX5_soothe 105 = .ok (.iload_n 2, 1) := by decide +kernel
theorem dX5_soothe_106 : decode cX5_soothe 106 = .ok (.ifCond .ne 7, 3) := by decide +kernel
theorem dX5_soothe_109 : decode cX5_soothe 109 = .ok (.iload_n 3, 1) := by decide +kernel
theorem dX5_soothe_110 : decode cX5_soothe 110 = .ok (.goto 5, 3) := by decide +kernel
theorem dX5_soothe_113 : decode cX5_soothe 113 = .ok (.iload 4, 2) := by decide +kernel
theorem dX5_soothe_115 : decode cX5_soothe 115 = .ok (.ireturn, 1) := by decide +kernel
theorem dX5_start_0 : decode cX5_start 0 = .ok (.iload_n 1, 1) := by decide +kernel
theorem dX5_start_1 : decode cX5_start 1 = .ok (.iconst 0, 1) := by decide +kernel
theorem dX5_start_2 : decode cX5_start 2 = .ok (.bipush 60, 2) := by decide +kernel
theorem dX5_start_4 : decode cX5_start 4 = .ok (.invokestatic 45, 3) := by decide +kernel
theorem dX5_start_7 : decode cX5_start 7 = .ok (.ifCond .ne 5, 3) := by decide +kernel
theorem dX5_start_10 : decode cX5_start 10 = .ok (.iconst (-1), 1) := by decide +kernel
theorem dX5_start_11 : decode cX5_start 11 = .ok (.ireturn, 1) := by decide +kernel
theorem dX5_start_12 : decode cX5_start 12 = .ok (.iconst 0, 1) := by decide +kernel
theorem dX5_start_13 : decode cX5_start 13 = .ok (.istore_n 2, 1) := by decide +kernel
theorem dX5_start_14 : decode cX5_start 14 = .ok (.iload_n 2, 1) := by decide +kernel
theorem dX5_start_15 : decode cX5_start 15 = .ok (.aload_n 0, 1) := by decide +kernel
theorem dX5_start_16 : decode cX5_start 16 = .ok (.getfield 7, 3) := by decide +kernel
theorem dX5_start_19 : decode cX5_start 19 = .ok (.iconst 0, 1) := by decide +kernel
theorem dX5_start_20 : decode cX5_start 20 = .ok (.iaload, 1) := by decide +kernel
theorem dX5_start_21 : decode cX5_start 21 = .ok (.if_icmp .ge 50, 3) := by decide +kernel
theorem dX5_start_24 : decode cX5_start 24 = .ok (.aload_n 0, 1) := by decide +kernel
theorem dX5_start_25 : decode cX5_start 25 = .ok (.getfield 7, 3) := by decide +kernel
theorem dX5_start_28 : decode cX5_start 28 = .ok (.iload_n 2, 1) := by decide +kernel
theorem dX5_start_29 : decode cX5_start 29 = .ok (.invokestatic 53, 3) := by decide +kernel
theorem dX5_start_32 : decode cX5_start 32 = .ok (.ifCond .eq 33, 3) := by decide +kernel
theorem dX5_start_35 : decode cX5_start 35 = .ok (.aload_n 0, 1) := by decide +kernel
theorem dX5_start_36 : decode cX5_start 36 = .ok (.invokevirtual 142, 3) := by decide +kernel
theorem dX5_start_39 : decode cX5_start 39 = .ok (.aload_n 0, 1) := by decide +kernel
theorem dX5_start_40 : decode cX5_start 40 = .ok (.getfield 13, 3) := by decide +kernel
theorem dX5_start_43 : decode cX5_start 43 = .ok (.iload_n 2, 1) := by decide +kernel
theorem dX5_start_44 : decode cX5_start 44 = .ok (.invokestatic 131, 3) := by decide +kernel
theorem dX5_start_47 : decode cX5_start 47 = .ok (.aload_n 0, 1) := by decide +kernel
theorem dX5_start_48 : decode cX5_start 48 = .ok (.iload_n 1, 1) := by decide +kernel
theorem dX5_start_49 : decode cX5_start 49 = .ok (.invokevirtual 145, 3) := by decide +kernel
theorem dX5_start_52 : decode cX5_start 52 = .ok (.aload_n 0, 1) := by decide +kernel
theorem dX5_start_53 : decode cX5_start 53 = .ok (.getfield 13, 3) := by decide +kernel
theorem dX5_start_56 : decode cX5_start 56 = .ok (.invokestatic 61, 3) := by decide +kernel
theorem dX5_start_59 : decode cX5_start 59 = .ok (.iload_n 2, 1) := by decide +kernel
theorem dX5_start_60 : decode cX5_start 60 = .ok (.if_icmp .ne 5, 3) := by decide +kernel
theorem dX5_start_63 : decode cX5_start 63 = .ok (.iload_n 2, 1) := by decide +kernel
theorem dX5_start_64 : decode cX5_start 64 = .ok (.ireturn, 1) := by decide +kernel
theorem dX5_start_65 : decode cX5_start 65 = .ok (.iinc 2 1, 3) := by decide +kernel
theorem dX5_start_68 : decode cX5_start 68 = .ok (.goto (-54), 3) := by decide +kernel
theorem dX5_start_71 : decode cX5_start 71 = .ok (.bipush (-4), 2) := by decide +kernel
theorem dX5_start_73 : decode cX5_start 73 = .ok (.ireturn, 1) := by decide +kernel
theorem dX5_sum_0 : decode cX5_sum 0 = .ok (.iload_n 1, 1) := by decide +kernel
theorem dX5_sum_1 : decode cX5_sum 1 = .ok (.iconst 1, 1) := by decide +kernel
theorem dX5_sum_2 : decode cX5_sum 2 = .ok (.bipush 40, 2) := by decide +kernel
theorem dX5_sum_4 : decode cX5_sum 4 = .ok (.invokestatic 45, 3) := by decide +kernel
theorem dX5_sum_7 : decode cX5_sum 7 = .ok (.ifCond .ne 5, 3) := by decide +kernel
theorem dX5_sum_10 : decode cX5_sum 10 = .ok (.iconst (-1), 1) := by decide +kernel
theorem dX5_sum_11 : decode cX5_sum 11 = .ok (.ireturn, 1) := by decide +kernel
theorem dX5_sum_12 : decode cX5_sum 12 = .ok (.aload_n 0, 1) := by decide +kernel
theorem dX5_sum_13 : decode cX5_sum 13 = .ok (.invokevirtual 142, 3) := by decide +kernel
theorem dX5_sum_16 : decode cX5_sum 16 = .ok (.iconst 0, 1) := by decide +kernel
theorem dX5_sum_17 : decode cX5_sum 17 = .ok (.istore_n 2, 1) := by decide +kernel
theorem dX5_sum_18 : decode cX5_sum 18 = .ok (.iconst 0, 1) := by decide +kernel
theorem dX5_sum_19 : decode cX5_sum 19 = .ok (.istore_n 3, 1) := by decide +kernel
theorem dX5_sum_20 : decode cX5_sum 20 = .ok (.iload_n 3, 1) := by decide +kernel
theorem dX5_sum_21 : decode cX5_sum 21 = .ok (.iload_n 1, 1) := by decide +kernel
theorem dX5_sum_22 : decode cX5_sum 22 = .ok (.if_icmp .ge 50, 3) := by decide +kernel
theorem dX5_sum_25 : decode cX5_sum 25 = .ok (.aload_n 0, 1) := by decide +kernel
theorem dX5_sum_26 : decode cX5_sum 26 = .ok (.getfield 13, 3) := by decide +kernel
theorem dX5_sum_29 : decode cX5_sum 29 = .ok (.invokestatic 61, 3) := by decide +kernel
theorem dX5_sum_32 : decode cX5_sum 32 = .ok (.istore 4, 2) := by decide +kernel
theorem dX5_sum_34 : decode cX5_sum 34 = .ok (.iload_n 2, 1) := by decide +kernel
theorem dX5_sum_35 : decode cX5_sum 35 = .ok (.iload 4, 2) := by decide +kernel
theorem dX5_sum_37 : decode cX5_sum 37 = .ok (.bipush (-4), 2) := by decide +kernel
theorem dX5_sum_39 : decode cX5_sum 39 = .ok (.if_icmp .ne 7, 3) := by decide +kernel
theorem dX5_sum_42 : decode cX5_sum 42 = .ok (.iconst 0, 1) := by decide +kernel
theorem dX5_sum_43 : decode cX5_sum 43 = .ok (.goto 13, 3) := by decide +kernel
theorem dX5_sum_46 : decode cX5_sum 46 = .ok (.aload_n 0, 1) := by decide +kernel
theorem dX5_sum_47 : decode cX5_sum 47 = .ok (.getfield 13, 3) := by decide +kernel
theorem dX5_sum_50 : decode cX5_sum 50 = .ok (.bipush 25, 2) := by decide +kernel
theorem dX5_sum_52 : decode cX5_sum 52 = .ok (.iload 4, 2) := by decide +kernel
theorem dX5_sum_54 : decode cX5_sum 54 = .ok (.iadd, 1) := by decide +kernel
theorem dX5_sum_55 : decode cX5_sum 55 = .ok (.iaload, 1) := by decide +kernel
theorem dX5_sum_56 : decode cX5_sum 56 = .ok (.iadd, 1) := by decide +kernel
theorem dX5_sum_57 : decode cX5_sum 57 = .ok (.istore_n 2, 1) := by decide +kernel
theorem dX5_sum_58 : decode cX5_sum 58 = .ok (.aload_n 0, 1) := by decide +kernel
theorem dX5_sum_59 : decode cX5_sum 59 = .ok (.aload_n 0, 1) := by decide +kernel
theorem dX5_sum_60 : decode cX5_sum 60 = .ok (.getfield 13, 3) := by decide +kernel
theorem dX5_sum_63 : decode cX5_sum 63 = .ok (.invokevirtual 120, 3) := by decide +kernel
theorem dX5_sum_66 : decode cX5_sum 66 = .ok (.iinc 3 1, 3) := by decide +kernel
theorem dX5_sum_69 : decode cX5_sum 69 = .ok (.goto (-49), 3) := by decide +kernel
theorem dX5_sum_72 : decode cX5_sum 72 = .ok (.iload_n 2, 1) := by decide +kernel
theorem dX5_sum_73 : decode cX5_sum 73 = .ok (.ireturn, 1) := by decide +kernel
theorem dX5_rows_0 : decode cX5_rows 0 = .ok (.iload_n 1, 1) := by decide +kernel
theorem dX5_rows_1 : decode cX5_rows 1 = .ok (.iconst (-1), 1) := by decide +kernel
theorem dX5_rows_2 : decode cX5_rows 2 = .ok (.if_icmp .eq 11, 3) := by decide +kernel
theorem dX5_rows_5 : decode cX5_rows 5 = .ok (.aload_n 0, 1) := by decide +kernel
theorem dX5_rows_6 : decode cX5_rows 6 = .ok (.iload_n 1, 1) := by decide +kernel
theorem dX5_rows_7 : decode cX5_rows 7 = .ok (.invokevirtual 79, 3) := by decide +kernel
theorem dX5_rows_10 : decode cX5_rows 10 = .ok (.ifCond .eq 22, 3) := by decide +kernel
theorem dX5_rows_13 : decode cX5_rows 13 = .ok (.iload_n 2, 1) := by decide +kernel
theorem dX5_rows_14 : decode cX5_rows 14 = .ok (.iconst 0, 1) := by decide +kernel
theorem dX5_rows_15 : decode cX5_rows 15 = .ok (.bipush 10, 2) := by decide +kernel
theorem dX5_rows_17 : decode cX5_rows 17 = .ok (.invokestatic 45, 3) := by decide +kernel
theorem dX5_rows_20 : decode cX5_rows 20 = .ok (.ifCond .eq 12, 3) := by decide +kernel
theorem dX5_rows_23 : decode cX5_rows 23 = .ok (.iload_n 3, 1) := by decide +kernel
theorem dX5_rows_24 : decode cX5_rows 24 = .ok (.iconst 0, 1) := by decide +kernel
theorem dX5_rows_25 : decode cX5_rows 25 = .ok (.iconst 1, 1) := by decide +kernel
theorem dX5_rows_26 : decode cX5_rows 26 = .ok (.invokestatic 45, 3) := by decide +kernel
theorem dX5_rows_29 : decode cX5_rows 29 = .ok (.ifCond .ne 5, 3) := by decide +kernel
theorem dX5_rows_32 : decode cX5_rows 32 = .ok (.iconst (-1), 1) := by decide +kernel
theorem dX5_rows_33 : decode cX5_rows 33 = .ok (.ireturn, 1) := by decide +kernel
theorem dX5_rows_34 : decode cX5_rows 34 = .ok (.aload_n 0, 1) := by decide +kernel
theorem dX5_rows_35 : decode cX5_rows 35 = .ok (.getfield 7, 3) := by decide +kernel
theorem dX5_rows_38 : decode cX5_rows 38 = .ok (.invokestatic 114, 3) := by decide +kernel
theorem dX5_rows_41 : decode cX5_rows 41 = .ok (.istore 4, 2) := by decide +kernel
theorem dX5_rows_43 : decode cX5_rows 43 = .ok (.iconst 0, 1) := by decide +kernel
theorem dX5_rows_44 : decode cX5_rows 44 = .ok (.istore 5, 2) := by decide +kernel
theorem dX5_rows_46 : decode cX5_rows 46 = .ok (.iconst 1, 1) := by decide +kernel
theorem dX5_rows_47 : decode cX5_rows 47 = .ok (.istore 6, 2) := by decide +kernel
theorem dX5_rows_49 : decode cX5_rows 49 = .ok (.iconst 0, 1) := by decide +kernel
theorem dX5_rows_50 : decode cX5_rows 50 = .ok (.istore 7, 2) := by decide +kernel
theorem dX5_rows_52 : decode cX5_rows 52 = .ok (.iload 7, 2) := by decide +kernel
theorem dX5_rows_54 : decode cX5_rows 54 = .ok (.iload 4, 2) := by decide +kernel
theorem dX5_rows_56 : decode cX5_rows 56 = .ok (.if_icmp .gt 145, 3) := by decide +kernel
theorem dX5_rows_59 : decode cX5_rows 59 = .ok (.iload 7, 2) := by decide +kernel
theorem dX5_rows_61 : decode cX5_rows 61 = .ok (.iload 4, 2) := by decide +kernel
theorem dX5_rows_63 : decode cX5_rows 63 = .ok (.iconst (-1), 1) := by decide +kernel
theorem dX5_rows_64 : decode cX5_rows 64 = .ok (.ixor, 1) := by decide +kernel
theorem dX5_rows_65 : decode cX5_rows 65 = .ok (.iand, 1) := by decide +kernel
theorem dX5_rows_66 : decode cX5_rows 66 = .ok (.ifCond .ne 7, 3) := by decide +kernel
theorem dX5_rows_69 : decode cX5_rows 69 = .ok (.iconst 1, 1) := by decide +kernel
theorem dX5_rows_70 : decode cX5_rows 70 = .ok (.goto 4, 3) := by decide +kernel
theorem dX5_rows_73 : decode cX5_rows 73 = .ok (.iconst 0, 1) := by decide +kernel
theorem dX5_rows_74 : decode cX5_rows 74 = .ok (.istore 8, 2) := by decide +kernel
theorem dX5_rows_76 : decode cX5_rows 76 = .ok (.aload_n 0, 1) := by decide +kernel
theorem dX5_rows_77 : decode cX5_rows 77 = .ok (.invokevirtual 142, 3) := by decide +kernel
theorem dX5_rows_80 : decode cX5_rows 80 = .ok (.iconst 0, 1) := by decide +kernel
theorem dX5_rows_81 : decode cX5_rows 81 = .ok (.istore 9, 2) := by decide +kernel
theorem dX5_rows_83 : decode cX5_rows 83 = .ok (.iload 9, 2) := by decide +kernel
theorem dX5_rows_85 : decode cX5_rows 85 = .ok (.aload_n 0, 1) := by decide +kernel
theorem dX5_rows_86 : decode cX5_rows 86 = .ok (.getfield 7, 3) := by decide +kernel
theorem dX5_rows_89 : decode cX5_rows 89 = .ok (.iconst 0, 1) := by decide +kernel
theorem dX5_rows_90 : decode cX5_rows 90 = .ok (.iaload, 1) := by decide +kernel
theorem dX5_rows_91 : decode cX5_rows 91 = .ok (.if_icmp .ge 72, 3) := by decide +kernel
theorem dX5_rows_94 : decode cX5_rows 94 = .ok (.iload 8, 2) := by decide +kernel
theorem dX5_rows_96 : decode cX5_rows 96 = .ok (.ifCond .le 67, 3) := by decide +kernel
theorem dX5_rows_99 : decode cX5_rows 99 = .ok (.iload 4, 2) := by decide +kernel
theorem dX5_rows_101 : decode cX5_rows 101 = .ok (.iload 9, 2) := by decide +kernel
theorem dX5_rows_103 : decode cX5_rows 103 = .ok (.invokestatic 49, 3) := by decide +kernel
theorem dX5_rows_106 : decode cX5_rows 106 = .ok (.ifCond .eq 51, 3) := by decide +kernel
theorem dX5_rows_109 : decode cX5_rows 109 = .ok (.iload 8, 2) := by decide +kernel
theorem dX5_rows_111 : decode cX5_rows 111 = .ok (.iload 7, 2) := by decide +kernel
theorem dX5_rows_113 : decode cX5_rows 113 = .ok (.iload 9, 2) := by decide +kernel
theorem dX5_rows_115 : decode cX5_rows 115 = .ok (.invokestatic 49, 3) := by decide +kernel
theorem dX5_rows_118 : decode cX5_rows 118 = .ok (.ifCond .eq 7, 3) := by decide +kernel
theorem dX5_rows_121 : decode cX5_rows 121 = .ok (.iload_n 2, 1) := by decide +kernel
theorem dX5_rows_122 : decode cX5_rows 122 = .ok (.goto 7, 3) := by decide +kernel
theorem dX5_rows_125 : decode cX5_rows 125 = .ok (.bipush 10, 2) := by decide +kernel
theorem dX5_rows_127 : decode cX5_rows 127 = .ok (.iload_n 2, 1) := by decide +kernel
theorem dX5_rows_128 : decode cX5_rows 128 = .ok (.isub, 1) := by decide +kernel
theorem dX5_rows_129 : decode cX5_rows 129 = .ok (.imul, 1) := by decide +kernel
theorem dX5_rows_130 : decode cX5_rows 130 = .ok (.istore 8, 2) := by decide +kernel
theorem dX5_rows_132 : decode cX5_rows 132 = .ok (.aload_n 0, 1) := by decide +kernel
theorem dX5_rows_133 : decode cX5_rows 133 = .ok (.getfield 13, 3) := by decide +kernel
theorem dX5_rows_136 : decode cX5_rows 136 = .ok (.iload 9, 2) := by decide +kernel
theorem dX5_rows_138 : decode cX5_rows 138 = .ok (.iload 7, 2) := by decide +kernel
theorem dX5_rows_140 : decode cX5_rows 140 = .ok (.iload 9, 2) := by decide +kernel
theorem dX5_rows_142 : decode cX5_rows 142 = .ok (.invokestatic 49, 3) := by decide +kernel
theorem dX5_rows_145 : decode cX5_rows 145 = .ok (.ifCond .eq 8, 3) := by decide +kernel
theorem dX5_rows_148 : decode cX5_rows 148 = .ok (.bipush 10, 2) := by decide +kernel
theorem dX5_rows_150 : decode cX5_rows 150 = .ok (.goto 4, 3) := by decide +kernel
theorem dX5_rows_153 : decode cX5_rows 153 = .ok (.iconst 0, 1) := by decide +kernel
theorem dX5_rows_154 : decode cX5_rows 154 = .ok (.invokestatic 128, 3) := by decide +kernel
theorem dX5_rows_157 : decode cX5_rows 157 = .ok (.iinc 9 1, 3) := by decide +kernel
theorem dX5_rows_160 : decode cX5_rows 160 = .ok (.goto (-77), 3) := by decide +kernel
theorem dX5_rows_163 : decode cX5_rows 163 = .ok (.iload 5, 2) := by decide +kernel
theorem dX5_rows_165 : decode cX5_rows 165 = .ok (.aload_n 0, 1) := by decide +kernel
theorem dX5_rows_166 : decode cX5_rows 166 = .ok (.getfield 13, 3) := by decide +kernel
theorem dX5_rows_169 : decode cX5_rows 169 = .ok (.invokestatic 61, 3) := by decide +kernel
theorem dX5_rows_172 : decode cX5_rows 172 = .ok (.iload_n 1, 1) := by decide +kernel
theorem dX5_rows_173 : decode cX5_rows 173 = .ok (.iconst (-1), 1) := by decide +kernel
theorem dX5_rows_174 : decode cX5_rows 174 = .ok (.if_icmp .ne 8, 3) := by decide +kernel
theorem dX5_rows_177 : decode cX5_rows 177 = .ok (.bipush (-4), 2) := by decide +kernel
theorem dX5_rows_179 : decode cX5_rows 179 = .ok (.goto 4, 3) := by decide +kernel
theorem dX5_rows_182 : decode cX5_rows 182 = .ok (.iload_n 1, 1) := by decide +kernel
theorem dX5_rows_183 : decode cX5_rows 183 = .ok (.if_icmp .ne 8, 3) := by decide +kernel
theorem dX5_rows_186 : decode cX5_rows 186 = .ok (.iload 8, 2) := by decide +kernel
theorem dX5_rows_188 : decode cX5_rows 188 = .ok (.goto 4, 3) := by decide +kernel
theorem dX5_rows_191 : decode cX5_rows 191 = .ok (.iconst 0, 1) := by decide +kernel
theorem dX5_rows_192 : decode cX5_rows 192 = .ok (.iadd, 1) := by decide +kernel
theorem dX5_rows_193 : decode cX5_rows 193 = .ok (.istore 5, 2) := by decide +kernel
theorem dX5_rows_195 : decode cX5_rows 195 = .ok (.iinc 7 1, 3) := by decide +kernel
theorem dX5_rows_198 : decode cX5_rows 198 = .ok (.goto (-146), 3) := by decide +kernel
theorem dX5_rows_201 : decode cX5_rows 201 = .ok (.iconst 0, 1) := by decide +kernel
theorem dX5_rows_202 : decode cX5_rows 202 = .ok (.istore 7, 2) := by decide +kernel
theorem dX5_rows_204 : decode cX5_rows 204 = .ok (.iload 7, 2) := by decide +kernel
theorem dX5_rows_206 : decode cX5_rows 206 = .ok (.aload_n 0, 1) := by decide +kernel
theorem dX5_rows_207 : decode cX5_rows 207 = .ok (.getfield 7, 3) := by decide +kernel
theorem dX5_rows_210 : decode cX5_rows 210 = .ok (.iconst 0, 1) := by decide +kernel
theorem dX5_rows_211 : decode cX5_rows 211 = .ok (.iaload, 1) := by decide +kernel
theorem dX5_rows_212 : decode cX5_rows 212 = .ok (.if_icmp .ge 30, 3) := by decide +kernel
theorem dX5_rows_215 : decode cX5_rows 215 = .ok (.iload 6, 2) := by decide +kernel
theorem dX5_rows_217 : decode cX5_rows 217 = .ok (.iload 4, 2) := by decide +kernel
theorem dX5_rows_219 : decode cX5_rows 219 = .ok (.iload 7, 2) := by decide +kernel
theorem dX5_rows_221 : decode cX5_rows 221 = .ok (.invokestatic 49, 3) := by decide +kernel
theorem dX5_rows_224 : decode cX5_rows 224 = .ok (.ifCond .eq 8, 3) := by decide +kernel
theorem dX5_rows_227 : decode cX5_rows 227 = .ok (.bipush 10, 2) := by decide +kernel
theorem dX5_rows_229 : decode cX5_rows 229 = .ok (.goto 4, 3) := by decide +kernel
theorem dX5_rows_232 : decode cX5_rows 232 = .ok (.iconst 1, 1) := by decide +kernel
theorem dX5_rows_233 : decode cX5_rows 233 = .ok (.imul, 1) := by decide +kernel
theorem dX5_rows_234 : decode cX5_rows 234 = .ok (.istore 6, 2) := by decide +kernel
theorem dX5_rows_236 : decode cX5_rows 236 = .ok (.iinc 7 1, 3) := by decide +kernel
theorem dX5_rows_239 : decode cX5_rows 239 = .ok (.goto (-35), 3) := by decide +kernel
theorem dX5_rows_242 : decode cX5_rows 242 = .ok (.iload 5, 2) := by decide +kernel
theorem dX5_rows_244 : decode cX5_rows 244 = .ok (.istore 7, 2) := by decide +kernel
theorem dX5_rows_246 : decode cX5_rows 246 = .ok (.iload 6, 2) := by decide +kernel
theorem dX5_rows_248 : decode cX5_rows 248 = .ok (.istore 8, 2) := by decide +kernel
theorem dX5_rows_250 : decode cX5_rows 250 = .ok (.iload 8, 2) := by decide +kernel
theorem dX5_rows_252 : decode cX5_rows 252 = .ok (.ifCond .eq 21, 3) := by decide +kernel
theorem dX5_rows_255 : decode cX5_rows 255 = .ok (.iload 7, 2) := by decide +kernel
theorem dX5_rows_257 : decode cX5_rows 257 = .ok (.iload 8, 2) := by decide +kernel
theorem dX5_rows_259 : decode cX5_rows 259 = .ok (.irem, 1) := by decide +kernel
theorem dX5_rows_260 : decode cX5_rows 260 = .ok (.istore 9, 2) := by decide +kernel
theorem dX5_rows_262 : decode cX5_rows 262 = .ok (.iload 8, 2) := by decide +kernel
theorem dX5_rows_264 : decode cX5_rows 264 = .ok (.istore 7, 2) := by decide +kernel
theorem dX5_rows_266 : decode cX5_rows 266 = .ok (.iload 9, 2) := by decide +kernel
theorem dX5_rows_268 : decode cX5_rows 268 = .ok (.istore 8, 2) := by decide +kernel
theorem dX5_rows_270 : decode cX5_rows 270 = .ok (.goto (-20), 3) := by decide +kernel
theorem dX5_rows_273 : decode cX5_rows 273 = .ok (.iload_n 3, 1) := by decide +kernel
theorem dX5_rows_274 : decode cX5_rows 274 = .ok (.ifCond .ne 11, 3) := by decide +kernel
theorem dX5_rows_277 : decode cX5_rows 277 = .ok (.iload 5, 2) := by decide +kernel
theorem dX5_rows_279 : decode cX5_rows 279 = .ok (.iload 7, 2) := by decide +kernel
theorem dX5_rows_281 : decode cX5_rows 281 = .ok (.idiv, 1) := by decide +kernel
theorem dX5_rows_282 : decode cX5_rows 282 = .ok (.goto 8, 3) := by decide +kernel
theorem dX5_rows_285 : decode cX5_rows 285 = .ok (.iload 6, 2) := by decide +kernel
theorem dX5_rows_287 : decode cX5_rows 287 = .ok (.iload 7, 2) := by decide +kernel
theorem dX5_rows_289 : decode cX5_rows 289 = .ok (.idiv, 1) := by decide +kernel
theorem dX5_rows_290 : decode cX5_rows 290 = .ok (.ireturn, 1) := by decide +kernel
theorem dX5_image_0 : decode cX5_image 0 = .ok (.iconst 0, 1) := by decide +kernel
theorem dX5_image_1 : decode cX5_image 1 = .ok (.istore_n 1, 1) := by decide +kernel
theorem dX5_image_2 : decode cX5_image 2 = .ok (.iload_n 1, 1) := by decide +kernel
theorem dX5_image_3 : decode cX5_image 3 = .ok (.bipush 32, 2) := by decide +kernel
theorem dX5_image_5 : decode cX5_image 5 = .ok (.if_icmp .ge 21, 3) := by decide +kernel
theorem dX5_image_8 : decode cX5_image 8 = .ok (.aload_n 0, 1) := by decide +kernel
theorem dX5_image_9 : decode cX5_image 9 = .ok (.getfield 19, 3) := by decide +kernel
theorem dX5_image_12 : decode cX5_image 12 = .ok (.iload_n 1, 1) := by decide +kernel
theorem dX5_image_13 : decode cX5_image 13 = .ok (.aload_n 0, 1) := by decide +kernel
theorem dX5_image_14 : decode cX5_image 14 = .ok (.getfield 7, 3) := by decide +kernel
theorem dX5_image_17 : decode cX5_image 17 = .ok (.iload_n 1, 1) := by decide +kernel
theorem dX5_image_18 : decode cX5_image 18 = .ok (.iaload, 1) := by decide +kernel
theorem dX5_image_19 : decode cX5_image 19 = .ok (.iastore, 1) := by decide +kernel
theorem dX5_image_20 : decode cX5_image 20 = .ok (.iinc 1 1, 3) := by decide +kernel
theorem dX5_image_23 : decode cX5_image 23 = .ok (.goto (-21), 3) := by decide +kernel
theorem dX5_image_26 : decode cX5_image 26 = .ok (.iconst 0, 1) := by decide +kernel
theorem dX5_image_27 : decode cX5_image 27 = .ok (.istore_n 1, 1) := by decide +kernel
theorem dX5_image_28 : decode cX5_image 28 = .ok (.iload_n 1, 1) := by decide +kernel
theorem dX5_image_29 : decode cX5_image 29 = .ok (.sipush 256, 3) := by decide +kernel
theorem dX5_image_32 : decode cX5_image 32 = .ok (.if_icmp .ge 21, 3) := by decide +kernel
theorem dX5_image_35 : decode cX5_image 35 = .ok (.aload_n 0, 1) := by decide +kernel
theorem dX5_image_36 : decode cX5_image 36 = .ok (.getfield 22, 3) := by decide +kernel
theorem dX5_image_39 : decode cX5_image 39 = .ok (.iload_n 1, 1) := by decide +kernel
theorem dX5_image_40 : decode cX5_image 40 = .ok (.aload_n 0, 1) := by decide +kernel
theorem dX5_image_41 : decode cX5_image 41 = .ok (.getfield 16, 3) := by decide +kernel
theorem dX5_image_44 : decode cX5_image 44 = .ok (.iload_n 1, 1) := by decide +kernel
theorem dX5_image_45 : decode cX5_image 45 = .ok (.iaload, 1) := by decide +kernel
theorem dX5_image_46 : decode cX5_image 46 = .ok (.iastore, 1) := by decide +kernel
theorem dX5_image_47 : decode cX5_image 47 = .ok (.iinc 1 1, 3) := by decide +kernel
theorem dX5_image_50 : decode cX5_image 50 = .ok (.goto (-22), 3) := by decide +kernel
theorem dX5_image_53 : decode cX5_image 53 = .ok (.aload_n 0, 1) := by decide +kernel
theorem dX5_image_54 : decode cX5_image 54 = .ok (.aload_n 0, 1) := by decide +kernel
theorem dX5_image_55 : decode cX5_image 55 = .ok (.getfield 75, 3) := by decide +kernel
theorem dX5_image_58 : decode cX5_image 58 = .ok (.putfield 152, 3) := by decide +kernel
theorem dX5_image_61 : decode cX5_image 61 = .ok (.aload_n 0, 1) := by decide +kernel
theorem dX5_image_62 : decode cX5_image 62 = .ok (.iconst 1, 1) := by decide +kernel
theorem dX5_image_63 : decode cX5_image 63 = .ok (.putfield 155, 3) := by decide +kernel
theorem dX5_image_66 : decode cX5_image 66 = .ok (.iconst 1, 1) := by decide +kernel
theorem dX5_image_67 : decode cX5_image 67 = .ok (.ireturn, 1) := by decide +kernel
theorem dX5_restore_0 : decode cX5_restore 0 = .ok (.aload_n 0, 1) := by decide +kernel
theorem dX5_restore_1 : decode cX5_restore 1 = .ok (.getfield 155, 3) := by decide +kernel
theorem dX5_restore_4 : decode cX5_restore 4 = .ok (.ifCond .ne 6, 3) := by decide +kernel
theorem dX5_restore_7 : decode cX5_restore 7 = .ok (.bipush (-4), 2) := by decide +kernel
theorem dX5_restore_9 : decode cX5_restore 9 = .ok (.ireturn, 1) := by decide +kernel
theorem dX5_restore_10 : decode cX5_restore 10 = .ok (.iconst 0, 1) := by decide +kernel
theorem dX5_restore_11 : decode cX5_restore 11 = .ok (.istore_n 1, 1) := by decide +kernel
theorem dX5_restore_12 : decode cX5_restore 12 = .ok (.iload_n 1, 1) := by decide +kernel
theorem dX5_restore_13 : decode cX5_restore 13 = .ok (.bipush 32, 2) := by decide +kernel
theorem dX5_restore_15 : decode cX5_restore 15 = .ok (.if_icmp .ge 21, 3) := by decide +kernel
theorem dX5_restore_18 : decode cX5_restore 18 = .ok (.aload_n 0, 1) := by decide +kernel
theorem dX5_restore_19 : decode cX5_restore 19 = .ok (.getfield 7, 3) := by decide +kernel
theorem dX5_restore_22 : decode cX5_restore 22 = .ok (.iload_n 1, 1) := by decide +kernel
theorem dX5_restore_23 : decode cX5_restore 23 = .ok (.aload_n 0, 1) := by decide +kernel
theorem dX5_restore_24 : decode cX5_restore 24 = .ok (.getfield 19, 3) := by decide +kernel
theorem dX5_restore_27 : decode cX5_restore 27 = .ok (.iload_n 1, 1) := by decide +kernel
theorem dX5_restore_28 : decode cX5_restore 28 = .ok (.iaload, 1) := by decide +kernel
theorem dX5_restore_29 : decode cX5_restore 29 = .ok (.iastore, 1) := by decide +kernel
theorem dX5_restore_30 : decode cX5_restore 30 = .ok (.iinc 1 1, 3) := by decide +kernel
theorem dX5_restore_33 : decode cX5_restore 33 = .ok (.goto (-21), 3) := by decide +kernel
theorem dX5_restore_36 : decode cX5_restore 36 = .ok (.iconst 0, 1) := by decide +kernel
theorem dX5_restore_37 : decode cX5_restore 37 = .ok (.istore_n 1, 1) := by decide +kernel
theorem dX5_restore_38 : decode cX5_restore 38 = .ok (.iload_n 1, 1) := by decide +kernel
theorem dX5_restore_39 : decode cX5_restore 39 = .ok (.sipush 256, 3) := by decide +kernel
theorem dX5_restore_42 : decode cX5_restore 42 = .ok (.if_icmp .ge 21, 3) := by decide +kernel
theorem dX5_restore_45 : decode cX5_restore 45 = .ok (.aload_n 0, 1) := by decide +kernel
theorem dX5_restore_46 : decode cX5_restore 46 = .ok (.getfield 16, 3) := by decide +kernel
theorem dX5_restore_49 : decode cX5_restore 49 = .ok (.iload_n 1, 1) := by decide +kernel
theorem dX5_restore_50 : decode cX5_restore 50 = .ok (.aload_n 0, 1) := by decide +kernel
theorem dX5_restore_51 : decode cX5_restore 51 = .ok (.getfield 22, 3) := by decide +kernel
theorem dX5_restore_54 : decode cX5_restore 54 = .ok (.iload_n 1, 1) := by decide +kernel
theorem dX5_restore_55 : decode cX5_restore 55 = .ok (.iaload, 1) := by decide +kernel
theorem dX5_restore_56 : decode cX5_restore 56 = .ok (.iastore, 1) := by decide +kernel
theorem dX5_restore_57 : decode cX5_restore 57 = .ok (.iinc 1 1, 3) := by decide +kernel
theorem dX5_restore_60 : decode cX5_restore 60 = .ok (.goto (-22), 3) := by decide +kernel
theorem dX5_restore_63 : decode cX5_restore 63 = .ok (.aload_n 0, 1) := by decide +kernel
theorem dX5_restore_64 : decode cX5_restore 64 = .ok (.aload_n 0, 1) := by decide +kernel
theorem dX5_restore_65 : decode cX5_restore 65 = .ok (.getfield 152, 3) := by decide +kernel
theorem dX5_restore_68 : decode cX5_restore 68 = .ok (.putfield 75, 3) := by decide +kernel
theorem dX5_restore_71 : decode cX5_restore 71 = .ok (.iconst 1, 1) := by decide +kernel
theorem dX5_restore_72 : decode cX5_restore 72 = .ok (.ireturn, 1) := by decide +kernel
theorem dX5_isSheet_0 : decode cX5_isSheet 0 = .ok (.iload_n 0, 1) := by decide +kernel
theorem dX5_isSheet_1 : decode cX5_isSheet 1 = .ok (.iconst 0, 1) := by decide +kernel
theorem dX5_isSheet_2 : decode cX5_isSheet 2 = .ok (.iconst 3, 1) := by decide +kernel
theorem dX5_isSheet_3 : decode cX5_isSheet 3 = .ok (.invokestatic 45, 3) := by decide +kernel
theorem dX5_isSheet_6 : decode cX5_isSheet 6 = .ok (.ireturn, 1) := by decide +kernel
theorem dX5_findOf_0 : decode cX5_findOf 0 = .ok (.aload_n 0, 1) := by decide +kernel
theorem dX5_findOf_1 : decode cX5_findOf 1 = .ok (.getfield 32, 3) := by decide +kernel
theorem dX5_findOf_4 : decode cX5_findOf 4 = .ok (.iload_n 1, 1) := by decide +kernel
theorem dX5_findOf_5 : decode cX5_findOf 5 = .ok (.iaload, 1) := by decide +kernel
theorem dX5_findOf_6 : decode cX5_findOf 6 = .ok (.ifCond .ne 6, 3) := by decide +kernel
theorem dX5_findOf_9 : decode cX5_findOf 9 = .ok (.bipush (-11), 2) := by decide +kernel
theorem dX5_findOf_11 : decode cX5_findOf 11 = .ok (.ireturn, 1) := by decide +kernel
theorem dX5_findOf_12 : decode cX5_findOf 12 = .ok (.aload_n 0, 1) := by decide +kernel
theorem dX5_findOf_13 : decode cX5_findOf 13 = .ok (.getfield 32, 3) := by decide +kernel
theorem dX5_findOf_16 : decode cX5_findOf 16 = .ok (.iload_n 1, 1) := by decide +kernel
theorem dX5_findOf_17 : decode cX5_findOf 17 = .ok (.iaload, 1) := by decide +kernel
theorem dX5_findOf_18 : decode cX5_findOf 18 = .ok (.iload_n 2, 1) := by decide +kernel
theorem dX5_findOf_19 : decode cX5_findOf 19 = .ok (.iconst 1, 1) := by decide +kernel
theorem dX5_findOf_20 : decode cX5_findOf 20 = .ok (.iadd, 1) := by decide +kernel
theorem dX5_findOf_21 : decode cX5_findOf 21 = .ok (.if_icmp .eq 6, 3) := by decide +kernel
theorem dX5_findOf_24 : decode cX5_findOf 24 = .ok (.bipush (-12), 2) := by decide +kernel
theorem dX5_findOf_26 : decode cX5_findOf 26 = .ok (.ireturn, 1) := by decide +kernel
theorem dX5_findOf_27 : decode cX5_findOf 27 = .ok (.iload_n 3, 1) := by decide +kernel
theorem dX5_findOf_28 : decode cX5_findOf 28 = .ok (.ifCond .lt 21, 3) := by decide +kernel
theorem dX5_findOf_31 : decode cX5_findOf 31 = .ok (.iload 4, 2) := by decide +kernel
theorem dX5_findOf_33 : decode cX5_findOf 33 = .ok (.ifCond .lt 16, 3) := by decide +kernel
theorem dX5_findOf_36 : decode cX5_findOf 36 = .ok (.iload_n 3, 1) := by decide +kernel
theorem dX5_findOf_37 : decode cX5_findOf 37 = .ok (.aload_n 0, 1) := by decide +kernel
theorem dX5_findOf_38 : decode cX5_findOf 38 = .ok (.getfield 35, 3) := by decide +kernel
theorem dX5_findOf_41 : decode cX5_findOf 41 = .ok (.iload_n 1, 1) := by decide +kernel
theorem dX5_findOf_42 : decode cX5_findOf 42 = .ok (.iaload, 1) := by decide +kernel
theorem dX5_findOf_43 : decode cX5_findOf 43 = .ok (.iload 4, 2) := by decide +kernel
theorem dX5_findOf_45 : decode cX5_findOf 45 = .ok (.isub, 1) := by decide +kernel
theorem dX5_findOf_46 : decode cX5_findOf 46 = .ok (.if_icmp .le 8, 3) := by decide +kernel
theorem dX5_findOf_49 : decode cX5_findOf 49 = .ok (.bipush (-13), 2) := by decide +kernel
theorem dX5_findOf_51 : decode cX5_findOf 51 = .ok (.goto 4, 3) := by decide +kernel
theorem dX5_findOf_54 : decode cX5_findOf 54 = .ok (.iconst 0, 1) := by decide +kernel
theorem dX5_findOf_55 : decode cX5_findOf 55 = .ok (.ireturn, 1) := by decide +kernel
theorem dX5_lowest_0 : decode cX5_lowest 0 = .ok (.iload_n 0, 1) := by decide +kernel
theorem dX5_lowest_1 : decode cX5_lowest 1 = .ok (.ifCond .ne 10, 3) := by decide +kernel
theorem dX5_lowest_4 : decode cX5_lowest 4 = .ok (.lload_n 1, 1) := by decide +kernel
theorem dX5_lowest_5 : decode cX5_lowest 5 = .ok (.l2i, 1) := by decide +kernel
theorem dX5_lowest_6 : decode cX5_lowest 6 = .ok (.i2b, 1) := by decide +kernel
theorem dX5_lowest_7 : decode cX5_lowest 7 = .ok (.i2l, 1) := by decide +kernel
theorem dX5_lowest_8 : decode cX5_lowest 8 = .ok (.goto 27, 3) := by decide +kernel
theorem dX5_lowest_11 : decode cX5_lowest 11 = .ok (.iload_n 0, 1) := by decide +kernel
theorem dX5_lowest_12 : decode cX5_lowest 12 = .ok (.iconst 1, 1) := by decide +kernel
theorem dX5_lowest_13 : decode cX5_lowest 13 = .ok (.if_icmp .ne 10, 3) := by decide +kernel
theorem dX5_lowest_16 : decode cX5_lowest 16 = .ok (.lload_n 1, 1) := by decide +kernel
theorem dX5_lowest_17 : decode cX5_lowest 17 = .ok (.l2i, 1) := by decide +kernel
theorem dX5_lowest_18 : decode cX5_lowest 18 = .ok (.i2s, 1) := by decide +kernel
theorem dX5_lowest_19 : decode cX5_lowest 19 = .ok (.i2l, 1) := by decide +kernel
theorem dX5_lowest_20 : decode cX5_lowest 20 = .ok (.goto 15, 3) := by decide +kernel
theorem dX5_lowest_23 : decode cX5_lowest 23 = .ok (.iload_n 0, 1) := by decide +kernel
theorem dX5_lowest_24 : decode cX5_lowest 24 = .ok (.iconst 2, 1) := by decide +kernel
theorem dX5_lowest_25 : decode cX5_lowest 25 = .ok (.if_icmp .ne 9, 3) := by decide +kernel
theorem dX5_lowest_28 : decode cX5_lowest 28 = .ok (.lload_n 1, 1) := by decide +kernel
theorem dX5_lowest_29 : decode cX5_lowest 29 = .ok (.l2i, 1) := by decide +kernel
theorem dX5_lowest_30 : decode cX5_lowest 30 = .ok (.i2l, 1) := by decide +kernel
theorem dX5_lowest_31 : decode cX5_lowest 31 = .ok (.goto 4, 3) := by decide +kernel
theorem dX5_lowest_34 : decode cX5_lowest 34 = .ok (.lload_n 1, 1) := by decide +kernel
theorem dX5_lowest_35 : decode cX5_lowest 35 = .ok (.lreturn, 1) := by decide +kernel
theorem dX5_isHeard_0 : decode cX5_isHeard 0 = .ok (.iconst 1, 1) := by decide +kernel
theorem dX5_isHeard_1 : decode cX5_isHeard 1 = .ok (.istore 5, 2) := by decide +kernel
theorem dX5_isHeard_3 : decode cX5_isHeard 3 = .ok (.iconst 0, 1) := by decide +kernel
theorem dX5_isHeard_4 : decode cX5_isHeard 4 = .ok (.istore 6, 2) := by decide +kernel
theorem dX5_isHeard_6 : decode cX5_isHeard 6 = .ok (.iload 6, 2) := by decide +kernel
theorem dX5_isHeard_8 : decode cX5_isHeard 8 = .ok (.iload 4, 2) := by decide +kernel
theorem dX5_isHeard_10 : decode cX5_isHeard 10 = .ok (.if_icmp .ge 57, 3) := by decide +kernel
theorem dX5_isHeard_13 : decode cX5_isHeard 13 = .ok (.iload 5, 2) := by decide +kernel
theorem dX5_isHeard_15 : decode cX5_isHeard 15 = .ok (.ifCond .eq 52, 3) := by decide +kernel
theorem dX5_isHeard_18 : decode cX5_isHeard 18 = .ok (.aload_n 0, 1) := by decide +kernel
theorem dX5_isHeard_19 : decode cX5_isHeard 19 = .ok (.aload_n 0, 1) := by decide +kernel
theorem dX5_isHeard_20 : decode cX5_isHeard 20 = .ok (.getfield 13, 3) := by decide +kernel
theorem dX5_isHeard_23 : decode cX5_isHeard 23 = .ok (.invokevirtual 120, 3) := by decide +kernel
theorem dX5_isHeard_26 : decode cX5_isHeard 26 = .ok (.aload_n 0, 1) := by decide +kernel
theorem dX5_isHeard_27 : decode cX5_isHeard 27 = .ok (.getfield 38, 3) := by decide +kernel
theorem dX5_isHeard_30 : decode cX5_isHeard 30 = .ok (.bipush 24, 2) := by decide +kernel
theorem dX5_isHeard_32 : decode cX5_isHeard 32 = .ok (.iload_n 2, 1) := by decide +kernel
theorem dX5_isHeard_33 : decode cX5_isHeard 33 = .ok (.imul, 1) := by decide +kernel
theorem dX5_isHeard_34 : decode cX5_isHeard 34 = .ok (.iload_n 3, 1) := by decide +kernel
theorem dX5_isHeard_35 : decode cX5_isHeard 35 = .ok (.iadd, 1) := by decide +kernel
theorem dX5_isHeard_36 : decode cX5_isHeard 36 = .ok (.iload 6, 2) := by decide +kernel
theorem dX5_isHeard_38 : decode cX5_isHeard 38 = .ok (.iadd, 1) := by decide +kernel
theorem dX5_isHeard_39 : decode cX5_isHeard 39 = .ok (.laload, 1) := by decide +kernel
theorem dX5_isHeard_40 : decode cX5_isHeard 40 = .ok (.aload_n 0, 1) := by decide +kernel
theorem dX5_isHeard_41 : decode cX5_isHeard 41 = .ok (.getfield 13, 3) := by decide +kernel
theorem dX5_isHeard_44 : decode cX5_isHeard 44 = .ok (.bipush 25, 2) := by decide +kernel
theorem dX5_isHeard_46 : decode cX5_isHeard 46 = .ok (.iload_n 1, 1) := by decide +kernel
theorem dX5_isHeard_47 : decode cX5_isHeard 47 = .ok (.iadd, 1) := by decide +kernel
theorem dX5_isHeard_48 : decode cX5_isHeard 48 = .ok (.iaload, 1) := by decide +kernel
theorem dX5_isHeard_49 : decode cX5_isHeard 49 = .ok (.i2l, 1) := by decide +kernel
theorem dX5_isHeard_50 : decode cX5_isHeard 50 = .ok (.lcmp, 1) := by decide +kernel
theorem dX5_isHeard_51 : decode cX5_isHeard 51 = .ok (.ifCond .ne 7, 3) := by decide +kernel
theorem dX5_isHeard_54 : decode cX5_isHeard 54 = .ok (.iconst 1, 1) := by decide +kernel
theorem dX5_isHeard_55 : decode cX5_isHeard 55 = .ok (.goto 4, 3) := by decide +kernel
theorem dX5_isHeard_58 : decode cX5_isHeard 58 = .ok (.iconst 0, 1) := by decide +kernel
theorem dX5_isHeard_59 : decode cX5_isHeard 59 = .ok (.istore 5, 2) := by decide +kernel
theorem dX5_isHeard_61 : decode cX5_isHeard 61 = .ok (.iinc 6 1, 3) := by decide +kernel
theorem dX5_isHeard_64 : decode cX5_isHeard 64 = .ok (.goto (-58), 3) := by decide +kernel
theorem dX5_isHeard_67 : decode cX5_isHeard 67 = .ok (.iload 5, 2) := by decide +kernel
theorem dX5_isHeard_69 : decode cX5_isHeard 69 = .ok (.ireturn, 1) := by decide +kernel
theorem dX5_heard_0 : decode cX5_heard 0 = .ok (.aload_n 0, 1) := by decide +kernel
theorem dX5_heard_1 : decode cX5_heard 1 = .ok (.iload_n 1, 1) := by decide +kernel
theorem dX5_heard_2 : decode cX5_heard 2 = .ok (.invokevirtual 79, 3) := by decide +kernel
theorem dX5_heard_5 : decode cX5_heard 5 = .ok (.ifCond .eq 40, 3) := by decide +kernel
theorem dX5_heard_8 : decode cX5_heard 8 = .ok (.iload_n 2, 1) := by decide +kernel
theorem dX5_heard_9 : decode cX5_heard 9 = .ok (.invokestatic 158, 3) := by decide +kernel
theorem dX5_heard_12 : decode cX5_heard 12 = .ok (.ifCond .eq 33, 3) := by decide +kernel
theorem dX5_heard_15 : decode cX5_heard 15 = .ok (.iload_n 3, 1) := by decide +kernel
theorem dX5_heard_16 : decode cX5_heard 16 = .ok (.iconst 0, 1) := by decide +kernel
theorem dX5_heard_17 : decode cX5_heard 17 = .ok (.iconst 3, 1) := by decide +kernel
theorem dX5_heard_18 : decode cX5_heard 18 = .ok (.invokestatic 45, 3) := by decide +kernel
theorem dX5_heard_21 : decode cX5_heard 21 = .ok (.ifCond .eq 24, 3) := by decide +kernel
theorem dX5_heard_24 : decode cX5_heard 24 = .ok (.iload 5, 2) := by decide +kernel
theorem dX5_heard_26 : decode cX5_heard 26 = .ok (.iconst 1, 1) := by decide +kernel
theorem dX5_heard_27 : decode cX5_heard 27 = .ok (.bipush 8, 2) := by decide +kernel
theorem dX5_heard_29 : decode cX5_heard 29 = .ok (.invokestatic 45, 3) := by decide +kernel
theorem dX5_heard_32 : decode cX5_heard 32 = .ok (.ifCond .eq 13, 3) := by decide +kernel
theorem dX5_heard_35 : decode cX5_heard 35 = .ok (.iload 6, 2) := by decide +kernel
theorem dX5_heard_37 : decode cX5_heard 37 = .ok (.iconst 0, 1) := by decide +kernel
theorem dX5_heard_38 : decode cX5_heard 38 = .ok (.iconst 3, 1) := by decide +kernel
theorem dX5_heard_39 : decode cX5_heard 39 = .ok (.invokestatic 45, 3) := by decide +kernel
theorem dX5_heard_42 : decode cX5_heard 42 = .ok (.ifCond .ne 5, 3) := by decide +kernel
theorem dX5_heard_45 : decode cX5_heard 45 = .ok (.iconst (-1), 1) := by decide +kernel
theorem dX5_heard_46 : decode cX5_heard 46 = .ok (.ireturn, 1) := by decide +kernel
theorem dX5_heard_47 : decode cX5_heard 47 = .ok (.aload_n 0, 1) := by decide +kernel
theorem dX5_heard_48 : decode cX5_heard 48 = .ok (.iload_n 2, 1) := by decide +kernel
theorem dX5_heard_49 : decode cX5_heard 49 = .ok (.iload_n 3, 1) := by decide +kernel
theorem dX5_heard_50 : decode cX5_heard 50 = .ok (.iload 4, 2) := by decide +kernel
theorem dX5_heard_52 : decode cX5_heard 52 = .ok (.iload 5, 2) := by decide +kernel
theorem dX5_heard_54 : decode cX5_heard 54 = .ok (.invokevirtual 161, 3) := by decide +kernel
theorem dX5_heard_57 : decode cX5_heard 57 = .ok (.istore 7, 2) := by decide +kernel
theorem dX5_heard_59 : decode cX5_heard 59 = .ok (.iload 7, 2) := by decide +kernel
theorem dX5_heard_61 : decode cX5_heard 61 = .ok (.ifCond .eq 6, 3) := by decide +kernel
theorem dX5_heard_64 : decode cX5_heard 64 = .ok (.iload 7, 2) := by decide +kernel
theorem dX5_heard_66 : decode cX5_heard 66 = .ok (.ireturn, 1) := by decide +kernel
theorem dX5_heard_67 : decode cX5_heard 67 = .ok (.iconst 0, 1) := by decide +kernel
theorem dX5_heard_68 : decode cX5_heard 68 = .ok (.istore 8, 2) := by decide +kernel
theorem dX5_heard_70 : decode cX5_heard 70 = .ok (.iconst 0, 1) := by decide +kernel
theorem dX5_heard_71 : decode cX5_heard 71 = .ok (.istore 9, 2) := by decide +kernel
theorem dX5_heard_73 : decode cX5_heard 73 = .ok (.bipush (-4), 2) := by decide +kernel
theorem dX5_heard_75 : decode cX5_heard 75 = .ok (.istore 10, 2) := by decide +kernel
theorem dX5_heard_77 : decode cX5_heard 77 = .ok (.iload 6, 2) := by decide +kernel
theorem dX5_heard_79 : decode cX5_heard 79 = .ok (.ifCond .ne 7, 3) := by decide +kernel
theorem dX5_heard_82 : decode cX5_heard 82 = .ok (.iconst 4, 1) := by decide +kernel
theorem dX5_heard_83 : decode cX5_heard 83 = .ok (.goto 16, 3) := by decide +kernel
theorem dX5_heard_86 : decode cX5_heard 86 = .ok (.iload 6, 2) := by decide +kernel
theorem dX5_heard_88 : decode cX5_heard 88 = .ok (.iconst 1, 1) := by decide +kernel
theorem dX5_heard_89 : decode cX5_heard 89 = .ok (.if_icmp .ne 8, 3) := by decide +kernel
theorem dX5_heard_92 : decode cX5_heard 92 = .ok (.bipush 19, 2) := by decide +kernel
theorem dX5_heard_94 : decode cX5_heard 94 = .ok (.goto 5, 3) := by decide +kernel
theorem dX5_heard_97 : decode cX5_heard 97 = .ok (.bipush 80, 2) := by decide +kernel
theorem dX5_heard_99 : decode cX5_heard 99 = .ok (.istore 11, 2) := by decide +kernel
theorem dX5_heard_101 : decode cX5_heard 101 = .ok (.iload 11, 2) := by decide +kernel
theorem dX5_heard_103 : decode cX5_heard 103 = .ok (.istore 12, 2) := by decide +kernel
theorem dX5_heard_105 : decode cX5_heard 105 = .ok (.iload 12, 2) := by decide +kernel
theorem dX5_heard_107 : decode cX5_heard 107 = .ok (.ifCond .lt 83, 3) := by decide +kernel
theorem dX5_heard_110 : decode cX5_heard 110 = .ok (.aload_n 0, 1) := by decide +kernel
theorem dX5_heard_111 : decode cX5_heard 111 = .ok (.invokevirtual 142, 3) := by decide +kernel
theorem dX5_heard_114 : decode cX5_heard 114 = .ok (.aload_n 0, 1) := by decide +kernel
theorem dX5_heard_115 : decode cX5_heard 115 = .ok (.getfield 13, 3) := by decide +kernel
theorem dX5_heard_118 : decode cX5_heard 118 = .ok (.iload 6, 2) := by decide +kernel
theorem dX5_heard_120 : decode cX5_heard 120 = .ok (.ifCond .ne 7, 3) := by decide +kernel
theorem dX5_heard_123 : decode cX5_heard 123 = .ok (.iconst 4, 1) := by decide +kernel
theorem dX5_heard_124 : decode cX5_heard 124 = .ok (.goto 16, 3) := by decide +kernel
theorem dX5_heard_127 : decode cX5_heard 127 = .ok (.iload 6, 2) := by decide +kernel
theorem dX5_heard_129 : decode cX5_heard 129 = .ok (.iconst 1, 1) := by decide +kernel
theorem dX5_heard_130 : decode cX5_heard 130 = .ok (.if_icmp .ne 8, 3) := by decide +kernel
theorem dX5_heard_133 : decode cX5_heard 133 = .ok (.bipush 25, 2) := by decide +kernel
theorem dX5_heard_135 : decode cX5_heard 135 = .ok (.goto 5, 3) := by decide +kernel
theorem dX5_heard_138 : decode cX5_heard 138 = .ok (.bipush 11, 2) := by decide +kernel
theorem dX5_heard_140 : decode cX5_heard 140 = .ok (.iload_n 1, 1) := by decide +kernel
theorem dX5_heard_141 : decode cX5_heard 141 = .ok (.iadd, 1) := by decide +kernel
theorem dX5_heard_142 : decode cX5_heard 142 = .ok (.iload 12, 2) := by decide +kernel
theorem dX5_heard_144 : decode cX5_heard 144 = .ok (.iastore, 1) := by decide +kernel
theorem dX5_heard_145 : decode cX5_heard 145 = .ok (.aload_n 0, 1) := by decide +kernel
theorem dX5_heard_146 : decode cX5_heard 146 = .ok (.iload_n 1, 1) := by decide +kernel
theorem dX5_heard_147 : decode cX5_heard 147 = .ok (.iload_n 2, 1) := by decide +kernel
theorem dX5_heard_148 : decode cX5_heard 148 = .ok (.iload 4, 2) := by decide +kernel
theorem dX5_heard_150 : decode cX5_heard 150 = .ok (.iload 5, 2) := by decide +kernel
theorem dX5_heard_152 : decode cX5_heard 152 = .ok (.invokevirtual 165, 3) := by decide +kernel
theorem dX5_heard_155 : decode cX5_heard 155 = .ok (.ifCond .eq 29, 3) := by decide +kernel
theorem dX5_heard_158 : decode cX5_heard 158 = .ok (.iload 8, 2) := by decide +kernel
theorem dX5_heard_160 : decode cX5_heard 160 = .ok (.iload 6, 2) := by decide +kernel
theorem dX5_heard_162 : decode cX5_heard 162 = .ok (.iconst 2, 1) := by decide +kernel
theorem dX5_heard_163 : decode cX5_heard 163 = .ok (.if_icmp .ge 10, 3) := by decide +kernel
theorem dX5_heard_166 : decode cX5_heard 166 = .ok (.iconst 1, 1) := by decide +kernel
theorem dX5_heard_167 : decode cX5_heard 167 = .ok (.iload 12, 2) := by decide +kernel
theorem dX5_heard_169 : decode cX5_heard 169 = .ok (.ishl, 1) := by decide +kernel
theorem dX5_heard_170 : decode cX5_heard 170 = .ok (.goto 4, 3) := by decide +kernel
theorem dX5_heard_173 : decode cX5_heard 173 = .ok (.iconst 0, 1) := by decide +kernel
theorem dX5_heard_174 : decode cX5_heard 174 = .ok (.ior, 1) := by decide +kernel
theorem dX5_heard_175 : decode cX5_heard 175 = .ok (.istore 8, 2) := by decide +kernel
theorem dX5_heard_177 : decode cX5_heard 177 = .ok (.iinc 9 1, 3) := by decide +kernel
theorem dX5_heard_180 : decode cX5_heard 180 = .ok (.iload 12, 2) := by decide +kernel
theorem dX5_heard_182 : decode cX5_heard 182 = .ok (.istore 10, 2) := by decide +kernel
theorem dX5_heard_184 : decode cX5_heard 184 = .ok (.iinc 12 (-1), 3) := by decide +kernel
theorem dX5_heard_187 : decode cX5_heard 187 = .ok (.goto (-82), 3) := by decide +kernel
theorem dX5_heard_190 : decode cX5_heard 190 = .ok (.iload 6, 2) := by decide +kernel
theorem dX5_heard_192 : decode cX5_heard 192 = .ok (.iconst 2, 1) := by decide +kernel
theorem dX5_heard_193 : decode cX5_heard 193 = .ok (.if_icmp .ge 8, 3) := by decide +kernel
theorem dX5_heard_196 : decode cX5_heard 196 = .ok (.iload 8, 2) := by decide +kernel
theorem dX5_heard_198 : decode cX5_heard 198 = .ok (.goto 16, 3) := by decide +kernel
theorem dX5_heard_201 : decode cX5_heard 201 = .ok (.iload 6, 2) := by decide +kernel
theorem dX5_heard_203 : decode cX5_heard 203 = .ok (.iconst 2, 1) := by decide +kernel
theorem dX5_heard_204 : decode cX5_heard 204 = .ok (.if_icmp .ne 8, 3) := by decide +kernel
theorem dX5_heard_207 : decode cX5_heard 207 = .ok (.iload 9, 2) := by decide +kernel
theorem dX5_heard_209 : decode cX5_heard 209 = .ok (.goto 5, 3) := by decide +kernel
theorem dX5_heard_212 : decode cX5_heard 212 = .ok (.iload 10, 2) := by decide +kernel
theorem dX5_heard_214 : decode cX5_heard 214 = .ok (.ireturn, 1) := by decide +kernel
theorem dX5_film_0 : decode cX5_film 0 = .ok (.aload_n 0, 1) := by decide +kernel
theorem dX5_film_1 : decode cX5_film 1 = .ok (.iload_n 1, 1) := by decide +kernel
theorem dX5_film_2 : decode cX5_film 2 = .ok (.invokevirtual 79, 3) := by decide +kernel
theorem dX5_film_5 : decode cX5_film 5 = .ok (.ifCond .eq 30, 3) := by decide +kernel
theorem dX5_film_8 : decode cX5_film 8 = .ok (.iload_n 2, 1) := by decide +kernel
theorem dX5_film_9 : decode cX5_film 9 = .ok (.iconst 1, 1) := by decide +kernel
theorem dX5_film_10 : decode cX5_film 10 = .ok (.bipush 24, 2) := by decide +kernel
theorem dX5_film_12 : decode cX5_film 12 = .ok (.invokestatic 45, 3) := by decide +kernel
theorem dX5_film_15 : decode cX5_film 15 = .ok (.ifCond .eq 20, 3) := by decide +kernel
theorem dX5_film_18 : decode cX5_film 18 = .ok (.iload_n 3, 1) := by decide +kernel
theorem dX5_film_19 : decode cX5_film 19 = .ok (.invokestatic 158, 3) := by decide +kernel
theorem dX5_film_22 : decode cX5_film 22 = .ok (.ifCond .eq 13, 3) := by decide +kernel
theorem dX5_film_25 : decode cX5_film 25 = .ok (.iload 4, 2) := by decide +kernel
theorem dX5_film_27 : decode cX5_film 27 = .ok (.iconst 0, 1) := by decide +kernel
theorem dX5_film_28 : decode cX5_film 28 = .ok (.iconst 3, 1) := by decide +kernel
theorem dX5_film_29 : decode cX5_film 29 = .ok (.invokestatic 45, 3) := by decide +kernel
theorem dX5_film_32 : decode cX5_film 32 = .ok (.ifCond .ne 5, 3) := by decide +kernel
theorem dX5_film_35 : decode cX5_film 35 = .ok (.iconst (-1), 1) := by decide +kernel
theorem dX5_film_36 : decode cX5_film 36 = .ok (.ireturn, 1) := by decide +kernel
theorem dX5_film_37 : decode cX5_film 37 = .ok (.aload_n 0, 1) := by decide +kernel
theorem dX5_film_38 : decode cX5_film 38 = .ok (.iload_n 3, 1) := by decide +kernel
theorem dX5_film_39 : decode cX5_film 39 = .ok (.iload 4, 2) := by decide +kernel
theorem dX5_film_41 : decode cX5_film 41 = .ok (.iload 5, 2) := by decide +kernel
theorem dX5_film_43 : decode cX5_film 43 = .ok (.iload_n 2, 1) := by decide +kernel
theorem dX5_film_44 : decode cX5_film 44 = .ok (.invokevirtual 161, 3) := by decide +kernel
theorem dX5_film_47 : decode cX5_film 47 = .ok (.istore 6, 2) := by decide +kernel
theorem dX5_film_49 : decode cX5_film 49 = .ok (.iload 6, 2) := by decide +kernel
theorem dX5_film_51 : decode cX5_film 51 = .ok (.ifCond .eq 6, 3) := by decide +kernel
theorem dX5_film_54 : decode cX5_film 54 = .ok (.iload 6, 2) := by decide +kernel
theorem dX5_film_56 : decode cX5_film 56 = .ok (.ireturn, 1) := by decide +kernel
theorem dX5_film_57 : decode cX5_film 57 = .ok (.aload_n 0, 1) := by decide +kernel
theorem dX5_film_58 : decode cX5_film 58 = .ok (.invokevirtual 142, 3) := by decide +kernel
theorem dX5_film_61 : decode cX5_film 61 = .ok (.iconst 0, 1) := by decide +kernel
theorem dX5_film_62 : decode cX5_film 62 = .ok (.istore 7, 2) := by decide +kernel
theorem dX5_film_64 : decode cX5_film 64 = .ok (.iload 7, 2) := by decide +kernel
theorem dX5_film_66 : decode cX5_film 66 = .ok (.iload_n 2, 1) := by decide +kernel
theorem dX5_film_67 : decode cX5_film 67 = .ok (.if_icmp .ge 42, 3) := by decide +kernel
theorem dX5_film_70 : decode cX5_film 70 = .ok (.aload_n 0, 1) := by decide +kernel
theorem dX5_film_71 : decode cX5_film 71 = .ok (.aload_n 0, 1) := by decide +kernel
theorem dX5_film_72 : decode cX5_film 72 = .ok (.getfield 13, 3) := by decide +kernel
theorem dX5_film_75 : decode cX5_film 75 = .ok (.invokevirtual 120, 3) := by decide +kernel
theorem dX5_film_78 : decode cX5_film 78 = .ok (.aload_n 0, 1) := by decide +kernel
theorem dX5_film_79 : decode cX5_film 79 = .ok (.getfield 38, 3) := by decide +kernel
theorem dX5_film_82 : decode cX5_film 82 = .ok (.bipush 24, 2) := by decide +kernel
theorem dX5_film_84 : decode cX5_film 84 = .ok (.iload_n 3, 1) := by decide +kernel
theorem dX5_film_85 : decode cX5_film 85 = .ok (.imul, 1) := by decide +kernel
theorem dX5_film_86 : decode cX5_film 86 = .ok (.iload 5, 2) := by decide +kernel
theorem dX5_film_88 : decode cX5_film 88 = .ok (.iadd, 1) := by decide +kernel
theorem dX5_film_89 : decode cX5_film 89 = .ok (.iload 7, 2) := by decide +kernel
theorem dX5_film_91 : decode cX5_film 91 = .ok (.iadd, 1) := by decide +kernel
theorem dX5_film_92 : decode cX5_film 92 = .ok (.aload_n 0, 1) := by decide +kernel
theorem dX5_film_93 : decode cX5_film 93 = .ok (.getfield 13, 3) := by decide +kernel
theorem dX5_film_96 : decode cX5_film 96 = .ok (.bipush 25, 2) := by decide +kernel
theorem dX5_film_98 : decode cX5_film 98 = .ok (.iload_n 1, 1) := by decide +kernel
theorem dX5_film_99 : decode cX5_film 99 = .ok (.iadd, 1) := by decide +kernel
theorem dX5_film_100 : decode cX5_film 100 = .ok (.iaload, 1) := by decide +kernel
theorem dX5_film_101 : decode cX5_film 101 = .ok (.i2l, 1) := by decide +kernel
theorem dX5_film_102 : decode cX5_film 102 = .ok (.lastore, 1) := by decide +kernel
theorem dX5_film_103 : decode cX5_film 103 = .ok (.iinc 7 1, 3) := by decide +kernel
theorem dX5_film_106 : decode cX5_film 106 = .ok (.goto (-42), 3) := by decide +kernel
theorem dX5_film_109 : decode cX5_film 109 = .ok (.iload_n 2, 1) := by decide +kernel
theorem dX5_film_110 : decode cX5_film 110 = .ok (.ireturn, 1) := by decide +kernel
theorem dX5_sheet_0 : decode cX5_sheet 0 = .ok (.iload_n 1, 1) := by decide +kernel
theorem dX5_sheet_1 : decode cX5_sheet 1 = .ok (.invokestatic 158, 3) := by decide +kernel
theorem dX5_sheet_4 : decode cX5_sheet 4 = .ok (.ifCond .eq 18, 3) := by decide +kernel
theorem dX5_sheet_7 : decode cX5_sheet 7 = .ok (.iload_n 2, 1) := by decide +kernel
theorem dX5_sheet_8 : decode cX5_sheet 8 = .ok (.iconst 0, 1) := by decide +kernel
theorem dX5_sheet_9 : decode cX5_sheet 9 = .ok (.iconst 3, 1) := by decide +kernel
theorem dX5_sheet_10 : decode cX5_sheet 10 = .ok (.invokestatic 45, 3) := by decide +kernel
theorem dX5_sheet_13 : decode cX5_sheet 13 = .ok (.ifCond .eq 9, 3) := by decide +kernel
theorem dX5_sheet_16 : decode cX5_sheet 16 = .ok (.iload_n 3, 1) := by decide +kernel
theorem dX5_sheet_17 : decode cX5_sheet 17 = .ok (.bipush 24, 2) := by decide +kernel
theorem dX5_sheet_19 : decode cX5_sheet 19 = .ok (.if_icmp .le 5, 3) := by decide +kernel
theorem dX5_sheet_22 : decode cX5_sheet 22 = .ok (.iconst (-1), 1) := by decide +kernel
theorem dX5_sheet_23 : decode cX5_sheet 23 = .ok (.ireturn, 1) := by decide +kernel
theorem dX5_sheet_24 : decode cX5_sheet 24 = .ok (.iload_n 3, 1) := by decide +kernel
theorem dX5_sheet_25 : decode cX5_sheet 25 = .ok (.ifCond .ge 6, 3) := by decide +kernel
theorem dX5_sheet_28 : decode cX5_sheet 28 = .ok (.bipush (-14), 2) := by decide +kernel
theorem dX5_sheet_30 : decode cX5_sheet 30 = .ok (.ireturn, 1) := by decide +kernel
theorem dX5_sheet_31 : decode cX5_sheet 31 = .ok (.aload_n 0, 1) := by decide +kernel
theorem dX5_sheet_32 : decode cX5_sheet 32 = .ok (.getfield 32, 3) := by decide +kernel
theorem dX5_sheet_35 : decode cX5_sheet 35 = .ok (.iload_n 1, 1) := by decide +kernel
theorem dX5_sheet_36 : decode cX5_sheet 36 = .ok (.iload_n 2, 1) := by decide +kernel
theorem dX5_sheet_37 : decode cX5_sheet 37 = .ok (.iconst 1, 1) := by decide +kernel
theorem dX5_sheet_38 : decode cX5_sheet 38 = .ok (.iadd, 1) := by decide +kernel
theorem dX5_sheet_39 : decode cX5_sheet 39 = .ok (.iastore, 1) := by decide +kernel
theorem dX5_sheet_40 : decode cX5_sheet 40 = .ok (.aload_n 0, 1) := by decide +kernel
theorem dX5_sheet_41 : decode cX5_sheet 41 = .ok (.getfield 35, 3) := by decide +kernel
theorem dX5_sheet_44 : decode cX5_sheet 44 = .ok (.iload_n 1, 1) := by decide +kernel
theorem dX5_sheet_45 : decode cX5_sheet 45 = .ok (.iload_n 3, 1) := by decide +kernel
theorem dX5_sheet_46 : decode cX5_sheet 46 = .ok (.iastore, 1) := by decide +kernel
theorem dX5_sheet_47 : decode cX5_sheet 47 = .ok (.iconst 0, 1) := by decide +kernel
theorem dX5_sheet_48 : decode cX5_sheet 48 = .ok (.istore 4, 2) := by decide +kernel
theorem dX5_sheet_50 : decode cX5_sheet 50 = .ok (.iload 4, 2) := by decide +kernel
theorem dX5_sheet_52 : decode cX5_sheet 52 = .ok (.bipush 24, 2) := by decide +kernel
theorem dX5_sheet_54 : decode cX5_sheet 54 = .ok (.if_icmp .ge 22, 3) := by decide +kernel
theorem dX5_sheet_57 : decode cX5_sheet 57 = .ok (.aload_n 0, 1) := by decide +kernel
theorem dX5_sheet_58 : decode cX5_sheet 58 = .ok (.getfield 38, 3) := by decide +kernel
theorem dX5_sheet_61 : decode cX5_sheet 61 = .ok (.bipush 24, 2) := by decide +kernel
theorem dX5_sheet_63 : decode cX5_sheet 63 = .ok (.iload_n 1, 1) := by decide +kernel
theorem dX5_sheet_64 : decode cX5_sheet 64 = .ok (.imul, 1) := by decide +kernel
theorem dX5_sheet_65 : decode cX5_sheet 65 = .ok (.iload 4, 2) := by decide +kernel
theorem dX5_sheet_67 : decode cX5_sheet 67 = .ok (.iadd, 1) := by decide +kernel
theorem dX5_sheet_68 : decode cX5_sheet 68 = .ok (.lconst 0, 1) := by decide +kernel
theorem dX5_sheet_69 : decode cX5_sheet 69 = .ok (.lastore, 1) := by decide +kernel
theorem dX5_sheet_70 : decode cX5_sheet 70 = .ok (.iinc 4 1, 3) := by decide +kernel
theorem dX5_sheet_73 : decode cX5_sheet 73 = .ok (.goto (-23), 3) := by decide +kernel
theorem dX5_sheet_76 : decode cX5_sheet 76 = .ok (.iload_n 3, 1) := by decide +kernel
theorem dX5_sheet_77 : decode cX5_sheet 77 = .ok (.ireturn, 1) := by decide +kernel
theorem dX5_drop_0 : decode cX5_drop 0 = .ok (.iload_n 1, 1) := by decide +kernel
theorem dX5_drop_1 : decode cX5_drop 1 = .ok (.invokestatic 158, 3) := by decide +kernel
theorem dX5_drop_4 : decode cX5_drop 4 = .ok (.ifCond .ne 5, 3) := by decide +kernel
theorem dX5_drop_7 : decode cX5_drop 7 = .ok (.iconst (-1), 1) := by decide +kernel
theorem dX5_drop_8 : decode cX5_drop 8 = .ok (.ireturn, 1) := by decide +kernel
theorem dX5_drop_9 : decode cX5_drop 9 = .ok (.aload_n 0, 1) := by decide +kernel
theorem dX5_drop_10 : decode cX5_drop 10 = .ok (.getfield 32, 3) := by decide +kernel
theorem dX5_drop_13 : decode cX5_drop 13 = .ok (.iload_n 1, 1) := by decide +kernel
theorem dX5_drop_14 : decode cX5_drop 14 = .ok (.iaload, 1) := by decide +kernel
theorem dX5_drop_15 : decode cX5_drop 15 = .ok (.ifCond .ne 6, 3) := by decide +kernel
theorem dX5_drop_18 : decode cX5_drop 18 = .ok (.bipush (-11), 2) := by decide +kernel
theorem dX5_drop_20 : decode cX5_drop 20 = .ok (.ireturn, 1) := by decide +kernel
theorem dX5_drop_21 : decode cX5_drop 21 = .ok (.aload_n 0, 1) := by decide +kernel
theorem dX5_drop_22 : decode cX5_drop 22 = .ok (.getfield 32, 3) := by decide +kernel
theorem dX5_drop_25 : decode cX5_drop 25 = .ok (.iload_n 1, 1) := by decide +kernel
theorem dX5_drop_26 : decode cX5_drop 26 = .ok (.iconst 0, 1) := by decide +kernel
theorem dX5_drop_27 : decode cX5_drop 27 = .ok (.iastore, 1) := by decide +kernel
theorem dX5_drop_28 : decode cX5_drop 28 = .ok (.aload_n 0, 1) := by decide +kernel
theorem dX5_drop_29 : decode cX5_drop 29 = .ok (.getfield 35, 3) := by decide +kernel
theorem dX5_drop_32 : decode cX5_drop 32 = .ok (.iload_n 1, 1) := by decide +kernel
theorem dX5_drop_33 : decode cX5_drop 33 = .ok (.iaload, 1) := by decide +kernel
theorem dX5_drop_34 : decode cX5_drop 34 = .ok (.ireturn, 1) := by decide +kernel
theorem dX5_item_0 : decode cX5_item 0 = .ok (.iload_n 1, 1) := by decide +kernel
theorem dX5_item_1 : decode cX5_item 1 = .ok (.invokestatic 158, 3) := by decide +kernel
theorem dX5_item_4 : decode cX5_item 4 = .ok (.ifCond .eq 12, 3) := by decide +kernel
theorem dX5_item_7 : decode cX5_item 7 = .ok (.iload_n 2, 1) := by decide +kernel
theorem dX5_item_8 : decode cX5_item 8 = .ok (.iconst 0, 1) := by decide +kernel
theorem dX5_item_9 : decode cX5_item 9 = .ok (.iconst 3, 1) := by decide +kernel
theorem dX5_item_10 : decode cX5_item 10 = .ok (.invokestatic 45, 3) := by decide +kernel
theorem dX5_item_13 : decode cX5_item 13 = .ok (.ifCond .ne 5, 3) := by decide +kernel
theorem dX5_item_16 : decode cX5_item 16 = .ok (.iconst (-1), 1) := by decide +kernel
theorem dX5_item_17 : decode cX5_item 17 = .ok (.ireturn, 1) := by decide +kernel
theorem dX5_item_18 : decode cX5_item 18 = .ok (.aload_n 0, 1) := by decide +kernel
theorem dX5_item_19 : decode cX5_item 19 = .ok (.iload_n 1, 1) := by decide +kernel
theorem dX5_item_20 : decode cX5_item 20 = .ok (.iload_n 2, 1) := by decide +kernel
theorem dX5_item_21 : decode cX5_item 21 = .ok (.iload_n 3, 1) := by decide +kernel
theorem dX5_item_22 : decode cX5_item 22 = .ok (.iconst 1, 1) := by decide +kernel
theorem dX5_item_23 : decode cX5_item 23 = .ok (.invokevirtual 161, 3) := by decide +kernel
theorem dX5_item_26 : decode cX5_item 26 = .ok (.istore 6, 2) := by decide +kernel
theorem dX5_item_28 : decode cX5_item 28 = .ok (.iload 6, 2) := by decide +kernel
theorem dX5_item_30 : decode cX5_item 30 = .ok (.ifCond .eq 6, 3) := by decide +kernel
theorem dX5_item_33 : decode cX5_item 33 = .ok (.iload 6, 2) := by decide +kernel
theorem dX5_item_35 : decode cX5_item 35 = .ok (.ireturn, 1) := by decide +kernel
theorem dX5_item_36 : decode cX5_item 36 = .ok (.aload_n 0, 1) := by decide +kernel
theorem dX5_item_37 : decode cX5_item 37 = .ok (.getfield 38, 3) := by decide +kernel
theorem dX5_item_40 : decode cX5_item 40 = .ok (.bipush 24, 2) := by decide +kernel
theorem dX5_item_42 : decode cX5_item 42 = .ok (.iload_n 1, 1) := by decide +kernel
theorem dX5_item_43 : decode cX5_item 43 = .ok (.imul, 1) := by decide +kernel
theorem dX5_item_44 : decode cX5_item 44 = .ok (.iload_n 3, 1) := by decide +kernel
theorem dX5_item_45 : decode cX5_item 45 = .ok (.iadd, 1) := by decide +kernel
theorem dX5_item_46 : decode cX5_item 46 = .ok (.iload_n 2, 1) := by decide +kernel
theorem dX5_item_47 : decode cX5_item 47 = .ok (.lload 4, 2) := by decide +kernel
theorem dX5_item_49 : decode cX5_item 49 = .ok (.invokestatic 169, 3) := by decide +kernel
theorem dX5_item_52 : decode cX5_item 52 = .ok (.lastore, 1) := by decide +kernel
theorem dX5_item_53 : decode cX5_item 53 = .ok (.iconst 1, 1) := by decide +kernel
theorem dX5_item_54 : decode cX5_item 54 = .ok (.ireturn, 1) := by decide +kernel
theorem dX5_copy_0 : decode cX5_copy 0 = .ok (.iload_n 1, 1) := by decide +kernel
theorem dX5_copy_1 : decode cX5_copy 1 = .ok (.invokestatic 158, 3) := by decide +kernel
theorem dX5_copy_4 : decode cX5_copy 4 = .ok (.ifCond .eq 10, 3) := by decide +kernel
theorem dX5_copy_7 : decode cX5_copy 7 = .ok (.iload_n 3, 1) := by decide +kernel
theorem dX5_copy_8 : decode cX5_copy 8 = .ok (.invokestatic 158, 3) := by decide +kernel
theorem dX5_copy_11 : decode cX5_copy 11 = .ok (.ifCond .ne 5, 3) := by decide +kernel
theorem dX5_copy_14 : decode cX5_copy 14 = .ok (.iconst (-1), 1) := by decide +kernel
theorem dX5_copy_15 : decode cX5_copy 15 = .ok (.ireturn, 1) := by decide +kernel
theorem dX5_copy_16 : decode cX5_copy 16 = .ok (.aload_n 0, 1) := by decide +kernel
theorem dX5_copy_17 : decode cX5_copy 17 = .ok (.getfield 32, 3) := by decide +kernel
theorem dX5_copy_20 : decode cX5_copy 20 = .ok (.iload_n 1, 1) := by decide +kernel
theorem dX5_copy_21 : decode cX5_copy 21 = .ok (.iaload, 1) := by decide +kernel
theorem dX5_copy_22 : decode cX5_copy 22 = .ok (.ifCond .eq 12, 3) := by decide +kernel
theorem dX5_copy_25 : decode cX5_copy 25 = .ok (.aload_n 0, 1) := by decide +kernel
theorem dX5_copy_26 : decode cX5_copy 26 = .ok (.getfield 32, 3) := by decide +kernel
theorem dX5_copy_29 : decode cX5_copy 29 = .ok (.iload_n 3, 1) := by decide +kernel
theorem dX5_copy_30 : decode cX5_copy 30 = .ok (.iaload, 1) := by decide +kernel
theorem dX5_copy_31 : decode cX5_copy 31 = .ok (.ifCond .ne 6, 3) := by decide +kernel
theorem dX5_copy_34 : decode cX5_copy 34 = .ok (.bipush (-11), 2) := by decide +kernel
theorem dX5_copy_36 : decode cX5_copy 36 = .ok (.ireturn, 1) := by decide +kernel
theorem dX5_copy_37 : decode cX5_copy 37 = .ok (.aload_n 0, 1) := by decide +kernel
theorem dX5_copy_38 : decode cX5_copy 38 = .ok (.getfield 32, 3) := by decide +kernel
theorem dX5_copy_41 : decode cX5_copy 41 = .ok (.iload_n 1, 1) := by decide +kernel
theorem dX5_copy_42 : decode cX5_copy 42 = .ok (.iaload, 1) := by decide +kernel
theorem dX5_copy_43 : decode cX5_copy 43 = .ok (.aload_n 0, 1) := by decide +kernel
theorem dX5_copy_44 : decode cX5_copy 44 = .ok (.getfield 32, 3) := by decide +kernel
theorem dX5_copy_47 : decode cX5_copy 47 = .ok (.iload_n 3, 1) := by decide +kernel
theorem dX5_copy_48 : decode cX5_copy 48 = .ok (.iaload, 1) := by decide +kernel
theorem dX5_copy_49 : decode cX5_copy 49 = .ok (.if_icmp .eq 6, 3) := by decide +kernel
theorem dX5_copy_52 : decode cX5_copy 52 = .ok (.bipush (-12), 2) := by decide +kernel
theorem dX5_copy_54 : decode cX5_copy 54 = .ok (.ireturn, 1) := by decide +kernel
theorem dX5_copy_55 : decode cX5_copy 55 = .ok (.aload_n 0, 1) := by decide +kernel
theorem dX5_copy_56 : decode cX5_copy 56 = .ok (.iload_n 1, 1) := by decide +kernel
theorem dX5_copy_57 : decode cX5_copy 57 = .ok (.aload_n 0, 1) := by decide +kernel
theorem dX5_copy_58 : decode cX5_copy 58 = .ok (.getfield 32, 3) := by decide +kernel
theorem dX5_copy_61 : decode cX5_copy 61 = .ok (.iload_n 1, 1) := by decide +kernel
theorem dX5_copy_62 : decode cX5_copy 62 = .ok (.iaload, 1) := by decide +kernel
theorem dX5_copy_63 : decode cX5_copy 63 = .ok (.iconst 1, 1) := by decide +kernel
theorem dX5_copy_64 : decode cX5_copy 64 = .ok (.isub, 1) := by decide +kernel
theorem dX5_copy_65 : decode cX5_copy 65 = .ok (.iload_n 2, 1) := by decide +kernel
theorem dX5_copy_66 : decode cX5_copy 66 = .ok (.iload 5, 2) := by decide +kernel
theorem dX5_copy_68 : decode cX5_copy 68 = .ok (.invokevirtual 161, 3) := by decide +kernel
theorem dX5_copy_71 : decode cX5_copy 71 = .ok (.ifCond .ne 23, 3) := by decide +kernel
theorem dX5_copy_74 : decode cX5_copy 74 = .ok (.aload_n 0, 1) := by decide +kernel
theorem dX5_copy_75 : decode cX5_copy 75 = .ok (.iload_n 3, 1) := by decide +kernel
theorem dX5_copy_76 : decode cX5_copy 76 = .ok (.aload_n 0, 1) := by decide +kernel
theorem dX5_copy_77 : decode cX5_copy 77 = .ok (.getfield 32, 3) := by decide +kernel
theorem dX5_copy_80 : decode cX5_copy 80 = .ok (.iload_n 3, 1) := by decide +kernel
theorem dX5_copy_81 : decode cX5_copy 81 = .ok (.iaload, 1) := by decide +kernel
theorem dX5_copy_82 : decode cX5_copy 82 = .ok (.iconst 1, 1) := by decide +kernel
theorem dX5_copy_83 : decode cX5_copy 83 = .ok (.isub, 1) := by decide +kernel
theorem dX5_copy_84 : decode cX5_copy 84 = .ok (.iload 4, 2) := by decide +kernel
theorem dX5_copy_86 : decode cX5_copy 86 = .ok (.iload 5, 2) := by decide +kernel
theorem dX5_copy_88 : decode cX5_copy 88 = .ok (.invokevirtual 161, 3) := by decide +kernel
theorem dX5_copy_91 : decode cX5_copy 91 = .ok (.ifCond .eq 6, 3) := by decide +kernel
theorem dX5_copy_94 : decode cX5_copy 94 = .ok (.bipush (-13), 2) := by decide +kernel
theorem dX5_copy_96 : decode cX5_copy 96 = .ok (.ireturn, 1) := by decide +kernel
theorem dX5_copy_97 : decode cX5_copy 97 = .ok (.iconst 0, 1) := by decide +kernel
theorem dX5_copy_98 : decode cX5_copy 98 = .ok (.istore 6, 2) := by decide +kernel
theorem dX5_copy_100 : decode cX5_copy 100 = .ok (.iload 6, 2) := by decide +kernel
theorem dX5_copy_102 : decode cX5_copy 102 = .ok (.iload 5, 2) := by decide +kernel
theorem dX5_copy_104 : decode cX5_copy 104 = .ok (.if_icmp .ge 30, 3) := by decide +kernel
theorem dX5_copy_107 : decode cX5_copy 107 = .ok (.aload_n 0, 1) := by decide +kernel
theorem dX5_copy_108 : decode cX5_copy 108 = .ok (.getfield 42, 3) := by decide +kernel
theorem dX5_copy_111 : decode cX5_copy 111 = .ok (.iload 6, 2) := by decide +kernel
theorem dX5_copy_113 : decode cX5_copy 113 = .ok (.aload_n 0, 1) := by decide +kernel
theorem dX5_copy_114 : decode cX5_copy 114 = .ok (.getfield 38, 3) := by decide +kernel
theorem dX5_copy_117 : decode cX5_copy 117 = .ok (.bipush 24, 2) := by decide +kernel
theorem dX5_copy_119 : decode cX5_copy 119 = .ok (.iload_n 1, 1) := by decide +kernel
theorem dX5_copy_120 : decode cX5_copy 120 = .ok (.imul, 1) := by decide +kernel
theorem dX5_copy_121 : decode cX5_copy 121 = .ok (.iload_n 2, 1) := by decide +kernel
theorem dX5_copy_122 : decode cX5_copy 122 = .ok (.iadd, 1) := by decide +kernel
theorem dX5_copy_123 : decode cX5_copy 123 = .ok (.iload 6, 2) := by decide +kernel
theorem dX5_copy_125 : decode cX5_copy 125 = .ok (.iadd, 1) := by decide +kernel
theorem dX5_copy_126 : decode cX5_copy 126 = .ok (.laload, 1) := by decide +kernel
theorem dX5_copy_127 : decode cX5_copy 127 = .ok (.lastore, 1) := by decide +kernel
theorem dX5_copy_128 : decode cX5_copy 128 = .ok (.iinc 6 1, 3) := by decide +kernel
theorem dX5_copy_131 : decode cX5_copy 131 = .ok (.goto (-31), 3) := by decide +kernel
theorem dX5_copy_134 : decode cX5_copy 134 = .ok (.iconst 0, 1) := by decide +kernel
theorem dX5_copy_135 : decode cX5_copy 135 = .ok (.istore 6, 2) := by decide +kernel
theorem dX5_copy_137 : decode cX5_copy 137 = .ok (.iload 6, 2) := by decide +kernel
theorem dX5_copy_139 : decode cX5_copy 139 = .ok (.iload 5, 2) := by decide +kernel
theorem dX5_copy_141 : decode cX5_copy 141 = .ok (.if_icmp .ge 31, 3) := by decide +kernel
theorem dX5_copy_144 : decode cX5_copy 144 = .ok (.aload_n 0, 1) := by decide +kernel
theorem dX5_copy_145 : decode cX5_copy 145 = .ok (.getfield 38, 3) := by decide +kernel
theorem dX5_copy_148 : decode cX5_copy 148 = .ok (.bipush 24, 2) := by decide +kernel
theorem dX5_copy_150 : decode cX5_copy 150 = .ok (.iload_n 3, 1) := by decide +kernel
theorem dX5_copy_151 : decode cX5_copy 151 = .ok (.imul, 1) := by decide +kernel
theorem dX5_copy_152 : decode cX5_copy 152 = .ok (.iload 4, 2) := by decide +kernel
theorem dX5_copy_154 : decode cX5_copy 154 = .ok (.iadd, 1) := by decide +kernel
theorem dX5_copy_155 : decode cX5_copy 155 = .ok (.iload 6, 2) := by decide +kernel
theorem dX5_copy_157 : decode cX5_copy 157 = .ok (.iadd, 1) := by decide +kernel
theorem dX5_copy_158 : decode cX5_copy 158 = .ok (.aload_n 0, 1) := by decide +kernel
theorem dX5_copy_159 : decode cX5_copy 159 = .ok (.getfield 42, 3) := by decide +kernel
theorem dX5_copy_162 : decode cX5_copy 162 = .ok (.iload 6, 2) := by decide +kernel
theorem dX5_copy_164 : decode cX5_copy 164 = .ok (.laload, 1) := by decide +kernel
theorem dX5_copy_165 : decode cX5_copy 165 = .ok (.lastore, 1) := by decide +kernel
theorem dX5_copy_166 : decode cX5_copy 166 = .ok (.iinc 6 1, 3) := by decide +kernel
theorem dX5_copy_169 : decode cX5_copy 169 = .ok (.goto (-32), 3) := by decide +kernel
theorem dX5_copy_172 : decode cX5_copy 172 = .ok (.iload 5, 2) := by decide +kernel
theorem dX5_copy_174 : decode cX5_copy 174 = .ok (.ireturn, 1) := by decide +kernel
