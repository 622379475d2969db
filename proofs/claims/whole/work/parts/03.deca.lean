theorem dJ6_bitCount_0f7a4_0 : decode cJ6_bitCount_0f7a4 0 = .ok (.iload_n 0, 1) := by decide +kernel
theorem dJ6_bitCount_0f7a4_1 : decode cJ6_bitCount_0f7a4 1 = .ok (.iload_n 0, 1) := by decide +kernel
theorem dJ6_bitCount_0f7a4_2 : decode cJ6_bitCount_0f7a4 2 = .ok (.iconst 1, 1) := by decide +kernel
theorem dJ6_bitCount_0f7a4_3 : decode cJ6_bitCount_0f7a4 3 = .ok (.iushr, 1) := by decide +kernel
theorem dJ6_bitCount_0f7a4_4 : decode cJ6_bitCount_0f7a4 4 = .ok (.ldc_w 265, 3) := by decide +kernel
theorem dJ6_bitCount_0f7a4_7 : decode cJ6_bitCount_0f7a4 7 = .ok (.iand, 1) := by decide +kernel
theorem dJ6_bitCount_0f7a4_8 : decode cJ6_bitCount_0f7a4 8 = .ok (.isub, 1) := by decide +kernel
theorem dJ6_bitCount_0f7a4_9 : decode cJ6_bitCount_0f7a4 9 = .ok (.istore_n 0, 1) := by decide +kernel
theorem dJ6_bitCount_0f7a4_10 : decode cJ6_bitCount_0f7a4 10 = .ok (.iload_n 0, 1) := by decide +kernel
theorem dJ6_bitCount_0f7a4_11 : decode cJ6_bitCount_0f7a4 11 = .ok (.ldc_w 266, 3) := by decide +kernel
theorem dJ6_bitCount_0f7a4_14 : decode cJ6_bitCount_0f7a4 14 = .ok (.iand, 1) := by decide +kernel
theorem dJ6_bitCount_0f7a4_15 : decode cJ6_bitCount_0f7a4 15 = .ok (.iload_n 0, 1) := by decide +kernel
theorem dJ6_bitCount_0f7a4_16 : decode cJ6_bitCount_0f7a4 16 = .ok (.iconst 2, 1) := by decide +kernel
theorem dJ6_bitCount_0f7a4_17 : decode cJ6_bitCount_0f7a4 17 = .ok (.iushr, 1) := by decide +kernel
theorem dJ6_bitCount_0f7a4_18 : decode cJ6_bitCount_0f7a4 18 = .ok (.ldc_w 266, 3) := by decide +kernel
theorem dJ6_bitCount_0f7a4_21 : decode cJ6_bitCount_0f7a4 21 = .ok (.iand, 1) := by decide +kernel
theorem dJ6_bitCount_0f7a4_22 : decode cJ6_bitCount_0f7a4 22 = .ok (.iadd, 1) := by decide +kernel
theorem dJ6_bitCount_0f7a4_23 : decode cJ6_bitCount_0f7a4 23 = .ok (.istore_n 0, 1) := by decide +kernel
theorem dJ6_bitCount_0f7a4_24 : decode cJ6_bitCount_0f7a4 24 = .ok (.iload_n 0, 1) := by decide +kernel
theorem dJ6_bitCount_0f7a4_25 : decode cJ6_bitCount_0f7a4 25 = .ok (.iload_n 0, 1) := by decide +kernel
theorem dJ6_bitCount_0f7a4_26 : decode cJ6_bitCount_0f7a4 26 = .ok (.iconst 4, 1) := by decide +kernel
theorem dJ6_bitCount_0f7a4_27 : decode cJ6_bitCount_0f7a4 27 = .ok (.iushr, 1) := by decide +kernel
theorem dJ6_bitCount_0f7a4_28 : decode cJ6_bitCount_0f7a4 28 = .ok (.iadd, 1) := by decide +kernel
theorem dJ6_bitCount_0f7a4_29 : decode cJ6_bitCount_0f7a4 29 = .ok (.ldc_w 267, 3) := by decide +kernel
theorem dJ6_bitCount_0f7a4_32 : decode cJ6_bitCount_0f7a4 32 = .ok (.iand, 1) := by decide +kernel
theorem dJ6_bitCount_0f7a4_33 : decode cJ6_bitCount_0f7a4 33 = .ok (.istore_n 0, 1) := by decide +kernel
theorem dJ6_bitCount_0f7a4_34 : decode cJ6_bitCount_0f7a4 34 = .ok (.iload_n 0, 1) := by decide +kernel
theorem dJ6_bitCount_0f7a4_35 : decode cJ6_bitCount_0f7a4 35 = .ok (.iload_n 0, 1) := by decide +kernel
theorem dJ6_bitCount_0f7a4_36 : decode cJ6_bitCount_0f7a4 36 = .ok (.bipush 8, 2) := by decide +kernel
theorem dJ6_bitCount_0f7a4_38 : decode cJ6_bitCount_0f7a4 38 = .ok (.iushr, 1) := by decide +kernel
theorem dJ6_bitCount_0f7a4_39 : decode cJ6_bitCount_0f7a4 39 = .ok (.iadd, 1) := by decide +kernel
theorem dJ6_bitCount_0f7a4_40 : decode cJ6_bitCount_0f7a4 40 = .ok (.istore_n 0, 1) := by decide +kernel
theorem dJ6_bitCount_0f7a4_41 : decode cJ6_bitCount_0f7a4 41 = .ok (.iload_n 0, 1) := by decide +kernel
theorem dJ6_bitCount_0f7a4_42 : decode cJ6_bitCount_0f7a4 42 = .ok (.iload_n 0, 1) := by decide +kernel
theorem dJ6_bitCount_0f7a4_43 : decode cJ6_bitCount_0f7a4 43 = .ok (.bipush 16, 2) := by decide +kernel
theorem dJ6_bitCount_0f7a4_45 : decode cJ6_bitCount_0f7a4 45 = .ok (.iushr, 1) := by decide +kernel
theorem dJ6_bitCount_0f7a4_46 : decode cJ6_bitCount_0f7a4 46 = .ok (.iadd, 1) := by decide +kernel
theorem dJ6_bitCount_0f7a4_47 : decode cJ6_bitCount_0f7a4 47 = .ok (.istore_n 0, 1) := by decide +kernel
theorem dJ6_bitCount_0f7a4_48 : decode cJ6_bitCount_0f7a4 48 = .ok (.iload_n 0, 1) := by decide +kernel
theorem dJ6_bitCount_0f7a4_49 : decode cJ6_bitCount_0f7a4 49 = .ok (.bipush 63, 2) := by decide +kernel
theorem dJ6_bitCount_0f7a4_51 : decode cJ6_bitCount_0f7a4 51 = .ok (.iand, 1) := by decide +kernel
theorem dJ6_bitCount_0f7a4_52 : decode cJ6_bitCount_0f7a4 52 = .ok (.ireturn, 1) := by decide +kernel
theorem dJ9_max_7cf53_0 : decode cJ9_max_7cf53 0 = .ok (.iload_n 0, 1) := by decide +kernel
theorem dJ9_max_7cf53_1 : decode cJ9_max_7cf53 1 = .ok (.iload_n 1, 1) := by decide +kernel
theorem dJ9_max_7cf53_2 : decode cJ9_max_7cf53 2 = .ok (.if_icmp .lt 7, 3) := by decide +kernel
theorem dJ9_max_7cf53_5 : decode cJ9_max_7cf53 5 = .ok (.iload_n 0, 1) := by decide +kernel
theorem dJ9_max_7cf53_6 : decode cJ9_max_7cf53 6 = .ok (.goto 4, 3) := by decide +kernel
theorem dJ9_max_7cf53_9 : decode cJ9_max_7cf53 9 = .ok (.iload_n 1, 1) := by decide +kernel
theorem dJ9_max_7cf53_10 : decode cJ9_max_7cf53 10 = .ok (.ireturn, 1) := by decide +kernel
theorem dJ9_min_7cf53_0 : decode cJ9_min_7cf53 0 = .ok (.iload_n 0, 1) := by decide +kernel
theorem dJ9_min_7cf53_1 : decode cJ9_min_7cf53 1 = .ok (.iload_n 1, 1) := by decide +kernel
theorem dJ9_min_7cf53_2 : decode cJ9_min_7cf53 2 = .ok (.if_icmp .gt 7, 3) := by decide +kernel
theorem dJ9_min_7cf53_5 : decode cJ9_min_7cf53 5 = .ok (.iload_n 0, 1) := by decide +kernel
theorem dJ9_min_7cf53_6 : decode cJ9_min_7cf53 6 = .ok (.goto 4, 3) := by decide +kernel
theorem dJ9_min_7cf53_9 : decode cJ9_min_7cf53 9 = .ok (.iload_n 1, 1) := by decide +kernel
theorem dJ9_min_7cf53_10 : decode cJ9_min_7cf53 10 = .ok (.ireturn, 1) := by decide +kernel
theorem dX0_init_0 : decode cX0_init 0 = .ok (.aload_n 0, 1) := by decide +kernel
theorem dX0_init_1 : decode cX0_init 1 = .ok (.invokespecial 3, 3) := by decide +kernel
theorem dX0_init_4 : decode cX0_init 4 = .ok (.aload_n 0, 1) := by decide +kernel
theorem dX0_init_5 : decode cX0_init 5 = .ok (.bipush 8, 2) := by decide +kernel
theorem dX0_init_7 : decode cX0_init 7 = .ok (.anewarray 9, 3) := by decide +kernel
theorem dX0_init_10 : decode cX0_init 10 = .ok (.putfield 11, 3) := by decide +kernel
theorem dX0_init_13 : decode cX0_init 13 = .ok (.aload_n 0, 1) := by decide +kernel
theorem dX0_init_14 : decode cX0_init 14 = .ok (.iconst 0, 1) := by decide +kernel
theorem dX0_init_15 : decode cX0_init 15 = .ok (.putfield 17, 3) := by decide +kernel
theorem dX0_init_18 : decode cX0_init 18 = .ok (.aload_n 0, 1) := by decide +kernel
theorem dX0_init_19 : decode cX0_init 19 = .ok (.iconst 0, 1) := by decide +kernel
theorem dX0_init_20 : decode cX0_init 20 = .ok (.putfield 21, 3) := by decide +kernel
theorem dX0_init_23 : decode cX0_init 23 = .ok (.iconst 0, 1) := by decide +kernel
theorem dX0_init_24 : decode cX0_init 24 = .ok (.istore_n 1, 1) := by decide +kernel
theorem dX0_init_25 : decode cX0_init 25 = .ok (.iload_n 1, 1) := by decide +kernel
theorem dX0_init_26 : decode cX0_init 26 = .ok (.bipush 8, 2) := by decide +kernel
theorem dX0_init_28 : decode cX0_init 28 = .ok (.if_icmp .ge 22, 3) := by decide +kernel
theorem dX0_init_31 : decode cX0_init 31 = .ok (.aload_n 0, 1) := by decide +kernel
theorem dX0_init_32 : decode cX0_init 32 = .ok (.getfield 11, 3) := by decide +kernel
theorem dX0_init_35 : decode cX0_init 35 = .ok (.iload_n 1, 1) := by decide +kernel
theorem dX0_init_36 : decode cX0_init 36 = .ok (.new 9, 3) := by decide +kernel
theorem dX0_init_39 : decode cX0_init 39 = .ok (.dup, 1) := by decide +kernel
theorem dX0_init_40 : decode cX0_init 40 = .ok (.invokespecial 24, 3) := by decide +kernel
theorem dX0_init_43 : decode cX0_init 43 = .ok (.aastore, 1) := by decide +kernel
theorem dX0_init_44 : decode cX0_init 44 = .ok (.iinc 1 1, 3) := by decide +kernel
theorem dX0_init_47 : decode cX0_init 47 = .ok (.goto (-22), 3) := by decide +kernel
theorem dX0_init_50 : decode cX0_init 50 = .ok (.return_, 1) := by decide +kernel
theorem dX0_note_0 : decode cX0_note 0 = .ok (.aload_n 0, 1) := by decide +kernel
theorem dX0_note_1 : decode cX0_note 1 = .ok (.getfield 11, 3) := by decide +kernel
theorem dX0_note_4 : decode cX0_note 4 = .ok (.aload_n 0, 1) := by decide +kernel
theorem dX0_note_5 : decode cX0_note 5 = .ok (.getfield 17, 3) := by decide +kernel
theorem dX0_note_8 : decode cX0_note 8 = .ok (.aaload, 1) := by decide +kernel
theorem dX0_note_9 : decode cX0_note 9 = .ok (.aload_n 1, 1) := by decide +kernel
theorem dX0_note_10 : decode cX0_note 10 = .ok (.invokevirtual 25, 3) := by decide +kernel
theorem dX0_note_13 : decode cX0_note 13 = .ok (.aload_n 0, 1) := by decide +kernel
theorem dX0_note_14 : decode cX0_note 14 = .ok (.aload_n 0, 1) := by decide +kernel
theorem dX0_note_15 : decode cX0_note 15 = .ok (.getfield 17, 3) := by decide +kernel
theorem dX0_note_18 : decode cX0_note 18 = .ok (.iconst 1, 1) := by decide +kernel
theorem dX0_note_19 : decode cX0_note 19 = .ok (.iadd, 1) := by decide +kernel
theorem dX0_note_20 : decode cX0_note 20 = .ok (.bipush 8, 2) := by decide +kernel
theorem dX0_note_22 : decode cX0_note 22 = .ok (.irem, 1) := by decide +kernel
theorem dX0_note_23 : decode cX0_note 23 = .ok (.putfield 17, 3) := by decide +kernel
theorem dX0_note_26 : decode cX0_note 26 = .ok (.aload_n 0, 1) := by decide +kernel
theorem dX0_note_27 : decode cX0_note 27 = .ok (.bipush 8, 2) := by decide +kernel
theorem dX0_note_29 : decode cX0_note 29 = .ok (.aload_n 0, 1) := by decide +kernel
theorem dX0_note_30 : decode cX0_note 30 = .ok (.getfield 21, 3) := by decide +kernel
theorem dX0_note_33 : decode cX0_note 33 = .ok (.iconst 1, 1) := by decide +kernel
theorem dX0_note_34 : decode cX0_note 34 = .ok (.iadd, 1) := by decide +kernel
theorem dX0_note_35 : decode cX0_note 35 = .ok (.invokestatic 29, 3) := by decide +kernel
theorem dX0_note_38 : decode cX0_note 38 = .ok (.putfield 21, 3) := by decide +kernel
theorem dX0_note_41 : decode cX0_note 41 = .ok (.return_, 1) := by decide +kernel
theorem dX0_giveBack_0 : decode cX0_giveBack 0 = .ok (.aload_n 0, 1) := by decide +kernel
theorem dX0_giveBack_1 : decode cX0_giveBack 1 = .ok (.aload_n 0, 1) := by decide +kernel
theorem dX0_giveBack_2 : decode cX0_giveBack 2 = .ok (.getfield 17, 3) := by decide +kernel
theorem dX0_giveBack_5 : decode cX0_giveBack 5 = .ok (.bipush 8, 2) := by decide +kernel
theorem dX0_giveBack_7 : decode cX0_giveBack 7 = .ok (.iadd, 1) := by decide +kernel
theorem dX0_giveBack_8 : decode cX0_giveBack 8 = .ok (.iconst 1, 1) := by decide +kernel
theorem dX0_giveBack_9 : decode cX0_giveBack 9 = .ok (.isub, 1) := by decide +kernel
theorem dX0_giveBack_10 : decode cX0_giveBack 10 = .ok (.bipush 8, 2) := by decide +kernel
theorem dX0_giveBack_12 : decode cX0_giveBack 12 = .ok (.irem, 1) := by decide +kernel
theorem dX0_giveBack_13 : decode cX0_giveBack 13 = .ok (.putfield 17, 3) := by decide +kernel
theorem dX0_giveBack_16 : decode cX0_giveBack 16 = .ok (.aload_n 0, 1) := by decide +kernel
theorem dX0_giveBack_17 : decode cX0_giveBack 17 = .ok (.dup, 1) := by decide +kernel
theorem dX0_giveBack_18 : decode cX0_giveBack 18 = .ok (.getfield 21, 3) := by decide +kernel
theorem dX0_giveBack_21 : decode cX0_giveBack 21 = .ok (.iconst 1, 1) := by decide +kernel
theorem dX0_giveBack_22 : decode cX0_giveBack 22 = .ok (.isub, 1) := by decide +kernel
theorem dX0_giveBack_23 : decode cX0_giveBack 23 = .ok (.putfield 21, 3) := by decide +kernel
theorem dX0_giveBack_26 : decode cX0_giveBack 26 = .ok (.aload_n 1, 1) := by decide +kernel
theorem dX0_giveBack_27 : decode cX0_giveBack 27 = .ok (.aload_n 0, 1) := by decide +kernel
theorem dX0_giveBack_28 : decode cX0_giveBack 28 = .ok (.getfield 11, 3) := by decide +kernel
theorem dX0_giveBack_31 : decode cX0_giveBack 31 = .ok (.aload_n 0, 1) := by decide +kernel
theorem dX0_giveBack_32 : decode cX0_giveBack 32 = .ok (.getfield 17, 3) := by decide +kernel
theorem dX0_giveBack_35 : decode cX0_giveBack 35 = .ok (.aaload, 1) := by decide +kernel
theorem dX0_giveBack_36 : decode cX0_giveBack 36 = .ok (.invokevirtual 25, 3) := by decide +kernel
theorem dX0_giveBack_39 : decode cX0_giveBack 39 = .ok (.return_, 1) := by decide +kernel
theorem dX0_forget_0 : decode cX0_forget 0 = .ok (.aload_n 0, 1) := by decide +kernel
theorem dX0_forget_1 : decode cX0_forget 1 = .ok (.iconst 0, 1) := by decide +kernel
theorem dX0_forget_2 : decode cX0_forget 2 = .ok (.putfield 21, 3) := by decide +kernel
theorem dX0_forget_5 : decode cX0_forget 5 = .ok (.return_, 1) := by decide +kernel
theorem dX0_become_0 : decode cX0_become 0 = .ok (.iconst 0, 1) := by decide +kernel
theorem dX0_become_1 : decode cX0_become 1 = .ok (.istore_n 2, 1) := by decide +kernel
theorem dX0_become_2 : decode cX0_become 2 = .ok (.iload_n 2, 1) := by decide +kernel
theorem dX0_become_3 : decode cX0_become 3 = .ok (.bipush 8, 2) := by decide +kernel
theorem dX0_become_5 : decode cX0_become 5 = .ok (.if_icmp .ge 24, 3) := by decide +kernel
theorem dX0_become_8 : decode cX0_become 8 = .ok (.aload_n 0, 1) := by decide +kernel
theorem dX0_become_9 : decode cX0_become 9 = .ok (.getfield 11, 3) := by decide +kernel
theorem dX0_become_12 : decode cX0_become 12 = .ok (.iload_n 2, 1) := by decide +kernel
theorem dX0_become_13 : decode cX0_become 13 = .ok (.aaload, 1) := by decide +kernel
theorem dX0_become_14 : decode cX0_become 14 = .ok (.aload_n 1, 1) := by decide +kernel
theorem dX0_become_15 : decode cX0_become 15 = .ok (.getfield 11, 3) := by decide +kernel
theorem dX0_become_18 : decode cX0_become 18 = .ok (.iload_n 2, 1) := by decide +kernel
theorem dX0_become_19 : decode cX0_become 19 = .ok (.aaload, 1) := by decide +kernel
theorem dX0_become_20 : decode cX0_become 20 = .ok (.invokevirtual 25, 3) := by decide +kernel
theorem dX0_become_23 : decode cX0_become 23 = .ok (.iinc 2 1, 3) := by decide +kernel
theorem dX0_become_26 : decode cX0_become 26 = .ok (.goto (-24), 3) := by decide +kernel
theorem dX0_become_29 : decode cX0_become 29 = .ok (.aload_n 0, 1) := by decide +kernel
theorem dX0_become_30 : decode cX0_become 30 = .ok (.aload_n 1, 1) := by decide +kernel
theorem dX0_become_31 : decode cX0_become 31 = .ok (.getfield 17, 3) := by decide +kernel
theorem dX0_become_34 : decode cX0_become 34 = .ok (.putfield 17, 3) := by decide +kernel
theorem dX0_become_37 : decode cX0_become 37 = .ok (.aload_n 0, 1) := by decide +kernel
theorem dX0_become_38 : decode cX0_become 38 = .ok (.aload_n 1, 1) := by decide +kernel
theorem dX0_become_39 : decode cX0_become 39 = .ok (.getfield 21, 3) := by decide +kernel
theorem dX0_become_42 : decode cX0_become 42 = .ok (.putfield 21, 3) := by decide +kernel
theorem dX0_become_45 : decode cX0_become 45 = .ok (.return_, 1) := by decide +kernel
theorem dX1_init_0 : decode cX1_init 0 = .ok (.aload_n 0, 1) := by decide +kernel
theorem dX1_init_1 : decode cX1_init 1 = .ok (.invokespecial 3, 3) := by decide +kernel
theorem dX1_init_4 : decode cX1_init 4 = .ok (.aload_n 0, 1) := by decide +kernel
theorem dX1_init_5 : decode cX1_init 5 = .ok (.bipush 24, 2) := by decide +kernel
theorem dX1_init_7 : decode cX1_init 7 = .ok (.newarray .long, 2) := by decide +kernel
theorem dX1_init_9 : decode cX1_init 9 = .ok (.putfield 9, 3) := by decide +kernel
theorem dX1_init_12 : decode cX1_init 12 = .ok (.aload_n 0, 1) := by decide +kernel
theorem dX1_init_13 : decode cX1_init 13 = .ok (.iconst (-1), 1) := by decide +kernel
theorem dX1_init_14 : decode cX1_init 14 = .ok (.putfield 15, 3) := by decide +kernel
theorem dX1_init_17 : decode cX1_init 17 = .ok (.aload_n 0, 1) := by decide +kernel
theorem dX1_init_18 : decode cX1_init 18 = .ok (.iconst 0, 1) := by decide +kernel
theorem dX1_init_19 : decode cX1_init 19 = .ok (.putfield 19, 3) := by decide +kernel
theorem dX1_init_22 : decode cX1_init 22 = .ok (.return_, 1) := by decide +kernel
theorem dX1_renew_0 : decode cX1_renew 0 = .ok (.iconst 0, 1) := by decide +kernel
theorem dX1_renew_1 : decode cX1_renew 1 = .ok (.istore_n 3, 1) := by decide +kernel
theorem dX1_renew_2 : decode cX1_renew 2 = .ok (.iload_n 3, 1) := by decide +kernel
theorem dX1_renew_3 : decode cX1_renew 3 = .ok (.bipush 24, 2) := by decide +kernel
theorem dX1_renew_5 : decode cX1_renew 5 = .ok (.if_icmp .ge 16, 3) := by decide +kernel
theorem dX1_renew_8 : decode cX1_renew 8 = .ok (.aload_n 0, 1) := by decide +kernel
theorem dX1_renew_9 : decode cX1_renew 9 = .ok (.getfield 9, 3) := by decide +kernel
theorem dX1_renew_12 : decode cX1_renew 12 = .ok (.iload_n 3, 1) := by decide +kernel
theorem dX1_renew_13 : decode cX1_renew 13 = .ok (.lconst 0, 1) := by decide +kernel
theorem dX1_renew_14 : decode cX1_renew 14 = .ok (.lastore, 1) := by decide +kernel
theorem dX1_renew_15 : decode cX1_renew 15 = .ok (.iinc 3 1, 3) := by decide +kernel
theorem dX1_renew_18 : decode cX1_renew 18 = .ok (.goto (-16), 3) := by decide +kernel
theorem dX1_renew_21 : decode cX1_renew 21 = .ok (.aload_n 0, 1) := by decide +kernel
theorem dX1_renew_22 : decode cX1_renew 22 = .ok (.iload_n 1, 1) := by decide +kernel
theorem dX1_renew_23 : decode cX1_renew 23 = .ok (.putfield 15, 3) := by decide +kernel
theorem dX1_renew_26 : decode cX1_renew 26 = .ok (.aload_n 0, 1) := by decide +kernel
theorem dX1_renew_27 : decode cX1_renew 27 = .ok (.iload_n 2, 1) := by decide +kernel
theorem dX1_renew_28 : decode cX1_renew 28 = .ok (.putfield 19, 3) := by decide +kernel
theorem dX1_renew_31 : decode cX1_renew 31 = .ok (.return_, 1) := by decide +kernel
theorem dX1_faultOf_0 : decode cX1_faultOf 0 = .ok (.aload_n 0, 1) := by decide +kernel
theorem dX1_faultOf_1 : decode cX1_faultOf 1 = .ok (.getfield 15, 3) := by decide +kernel
theorem dX1_faultOf_4 : decode cX1_faultOf 4 = .ok (.iconst (-1), 1) := by decide +kernel
theorem dX1_faultOf_5 : decode cX1_faultOf 5 = .ok (.if_icmp .ne 6, 3) := by decide +kernel
theorem dX1_faultOf_8 : decode cX1_faultOf 8 = .ok (.bipush (-11), 2) := by decide +kernel
theorem dX1_faultOf_10 : decode cX1_faultOf 10 = .ok (.ireturn, 1) := by decide +kernel
theorem dX1_faultOf_11 : decode cX1_faultOf 11 = .ok (.aload_n 0, 1) := by decide +kernel
theorem dX1_faultOf_12 : decode cX1_faultOf 12 = .ok (.getfield 15, 3) := by decide +kernel
theorem dX1_faultOf_15 : decode cX1_faultOf 15 = .ok (.iload_n 1, 1) := by decide +kernel
theorem dX1_faultOf_16 : decode cX1_faultOf 16 = .ok (.if_icmp .eq 6, 3) := by decide +kernel
theorem dX1_faultOf_19 : decode cX1_faultOf 19 = .ok (.bipush (-12), 2) := by decide +kernel
theorem dX1_faultOf_21 : decode cX1_faultOf 21 = .ok (.ireturn, 1) := by decide +kernel
theorem dX1_faultOf_22 : decode cX1_faultOf 22 = .ok (.aload_n 0, 1) := by decide +kernel
theorem dX1_faultOf_23 : decode cX1_faultOf 23 = .ok (.iload_n 2, 1) := by decide +kernel
theorem dX1_faultOf_24 : decode cX1_faultOf 24 = .ok (.iload_n 3, 1) := by decide +kernel
theorem dX1_faultOf_25 : decode cX1_faultOf 25 = .ok (.invokevirtual 22, 3) := by decide +kernel
theorem dX1_faultOf_28 : decode cX1_faultOf 28 = .ok (.ifCond .eq 7, 3) := by decide +kernel
theorem dX1_faultOf_31 : decode cX1_faultOf 31 = .ok (.iconst 0, 1) := by decide +kernel
theorem dX1_faultOf_32 : decode cX1_faultOf 32 = .ok (.goto 5, 3) := by decide +kernel
theorem dX1_faultOf_35 : decode cX1_faultOf 35 = .ok (.bipush (-13), 2) := by decide +kernel
theorem dX1_faultOf_37 : decode cX1_faultOf 37 = .ok (.ireturn, 1) := by decide +kernel
theorem dX1_reaches_0 : decode cX1_reaches 0 = .ok (.iload_n 1, 1) := by decide +kernel
theorem dX1_reaches_1 : decode cX1_reaches 1 = .ok (.ifCond .lt 21, 3) := by decide +kernel
theorem dX1_reaches_4 : decode cX1_reaches 4 = .ok (.iload_n 2, 1) := by decide +kernel
theorem dX1_reaches_5 : decode cX1_reaches 5 = .ok (.ifCond .lt 17, 3) := by decide +kernel
theorem dX1_reaches_8 : decode cX1_reaches 8 = .ok (.iload_n 1, 1) := by decide +kernel
theorem dX1_reaches_9 : decode cX1_reaches 9 = .ok (.aload_n 0, 1) := by decide +kernel
theorem dX1_reaches_10 : decode cX1_reaches 10 = .ok (.getfield 19, 3) := by decide +kernel
theorem dX1_reaches_13 : decode cX1_reaches 13 = .ok (.iload_n 2, 1) := by decide +kernel
theorem dX1_reaches_14 : decode cX1_reaches 14 = .ok (.isub, 1) := by decide +kernel
theorem dX1_reaches_15 : decode cX1_reaches 15 = .ok (.if_icmp .gt 7, 3) := by decide +kernel
theorem dX1_reaches_18 : decode cX1_reaches 18 = .ok (.iconst 1, 1) := by decide +kernel
theorem dX1_reaches_19 : decode cX1_reaches 19 = .ok (.goto 4, 3) := by decide +kernel
theorem dX1_reaches_22 : decode cX1_reaches 22 = .ok (.iconst 0, 1) := by decide +kernel
theorem dX1_reaches_23 : decode cX1_reaches 23 = .ok (.ireturn, 1) := by decide +kernel
theorem dX1_put_0 : decode cX1_put 0 = .ok (.iload_n 1, 1) := by decide +kernel
theorem dX1_put_1 : decode cX1_put 1 = .ok (.ifCond .lt 22, 3) := by decide +kernel
theorem dX1_put_4 : decode cX1_put 4 = .ok (.iload_n 1, 1) := by decide +kernel
theorem dX1_put_5 : decode cX1_put 5 = .ok (.aload_n 0, 1) := by decide +kernel
theorem dX1_put_6 : decode cX1_put 6 = .ok (.getfield 19, 3) := by decide +kernel
theorem dX1_put_9 : decode cX1_put 9 = .ok (.if_icmp .ge 14, 3) := by decide +kernel
theorem dX1_put_12 : decode cX1_put 12 = .ok (.aload_n 0, 1) := by decide +kernel
theorem dX1_put_13 : decode cX1_put 13 = .ok (.getfield 9, 3) := by decide +kernel
theorem dX1_put_16 : decode cX1_put 16 = .ok (.iload_n 1, 1) := by decide +kernel
theorem dX1_put_17 : decode cX1_put 17 = .ok (.aload_n 0, 1) := by decide +kernel
theorem dX1_put_18 : decode cX1_put 18 = .ok (.lload_n 2, 1) := by decide +kernel
theorem dX1_put_19 : decode cX1_put 19 = .ok (.invokevirtual 26, 3) := by decide +kernel
theorem dX1_put_22 : decode cX1_put 22 = .ok (.lastore, 1) := by decide +kernel
theorem dX1_put_23 : decode cX1_put 23 = .ok (.return_, 1) := by decide +kernel
theorem dX1_lowestBits_0 : decode cX1_lowestBits 0 = .ok (.aload_n 0, 1) := by decide +kernel
theorem dX1_lowestBits_1 : decode cX1_lowestBits 1 = .ok (.getfield 15, 3) := by decide +kernel
theorem dX1_lowestBits_4 : decode cX1_lowestBits 4 = .ok (.tableswitch 42 0 2 #[28, 33, 38], 28) := by decide +kernel
theorem dX1_lowestBits_32 : decode cX1_lowestBits 32 = .ok (.lload_n 1, 1) := by decide +kernel
theorem dX1_lowestBits_33 : decode cX1_lowestBits 33 = .ok (.l2i, 1) := by decide +kernel
theorem dX1_lowestBits_34 : decode cX1_lowestBits 34 = .ok (.i2b, 1) := by decide +kernel
theorem dX1_lowestBits_35 : decode cX1_lowestBits 35 = .ok (.i2l, 1) := by decide +kernel
theorem dX1_lowestBits_36 : decode cX1_lowestBits 36 = .ok (.lreturn, 1) := by decide +kernel
theorem dX1_lowestBits_37 : decode cX1_lowestBits 37 = .ok (.lload_n 1, 1) := by decide +kernel
theorem dX1_lowestBits_38 : decode cX1_lowestBits 38 = .ok (.l2i, 1) := by decide +kernel
theorem dX1_lowestBits_39 : decode cX1_lowestBits 39 = .ok (.i2s, 1) := by decide +kernel
theorem dX1_lowestBits_40 : decode cX1_lowestBits 40 = .ok (.i2l, 1) := by decide +kernel
theorem dX1_lowestBits_41 : decode cX1_lowestBits 41 = .ok (.lreturn, 1) := by decide +kernel
theorem dX1_lowestBits_42 : decode cX1_lowestBits 42 = .ok (.lload_n 1, 1) := by decide +kernel
theorem dX1_lowestBits_43 : decode cX1_lowestBits 43 = .ok (.l2i, 1) := by decide +kernel
theorem dX1_lowestBits_44 : decode cX1_lowestBits 44 = .ok (.i2l, 1) := by decide +kernel
theorem dX1_lowestBits_45 : decode cX1_lowestBits 45 = .ok (.lreturn, 1) := by decide +kernel
theorem dX1_lowestBits_46 : decode cX1_lowestBits 46 = .ok (.lload_n 1, 1) := by decide +kernel
theorem dX1_lowestBits_47 : decode cX1_lowestBits 47 = .ok (.lreturn, 1) := by decide +kernel
theorem dX2_init_0 : decode cX2_init 0 = .ok (.aload_n 0, 1) := by decide +kernel
theorem dX2_init_1 : decode cX2_init 1 = .ok (.invokespecial 3, 3) := by decide +kernel
theorem dX2_init_4 : decode cX2_init 4 = .ok (.aload_n 0, 1) := by decide +kernel
theorem dX2_init_5 : decode cX2_init 5 = .ok (.bipush 80, 2) := by decide +kernel
theorem dX2_init_7 : decode cX2_init 7 = .ok (.newarray .int, 2) := by decide +kernel
theorem dX2_init_9 : decode cX2_init 9 = .ok (.putfield 9, 3) := by decide +kernel
theorem dX2_init_12 : decode cX2_init 12 = .ok (.aload_n 0, 1) := by decide +kernel
theorem dX2_init_13 : decode cX2_init 13 = .ok (.iconst 0, 1) := by decide +kernel
theorem dX2_init_14 : decode cX2_init 14 = .ok (.putfield 15, 3) := by decide +kernel
theorem dX2_init_17 : decode cX2_init 17 = .ok (.aload_n 0, 1) := by decide +kernel
theorem dX2_init_18 : decode cX2_init 18 = .ok (.iconst 0, 1) := by decide +kernel
theorem dX2_init_19 : decode cX2_init 19 = .ok (.putfield 19, 3) := by decide +kernel
theorem dX2_init_22 : decode cX2_init 22 = .ok (.aload_n 0, 1) := by decide +kernel
theorem dX2_init_23 : decode cX2_init 23 = .ok (.iconst 0, 1) := by decide +kernel
theorem dX2_init_24 : decode cX2_init 24 = .ok (.putfield 22, 3) := by decide +kernel
theorem dX2_init_27 : decode cX2_init 27 = .ok (.return_, 1) := by decide +kernel
theorem dX2_write_0 : decode cX2_write 0 = .ok (.aload_n 0, 1) := by decide +kernel
theorem dX2_write_1 : decode cX2_write 1 = .ok (.getfield 15, 3) := by decide +kernel
theorem dX2_write_4 : decode cX2_write 4 = .ok (.bipush 80, 2) := by decide +kernel
theorem dX2_write_6 : decode cX2_write 6 = .ok (.if_icmp .ge 23, 3) := by decide +kernel
theorem dX2_write_9 : decode cX2_write 9 = .ok (.aload_n 0, 1) := by decide +kernel
theorem dX2_write_10 : decode cX2_write 10 = .ok (.getfield 9, 3) := by decide +kernel
theorem dX2_write_13 : decode cX2_write 13 = .ok (.aload_n 0, 1) := by decide +kernel
theorem dX2_write_14 : decode cX2_write 14 = .ok (.getfield 15, 3) := by decide +kernel
theorem dX2_write_17 : decode cX2_write 17 = .ok (.iload_n 1, 1) := by decide +kernel
theorem dX2_write_18 : decode cX2_write 18 = .ok (.iastore, 1) := by decide +kernel
theorem dX2_write_19 : decode cX2_write 19 = .ok (.aload_n 0, 1) := by decide +kernel
theorem dX2_write_20 : decode cX2_write 20 = .ok (.dup, 1) := by decide +kernel
theorem dX2_write_21 : decode cX2_write 21 = .ok (.getfield 15, 3) := by decide +kernel
theorem dX2_write_24 : decode cX2_write 24 = .ok (.iconst 1, 1) := by decide +kernel
theorem dX2_write_25 : decode cX2_write 25 = .ok (.iadd, 1) := by decide +kernel
theorem dX2_write_26 : decode cX2_write 26 = .ok (.putfield 15, 3) := by decide +kernel
theorem dX2_write_29 : decode cX2_write 29 = .ok (.aload_n 0, 1) := by decide +kernel
theorem dX2_write_30 : decode cX2_write 30 = .ok (.getfield 15, 3) := by decide +kernel
theorem dX2_write_33 : decode cX2_write 33 = .ok (.ireturn, 1) := by decide +kernel
theorem dX2_readTown_0 : decode cX2_readTown 0 = .ok (.aload_n 0, 1) := by decide +kernel
theorem dX2_readTown_1 : decode cX2_readTown 1 = .ok (.iconst 0, 1) := by decide +kernel
theorem dX2_readTown_2 : decode cX2_readTown 2 = .ok (.putfield 19, 3) := by decide +kernel
theorem dX2_readTown_5 : decode cX2_readTown 5 = .ok (.iconst 1, 1) := by decide +kernel
theorem dX2_readTown_6 : decode cX2_readTown 6 = .ok (.istore_n 2, 1) := by decide +kernel
theorem dX2_readTown_7 : decode cX2_readTown 7 = .ok (.iload_n 2, 1) := by decide +kernel
theorem dX2_readTown_8 : decode cX2_readTown 8 = .ok (.bipush 7, 2) := by decide +kernel
theorem dX2_readTown_10 : decode cX2_readTown 10 = .ok (.if_icmp .gt 39, 3) := by decide +kernel
theorem dX2_readTown_13 : decode cX2_readTown 13 = .ok (.aload_n 0, 1) := by decide +kernel
theorem dX2_readTown_14 : decode cX2_readTown 14 = .ok (.aload_n 1, 1) := by decide +kernel
theorem dX2_readTown_15 : decode cX2_readTown 15 = .ok (.invokevirtual 25, 3) := by decide +kernel
theorem dX2_readTown_18 : decode cX2_readTown 18 = .ok (.ifCond .ne 5, 3) := by decide +kernel
theorem dX2_readTown_21 : decode cX2_readTown 21 = .ok (.iconst 0, 1) := by decide +kernel
theorem dX2_readTown_22 : decode cX2_readTown 22 = .ok (.ireturn, 1) := by decide +kernel
theorem dX2_readTown_23 : decode cX2_readTown 23 = .ok (.iload_n 2, 1) := by decide +kernel
theorem dX2_readTown_24 : decode cX2_readTown 24 = .ok (.bipush 7, 2) := by decide +kernel
theorem dX2_readTown_26 : decode cX2_readTown 26 = .ok (.if_icmp .eq 12, 3) := by decide +kernel
theorem dX2_readTown_29 : decode cX2_readTown 29 = .ok (.aload_n 0, 1) := by decide +kernel
theorem dX2_readTown_30 : decode cX2_readTown 30 = .ok (.bipush 44, 2) := by decide +kernel
theorem dX2_readTown_32 : decode cX2_readTown 32 = .ok (.invokevirtual 29, 3) := by decide +kernel
theorem dX2_readTown_35 : decode cX2_readTown 35 = .ok (.ifCond .ne 8, 3) := by decide +kernel
theorem dX2_readTown_38 : decode cX2_readTown 38 = .ok (.aload_n 0, 1) := by decide +kernel
theorem dX2_readTown_39 : decode cX2_readTown 39 = .ok (.invokevirtual 33, 3) := by decide +kernel
theorem dX2_readTown_42 : decode cX2_readTown 42 = .ok (.ireturn, 1) := by decide +kernel
theorem dX2_readTown_43 : decode cX2_readTown 43 = .ok (.iinc 2 1, 3) := by decide +kernel
theorem dX2_readTown_46 : decode cX2_readTown 46 = .ok (.goto (-39), 3) := by decide +kernel
theorem dX2_readTown_49 : decode cX2_readTown 49 = .ok (.iconst 0, 1) := by decide +kernel
theorem dX2_readTown_50 : decode cX2_readTown 50 = .ok (.ireturn, 1) := by decide +kernel
theorem dX2_readCouple_0 : decode cX2_readCouple 0 = .ok (.aload_n 0, 1) := by decide +kernel
theorem dX2_readCouple_1 : decode cX2_readCouple 1 = .ok (.invokevirtual 37, 3) := by decide +kernel
theorem dX2_readCouple_4 : decode cX2_readCouple 4 = .ok (.aload_n 0, 1) := by decide +kernel
theorem dX2_readCouple_5 : decode cX2_readCouple 5 = .ok (.aload_n 0, 1) := by decide +kernel
theorem dX2_readCouple_6 : decode cX2_readCouple 6 = .ok (.getfield 19, 3) := by decide +kernel
theorem dX2_readCouple_9 : decode cX2_readCouple 9 = .ok (.invokevirtual 40, 3) := by decide +kernel
theorem dX2_readCouple_12 : decode cX2_readCouple 12 = .ok (.invokestatic 44, 3) := by decide +kernel
theorem dX2_readCouple_15 : decode cX2_readCouple 15 = .ok (.istore_n 2, 1) := by decide +kernel
theorem dX2_readCouple_16 : decode cX2_readCouple 16 = .ok (.iload_n 2, 1) := by decide +kernel
theorem dX2_readCouple_17 : decode cX2_readCouple 17 = .ok (.ifCond .ge 13, 3) := by decide +kernel
theorem dX2_readCouple_20 : decode cX2_readCouple 20 = .ok (.aload_n 0, 1) := by decide +kernel
theorem dX2_readCouple_21 : decode cX2_readCouple 21 = .ok (.aload_n 0, 1) := by decide +kernel
theorem dX2_readCouple_22 : decode cX2_readCouple 22 = .ok (.getfield 19, 3) := by decide +kernel
theorem dX2_readCouple_25 : decode cX2_readCouple 25 = .ok (.putfield 22, 3) := by decide +kernel
theorem dX2_readCouple_28 : decode cX2_readCouple 28 = .ok (.iconst 0, 1) := by decide +kernel
theorem dX2_readCouple_29 : decode cX2_readCouple 29 = .ok (.ireturn, 1) := by decide +kernel
theorem dX2_readCouple_30 : decode cX2_readCouple 30 = .ok (.aload_n 0, 1) := by decide +kernel
theorem dX2_readCouple_31 : decode cX2_readCouple 31 = .ok (.dup, 1) := by decide +kernel
theorem dX2_readCouple_32 : decode cX2_readCouple 32 = .ok (.getfield 19, 3) := by decide +kernel
theorem dX2_readCouple_35 : decode cX2_readCouple 35 = .ok (.iconst 1, 1) := by decide +kernel
theorem dX2_readCouple_36 : decode cX2_readCouple 36 = .ok (.iadd, 1) := by decide +kernel
theorem dX2_readCouple_37 : decode cX2_readCouple 37 = .ok (.putfield 19, 3) := by decide +kernel
theorem dX2_readCouple_40 : decode cX2_readCouple 40 = .ok (.aload_n 0, 1) := by decide +kernel
theorem dX2_readCouple_41 : decode cX2_readCouple 41 = .ok (.iconst 0, 1) := by decide +kernel
theorem dX2_readCouple_42 : decode cX2_readCouple 42 = .ok (.bipush 80, 2) := by decide +kernel
theorem dX2_readCouple_44 : decode cX2_readCouple 44 = .ok (.invokevirtual 47, 3) := by decide +kernel
theorem dX2_readCouple_47 : decode cX2_readCouple 47 = .ok (.istore_n 3, 1) := by decide +kernel
theorem dX2_readCouple_48 : decode cX2_readCouple 48 = .ok (.iload_n 3, 1) := by decide +kernel
theorem dX2_readCouple_49 : decode cX2_readCouple 49 = .ok (.ifCond .ge 5, 3) := by decide +kernel
theorem dX2_readCouple_52 : decode cX2_readCouple 52 = .ok (.iconst 0, 1) := by decide +kernel
theorem dX2_readCouple_53 : decode cX2_readCouple 53 = .ok (.ireturn, 1) := by decide +kernel
theorem dX2_readCouple_54 : decode cX2_readCouple 54 = .ok (.aload_n 0, 1) := by decide +kernel
theorem dX2_readCouple_55 : decode cX2_readCouple 55 = .ok (.bipush 64, 2) := by decide +kernel
theorem dX2_readCouple_57 : decode cX2_readCouple 57 = .ok (.invokevirtual 29, 3) := by decide +kernel
theorem dX2_readCouple_60 : decode cX2_readCouple 60 = .ok (.ifCond .eq 14, 3) := by decide +kernel
theorem dX2_readCouple_63 : decode cX2_readCouple 63 = .ok (.aload_n 0, 1) := by decide +kernel
theorem dX2_readCouple_64 : decode cX2_readCouple 64 = .ok (.bipush 20, 2) := by decide +kernel
theorem dX2_readCouple_66 : decode cX2_readCouple 66 = .ok (.bipush 99, 2) := by decide +kernel
theorem dX2_readCouple_68 : decode cX2_readCouple 68 = .ok (.invokevirtual 47, 3) := by decide +kernel
theorem dX2_readCouple_71 : decode cX2_readCouple 71 = .ok (.goto 5, 3) := by decide +kernel
theorem dX2_readCouple_74 : decode cX2_readCouple 74 = .ok (.bipush 40, 2) := by decide +kernel
theorem dX2_readCouple_76 : decode cX2_readCouple 76 = .ok (.istore 4, 2) := by decide +kernel
theorem dX2_readCouple_78 : decode cX2_readCouple 78 = .ok (.iload 4, 2) := by decide +kernel
theorem dX2_readCouple_80 : decode cX2_readCouple 80 = .ok (.ifCond .ge 5, 3) := by decide +kernel
theorem dX2_readCouple_83 : decode cX2_readCouple 83 = .ok (.iconst 0, 1) := by decide +kernel
theorem dX2_readCouple_84 : decode cX2_readCouple 84 = .ok (.ireturn, 1) := by decide +kernel
theorem dX2_readCouple_85 : decode cX2_readCouple 85 = .ok (.aload_n 0, 1) := by decide +kernel
theorem dX2_readCouple_86 : decode cX2_readCouple 86 = .ok (.bipush 126, 2) := by decide +kernel
theorem dX2_readCouple_88 : decode cX2_readCouple 88 = .ok (.invokevirtual 29, 3) := by decide +kernel
theorem dX2_readCouple_91 : decode cX2_readCouple 91 = .ok (.ifCond .eq 13, 3) := by decide +kernel
theorem dX2_readCouple_94 : decode cX2_readCouple 94 = .ok (.aload_n 0, 1) := by decide +kernel
theorem dX2_readCouple_95 : decode cX2_readCouple 95 = .ok (.iconst 0, 1) := by decide +kernel
theorem dX2_readCouple_96 : decode cX2_readCouple 96 = .ok (.bipush 19, 2) := by decide +kernel
theorem dX2_readCouple_98 : decode cX2_readCouple 98 = .ok (.invokevirtual 47, 3) := by decide +kernel
theorem dX2_readCouple_101 : decode cX2_readCouple 101 = .ok (.goto 4, 3) := by decide +kernel
theorem dX2_readCouple_104 : decode cX2_readCouple 104 = .ok (.iconst 0, 1) := by decide +kernel
theorem dX2_readCouple_105 : decode cX2_readCouple 105 = .ok (.istore 5, 2) := by decide +kernel
theorem dX2_readCouple_107 : decode cX2_readCouple 107 = .ok (.iload 5, 2) := by decide +kernel
theorem dX2_readCouple_109 : decode cX2_readCouple 109 = .ok (.ifCond .ge 5, 3) := by decide +kernel
theorem dX2_readCouple_112 : decode cX2_readCouple 112 = .ok (.iconst 0, 1) := by decide +kernel
theorem dX2_readCouple_113 : decode cX2_readCouple 113 = .ok (.ireturn, 1) := by decide +kernel
theorem dX2_readCouple_114 : decode cX2_readCouple 114 = .ok (.aload_n 1, 1) := by decide +kernel
theorem dX2_readCouple_115 : decode cX2_readCouple 115 = .ok (.iload_n 2, 1) := by decide +kernel
theorem dX2_readCouple_116 : decode cX2_readCouple 116 = .ok (.iload_n 3, 1) := by decide +kernel
theorem dX2_readCouple_117 : decode cX2_readCouple 117 = .ok (.iload 4, 2) := by decide +kernel
theorem dX2_readCouple_119 : decode cX2_readCouple 119 = .ok (.iload 5, 2) := by decide +kernel
theorem dX2_readCouple_121 : decode cX2_readCouple 121 = .ok (.aload_n 0, 1) := by decide +kernel
theorem dX2_readCouple_122 : decode cX2_readCouple 122 = .ok (.bipush 120, 2) := by decide +kernel
theorem dX2_readCouple_124 : decode cX2_readCouple 124 = .ok (.invokevirtual 29, 3) := by decide +kernel
theorem dX2_readCouple_127 : decode cX2_readCouple 127 = .ok (.ifCond .ne 7, 3) := by decide +kernel
theorem dX2_readCouple_130 : decode cX2_readCouple 130 = .ok (.iconst 1, 1) := by decide +kernel
theorem dX2_readCouple_131 : decode cX2_readCouple 131 = .ok (.goto 4, 3) := by decide +kernel
theorem dX2_readCouple_134 : decode cX2_readCouple 134 = .ok (.iconst 0, 1) := by decide +kernel
theorem dX2_readCouple_135 : decode cX2_readCouple 135 = .ok (.invokevirtual 51, 3) := by decide +kernel
theorem dX2_readCouple_138 : decode cX2_readCouple 138 = .ok (.pop, 1) := by decide +kernel
theorem dX2_readCouple_139 : decode cX2_readCouple 139 = .ok (.iconst 1, 1) := by decide +kernel
theorem dX2_readCouple_140 : decode cX2_readCouple 140 = .ok (.ireturn, 1) := by decide +kernel
theorem dX2_readNumber_0 : decode cX2_readNumber 0 = .ok (.aload_n 0, 1) := by decide +kernel
theorem dX2_readNumber_1 : decode cX2_readNumber 1 = .ok (.invokevirtual 37, 3) := by decide +kernel
theorem dX2_readNumber_4 : decode cX2_readNumber 4 = .ok (.aload_n 0, 1) := by decide +kernel
theorem dX2_readNumber_5 : decode cX2_readNumber 5 = .ok (.getfield 19, 3) := by decide +kernel
theorem dX2_readNumber_8 : decode cX2_readNumber 8 = .ok (.istore_n 3, 1) := by decide +kernel
theorem dX2_readNumber_9 : decode cX2_readNumber 9 = .ok (.aload_n 0, 1) := by decide +kernel
theorem dX2_readNumber_10 : decode cX2_readNumber 10 = .ok (.aload_n 0, 1) := by decide +kernel
theorem dX2_readNumber_11 : decode cX2_readNumber 11 = .ok (.getfield 19, 3) := by decide +kernel
theorem dX2_readNumber_14 : decode cX2_readNumber 14 = .ok (.invokevirtual 40, 3) := by decide +kernel
theorem dX2_readNumber_17 : decode cX2_readNumber 17 = .ok (.invokestatic 57, 3) := by decide +kernel
theorem dX2_readNumber_20 : decode cX2_readNumber 20 = .ok (.ifCond .ne 10, 3) := by decide +kernel
theorem dX2_readNumber_23 : decode cX2_readNumber 23 = .ok (.aload_n 0, 1) := by decide +kernel
theorem dX2_readNumber_24 : decode cX2_readNumber 24 = .ok (.iload_n 3, 1) := by decide +kernel
theorem dX2_readNumber_25 : decode cX2_readNumber 25 = .ok (.putfield 22, 3) := by decide +kernel
theorem dX2_readNumber_28 : decode cX2_readNumber 28 = .ok (.iconst (-1), 1) := by decide +kernel
theorem dX2_readNumber_29 : decode cX2_readNumber 29 = .ok (.ireturn, 1) := by decide +kernel
theorem dX2_readNumber_30 : decode cX2_readNumber 30 = .ok (.aload_n 0, 1) := by decide +kernel
theorem dX2_readNumber_31 : decode cX2_readNumber 31 = .ok (.aload_n 0, 1) := by decide +kernel
theorem dX2_readNumber_32 : decode cX2_readNumber 32 = .ok (.getfield 19, 3) := by decide +kernel
theorem dX2_readNumber_35 : decode cX2_readNumber 35 = .ok (.invokevirtual 40, 3) := by decide +kernel
theorem dX2_readNumber_38 : decode cX2_readNumber 38 = .ok (.bipush 48, 2) := by decide +kernel
theorem dX2_readNumber_40 : decode cX2_readNumber 40 = .ok (.isub, 1) := by decide +kernel
theorem dX2_readNumber_41 : decode cX2_readNumber 41 = .ok (.istore 4, 2) := by decide +kernel
theorem dX2_readNumber_43 : decode cX2_readNumber 43 = .ok (.aload_n 0, 1) := by decide +kernel
theorem dX2_readNumber_44 : decode cX2_readNumber 44 = .ok (.dup, 1) := by decide +kernel
theorem dX2_readNumber_45 : decode cX2_readNumber 45 = .ok (.getfield 19, 3) := by decide +kernel
theorem dX2_readNumber_48 : decode cX2_readNumber 48 = .ok (.iconst 1, 1) := by decide +kernel
theorem dX2_readNumber_49 : decode cX2_readNumber 49 = .ok (.iadd, 1) := by decide +kernel
theorem dX2_readNumber_50 : decode cX2_readNumber 50 = .ok (.putfield 19, 3) := by decide +kernel
theorem dX2_readNumber_53 : decode cX2_readNumber 53 = .ok (.aload_n 0, 1) := by decide +kernel
theorem dX2_readNumber_54 : decode cX2_readNumber 54 = .ok (.aload_n 0, 1) := by decide +kernel
theorem dX2_readNumber_55 : decode cX2_readNumber 55 = .ok (.getfield 19, 3) := by decide +kernel
theorem dX2_readNumber_58 : decode cX2_readNumber 58 = .ok (.invokevirtual 40, 3) := by decide +kernel
theorem dX2_readNumber_61 : decode cX2_readNumber 61 = .ok (.invokestatic 57, 3) := by decide +kernel
theorem dX2_readNumber_64 : decode cX2_readNumber 64 = .ok (.ifCond .eq 32, 3) := by decide +kernel
theorem dX2_readNumber_67 : decode cX2_readNumber 67 = .ok (.iload 4, 2) := by decide +kernel
theorem dX2_readNumber_69 : decode cX2_readNumber 69 = .ok (.bipush 10, 2) := by decide +kernel
theorem dX2_readNumber_71 : decode cX2_readNumber 71 = .ok (.imul, 1) := by decide +kernel
theorem dX2_readNumber_72 : decode cX2_readNumber 72 = .ok (.aload_n 0, 1) := by decide +kernel
theorem dX2_readNumber_73 : decode cX2_readNumber 73 = .ok (.aload_n 0, 1) := by decide +kernel
theorem dX2_readNumber_74 : decode cX2_readNumber 74 = .ok (.getfield 19, 3) := by decide +kernel
theorem dX2_readNumber_77 : decode cX2_readNumber 77 = .ok (.invokevirtual 40, 3) := by decide +kernel
theorem dX2_readNumber_80 : decode cX2_readNumber 80 = .ok (.iadd, 1) := by decide +kernel
theorem dX2_readNumber_81 : decode cX2_readNumber 81 = .ok (.bipush 48, 2) := by decide +kernel
theorem dX2_readNumber_83 : decode cX2_readNumber 83 = .ok (.isub, 1) := by decide +kernel
theorem dX2_readNumber_84 : decode cX2_readNumber 84 = .ok (.istore 4, 2) := by decide +kernel
theorem dX2_readNumber_86 : decode cX2_readNumber 86 = .ok (.aload_n 0, 1) := by decide +kernel
theorem dX2_readNumber_87 : decode cX2_readNumber 87 = .ok (.dup, 1) := by decide +kernel
theorem dX2_readNumber_88 : decode cX2_readNumber 88 = .ok (.getfield 19, 3) := by decide +kernel
theorem dX2_readNumber_91 : decode cX2_readNumber 91 = .ok (.iconst 1, 1) := by decide +kernel
theorem dX2_readNumber_92 : decode cX2_readNumber 92 = .ok (.iadd, 1) := by decide +kernel
theorem dX2_readNumber_93 : decode cX2_readNumber 93 = .ok (.putfield 19, 3) := by decide +kernel
theorem dX2_readNumber_96 : decode cX2_readNumber 96 = .ok (.iload 4, 2) := by decide +kernel
theorem dX2_readNumber_98 : decode cX2_readNumber 98 = .ok (.iload_n 1, 1) := by decide +kernel
theorem dX2_readNumber_99 : decode cX2_readNumber 99 = .ok (.if_icmp .lt 9, 3) := by decide +kernel
theorem dX2_readNumber_102 : decode cX2_readNumber 102 = .ok (.iload 4, 2) := by decide +kernel
theorem dX2_readNumber_104 : decode cX2_readNumber 104 = .ok (.iload_n 2, 1) := by decide +kernel
theorem dX2_readNumber_105 : decode cX2_readNumber 105 = .ok (.if_icmp .le 10, 3) := by decide +kernel
theorem dX2_readNumber_108 : decode cX2_readNumber 108 = .ok (.aload_n 0, 1) := by decide +kernel
theorem dX2_readNumber_109 : decode cX2_readNumber 109 = .ok (.iload_n 3, 1) := by decide +kernel
theorem dX2_readNumber_110 : decode cX2_readNumber 110 = .ok (.putfield 22, 3) := by decide +kernel
theorem dX2_readNumber_113 : decode cX2_readNumber 113 = .ok (.iconst (-1), 1) := by decide +kernel
theorem dX2_readNumber_114 : decode cX2_readNumber 114 = .ok (.ireturn, 1) := by decide +kernel
theorem dX2_readNumber_115 : decode cX2_readNumber 115 = .ok (.iload 4, 2) := by decide +kernel
theorem dX2_readNumber_117 : decode cX2_readNumber 117 = .ok (.ireturn, 1) := by decide +kernel
theorem dX2_isAtEnd_0 : decode cX2_isAtEnd 0 = .ok (.aload_n 0, 1) := by decide +kernel
theorem dX2_isAtEnd_1 : decode cX2_isAtEnd 1 = .ok (.invokevirtual 37, 3) := by decide +kernel
theorem dX2_isAtEnd_4 : decode cX2_isAtEnd 4 = .ok (.aload_n 0, 1) := by decide +kernel
theorem dX2_isAtEnd_5 : decode cX2_isAtEnd 5 = .ok (.aload_n 0, 1) := by decide +kernel
theorem dX2_isAtEnd_6 : decode cX2_isAtEnd 6 = .ok (.getfield 19, 3) := by decide +kernel
theorem dX2_isAtEnd_9 : decode cX2_isAtEnd 9 = .ok (.putfield 22, 3) := by decide +kernel
theorem dX2_isAtEnd_12 : decode cX2_isAtEnd 12 = .ok (.aload_n 0, 1) := by decide +kernel
theorem dX2_isAtEnd_13 : decode cX2_isAtEnd 13 = .ok (.getfield 19, 3) := by decide +kernel
theorem dX2_isAtEnd_16 : decode cX2_isAtEnd 16 = .ok (.aload_n 0, 1) := by decide +kernel
theorem dX2_isAtEnd_17 : decode cX2_isAtEnd 17 = .ok (.getfield 15, 3) := by decide +kernel
theorem dX2_isAtEnd_20 : decode cX2_isAtEnd 20 = .ok (.if_icmp .lt 7, 3) := by decide +kernel
theorem dX2_isAtEnd_23 : decode cX2_isAtEnd 23 = .ok (.iconst 1, 1) := by decide +kernel
theorem dX2_isAtEnd_24 : decode cX2_isAtEnd 24 = .ok (.goto 4, 3) := by decide +kernel
theorem dX2_isAtEnd_27 : decode cX2_isAtEnd 27 = .ok (.iconst 0, 1) := by decide +kernel
theorem dX2_isAtEnd_28 : decode cX2_isAtEnd 28 = .ok (.ireturn, 1) := by decide +kernel
theorem dX2_takes_0 : decode cX2_takes 0 = .ok (.aload_n 0, 1) := by decide +kernel
theorem dX2_takes_1 : decode cX2_takes 1 = .ok (.invokevirtual 37, 3) := by decide +kernel
theorem dX2_takes_4 : decode cX2_takes 4 = .ok (.aload_n 0, 1) := by decide +kernel
theorem dX2_takes_5 : decode cX2_takes 5 = .ok (.aload_n 0, 1) := by decide +kernel
theorem dX2_takes_6 : decode cX2_takes 6 = .ok (.getfield 19, 3) := by decide +kernel
theorem dX2_takes_9 : decode cX2_takes 9 = .ok (.invokevirtual 40, 3) := by decide +kernel
theorem dX2_takes_12 : decode cX2_takes 12 = .ok (.iload_n 1, 1) := by decide +kernel
theorem dX2_takes_13 : decode cX2_takes 13 = .ok (.if_icmp .eq 5, 3) := by decide +kernel
theorem dX2_takes_16 : decode cX2_takes 16 = .ok (.iconst 0, 1) := by decide +kernel
theorem dX2_takes_17 : decode cX2_takes 17 = .ok (.ireturn, 1) := by decide +kernel
theorem dX2_takes_18 : decode cX2_takes 18 = .ok (.aload_n 0, 1) := by decide +kernel
theorem dX2_takes_19 : decode cX2_takes 19 = .ok (.dup, 1) := by decide +kernel
theorem dX2_takes_20 : decode cX2_takes 20 = .ok (.getfield 19, 3) := by decide +kernel
theorem dX2_takes_23 : decode cX2_takes 23 = .ok (.iconst 1, 1) := by decide +kernel
theorem dX2_takes_24 : decode cX2_takes 24 = .ok (.iadd, 1) := by decide +kernel
theorem dX2_takes_25 : decode cX2_takes 25 = .ok (.putfield 19, 3) := by decide +kernel
theorem dX2_takes_28 : decode cX2_takes 28 = .ok (.iconst 1, 1) := by decide +kernel
theorem dX2_takes_29 : decode cX2_takes 29 = .ok (.ireturn, 1) := by decide +kernel
theorem dX2_skipBlanks_0 : decode cX2_skipBlanks 0 = .ok (.aload_n 0, 1) := by decide +kernel
theorem dX2_skipBlanks_1 : decode cX2_skipBlanks 1 = .ok (.getfield 19, 3) := by decide +kernel
theorem dX2_skipBlanks_4 : decode cX2_skipBlanks 4 = .ok (.aload_n 0, 1) := by decide +kernel
theorem dX2_skipBlanks_5 : decode cX2_skipBlanks 5 = .ok (.getfield 15, 3) := by decide +kernel
theorem dX2_skipBlanks_8 : decode cX2_skipBlanks 8 = .ok (.if_icmp .ge 29, 3) := by decide +kernel
theorem dX2_skipBlanks_11 : decode cX2_skipBlanks 11 = .ok (.aload_n 0, 1) := by decide +kernel
theorem dX2_skipBlanks_12 : decode cX2_skipBlanks 12 = .ok (.aload_n 0, 1) := by decide +kernel
theorem dX2_skipBlanks_13 : decode cX2_skipBlanks 13 = .ok (.getfield 19, 3) := by decide +kernel
theorem dX2_skipBlanks_16 : decode cX2_skipBlanks 16 = .ok (.invokevirtual 40, 3) := by decide +kernel
theorem dX2_skipBlanks_19 : decode cX2_skipBlanks 19 = .ok (.bipush 32, 2) := by decide +kernel
theorem dX2_skipBlanks_21 : decode cX2_skipBlanks 21 = .ok (.if_icmp .ne 16, 3) := by decide +kernel
theorem dX2_skipBlanks_24 : decode cX2_skipBlanks 24 = .ok (.aload_n 0, 1) := by decide +kernel
theorem dX2_skipBlanks_25 : decode cX2_skipBlanks 25 = .ok (.dup, 1) := by decide +kernel
theorem dX2_skipBlanks_26 : decode cX2_skipBlanks 26 = .ok (.getfield 19, 3) := by decide +kernel
theorem dX2_skipBlanks_29 : decode cX2_skipBlanks 29 = .ok (.iconst 1, 1) := by decide +kernel
theorem dX2_skipBlanks_30 : decode cX2_skipBlanks 30 = .ok (.iadd, 1) := by decide +kernel
theorem dX2_skipBlanks_31 : decode cX2_skipBlanks 31 = .ok (.putfield 19, 3) := by decide +kernel
theorem dX2_skipBlanks_34 : decode cX2_skipBlanks 34 = .ok (.goto (-34), 3) := by decide +kernel
theorem dX2_skipBlanks_37 : decode cX2_skipBlanks 37 = .ok (.return_, 1) := by decide +kernel
theorem dX2_letterAt_0 : decode cX2_letterAt 0 = .ok (.iload_n 1, 1) := by decide +kernel
theorem dX2_letterAt_1 : decode cX2_letterAt 1 = .ok (.ifCond .lt 26, 3) := by decide +kernel
theorem dX2_letterAt_4 : decode cX2_letterAt 4 = .ok (.iload_n 1, 1) := by decide +kernel
theorem dX2_letterAt_5 : decode cX2_letterAt 5 = .ok (.aload_n 0, 1) := by decide +kernel
theorem dX2_letterAt_6 : decode cX2_letterAt 6 = .ok (.getfield 15, 3) := by decide +kernel
theorem dX2_letterAt_9 : decode cX2_letterAt 9 = .ok (.if_icmp .ge 18, 3) := by decide +kernel
theorem dX2_letterAt_12 : decode cX2_letterAt 12 = .ok (.iload_n 1, 1) := by decide +kernel
theorem dX2_letterAt_13 : decode cX2_letterAt 13 = .ok (.bipush 80, 2) := by decide +kernel
theorem dX2_letterAt_15 : decode cX2_letterAt 15 = .ok (.if_icmp .ge 12, 3) := by decide +kernel
theorem dX2_letterAt_18 : decode cX2_letterAt 18 = .ok (.aload_n 0, 1) := by decide +kernel
theorem dX2_letterAt_19 : decode cX2_letterAt 19 = .ok (.getfield 9, 3) := by decide +kernel
theorem dX2_letterAt_22 : decode cX2_letterAt 22 = .ok (.iload_n 1, 1) := by decide +kernel
theorem dX2_letterAt_23 : decode cX2_letterAt 23 = .ok (.iaload, 1) := by decide +kernel
theorem dX2_letterAt_24 : decode cX2_letterAt 24 = .ok (.goto 4, 3) := by decide +kernel
theorem dX2_letterAt_27 : decode cX2_letterAt 27 = .ok (.iconst (-1), 1) := by decide +kernel
theorem dX2_letterAt_28 : decode cX2_letterAt 28 = .ok (.ireturn, 1) := by decide +kernel
theorem dX2_isDigit_0 : decode cX2_isDigit 0 = .ok (.iload_n 0, 1) := by decide +kernel
theorem dX2_isDigit_1 : decode cX2_isDigit 1 = .ok (.bipush 48, 2) := by decide +kernel
theorem dX2_isDigit_3 : decode cX2_isDigit 3 = .ok (.if_icmp .lt 13, 3) := by decide +kernel
theorem dX2_isDigit_6 : decode cX2_isDigit 6 = .ok (.iload_n 0, 1) := by decide +kernel
theorem dX2_isDigit_7 : decode cX2_isDigit 7 = .ok (.bipush 57, 2) := by decide +kernel
theorem dX2_isDigit_9 : decode cX2_isDigit 9 = .ok (.if_icmp .gt 7, 3) := by decide +kernel
theorem dX2_isDigit_12 : decode cX2_isDigit 12 = .ok (.iconst 1, 1) := by decide +kernel
theorem dX2_isDigit_13 : decode cX2_isDigit 13 = .ok (.goto 4, 3) := by decide +kernel
theorem dX2_isDigit_16 : decode cX2_isDigit 16 = .ok (.iconst 0, 1) := by decide +kernel
theorem dX2_isDigit_17 : decode cX2_isDigit 17 = .ok (.ireturn, 1) := by decide +kernel
theorem dX2_kindOf_0 : decode cX2_kindOf 0 = .ok (.iload_n 0, 1) := by decide +kernel
theorem dX2_kindOf_1 : decode cX2_kindOf 1 = .ok (.lookupswitch 61 #[(98, 59), (100, 53), (108, 57), (112, 51), (115, 55)], 51) := by decide +kernel
theorem dX2_kindOf_52 : decode cX2_kindOf 52 = .ok (.iconst 0, 1) := by decide +kernel
theorem dX2_kindOf_53 : decode cX2_kindOf 53 = .ok (.ireturn, 1) := by decide +kernel
theorem dX2_kindOf_54 : decode cX2_kindOf 54 = .ok (.iconst 1, 1) := by decide +kernel
theorem dX2_kindOf_55 : decode cX2_kindOf 55 = .ok (.ireturn, 1) := by decide +kernel
theorem dX2_kindOf_56 : decode cX2_kindOf 56 = .ok (.iconst 2, 1) := by decide +kernel
theorem dX2_kindOf_57 : decode cX2_kindOf 57 = .ok (.ireturn, 1) := by decide +kernel
theorem dX2_kindOf_58 : decode cX2_kindOf 58 = .ok (.iconst 3, 1) := by decide +kernel
theorem dX2_kindOf_59 : decode cX2_kindOf 59 = .ok (.ireturn, 1) := by decide +kernel
theorem dX2_kindOf_60 : decode cX2_kindOf 60 = .ok (.iconst 4, 1) := by decide +kernel
theorem dX2_kindOf_61 : decode cX2_kindOf 61 = .ok (.ireturn, 1) := by decide +kernel
theorem dX2_kindOf_62 : decode cX2_kindOf 62 = .ok (.iconst (-1), 1) := by decide +kernel
theorem dX2_kindOf_63 : decode cX2_kindOf 63 = .ok (.ireturn, 1) := by decide +kernel
theorem dX3_init_0 : decode cX3_init 0 = .ok (.aload_n 0, 1) := by decide +kernel
theorem dX3_init_1 : decode cX3_init 1 = .ok (.invokespecial 3, 3) := by decide +kernel
theorem dX3_init_4 : decode cX3_init 4 = .ok (.aload_n 0, 1) := by decide +kernel
theorem dX3_init_5 : decode cX3_init 5 = .ok (.bipush 7, 2) := by decide +kernel
theorem dX3_init_7 : decode cX3_init 7 = .ok (.newarray .int, 2) := by decide +kernel
theorem dX3_init_9 : decode cX3_init 9 = .ok (.putfield 9, 3) := by decide +kernel
theorem dX3_init_12 : decode cX3_init 12 = .ok (.aload_n 0, 1) := by decide +kernel
theorem dX3_init_13 : decode cX3_init 13 = .ok (.bipush 7, 2) := by decide +kernel
theorem dX3_init_15 : decode cX3_init 15 = .ok (.newarray .int, 2) := by decide +kernel
theorem dX3_init_17 : decode cX3_init 17 = .ok (.putfield 15, 3) := by decide +kernel
theorem dX3_init_20 : decode cX3_init 20 = .ok (.aload_n 0, 1) := by decide +kernel
theorem dX3_init_21 : decode cX3_init 21 = .ok (.bipush 7, 2) := by decide +kernel
theorem dX3_init_23 : decode cX3_init 23 = .ok (.newarray .int, 2) := by decide +kernel
theorem dX3_init_25 : decode cX3_init 25 = .ok (.putfield 18, 3) := by decide +kernel
theorem dX3_init_28 : decode cX3_init 28 = .ok (.aload_n 0, 1) := by decide +kernel
theorem dX3_init_29 : decode cX3_init 29 = .ok (.bipush 7, 2) := by decide +kernel
theorem dX3_init_31 : decode cX3_init 31 = .ok (.newarray .int, 2) := by decide +kernel
theorem dX3_init_33 : decode cX3_init 33 = .ok (.putfield 21, 3) := by decide +kernel
theorem dX3_init_36 : decode cX3_init 36 = .ok (.aload_n 0, 1) := by decide +kernel
theorem dX3_init_37 : decode cX3_init 37 = .ok (.iconst 0, 1) := by decide +kernel
theorem dX3_init_38 : decode cX3_init 38 = .ok (.putfield 24, 3) := by decide +kernel
theorem dX3_init_41 : decode cX3_init 41 = .ok (.aload_n 0, 1) := by decide +kernel
theorem dX3_init_42 : decode cX3_init 42 = .ok (.iconst 0, 1) := by decide +kernel
theorem dX3_init_43 : decode cX3_init 43 = .ok (.putfield 28, 3) := by decide +kernel
theorem dX3_init_46 : decode cX3_init 46 = .ok (.aload_n 0, 1) := by decide +kernel
theorem dX3_init_47 : decode cX3_init 47 = .ok (.iconst 0, 1) := by decide +kernel
theorem dX3_init_48 : decode cX3_init 48 = .ok (.putfield 31, 3) := by decide +kernel
theorem dX3_init_51 : decode cX3_init 51 = .ok (.aload_n 0, 1) := by decide +kernel
theorem dX3_init_52 : decode cX3_init 52 = .ok (.iconst 1, 1) := by decide +kernel
theorem dX3_init_53 : decode cX3_init 53 = .ok (.putfield 34, 3) := by decide +kernel
theorem dX3_init_56 : decode cX3_init 56 = .ok (.return_, 1) := by decide +kernel
theorem dX3_become_0 : decode cX3_become 0 = .ok (.aload_n 1, 1) := by decide +kernel
theorem dX3_become_1 : decode cX3_become 1 = .ok (.getfield 9, 3) := by decide +kernel
theorem dX3_become_4 : decode cX3_become 4 = .ok (.iconst 0, 1) := by decide +kernel
theorem dX3_become_5 : decode cX3_become 5 = .ok (.aload_n 0, 1) := by decide +kernel
theorem dX3_become_6 : decode cX3_become 6 = .ok (.getfield 9, 3) := by decide +kernel
theorem dX3_become_9 : decode cX3_become 9 = .ok (.iconst 0, 1) := by decide +kernel
theorem dX3_become_10 : decode cX3_become 10 = .ok (.bipush 7, 2) := by decide +kernel
theorem dX3_become_12 : decode cX3_become 12 = .ok (.invokestatic 37, 3) := by decide +kernel
theorem dX3_become_15 : decode cX3_become 15 = .ok (.aload_n 1, 1) := by decide +kernel
theorem dX3_become_16 : decode cX3_become 16 = .ok (.getfield 15, 3) := by decide +kernel
theorem dX3_become_19 : decode cX3_become 19 = .ok (.iconst 0, 1) := by decide +kernel
theorem dX3_become_20 : decode cX3_become 20 = .ok (.aload_n 0, 1) := by decide +kernel
theorem dX3_become_21 : decode cX3_become 21 = .ok (.getfield 15, 3) := by decide +kernel
theorem dX3_become_24 : decode cX3_become 24 = .ok (.iconst 0, 1) := by decide +kernel
theorem dX3_become_25 : decode cX3_become 25 = .ok (.bipush 7, 2) := by decide +kernel
theorem dX3_become_27 : decode cX3_become 27 = .ok (.invokestatic 37, 3) := by decide +kernel
theorem dX3_become_30 : decode cX3_become 30 = .ok (.aload_n 1, 1) := by decide +kernel
theorem dX3_become_31 : decode cX3_become 31 = .ok (.getfield 18, 3) := by decide +kernel
theorem dX3_become_34 : decode cX3_become 34 = .ok (.iconst 0, 1) := by decide +kernel
theorem dX3_become_35 : decode cX3_become 35 = .ok (.aload_n 0, 1) := by decide +kernel
theorem dX3_become_36 : decode cX3_become 36 = .ok (.getfield 18, 3) := by decide +kernel
theorem dX3_become_39 : decode cX3_become 39 = .ok (.iconst 0, 1) := by decide +kernel
theorem dX3_become_40 : decode cX3_become 40 = .ok (.bipush 7, 2) := by decide +kernel
theorem dX3_become_42 : decode cX3_become 42 = .ok (.invokestatic 37, 3) := by decide +kernel
theorem dX3_become_45 : decode cX3_become 45 = .ok (.aload_n 1, 1) := by decide +kernel
theorem dX3_become_46 : decode cX3_become 46 = .ok (.getfield 21, 3) := by decide +kernel
theorem dX3_become_49 : decode cX3_become 49 = .ok (.iconst 0, 1) := by decide +kernel
theorem dX3_become_50 : decode cX3_become 50 = .ok (.aload_n 0, 1) := by decide +kernel
theorem dX3_become_51 : decode cX3_become 51 = .ok (.getfield 21, 3) := by decide +kernel
theorem dX3_become_54 : decode cX3_become 54 = .ok (.iconst 0, 1) := by decide +kernel
theorem dX3_become_55 : decode cX3_become 55 = .ok (.bipush 7, 2) := by decide +kernel
theorem dX3_become_57 : decode cX3_become 57 = .ok (.invokestatic 37, 3) := by decide +kernel
theorem dX3_become_60 : decode cX3_become 60 = .ok (.aload_n 0, 1) := by decide +kernel
theorem dX3_become_61 : decode cX3_become 61 = .ok (.aload_n 1, 1) := by decide +kernel
theorem dX3_become_62 : decode cX3_become 62 = .ok (.getfield 24, 3) := by decide +kernel
theorem dX3_become_65 : decode cX3_become 65 = .ok (.putfield 24, 3) := by decide +kernel
theorem dX3_become_68 : decode cX3_become 68 = .ok (.aload_n 0, 1) := by decide +kernel
theorem dX3_become_69 : decode cX3_become 69 = .ok (.aload_n 1, 1) := by decide +kernel
theorem dX3_become_70 : decode cX3_become 70 = .ok (.getfield 28, 3) := by decide +kernel
theorem dX3_become_73 : decode cX3_become 73 = .ok (.putfield 28, 3) := by decide +kernel
theorem dX3_become_76 : decode cX3_become 76 = .ok (.aload_n 0, 1) := by decide +kernel
theorem dX3_become_77 : decode cX3_become 77 = .ok (.aload_n 1, 1) := by decide +kernel
theorem dX3_become_78 : decode cX3_become 78 = .ok (.getfield 31, 3) := by decide +kernel
theorem dX3_become_81 : decode cX3_become 81 = .ok (.putfield 31, 3) := by decide +kernel
theorem dX3_become_84 : decode cX3_become 84 = .ok (.aload_n 0, 1) := by decide +kernel
theorem dX3_become_85 : decode cX3_become 85 = .ok (.aload_n 1, 1) := by decide +kernel
theorem dX3_become_86 : decode cX3_become 86 = .ok (.getfield 34, 3) := by decide +kernel
theorem dX3_become_89 : decode cX3_become 89 = .ok (.putfield 34, 3) := by decide +kernel
theorem dX3_become_92 : decode cX3_become 92 = .ok (.return_, 1) := by decide +kernel
theorem dX3_empty_0 : decode cX3_empty 0 = .ok (.aload_n 0, 1) := by decide +kernel
theorem dX3_empty_1 : decode cX3_empty 1 = .ok (.iconst 0, 1) := by decide +kernel
theorem dX3_empty_2 : decode cX3_empty 2 = .ok (.putfield 24, 3) := by decide +kernel
theorem dX3_empty_5 : decode cX3_empty 5 = .ok (.aload_n 0, 1) := by decide +kernel
theorem dX3_empty_6 : decode cX3_empty 6 = .ok (.iconst 0, 1) := by decide +kernel
theorem dX3_empty_7 : decode cX3_empty 7 = .ok (.putfield 28, 3) := by decide +kernel
theorem dX3_empty_10 : decode cX3_empty 10 = .ok (.aload_n 0, 1) := by decide +kernel
theorem dX3_empty_11 : decode cX3_empty 11 = .ok (.iconst 0, 1) := by decide +kernel
theorem dX3_empty_12 : decode cX3_empty 12 = .ok (.putfield 31, 3) := by decide +kernel
theorem dX3_empty_15 : decode cX3_empty 15 = .ok (.return_, 1) := by decide +kernel
theorem dX3_settle_0 : decode cX3_settle 0 = .ok (.aload_n 0, 1) := by decide +kernel
theorem dX3_settle_1 : decode cX3_settle 1 = .ok (.getfield 24, 3) := by decide +kernel
theorem dX3_settle_4 : decode cX3_settle 4 = .ok (.istore 6, 2) := by decide +kernel
theorem dX3_settle_6 : decode cX3_settle 6 = .ok (.iload 6, 2) := by decide +kernel
theorem dX3_settle_8 : decode cX3_settle 8 = .ok (.bipush 7, 2) := by decide +kernel
theorem dX3_settle_10 : decode cX3_settle 10 = .ok (.if_icmp .lt 6, 3) := by decide +kernel
theorem dX3_settle_13 : decode cX3_settle 13 = .ok (.bipush (-3), 2) := by decide +kernel
theorem dX3_settle_15 : decode cX3_settle 15 = .ok (.ireturn, 1) := by decide +kernel
theorem dX3_settle_16 : decode cX3_settle 16 = .ok (.aload_n 0, 1) := by decide +kernel
theorem dX3_settle_17 : decode cX3_settle 17 = .ok (.getfield 9, 3) := by decide +kernel
theorem dX3_settle_20 : decode cX3_settle 20 = .ok (.iload 6, 2) := by decide +kernel
theorem dX3_settle_22 : decode cX3_settle 22 = .ok (.iload_n 1, 1) := by decide +kernel
theorem dX3_settle_23 : decode cX3_settle 23 = .ok (.iastore, 1) := by decide +kernel
theorem dX3_settle_24 : decode cX3_settle 24 = .ok (.aload_n 0, 1) := by decide +kernel
theorem dX3_settle_25 : decode cX3_settle 25 = .ok (.getfield 15, 3) := by decide +kernel
theorem dX3_settle_28 : decode cX3_settle 28 = .ok (.iload 6, 2) := by decide +kernel
theorem dX3_settle_30 : decode cX3_settle 30 = .ok (.iload_n 2, 1) := by decide +kernel
theorem dX3_settle_31 : decode cX3_settle 31 = .ok (.iastore, 1) := by decide +kernel
theorem dX3_settle_32 : decode cX3_settle 32 = .ok (.aload_n 0, 1) := by decide +kernel
theorem dX3_settle_33 : decode cX3_settle 33 = .ok (.getfield 18, 3) := by decide +kernel
theorem dX3_settle_36 : decode cX3_settle 36 = .ok (.iload 6, 2) := by decide +kernel
theorem dX3_settle_38 : decode cX3_settle 38 = .ok (.iload_n 3, 1) := by decide +kernel
theorem dX3_settle_39 : decode cX3_settle 39 = .ok (.iastore, 1) := by decide +kernel
theorem dX3_settle_40 : decode cX3_settle 40 = .ok (.aload_n 0, 1) := by decide +kernel
theorem dX3_settle_41 : decode cX3_settle 41 = .ok (.getfield 21, 3) := by decide +kernel
theorem dX3_settle_44 : decode cX3_settle 44 = .ok (.iload 6, 2) := by decide +kernel
theorem dX3_settle_46 : decode cX3_settle 46 = .ok (.iload 4, 2) := by decide +kernel
theorem dX3_settle_48 : decode cX3_settle 48 = .ok (.iastore, 1) := by decide +kernel
theorem dX3_settle_49 : decode cX3_settle 49 = .ok (.iload 5, 2) := by decide +kernel
theorem dX3_settle_51 : decode cX3_settle 51 = .ok (.ifCond .eq 16, 3) := by decide +kernel
theorem dX3_settle_54 : decode cX3_settle 54 = .ok (.aload_n 0, 1) := by decide +kernel
theorem dX3_settle_55 : decode cX3_settle 55 = .ok (.dup, 1) := by decide +kernel
theorem dX3_settle_56 : decode cX3_settle 56 = .ok (.getfield 28, 3) := by decide +kernel
theorem dX3_settle_59 : decode cX3_settle 59 = .ok (.iconst 1, 1) := by decide +kernel
theorem dX3_settle_60 : decode cX3_settle 60 = .ok (.iload 6, 2) := by decide +kernel
theorem dX3_settle_62 : decode cX3_settle 62 = .ok (.ishl, 1) := by decide +kernel
theorem dX3_settle_63 : decode cX3_settle 63 = .ok (.ior, 1) := by decide +kernel
theorem dX3_settle_64 : decode cX3_settle 64 = .ok (.putfield 28, 3) := by decide +kernel
theorem dX3_settle_67 : decode cX3_settle 67 = .ok (.aload_n 0, 1) := by decide +kernel
theorem dX3_settle_68 : decode cX3_settle 68 = .ok (.iload 6, 2) := by decide +kernel
theorem dX3_settle_70 : decode cX3_settle 70 = .ok (.iconst 1, 1) := by decide +kernel
theorem dX3_settle_71 : decode cX3_settle 71 = .ok (.iadd, 1) := by decide +kernel
theorem dX3_settle_72 : decode cX3_settle 72 = .ok (.putfield 24, 3) := by decide +kernel
theorem dX3_settle_75 : decode cX3_settle 75 = .ok (.iload 6, 2) := by decide +kernel
theorem dX3_settle_77 : decode cX3_settle 77 = .ok (.ireturn, 1) := by decide +kernel
theorem dX3_isTogether_0 : decode cX3_isTogether 0 = .ok (.aload_n 0, 1) := by decide +kernel
theorem dX3_isTogether_1 : decode cX3_isTogether 1 = .ok (.getfield 28, 3) := by decide +kernel
theorem dX3_isTogether_4 : decode cX3_isTogether 4 = .ok (.iconst 1, 1) := by decide +kernel
theorem dX3_isTogether_5 : decode cX3_isTogether 5 = .ok (.iload_n 1, 1) := by decide +kernel
theorem dX3_isTogether_6 : decode cX3_isTogether 6 = .ok (.ishl, 1) := by decide +kernel
theorem dX3_isTogether_7 : decode cX3_isTogether 7 = .ok (.iand, 1) := by decide +kernel
theorem dX3_isTogether_8 : decode cX3_isTogether 8 = .ok (.ifCond .eq 7, 3) := by decide +kernel
theorem dX3_isTogether_11 : decode cX3_isTogether 11 = .ok (.iconst 1, 1) := by decide +kernel
theorem dX3_isTogether_12 : decode cX3_isTogether 12 = .ok (.goto 4, 3) := by decide +kernel
theorem dX3_isTogether_15 : decode cX3_isTogether 15 = .ok (.iconst 0, 1) := by decide +kernel
theorem dX3_isTogether_16 : decode cX3_isTogether 16 = .ok (.ireturn, 1) := by decide +kernel
theorem dX3_keeper_0 : decode cX3_keeper 0 = .ok (.aload_n 0, 1) := by decide +kernel
theorem dX3_keeper_1 : decode cX3_keeper 1 = .ok (.aload_n 0, 1) := by decide +kernel
theorem dX3_keeper_2 : decode cX3_keeper 2 = .ok (.getfield 28, 3) := by decide +kernel
theorem dX3_keeper_5 : decode cX3_keeper 5 = .ok (.invokevirtual 43, 3) := by decide +kernel
theorem dX3_keeper_8 : decode cX3_keeper 8 = .ok (.ireturn, 1) := by decide +kernel
theorem dX3_secondTo_0 : decode cX3_secondTo 0 = .ok (.iload_n 1, 1) := by decide +kernel
theorem dX3_secondTo_1 : decode cX3_secondTo 1 = .ok (.ifCond .ge 8, 3) := by decide +kernel
theorem dX3_secondTo_4 : decode cX3_secondTo 4 = .ok (.bipush (-4), 2) := by decide +kernel
theorem dX3_secondTo_6 : decode cX3_secondTo 6 = .ok (.goto 17, 3) := by decide +kernel
theorem dX3_secondTo_9 : decode cX3_secondTo 9 = .ok (.aload_n 0, 1) := by decide +kernel
theorem dX3_secondTo_10 : decode cX3_secondTo 10 = .ok (.aload_n 0, 1) := by decide +kernel
theorem dX3_secondTo_11 : decode cX3_secondTo 11 = .ok (.getfield 28, 3) := by decide +kernel
theorem dX3_secondTo_14 : decode cX3_secondTo 14 = .ok (.iconst 1, 1) := by decide +kernel
theorem dX3_secondTo_15 : decode cX3_secondTo 15 = .ok (.iload_n 1, 1) := by decide +kernel
theorem dX3_secondTo_16 : decode cX3_secondTo 16 = .ok (.ishl, 1) := by decide +kernel
theorem dX3_secondTo_17 : decode cX3_secondTo 17 = .ok (.iconst (-1), 1) := by decide +kernel
theorem dX3_secondTo_18 : decode cX3_secondTo 18 = .ok (.ixor, 1) := by decide +kernel
theorem dX3_secondTo_19 : decode cX3_secondTo 19 = .ok (.iand, 1) := by decide +kernel
theorem dX3_secondTo_20 : decode cX3_secondTo 20 = .ok (.invokevirtual 43, 3) := by decide +kernel
theorem dX3_secondTo_23 : decode cX3_secondTo 23 = .ok (.ireturn, 1) := by decide +kernel
theorem dX3_longestOf_0 : decode cX3_longestOf 0 = .ok (.bipush (-4), 2) := by decide +kernel
theorem dX3_longestOf_2 : decode cX3_longestOf 2 = .ok (.istore_n 2, 1) := by decide +kernel
theorem dX3_longestOf_3 : decode cX3_longestOf 3 = .ok (.iconst 0, 1) := by decide +kernel
theorem dX3_longestOf_4 : decode cX3_longestOf 4 = .ok (.istore_n 3, 1) := by decide +kernel
theorem dX3_longestOf_5 : decode cX3_longestOf 5 = .ok (.iload_n 3, 1) := by decide +kernel
theorem dX3_longestOf_6 : decode cX3_longestOf 6 = .ok (.aload_n 0, 1) := by decide +kernel
theorem dX3_longestOf_7 : decode cX3_longestOf 7 = .ok (.getfield 24, 3) := by decide +kernel
theorem dX3_longestOf_10 : decode cX3_longestOf 10 = .ok (.if_icmp .ge 38, 3) := by decide +kernel
theorem dX3_longestOf_13 : decode cX3_longestOf 13 = .ok (.iload_n 1, 1) := by decide +kernel
theorem dX3_longestOf_14 : decode cX3_longestOf 14 = .ok (.iconst 1, 1) := by decide +kernel
theorem dX3_longestOf_15 : decode cX3_longestOf 15 = .ok (.iload_n 3, 1) := by decide +kernel
theorem dX3_longestOf_16 : decode cX3_longestOf 16 = .ok (.ishl, 1) := by decide +kernel
theorem dX3_longestOf_17 : decode cX3_longestOf 17 = .ok (.iand, 1) := by decide +kernel
theorem dX3_longestOf_18 : decode cX3_longestOf 18 = .ok (.ifCond .eq 24, 3) := by decide +kernel
theorem dX3_longestOf_21 : decode cX3_longestOf 21 = .ok (.iload_n 2, 1) := by decide +kernel
theorem dX3_longestOf_22 : decode cX3_longestOf 22 = .ok (.ifCond .lt 18, 3) := by decide +kernel
theorem dX3_longestOf_25 : decode cX3_longestOf 25 = .ok (.aload_n 0, 1) := by decide +kernel
theorem dX3_longestOf_26 : decode cX3_longestOf 26 = .ok (.getfield 15, 3) := by decide +kernel
theorem dX3_longestOf_29 : decode cX3_longestOf 29 = .ok (.iload_n 3, 1) := by decide +kernel
theorem dX3_longestOf_30 : decode cX3_longestOf 30 = .ok (.iaload, 1) := by decide +kernel
theorem dX3_longestOf_31 : decode cX3_longestOf 31 = .ok (.aload_n 0, 1) := by decide +kernel
theorem dX3_longestOf_32 : decode cX3_longestOf 32 = .ok (.getfield 15, 3) := by decide +kernel
theorem dX3_longestOf_35 : decode cX3_longestOf 35 = .ok (.iload_n 2, 1) := by decide +kernel
theorem dX3_longestOf_36 : decode cX3_longestOf 36 = .ok (.iaload, 1) := by decide +kernel
theorem dX3_longestOf_37 : decode cX3_longestOf 37 = .ok (.if_icmp .le 5, 3) := by decide +kernel
theorem dX3_longestOf_40 : decode cX3_longestOf 40 = .ok (.iload_n 3, 1) := by decide +kernel
theorem dX3_longestOf_41 : decode cX3_longestOf 41 = .ok (.istore_n 2, 1) := by decide +kernel
theorem dX3_longestOf_42 : decode cX3_longestOf 42 = .ok (.iinc 3 1, 3) := by decide +kernel
theorem dX3_longestOf_45 : decode cX3_longestOf 45 = .ok (.goto (-40), 3) := by decide +kernel
theorem dX3_longestOf_48 : decode cX3_longestOf 48 = .ok (.iload_n 2, 1) := by decide +kernel
theorem dX3_longestOf_49 : decode cX3_longestOf 49 = .ok (.ireturn, 1) := by decide +kernel
theorem dX3_isBefore_0 : decode cX3_isBefore 0 = .ok (.aload_n 0, 1) := by decide +kernel
theorem dX3_isBefore_1 : decode cX3_isBefore 1 = .ok (.getfield 15, 3) := by decide +kernel
theorem dX3_isBefore_4 : decode cX3_isBefore 4 = .ok (.iload_n 1, 1) := by decide +kernel
theorem dX3_isBefore_5 : decode cX3_isBefore 5 = .ok (.iaload, 1) := by decide +kernel
theorem dX3_isBefore_6 : decode cX3_isBefore 6 = .ok (.aload_n 0, 1) := by decide +kernel
theorem dX3_isBefore_7 : decode cX3_isBefore 7 = .ok (.getfield 15, 3) := by decide +kernel
theorem dX3_isBefore_10 : decode cX3_isBefore 10 = .ok (.iload_n 2, 1) := by decide +kernel
theorem dX3_isBefore_11 : decode cX3_isBefore 11 = .ok (.iaload, 1) := by decide +kernel
theorem dX3_isBefore_12 : decode cX3_isBefore 12 = .ok (.if_icmp .gt 23, 3) := by decide +kernel
theorem dX3_isBefore_15 : decode cX3_isBefore 15 = .ok (.aload_n 0, 1) := by decide +kernel
theorem dX3_isBefore_16 : decode cX3_isBefore 16 = .ok (.getfield 15, 3) := by decide +kernel
theorem dX3_isBefore_19 : decode cX3_isBefore 19 = .ok (.iload_n 1, 1) := by decide +kernel
theorem dX3_isBefore_20 : decode cX3_isBefore 20 = .ok (.iaload, 1) := by decide +kernel
theorem dX3_isBefore_21 : decode cX3_isBefore 21 = .ok (.aload_n 0, 1) := by decide +kernel
theorem dX3_isBefore_22 : decode cX3_isBefore 22 = .ok (.getfield 15, 3) := by decide +kernel
theorem dX3_isBefore_25 : decode cX3_isBefore 25 = .ok (.iload_n 2, 1) := by decide +kernel
theorem dX3_isBefore_26 : decode cX3_isBefore 26 = .ok (.iaload, 1) := by decide +kernel
theorem dX3_isBefore_27 : decode cX3_isBefore 27 = .ok (.if_icmp .ne 12, 3) := by decide +kernel
theorem dX3_isBefore_30 : decode cX3_isBefore 30 = .ok (.iload_n 1, 1) := by decide +kernel
theorem dX3_isBefore_31 : decode cX3_isBefore 31 = .ok (.iload_n 2, 1) := by decide +kernel
theorem dX3_isBefore_32 : decode cX3_isBefore 32 = .ok (.if_icmp .ge 7, 3) := by decide +kernel
theorem dX3_isBefore_35 : decode cX3_isBefore 35 = .ok (.iconst 1, 1) := by decide +kernel
theorem dX3_isBefore_36 : decode cX3_isBefore 36 = .ok (.goto 4, 3) := by decide +kernel
theorem dX3_isBefore_39 : decode cX3_isBefore 39 = .ok (.iconst 0, 1) := by decide +kernel
theorem dX3_isBefore_40 : decode cX3_isBefore 40 = .ok (.ireturn, 1) := by decide +kernel
theorem dX3_allTempers_0 : decode cX3_allTempers 0 = .ok (.iconst 0, 1) := by decide +kernel
theorem dX3_allTempers_1 : decode cX3_allTempers 1 = .ok (.istore_n 1, 1) := by decide +kernel
theorem dX3_allTempers_2 : decode cX3_allTempers 2 = .ok (.iconst 0, 1) := by decide +kernel
theorem dX3_allTempers_3 : decode cX3_allTempers 3 = .ok (.istore_n 2, 1) := by decide +kernel
theorem dX3_allTempers_4 : decode cX3_allTempers 4 = .ok (.iload_n 2, 1) := by decide +kernel
theorem dX3_allTempers_5 : decode cX3_allTempers 5 = .ok (.aload_n 0, 1) := by decide +kernel
theorem dX3_allTempers_6 : decode cX3_allTempers 6 = .ok (.getfield 24, 3) := by decide +kernel
theorem dX3_allTempers_9 : decode cX3_allTempers 9 = .ok (.if_icmp .ge 26, 3) := by decide +kernel
theorem dX3_allTempers_12 : decode cX3_allTempers 12 = .ok (.aload_n 0, 1) := by decide +kernel
theorem dX3_allTempers_13 : decode cX3_allTempers 13 = .ok (.iload_n 2, 1) := by decide +kernel
theorem dX3_allTempers_14 : decode cX3_allTempers 14 = .ok (.invokevirtual 47, 3) := by decide +kernel
theorem dX3_allTempers_17 : decode cX3_allTempers 17 = .ok (.ifCond .eq 12, 3) := by decide +kernel
theorem dX3_allTempers_20 : decode cX3_allTempers 20 = .ok (.iload_n 1, 1) := by decide +kernel
theorem dX3_allTempers_21 : decode cX3_allTempers 21 = .ok (.aload_n 0, 1) := by decide +kernel
theorem dX3_allTempers_22 : decode cX3_allTempers 22 = .ok (.getfield 21, 3) := by decide +kernel
theorem dX3_allTempers_25 : decode cX3_allTempers 25 = .ok (.iload_n 2, 1) := by decide +kernel
theorem dX3_allTempers_26 : decode cX3_allTempers 26 = .ok (.iaload, 1) := by decide +kernel
theorem dX3_allTempers_27 : decode cX3_allTempers 27 = .ok (.iadd, 1) := by decide +kernel
theorem dX3_allTempers_28 : decode cX3_allTempers 28 = .ok (.istore_n 1, 1) := by decide +kernel
theorem dX3_allTempers_29 : decode cX3_allTempers 29 = .ok (.iinc 2 1, 3) := by decide +kernel
theorem dX3_allTempers_32 : decode cX3_allTempers 32 = .ok (.goto (-28), 3) := by decide +kernel
theorem dX3_allTempers_35 : decode cX3_allTempers 35 = .ok (.iload_n 1, 1) := by decide +kernel
theorem dX3_allTempers_36 : decode cX3_allTempers 36 = .ok (.ireturn, 1) := by decide +kernel
theorem dX3_worseThisYear_0 : decode cX3_worseThisYear 0 = .ok (.aload_n 0, 1) := by decide +kernel
theorem dX3_worseThisYear_1 : decode cX3_worseThisYear 1 = .ok (.invokevirtual 51, 3) := by decide +kernel
theorem dX3_worseThisYear_4 : decode cX3_worseThisYear 4 = .ok (.istore_n 2, 1) := by decide +kernel
theorem dX3_worseThisYear_5 : decode cX3_worseThisYear 5 = .ok (.aload_n 0, 1) := by decide +kernel
theorem dX3_worseThisYear_6 : decode cX3_worseThisYear 6 = .ok (.iload_n 1, 1) := by decide +kernel
theorem dX3_worseThisYear_7 : decode cX3_worseThisYear 7 = .ok (.invokevirtual 47, 3) := by decide +kernel
theorem dX3_worseThisYear_10 : decode cX3_worseThisYear 10 = .ok (.ifCond .eq 17, 3) := by decide +kernel
theorem dX3_worseThisYear_13 : decode cX3_worseThisYear 13 = .ok (.aload_n 0, 1) := by decide +kernel
theorem dX3_worseThisYear_14 : decode cX3_worseThisYear 14 = .ok (.iload_n 1, 1) := by decide +kernel
theorem dX3_worseThisYear_15 : decode cX3_worseThisYear 15 = .ok (.iload_n 2, 1) := by decide +kernel
theorem dX3_worseThisYear_16 : decode cX3_worseThisYear 16 = .ok (.aload_n 0, 1) := by decide +kernel
theorem dX3_worseThisYear_17 : decode cX3_worseThisYear 17 = .ok (.iload_n 2, 1) := by decide +kernel
theorem dX3_worseThisYear_18 : decode cX3_worseThisYear 18 = .ok (.invokevirtual 55, 3) := by decide +kernel
theorem dX3_worseThisYear_21 : decode cX3_worseThisYear 21 = .ok (.invokevirtual 58, 3) := by decide +kernel
theorem dX3_worseThisYear_24 : decode cX3_worseThisYear 24 = .ok (.goto 4, 3) := by decide +kernel
theorem dX3_worseThisYear_27 : decode cX3_worseThisYear 27 = .ok (.iconst 0, 1) := by decide +kernel
theorem dX3_worseThisYear_28 : decode cX3_worseThisYear 28 = .ok (.ireturn, 1) := by decide +kernel
theorem dX3_worse_0 : decode cX3_worse 0 = .ok (.iload_n 1, 1) := by decide +kernel
theorem dX3_worse_1 : decode cX3_worse 1 = .ok (.iload_n 2, 1) := by decide +kernel
theorem dX3_worse_2 : decode cX3_worse 2 = .ok (.if_icmp .ne 7, 3) := by decide +kernel
theorem dX3_worse_5 : decode cX3_worse 5 = .ok (.iconst 1, 1) := by decide +kernel
theorem dX3_worse_6 : decode cX3_worse 6 = .ok (.goto 4, 3) := by decide +kernel
theorem dX3_worse_9 : decode cX3_worse 9 = .ok (.iconst 0, 1) := by decide +kernel
theorem dX3_worse_10 : decode cX3_worse 10 = .ok (.istore 4, 2) := by decide +kernel
theorem dX3_worse_12 : decode cX3_worse 12 = .ok (.iload 4, 2) := by decide +kernel
theorem dX3_worse_14 : decode cX3_worse 14 = .ok (.ifCond .eq 7, 3) := by decide +kernel
theorem dX3_worse_17 : decode cX3_worse 17 = .ok (.iconst 1, 1) := by decide +kernel
theorem dX3_worse_18 : decode cX3_worse 18 = .ok (.goto 4, 3) := by decide +kernel
theorem dX3_worse_21 : decode cX3_worse 21 = .ok (.iconst (-1), 1) := by decide +kernel
theorem dX3_worse_22 : decode cX3_worse 22 = .ok (.istore 5, 2) := by decide +kernel
theorem dX3_worse_24 : decode cX3_worse 24 = .ok (.iload 4, 2) := by decide +kernel
theorem dX3_worse_26 : decode cX3_worse 26 = .ok (.ifCond .eq 10, 3) := by decide +kernel
theorem dX3_worse_29 : decode cX3_worse 29 = .ok (.iload 5, 2) := by decide +kernel
theorem dX3_worse_31 : decode cX3_worse 31 = .ok (.iconst 2, 1) := by decide +kernel
theorem dX3_worse_32 : decode cX3_worse 32 = .ok (.iadd, 1) := by decide +kernel
theorem dX3_worse_33 : decode cX3_worse 33 = .ok (.goto 5, 3) := by decide +kernel
theorem dX3_worse_36 : decode cX3_worse 36 = .ok (.iload 5, 2) := by decide +kernel
theorem dX3_worse_38 : decode cX3_worse 38 = .ok (.istore 6, 2) := by decide +kernel
theorem dX3_worse_40 : decode cX3_worse 40 = .ok (.iload_n 1, 1) := by decide +kernel
theorem dX3_worse_41 : decode cX3_worse 41 = .ok (.iload_n 3, 1) := by decide +kernel
theorem dX3_worse_42 : decode cX3_worse 42 = .ok (.if_icmp .ne 10, 3) := by decide +kernel
theorem dX3_worse_45 : decode cX3_worse 45 = .ok (.iload 5, 2) := by decide +kernel
theorem dX3_worse_47 : decode cX3_worse 47 = .ok (.iconst 2, 1) := by decide +kernel
theorem dX3_worse_48 : decode cX3_worse 48 = .ok (.isub, 1) := by decide +kernel
theorem dX3_worse_49 : decode cX3_worse 49 = .ok (.goto 5, 3) := by decide +kernel
theorem dX3_worse_52 : decode cX3_worse 52 = .ok (.iload 5, 2) := by decide +kernel
theorem dX3_worse_54 : decode cX3_worse 54 = .ok (.istore 7, 2) := by decide +kernel
theorem dX3_worse_56 : decode cX3_worse 56 = .ok (.aload_n 0, 1) := by decide +kernel
theorem dX3_worse_57 : decode cX3_worse 57 = .ok (.getfield 9, 3) := by decide +kernel
theorem dX3_worse_60 : decode cX3_worse 60 = .ok (.iload_n 1, 1) := by decide +kernel
theorem dX3_worse_61 : decode cX3_worse 61 = .ok (.iaload, 1) := by decide +kernel
theorem dX3_worse_62 : decode cX3_worse 62 = .ok (.tableswitch 73 1 4 #[30, 33, 36, 52], 30) := by decide +kernel
theorem dX3_worse_92 : decode cX3_worse 92 = .ok (.iload 6, 2) := by decide +kernel
theorem dX3_worse_94 : decode cX3_worse 94 = .ok (.ireturn, 1) := by decide +kernel
theorem dX3_worse_95 : decode cX3_worse 95 = .ok (.iload 7, 2) := by decide +kernel
theorem dX3_worse_97 : decode cX3_worse 97 = .ok (.ireturn, 1) := by decide +kernel
theorem dX3_worse_98 : decode cX3_worse 98 = .ok (.aload_n 0, 1) := by decide +kernel
theorem dX3_worse_99 : decode cX3_worse 99 = .ok (.getfield 31, 3) := by decide +kernel
theorem dX3_worse_102 : decode cX3_worse 102 = .ok (.iconst 2, 1) := by decide +kernel
theorem dX3_worse_103 : decode cX3_worse 103 = .ok (.irem, 1) := by decide +kernel
theorem dX3_worse_104 : decode cX3_worse 104 = .ok (.ifCond .ne 8, 3) := by decide +kernel
theorem dX3_worse_107 : decode cX3_worse 107 = .ok (.iload 6, 2) := by decide +kernel
theorem dX3_worse_109 : decode cX3_worse 109 = .ok (.goto 4, 3) := by decide +kernel
theorem dX3_worse_112 : decode cX3_worse 112 = .ok (.iconst 0, 1) := by decide +kernel
theorem dX3_worse_113 : decode cX3_worse 113 = .ok (.ireturn, 1) := by decide +kernel
theorem dX3_worse_114 : decode cX3_worse 114 = .ok (.aload_n 0, 1) := by decide +kernel
theorem dX3_worse_115 : decode cX3_worse 115 = .ok (.getfield 21, 3) := by decide +kernel
theorem dX3_worse_118 : decode cX3_worse 118 = .ok (.iload_n 1, 1) := by decide +kernel
theorem dX3_worse_119 : decode cX3_worse 119 = .ok (.iaload, 1) := by decide +kernel
theorem dX3_worse_120 : decode cX3_worse 120 = .ok (.bipush 10, 2) := by decide +kernel
theorem dX3_worse_122 : decode cX3_worse 122 = .ok (.if_icmp .lt 10, 3) := by decide +kernel
theorem dX3_worse_125 : decode cX3_worse 125 = .ok (.iload 7, 2) := by decide +kernel
theorem dX3_worse_127 : decode cX3_worse 127 = .ok (.iconst 3, 1) := by decide +kernel
theorem dX3_worse_128 : decode cX3_worse 128 = .ok (.iadd, 1) := by decide +kernel
theorem dX3_worse_129 : decode cX3_worse 129 = .ok (.goto 5, 3) := by decide +kernel
theorem dX3_worse_132 : decode cX3_worse 132 = .ok (.iload 7, 2) := by decide +kernel
theorem dX3_worse_134 : decode cX3_worse 134 = .ok (.ireturn, 1) := by decide +kernel
theorem dX3_worse_135 : decode cX3_worse 135 = .ok (.iload 5, 2) := by decide +kernel
theorem dX3_worse_137 : decode cX3_worse 137 = .ok (.ireturn, 1) := by decide +kernel
theorem dX3_passYears_0 : decode cX3_passYears 0 = .ok (.iconst 0, 1) := by decide +kernel
theorem dX3_passYears_1 : decode cX3_passYears 1 = .ok (.istore_n 2, 1) := by decide +kernel
theorem dX3_passYears_2 : decode cX3_passYears 2 = .ok (.iload_n 2, 1) := by decide +kernel
theorem dX3_passYears_3 : decode cX3_passYears 3 = .ok (.iload_n 1, 1) := by decide +kernel
theorem dX3_passYears_4 : decode cX3_passYears 4 = .ok (.if_icmp .ge 13, 3) := by decide +kernel
theorem dX3_passYears_7 : decode cX3_passYears 7 = .ok (.aload_n 0, 1) := by decide +kernel
theorem dX3_passYears_8 : decode cX3_passYears 8 = .ok (.invokevirtual 62, 3) := by decide +kernel
theorem dX3_passYears_11 : decode cX3_passYears 11 = .ok (.iinc 2 1, 3) := by decide +kernel
theorem dX3_passYears_14 : decode cX3_passYears 14 = .ok (.goto (-12), 3) := by decide +kernel
theorem dX3_passYears_17 : decode cX3_passYears 17 = .ok (.return_, 1) := by decide +kernel
theorem dX3_passYear_0 : decode cX3_passYear 0 = .ok (.aload_n 0, 1) := by decide +kernel
theorem dX3_passYear_1 : decode cX3_passYear 1 = .ok (.invokevirtual 51, 3) := by decide +kernel
theorem dX3_passYear_4 : decode cX3_passYear 4 = .ok (.istore_n 1, 1) := by decide +kernel
theorem dX3_passYear_5 : decode cX3_passYear 5 = .ok (.aload_n 0, 1) := by decide +kernel
theorem dX3_passYear_6 : decode cX3_passYear 6 = .ok (.iload_n 1, 1) := by decide +kernel
theorem dX3_passYear_7 : decode cX3_passYear 7 = .ok (.invokevirtual 55, 3) := by decide +kernel
theorem dX3_passYear_10 : decode cX3_passYear 10 = .ok (.istore_n 2, 1) := by decide +kernel
theorem dX3_passYear_11 : decode cX3_passYear 11 = .ok (.iconst 0, 1) := by decide +kernel
theorem dX3_passYear_12 : decode cX3_passYear 12 = .ok (.istore_n 3, 1) := by decide +kernel
theorem dX3_passYear_13 : decode cX3_passYear 13 = .ok (.iload_n 3, 1) := by decide +kernel
theorem dX3_passYear_14 : decode cX3_passYear 14 = .ok (.aload_n 0, 1) := by decide +kernel
theorem dX3_passYear_15 : decode cX3_passYear 15 = .ok (.getfield 24, 3) := by decide +kernel
theorem dX3_passYear_18 : decode cX3_passYear 18 = .ok (.if_icmp .ge 62, 3) := by decide +kernel
theorem dX3_passYear_21 : decode cX3_passYear 21 = .ok (.aload_n 0, 1) := by decide +kernel
theorem dX3_passYear_22 : decode cX3_passYear 22 = .ok (.iload_n 3, 1) := by decide +kernel
theorem dX3_passYear_23 : decode cX3_passYear 23 = .ok (.invokevirtual 47, 3) := by decide +kernel
theorem dX3_passYear_26 : decode cX3_passYear 26 = .ok (.ifCond .eq 48, 3) := by decide +kernel
theorem dX3_passYear_29 : decode cX3_passYear 29 = .ok (.aload_n 0, 1) := by decide +kernel
theorem dX3_passYear_30 : decode cX3_passYear 30 = .ok (.iload_n 3, 1) := by decide +kernel
theorem dX3_passYear_31 : decode cX3_passYear 31 = .ok (.iload_n 1, 1) := by decide +kernel
theorem dX3_passYear_32 : decode cX3_passYear 32 = .ok (.iload_n 2, 1) := by decide +kernel
theorem dX3_passYear_33 : decode cX3_passYear 33 = .ok (.invokevirtual 58, 3) := by decide +kernel
theorem dX3_passYear_36 : decode cX3_passYear 36 = .ok (.istore 4, 2) := by decide +kernel
theorem dX3_passYear_38 : decode cX3_passYear 38 = .ok (.aload_n 0, 1) := by decide +kernel
theorem dX3_passYear_39 : decode cX3_passYear 39 = .ok (.getfield 15, 3) := by decide +kernel
theorem dX3_passYear_42 : decode cX3_passYear 42 = .ok (.iload_n 3, 1) := by decide +kernel
theorem dX3_passYear_43 : decode cX3_passYear 43 = .ok (.bipush 99, 2) := by decide +kernel
theorem dX3_passYear_45 : decode cX3_passYear 45 = .ok (.aload_n 0, 1) := by decide +kernel
theorem dX3_passYear_46 : decode cX3_passYear 46 = .ok (.getfield 15, 3) := by decide +kernel
theorem dX3_passYear_49 : decode cX3_passYear 49 = .ok (.iload_n 3, 1) := by decide +kernel
theorem dX3_passYear_50 : decode cX3_passYear 50 = .ok (.iaload, 1) := by decide +kernel
theorem dX3_passYear_51 : decode cX3_passYear 51 = .ok (.iconst 1, 1) := by decide +kernel
theorem dX3_passYear_52 : decode cX3_passYear 52 = .ok (.iadd, 1) := by decide +kernel
theorem dX3_passYear_53 : decode cX3_passYear 53 = .ok (.invokestatic 65, 3) := by decide +kernel
theorem dX3_passYear_56 : decode cX3_passYear 56 = .ok (.iastore, 1) := by decide +kernel
theorem dX3_passYear_57 : decode cX3_passYear 57 = .ok (.aload_n 0, 1) := by decide +kernel
theorem dX3_passYear_58 : decode cX3_passYear 58 = .ok (.getfield 18, 3) := by decide +kernel
theorem dX3_passYear_61 : decode cX3_passYear 61 = .ok (.iload_n 3, 1) := by decide +kernel
theorem dX3_passYear_62 : decode cX3_passYear 62 = .ok (.dup2, 1) := by decide +kernel
theorem dX3_passYear_63 : decode cX3_passYear 63 = .ok (.iaload, 1) := by decide +kernel
theorem dX3_passYear_64 : decode cX3_passYear 64 = .ok (.iconst 1, 1) := by decide +kernel
theorem dX3_passYear_65 : decode cX3_passYear 65 = .ok (.iadd, 1) := by decide +kernel
theorem dX3_passYear_66 : decode cX3_passYear 66 = .ok (.iastore, 1) := by decide +kernel
theorem dX3_passYear_67 : decode cX3_passYear 67 = .ok (.aload_n 0, 1) := by decide +kernel
theorem dX3_passYear_68 : decode cX3_passYear 68 = .ok (.iload_n 3, 1) := by decide +kernel
theorem dX3_passYear_69 : decode cX3_passYear 69 = .ok (.iload 4, 2) := by decide +kernel
theorem dX3_passYear_71 : decode cX3_passYear 71 = .ok (.invokevirtual 71, 3) := by decide +kernel
theorem dX3_passYear_74 : decode cX3_passYear 74 = .ok (.iinc 3 1, 3) := by decide +kernel
theorem dX3_passYear_77 : decode cX3_passYear 77 = .ok (.goto (-64), 3) := by decide +kernel
theorem dX3_passYear_80 : decode cX3_passYear 80 = .ok (.aload_n 0, 1) := by decide +kernel
theorem dX3_passYear_81 : decode cX3_passYear 81 = .ok (.dup, 1) := by decide +kernel
theorem dX3_passYear_82 : decode cX3_passYear 82 = .ok (.getfield 31, 3) := by decide +kernel
theorem dX3_passYear_85 : decode cX3_passYear 85 = .ok (.iconst 1, 1) := by decide +kernel
theorem dX3_passYear_86 : decode cX3_passYear 86 = .ok (.iadd, 1) := by decide +kernel
theorem dX3_passYear_87 : decode cX3_passYear 87 = .ok (.putfield 31, 3) := by decide +kernel
theorem dX3_passYear_90 : decode cX3_passYear 90 = .ok (.return_, 1) := by decide +kernel
theorem dX3_better_0 : decode cX3_better 0 = .ok (.aload_n 0, 1) := by decide +kernel
theorem dX3_better_1 : decode cX3_better 1 = .ok (.getfield 21, 3) := by decide +kernel
theorem dX3_better_4 : decode cX3_better 4 = .ok (.iload_n 1, 1) := by decide +kernel
theorem dX3_better_5 : decode cX3_better 5 = .ok (.iconst 0, 1) := by decide +kernel
theorem dX3_better_6 : decode cX3_better 6 = .ok (.aload_n 0, 1) := by decide +kernel
theorem dX3_better_7 : decode cX3_better 7 = .ok (.getfield 21, 3) := by decide +kernel
theorem dX3_better_10 : decode cX3_better 10 = .ok (.iload_n 1, 1) := by decide +kernel
theorem dX3_better_11 : decode cX3_better 11 = .ok (.iaload, 1) := by decide +kernel
theorem dX3_better_12 : decode cX3_better 12 = .ok (.iload_n 2, 1) := by decide +kernel
theorem dX3_better_13 : decode cX3_better 13 = .ok (.isub, 1) := by decide +kernel
theorem dX3_better_14 : decode cX3_better 14 = .ok (.invokestatic 75, 3) := by decide +kernel
theorem dX3_better_17 : decode cX3_better 17 = .ok (.iastore, 1) := by decide +kernel
theorem dX3_better_18 : decode cX3_better 18 = .ok (.return_, 1) := by decide +kernel
theorem dX3_worsen_0 : decode cX3_worsen 0 = .ok (.aload_n 0, 1) := by decide +kernel
theorem dX3_worsen_1 : decode cX3_worsen 1 = .ok (.getfield 21, 3) := by decide +kernel
theorem dX3_worsen_4 : decode cX3_worsen 4 = .ok (.iload_n 1, 1) := by decide +kernel
theorem dX3_worsen_5 : decode cX3_worsen 5 = .ok (.iconst 0, 1) := by decide +kernel
theorem dX3_worsen_6 : decode cX3_worsen 6 = .ok (.aload_n 0, 1) := by decide +kernel
theorem dX3_worsen_7 : decode cX3_worsen 7 = .ok (.getfield 21, 3) := by decide +kernel
theorem dX3_worsen_10 : decode cX3_worsen 10 = .ok (.iload_n 1, 1) := by decide +kernel
theorem dX3_worsen_11 : decode cX3_worsen 11 = .ok (.iaload, 1) := by decide +kernel
theorem dX3_worsen_12 : decode cX3_worsen 12 = .ok (.iload_n 2, 1) := by decide +kernel
theorem dX3_worsen_13 : decode cX3_worsen 13 = .ok (.iadd, 1) := by decide +kernel
theorem dX3_worsen_14 : decode cX3_worsen 14 = .ok (.invokestatic 75, 3) := by decide +kernel
theorem dX3_worsen_17 : decode cX3_worsen 17 = .ok (.iastore, 1) := by decide +kernel
theorem dX3_worsen_18 : decode cX3_worsen 18 = .ok (.aload_n 0, 1) := by decide +kernel
theorem dX3_worsen_19 : decode cX3_worsen 19 = .ok (.getfield 21, 3) := by decide +kernel
theorem dX3_worsen_22 : decode cX3_worsen 22 = .ok (.iload_n 1, 1) := by decide +kernel
theorem dX3_worsen_23 : decode cX3_worsen 23 = .ok (.iaload, 1) := by decide +kernel
theorem dX3_worsen_24 : decode cX3_worsen 24 = .ok (.bipush 19, 2) := by decide +kernel
theorem dX3_worsen_26 : decode cX3_worsen 26 = .ok (.if_icmp .gt 14, 3) := by decide +kernel
theorem dX3_worsen_29 : decode cX3_worsen 29 = .ok (.aload_n 0, 1) := by decide +kernel
theorem dX3_worsen_30 : decode cX3_worsen 30 = .ok (.getfield 18, 3) := by decide +kernel
theorem dX3_worsen_33 : decode cX3_worsen 33 = .ok (.iload_n 1, 1) := by decide +kernel
theorem dX3_worsen_34 : decode cX3_worsen 34 = .ok (.iaload, 1) := by decide +kernel
theorem dX3_worsen_35 : decode cX3_worsen 35 = .ok (.bipush 99, 2) := by decide +kernel
theorem dX3_worsen_37 : decode cX3_worsen 37 = .ok (.if_icmp .le 51, 3) := by decide +kernel
theorem dX3_worsen_40 : decode cX3_worsen 40 = .ok (.aload_n 0, 1) := by decide +kernel
theorem dX3_worsen_41 : decode cX3_worsen 41 = .ok (.dup, 1) := by decide +kernel
theorem dX3_worsen_42 : decode cX3_worsen 42 = .ok (.getfield 28, 3) := by decide +kernel
theorem dX3_worsen_45 : decode cX3_worsen 45 = .ok (.iconst 1, 1) := by decide +kernel
theorem dX3_worsen_46 : decode cX3_worsen 46 = .ok (.iload_n 1, 1) := by decide +kernel
theorem dX3_worsen_47 : decode cX3_worsen 47 = .ok (.ishl, 1) := by decide +kernel
theorem dX3_worsen_48 : decode cX3_worsen 48 = .ok (.iconst (-1), 1) := by decide +kernel
theorem dX3_worsen_49 : decode cX3_worsen 49 = .ok (.ixor, 1) := by decide +kernel
theorem dX3_worsen_50 : decode cX3_worsen 50 = .ok (.iand, 1) := by decide +kernel
theorem dX3_worsen_51 : decode cX3_worsen 51 = .ok (.putfield 28, 3) := by decide +kernel
theorem dX3_worsen_54 : decode cX3_worsen 54 = .ok (.aload_n 0, 1) := by decide +kernel
theorem dX3_worsen_55 : decode cX3_worsen 55 = .ok (.getfield 21, 3) := by decide +kernel
theorem dX3_worsen_58 : decode cX3_worsen 58 = .ok (.iload_n 1, 1) := by decide +kernel
theorem dX3_worsen_59 : decode cX3_worsen 59 = .ok (.bipush 19, 2) := by decide +kernel
theorem dX3_worsen_61 : decode cX3_worsen 61 = .ok (.aload_n 0, 1) := by decide +kernel
theorem dX3_worsen_62 : decode cX3_worsen 62 = .ok (.getfield 21, 3) := by decide +kernel
theorem dX3_worsen_65 : decode cX3_worsen 65 = .ok (.iload_n 1, 1) := by decide +kernel
theorem dX3_worsen_66 : decode cX3_worsen 66 = .ok (.iaload, 1) := by decide +kernel
theorem dX3_worsen_67 : decode cX3_worsen 67 = .ok (.invokestatic 65, 3) := by decide +kernel
theorem dX3_worsen_70 : decode cX3_worsen 70 = .ok (.iastore, 1) := by decide +kernel
theorem dX3_worsen_71 : decode cX3_worsen 71 = .ok (.aload_n 0, 1) := by decide +kernel
theorem dX3_worsen_72 : decode cX3_worsen 72 = .ok (.getfield 18, 3) := by decide +kernel
theorem dX3_worsen_75 : decode cX3_worsen 75 = .ok (.iload_n 1, 1) := by decide +kernel
theorem dX3_worsen_76 : decode cX3_worsen 76 = .ok (.bipush 99, 2) := by decide +kernel
theorem dX3_worsen_78 : decode cX3_worsen 78 = .ok (.aload_n 0, 1) := by decide +kernel
theorem dX3_worsen_79 : decode cX3_worsen 79 = .ok (.getfield 18, 3) := by decide +kernel
theorem dX3_worsen_82 : decode cX3_worsen 82 = .ok (.iload_n 1, 1) := by decide +kernel
theorem dX3_worsen_83 : decode cX3_worsen 83 = .ok (.iaload, 1) := by decide +kernel
theorem dX3_worsen_84 : decode cX3_worsen 84 = .ok (.invokestatic 65, 3) := by decide +kernel
theorem dX3_worsen_87 : decode cX3_worsen 87 = .ok (.iastore, 1) := by decide +kernel
theorem dX3_worsen_88 : decode cX3_worsen 88 = .ok (.return_, 1) := by decide +kernel
theorem dX3_wedAnew_0 : decode cX3_wedAnew 0 = .ok (.aload_n 0, 1) := by decide +kernel
theorem dX3_wedAnew_1 : decode cX3_wedAnew 1 = .ok (.dup, 1) := by decide +kernel
theorem dX3_wedAnew_2 : decode cX3_wedAnew 2 = .ok (.getfield 28, 3) := by decide +kernel
theorem dX3_wedAnew_5 : decode cX3_wedAnew 5 = .ok (.iconst 1, 1) := by decide +kernel
theorem dX3_wedAnew_6 : decode cX3_wedAnew 6 = .ok (.iload_n 1, 1) := by decide +kernel
theorem dX3_wedAnew_7 : decode cX3_wedAnew 7 = .ok (.ishl, 1) := by decide +kernel
theorem dX3_wedAnew_8 : decode cX3_wedAnew 8 = .ok (.ior, 1) := by decide +kernel
theorem dX3_wedAnew_9 : decode cX3_wedAnew 9 = .ok (.putfield 28, 3) := by decide +kernel
theorem dX3_wedAnew_12 : decode cX3_wedAnew 12 = .ok (.aload_n 0, 1) := by decide +kernel
theorem dX3_wedAnew_13 : decode cX3_wedAnew 13 = .ok (.getfield 15, 3) := by decide +kernel
theorem dX3_wedAnew_16 : decode cX3_wedAnew 16 = .ok (.iload_n 1, 1) := by decide +kernel
theorem dX3_wedAnew_17 : decode cX3_wedAnew 17 = .ok (.iconst 0, 1) := by decide +kernel
theorem dX3_wedAnew_18 : decode cX3_wedAnew 18 = .ok (.iastore, 1) := by decide +kernel
theorem dX3_wedAnew_19 : decode cX3_wedAnew 19 = .ok (.aload_n 0, 1) := by decide +kernel
theorem dX3_wedAnew_20 : decode cX3_wedAnew 20 = .ok (.getfield 18, 3) := by decide +kernel
theorem dX3_wedAnew_23 : decode cX3_wedAnew 23 = .ok (.iload_n 1, 1) := by decide +kernel
theorem dX3_wedAnew_24 : decode cX3_wedAnew 24 = .ok (.bipush 20, 2) := by decide +kernel
theorem dX3_wedAnew_26 : decode cX3_wedAnew 26 = .ok (.iastore, 1) := by decide +kernel
theorem dX3_wedAnew_27 : decode cX3_wedAnew 27 = .ok (.aload_n 0, 1) := by decide +kernel
theorem dX3_wedAnew_28 : decode cX3_wedAnew 28 = .ok (.getfield 21, 3) := by decide +kernel
theorem dX3_wedAnew_31 : decode cX3_wedAnew 31 = .ok (.iload_n 1, 1) := by decide +kernel
theorem dX3_wedAnew_32 : decode cX3_wedAnew 32 = .ok (.iconst 0, 1) := by decide +kernel
theorem dX3_wedAnew_33 : decode cX3_wedAnew 33 = .ok (.iastore, 1) := by decide +kernel
theorem dX3_wedAnew_34 : decode cX3_wedAnew 34 = .ok (.return_, 1) := by decide +kernel
theorem dX3_drawNext_0 : decode cX3_drawNext 0 = .ok (.aload_n 0, 1) := by decide +kernel
theorem dX3_drawNext_1 : decode cX3_drawNext 1 = .ok (.aload_n 0, 1) := by decide +kernel
theorem dX3_drawNext_2 : decode cX3_drawNext 2 = .ok (.getfield 34, 3) := by decide +kernel
theorem dX3_drawNext_5 : decode cX3_drawNext 5 = .ok (.ldc 78, 2) := by decide +kernel
theorem dX3_drawNext_7 : decode cX3_drawNext 7 = .ok (.imul, 1) := by decide +kernel
theorem dX3_drawNext_8 : decode cX3_drawNext 8 = .ok (.sipush 12345, 3) := by decide +kernel
theorem dX3_drawNext_11 : decode cX3_drawNext 11 = .ok (.iadd, 1) := by decide +kernel
theorem dX3_drawNext_12 : decode cX3_drawNext 12 = .ok (.ldc 79, 2) := by decide +kernel
theorem dX3_drawNext_14 : decode cX3_drawNext 14 = .ok (.iand, 1) := by decide +kernel
theorem dX3_drawNext_15 : decode cX3_drawNext 15 = .ok (.putfield 34, 3) := by decide +kernel
theorem dX3_drawNext_18 : decode cX3_drawNext 18 = .ok (.aload_n 0, 1) := by decide +kernel
theorem dX3_drawNext_19 : decode cX3_drawNext 19 = .ok (.getfield 24, 3) := by decide +kernel
theorem dX3_drawNext_22 : decode cX3_drawNext 22 = .ok (.ifCond .gt 4, 3) := by decide +kernel
theorem dX3_drawNext_25 : decode cX3_drawNext 25 = .ok (.return_, 1) := by decide +kernel
theorem dX3_drawNext_26 : decode cX3_drawNext 26 = .ok (.aload_n 0, 1) := by decide +kernel
theorem dX3_drawNext_27 : decode cX3_drawNext 27 = .ok (.getfield 34, 3) := by decide +kernel
theorem dX3_drawNext_30 : decode cX3_drawNext 30 = .ok (.ldc 80, 2) := by decide +kernel
theorem dX3_drawNext_32 : decode cX3_drawNext 32 = .ok (.idiv, 1) := by decide +kernel
theorem dX3_drawNext_33 : decode cX3_drawNext 33 = .ok (.aload_n 0, 1) := by decide +kernel
theorem dX3_drawNext_34 : decode cX3_drawNext 34 = .ok (.getfield 24, 3) := by decide +kernel
theorem dX3_drawNext_37 : decode cX3_drawNext 37 = .ok (.irem, 1) := by decide +kernel
theorem dX3_drawNext_38 : decode cX3_drawNext 38 = .ok (.istore_n 1, 1) := by decide +kernel
theorem dX3_drawNext_39 : decode cX3_drawNext 39 = .ok (.aload_n 0, 1) := by decide +kernel
theorem dX3_drawNext_40 : decode cX3_drawNext 40 = .ok (.getfield 34, 3) := by decide +kernel
theorem dX3_drawNext_43 : decode cX3_drawNext 43 = .ok (.sipush 128, 3) := by decide +kernel
theorem dX3_drawNext_46 : decode cX3_drawNext 46 = .ok (.idiv, 1) := by decide +kernel
theorem dX3_drawNext_47 : decode cX3_drawNext 47 = .ok (.bipush 7, 2) := by decide +kernel
theorem dX3_drawNext_49 : decode cX3_drawNext 49 = .ok (.irem, 1) := by decide +kernel
theorem dX3_drawNext_50 : decode cX3_drawNext 50 = .ok (.istore_n 2, 1) := by decide +kernel
theorem dX3_drawNext_51 : decode cX3_drawNext 51 = .ok (.aload_n 0, 1) := by decide +kernel
theorem dX3_drawNext_52 : decode cX3_drawNext 52 = .ok (.iload_n 1, 1) := by decide +kernel
theorem dX3_drawNext_53 : decode cX3_drawNext 53 = .ok (.invokevirtual 47, 3) := by decide +kernel
theorem dX3_drawNext_56 : decode cX3_drawNext 56 = .ok (.ifCond .eq 12, 3) := by decide +kernel
theorem dX3_drawNext_59 : decode cX3_drawNext 59 = .ok (.aload_n 0, 1) := by decide +kernel
theorem dX3_drawNext_60 : decode cX3_drawNext 60 = .ok (.iload_n 1, 1) := by decide +kernel
theorem dX3_drawNext_61 : decode cX3_drawNext 61 = .ok (.iload_n 2, 1) := by decide +kernel
theorem dX3_drawNext_62 : decode cX3_drawNext 62 = .ok (.invokevirtual 71, 3) := by decide +kernel
theorem dX3_drawNext_65 : decode cX3_drawNext 65 = .ok (.goto 12, 3) := by decide +kernel
theorem dX3_drawNext_68 : decode cX3_drawNext 68 = .ok (.iload_n 2, 1) := by decide +kernel
theorem dX3_drawNext_69 : decode cX3_drawNext 69 = .ok (.ifCond .ne 8, 3) := by decide +kernel
theorem dX3_drawNext_72 : decode cX3_drawNext 72 = .ok (.aload_n 0, 1) := by decide +kernel
theorem dX3_drawNext_73 : decode cX3_drawNext 73 = .ok (.iload_n 1, 1) := by decide +kernel
theorem dX3_drawNext_74 : decode cX3_drawNext 74 = .ok (.invokevirtual 81, 3) := by decide +kernel
theorem dX3_drawNext_77 : decode cX3_drawNext 77 = .ok (.return_, 1) := by decide +kernel
theorem dX3_tenthsToStay_0 : decode cX3_tenthsToStay 0 = .ok (.aload_n 0, 1) := by decide +kernel
theorem dX3_tenthsToStay_1 : decode cX3_tenthsToStay 1 = .ok (.iload_n 1, 1) := by decide +kernel
theorem dX3_tenthsToStay_2 : decode cX3_tenthsToStay 2 = .ok (.invokevirtual 47, 3) := by decide +kernel
theorem dX3_tenthsToStay_5 : decode cX3_tenthsToStay 5 = .ok (.ifCond .ne 5, 3) := by decide +kernel
theorem dX3_tenthsToStay_8 : decode cX3_tenthsToStay 8 = .ok (.iconst 0, 1) := by decide +kernel
theorem dX3_tenthsToStay_9 : decode cX3_tenthsToStay 9 = .ok (.ireturn, 1) := by decide +kernel
theorem dX3_tenthsToStay_10 : decode cX3_tenthsToStay 10 = .ok (.aload_n 0, 1) := by decide +kernel
theorem dX3_tenthsToStay_11 : decode cX3_tenthsToStay 11 = .ok (.getfield 21, 3) := by decide +kernel
theorem dX3_tenthsToStay_14 : decode cX3_tenthsToStay 14 = .ok (.iload_n 1, 1) := by decide +kernel
theorem dX3_tenthsToStay_15 : decode cX3_tenthsToStay 15 = .ok (.iaload, 1) := by decide +kernel
theorem dX3_tenthsToStay_16 : decode cX3_tenthsToStay 16 = .ok (.bipush 10, 2) := by decide +kernel
theorem dX3_tenthsToStay_18 : decode cX3_tenthsToStay 18 = .ok (.iadd, 1) := by decide +kernel
theorem dX3_tenthsToStay_19 : decode cX3_tenthsToStay 19 = .ok (.bipush 19, 2) := by decide +kernel
theorem dX3_tenthsToStay_21 : decode cX3_tenthsToStay 21 = .ok (.if_icmp .le 10, 3) := by decide +kernel
theorem dX3_tenthsToStay_24 : decode cX3_tenthsToStay 24 = .ok (.bipush 10, 2) := by decide +kernel
theorem dX3_tenthsToStay_26 : decode cX3_tenthsToStay 26 = .ok (.iload_n 2, 1) := by decide +kernel
theorem dX3_tenthsToStay_27 : decode cX3_tenthsToStay 27 = .ok (.isub, 1) := by decide +kernel
theorem dX3_tenthsToStay_28 : decode cX3_tenthsToStay 28 = .ok (.goto 5, 3) := by decide +kernel
theorem dX3_tenthsToStay_31 : decode cX3_tenthsToStay 31 = .ok (.bipush 10, 2) := by decide +kernel
theorem dX3_tenthsToStay_33 : decode cX3_tenthsToStay 33 = .ok (.ireturn, 1) := by decide +kernel
