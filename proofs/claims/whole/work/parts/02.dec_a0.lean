theorem dX0_init_0 : decode cX0_init 0 = .ok (.aload_n 0, 1) := by decide +kernel
theorem dX0_init_1 : decode cX0_init 1 = .ok (.invokespecial 3, 3) := by decide +kernel
theorem dX0_init_4 : decode cX0_init 4 = .ok (.aload_n 0, 1) := by decide +kernel
theorem dX0_init_5 : decode cX0_init 5 = .ok (.bipush 20, 2) := by decide +kernel
theorem dX0_init_7 : decode cX0_init 7 = .ok (.newarray .int, 2) := by decide +kernel
theorem dX0_init_9 : decode cX0_init 9 = .ok (.putfield 11, 3) := by decide +kernel
theorem dX0_init_12 : decode cX0_init 12 = .ok (.aload_n 0, 1) := by decide +kernel
theorem dX0_init_13 : decode cX0_init 13 = .ok (.bipush 20, 2) := by decide +kernel
theorem dX0_init_15 : decode cX0_init 15 = .ok (.newarray .int, 2) := by decide +kernel
theorem dX0_init_17 : decode cX0_init 17 = .ok (.putfield 15, 3) := by decide +kernel
theorem dX0_init_20 : decode cX0_init 20 = .ok (.return_, 1) := by decide +kernel
theorem dX0_empty_0 : decode cX0_empty 0 = .ok (.aload_n 0, 1) := by decide +kernel
theorem dX0_empty_1 : decode cX0_empty 1 = .ok (.iconst 0, 1) := by decide +kernel
theorem dX0_empty_2 : decode cX0_empty 2 = .ok (.putfield 18, 3) := by decide +kernel
theorem dX0_empty_5 : decode cX0_empty 5 = .ok (.return_, 1) := by decide +kernel
theorem dX0_addEntry_0 : decode cX0_addEntry 0 = .ok (.aload_n 0, 1) := by decide +kernel
theorem dX0_addEntry_1 : decode cX0_addEntry 1 = .ok (.getfield 18, 3) := by decide +kernel
theorem dX0_addEntry_4 : decode cX0_addEntry 4 = .ok (.bipush 20, 2) := by decide +kernel
theorem dX0_addEntry_6 : decode cX0_addEntry 6 = .ok (.if_icmp .lt 6, 3) := by decide +kernel
theorem dX0_addEntry_9 : decode cX0_addEntry 9 = .ok (.ldc 22, 2) := by decide +kernel
theorem dX0_addEntry_11 : decode cX0_addEntry 11 = .ok (.ireturn, 1) := by decide +kernel
theorem dX0_addEntry_12 : decode cX0_addEntry 12 = .ok (.aload_n 0, 1) := by decide +kernel
theorem dX0_addEntry_13 : decode cX0_addEntry 13 = .ok (.getfield 11, 3) := by decide +kernel
theorem dX0_addEntry_16 : decode cX0_addEntry 16 = .ok (.aload_n 0, 1) := by decide +kernel
theorem dX0_addEntry_17 : decode cX0_addEntry 17 = .ok (.getfield 18, 3) := by decide +kernel
theorem dX0_addEntry_20 : decode cX0_addEntry 20 = .ok (.iload_n 1, 1) := by decide +kernel
theorem dX0_addEntry_21 : decode cX0_addEntry 21 = .ok (.iastore, 1) := by decide +kernel
theorem dX0_addEntry_22 : decode cX0_addEntry 22 = .ok (.aload_n 0, 1) := by decide +kernel
theorem dX0_addEntry_23 : decode cX0_addEntry 23 = .ok (.getfield 15, 3) := by decide +kernel
theorem dX0_addEntry_26 : decode cX0_addEntry 26 = .ok (.aload_n 0, 1) := by decide +kernel
theorem dX0_addEntry_27 : decode cX0_addEntry 27 = .ok (.getfield 18, 3) := by decide +kernel
theorem dX0_addEntry_30 : decode cX0_addEntry 30 = .ok (.iload_n 2, 1) := by decide +kernel
theorem dX0_addEntry_31 : decode cX0_addEntry 31 = .ok (.iastore, 1) := by decide +kernel
theorem dX0_addEntry_32 : decode cX0_addEntry 32 = .ok (.aload_n 0, 1) := by decide +kernel
theorem dX0_addEntry_33 : decode cX0_addEntry 33 = .ok (.dup, 1) := by decide +kernel
theorem dX0_addEntry_34 : decode cX0_addEntry 34 = .ok (.getfield 18, 3) := by decide +kernel
theorem dX0_addEntry_37 : decode cX0_addEntry 37 = .ok (.iconst 1, 1) := by decide +kernel
theorem dX0_addEntry_38 : decode cX0_addEntry 38 = .ok (.iadd, 1) := by decide +kernel
theorem dX0_addEntry_39 : decode cX0_addEntry 39 = .ok (.putfield 18, 3) := by decide +kernel
theorem dX0_addEntry_42 : decode cX0_addEntry 42 = .ok (.aload_n 0, 1) := by decide +kernel
theorem dX0_addEntry_43 : decode cX0_addEntry 43 = .ok (.getfield 18, 3) := by decide +kernel
theorem dX0_addEntry_46 : decode cX0_addEntry 46 = .ok (.ireturn, 1) := by decide +kernel
theorem dX0_firstWrong_0 : decode cX0_firstWrong 0 = .ok (.iconst 0, 1) := by decide +kernel
theorem dX0_firstWrong_1 : decode cX0_firstWrong 1 = .ok (.istore_n 3, 1) := by decide +kernel
theorem dX0_firstWrong_2 : decode cX0_firstWrong 2 = .ok (.iload_n 3, 1) := by decide +kernel
theorem dX0_firstWrong_3 : decode cX0_firstWrong 3 = .ok (.aload_n 0, 1) := by decide +kernel
theorem dX0_firstWrong_4 : decode cX0_firstWrong 4 = .ok (.getfield 18, 3) := by decide +kernel
theorem dX0_firstWrong_7 : decode cX0_firstWrong 7 = .ok (.if_icmp .ge 44, 3) := by decide +kernel
theorem dX0_firstWrong_10 : decode cX0_firstWrong 10 = .ok (.aload_n 0, 1) := by decide +kernel
theorem dX0_firstWrong_11 : decode cX0_firstWrong 11 = .ok (.getfield 11, 3) := by decide +kernel
theorem dX0_firstWrong_14 : decode cX0_firstWrong 14 = .ok (.iload_n 3, 1) := by decide +kernel
theorem dX0_firstWrong_15 : decode cX0_firstWrong 15 = .ok (.iaload, 1) := by decide +kernel
theorem dX0_firstWrong_16 : decode cX0_firstWrong 16 = .ok (.istore 4, 2) := by decide +kernel
theorem dX0_firstWrong_18 : decode cX0_firstWrong 18 = .ok (.aload_n 1, 1) := by decide +kernel
theorem dX0_firstWrong_19 : decode cX0_firstWrong 19 = .ok (.iload 4, 2) := by decide +kernel
theorem dX0_firstWrong_21 : decode cX0_firstWrong 21 = .ok (.invokevirtual 23, 3) := by decide +kernel
theorem dX0_firstWrong_24 : decode cX0_firstWrong 24 = .ok (.ifCond .eq 19, 3) := by decide +kernel
theorem dX0_firstWrong_27 : decode cX0_firstWrong 27 = .ok (.aload_n 2, 1) := by decide +kernel
theorem dX0_firstWrong_28 : decode cX0_firstWrong 28 = .ok (.getfield 29, 3) := by decide +kernel
theorem dX0_firstWrong_31 : decode cX0_firstWrong 31 = .ok (.iload 4, 2) := by decide +kernel
theorem dX0_firstWrong_33 : decode cX0_firstWrong 33 = .ok (.iaload, 1) := by decide +kernel
theorem dX0_firstWrong_34 : decode cX0_firstWrong 34 = .ok (.aload_n 0, 1) := by decide +kernel
theorem dX0_firstWrong_35 : decode cX0_firstWrong 35 = .ok (.getfield 15, 3) := by decide +kernel
theorem dX0_firstWrong_38 : decode cX0_firstWrong 38 = .ok (.iload_n 3, 1) := by decide +kernel
theorem dX0_firstWrong_39 : decode cX0_firstWrong 39 = .ok (.iaload, 1) := by decide +kernel
theorem dX0_firstWrong_40 : decode cX0_firstWrong 40 = .ok (.if_icmp .eq 5, 3) := by decide +kernel
theorem dX0_firstWrong_43 : decode cX0_firstWrong 43 = .ok (.iload_n 3, 1) := by decide +kernel
theorem dX0_firstWrong_44 : decode cX0_firstWrong 44 = .ok (.ireturn, 1) := by decide +kernel
theorem dX0_firstWrong_45 : decode cX0_firstWrong 45 = .ok (.iinc 3 1, 3) := by decide +kernel
theorem dX0_firstWrong_48 : decode cX0_firstWrong 48 = .ok (.goto (-46), 3) := by decide +kernel
theorem dX0_firstWrong_51 : decode cX0_firstWrong 51 = .ok (.iconst (-1), 1) := by decide +kernel
theorem dX0_firstWrong_52 : decode cX0_firstWrong 52 = .ok (.ireturn, 1) := by decide +kernel
theorem dX1_init_0 : decode cX1_init 0 = .ok (.aload_n 0, 1) := by decide +kernel
theorem dX1_init_1 : decode cX1_init 1 = .ok (.invokespecial 1, 3) := by decide +kernel
theorem dX1_init_4 : decode cX1_init 4 = .ok (.return_, 1) := by decide +kernel
theorem dX1_draw_0 : decode cX1_draw 0 = .ok (.aload_n 0, 1) := by decide +kernel
theorem dX1_draw_1 : decode cX1_draw 1 = .ok (.aload_n 0, 1) := by decide +kernel
theorem dX1_draw_2 : decode cX1_draw 2 = .ok (.getfield 7, 3) := by decide +kernel
theorem dX1_draw_5 : decode cX1_draw 5 = .ok (.i2l, 1) := by decide +kernel
theorem dX1_draw_6 : decode cX1_draw 6 = .ok (.ldc2_w 13, 3) := by decide +kernel
theorem dX1_draw_9 : decode cX1_draw 9 = .ok (.lmul, 1) := by decide +kernel
theorem dX1_draw_10 : decode cX1_draw 10 = .ok (.ldc2_w 15, 3) := by decide +kernel
theorem dX1_draw_13 : decode cX1_draw 13 = .ok (.ladd, 1) := by decide +kernel
theorem dX1_draw_14 : decode cX1_draw 14 = .ok (.ldc2_w 17, 3) := by decide +kernel
theorem dX1_draw_17 : decode cX1_draw 17 = .ok (.land, 1) := by decide +kernel
theorem dX1_draw_18 : decode cX1_draw 18 = .ok (.l2i, 1) := by decide +kernel
theorem dX1_draw_19 : decode cX1_draw 19 = .ok (.putfield 7, 3) := by decide +kernel
theorem dX1_draw_22 : decode cX1_draw 22 = .ok (.iload_n 1, 1) := by decide +kernel
theorem dX1_draw_23 : decode cX1_draw 23 = .ok (.ifCond .le 15, 3) := by decide +kernel
theorem dX1_draw_26 : decode cX1_draw 26 = .ok (.aload_n 0, 1) := by decide +kernel
theorem dX1_draw_27 : decode cX1_draw 27 = .ok (.getfield 7, 3) := by decide +kernel
theorem dX1_draw_30 : decode cX1_draw 30 = .ok (.ldc 19, 2) := by decide +kernel
theorem dX1_draw_32 : decode cX1_draw 32 = .ok (.idiv, 1) := by decide +kernel
theorem dX1_draw_33 : decode cX1_draw 33 = .ok (.iload_n 1, 1) := by decide +kernel
theorem dX1_draw_34 : decode cX1_draw 34 = .ok (.irem, 1) := by decide +kernel
theorem dX1_draw_35 : decode cX1_draw 35 = .ok (.goto 4, 3) := by decide +kernel
theorem dX1_draw_38 : decode cX1_draw 38 = .ok (.iconst 0, 1) := by decide +kernel
theorem dX1_draw_39 : decode cX1_draw 39 = .ok (.ireturn, 1) := by decide +kernel
theorem dX2_init_0 : decode cX2_init 0 = .ok (.aload_n 0, 1) := by decide +kernel
theorem dX2_init_1 : decode cX2_init 1 = .ok (.invokespecial 1, 3) := by decide +kernel
theorem dX2_init_4 : decode cX2_init 4 = .ok (.aload_n 0, 1) := by decide +kernel
theorem dX2_init_5 : decode cX2_init 5 = .ok (.new 7, 3) := by decide +kernel
theorem dX2_init_8 : decode cX2_init 8 = .ok (.dup, 1) := by decide +kernel
theorem dX2_init_9 : decode cX2_init 9 = .ok (.invokespecial 9, 3) := by decide +kernel
theorem dX2_init_12 : decode cX2_init 12 = .ok (.putfield 10, 3) := by decide +kernel
theorem dX2_init_15 : decode cX2_init 15 = .ok (.return_, 1) := by decide +kernel
theorem dX2_forget_0 : decode cX2_forget 0 = .ok (.aload_n 0, 1) := by decide +kernel
theorem dX2_forget_1 : decode cX2_forget 1 = .ok (.iconst 0, 1) := by decide +kernel
theorem dX2_forget_2 : decode cX2_forget 2 = .ok (.putfield 16, 3) := by decide +kernel
theorem dX2_forget_5 : decode cX2_forget 5 = .ok (.return_, 1) := by decide +kernel
theorem dX2_take_0 : decode cX2_take 0 = .ok (.aload_n 0, 1) := by decide +kernel
theorem dX2_take_1 : decode cX2_take 1 = .ok (.getfield 10, 3) := by decide +kernel
theorem dX2_take_4 : decode cX2_take 4 = .ok (.aload_n 1, 1) := by decide +kernel
theorem dX2_take_5 : decode cX2_take 5 = .ok (.invokevirtual 20, 3) := by decide +kernel
theorem dX2_take_8 : decode cX2_take 8 = .ok (.aload_n 0, 1) := by decide +kernel
theorem dX2_take_9 : decode cX2_take 9 = .ok (.aload_n 2, 1) := by decide +kernel
theorem dX2_take_10 : decode cX2_take 10 = .ok (.getfield 24, 3) := by decide +kernel
theorem dX2_take_13 : decode cX2_take 13 = .ok (.putfield 30, 3) := by decide +kernel
theorem dX2_take_16 : decode cX2_take 16 = .ok (.aload_n 0, 1) := by decide +kernel
theorem dX2_take_17 : decode cX2_take 17 = .ok (.iconst 1, 1) := by decide +kernel
theorem dX2_take_18 : decode cX2_take 18 = .ok (.putfield 16, 3) := by decide +kernel
theorem dX2_take_21 : decode cX2_take 21 = .ok (.return_, 1) := by decide +kernel
theorem dX2_give_0 : decode cX2_give 0 = .ok (.aload_n 1, 1) := by decide +kernel
theorem dX2_give_1 : decode cX2_give 1 = .ok (.aload_n 0, 1) := by decide +kernel
theorem dX2_give_2 : decode cX2_give 2 = .ok (.getfield 10, 3) := by decide +kernel
theorem dX2_give_5 : decode cX2_give 5 = .ok (.invokevirtual 20, 3) := by decide +kernel
theorem dX2_give_8 : decode cX2_give 8 = .ok (.aload_n 2, 1) := by decide +kernel
theorem dX2_give_9 : decode cX2_give 9 = .ok (.aload_n 0, 1) := by decide +kernel
theorem dX2_give_10 : decode cX2_give 10 = .ok (.getfield 30, 3) := by decide +kernel
theorem dX2_give_13 : decode cX2_give 13 = .ok (.putfield 24, 3) := by decide +kernel
theorem dX2_give_16 : decode cX2_give 16 = .ok (.return_, 1) := by decide +kernel
theorem dX3_isLevel_0 : decode cX3_isLevel 0 = .ok (.iload_n 0, 1) := by decide +kernel
theorem dX3_isLevel_1 : decode cX3_isLevel 1 = .ok (.ifCond .lt 12, 3) := by decide +kernel
theorem dX3_isLevel_4 : decode cX3_isLevel 4 = .ok (.iload_n 0, 1) := by decide +kernel
theorem dX3_isLevel_5 : decode cX3_isLevel 5 = .ok (.iconst 3, 1) := by decide +kernel
theorem dX3_isLevel_6 : decode cX3_isLevel 6 = .ok (.if_icmp .gt 7, 3) := by decide +kernel
theorem dX3_isLevel_9 : decode cX3_isLevel 9 = .ok (.iconst 1, 1) := by decide +kernel
theorem dX3_isLevel_10 : decode cX3_isLevel 10 = .ok (.goto 4, 3) := by decide +kernel
theorem dX3_isLevel_13 : decode cX3_isLevel 13 = .ok (.iconst 0, 1) := by decide +kernel
theorem dX3_isLevel_14 : decode cX3_isLevel 14 = .ok (.ireturn, 1) := by decide +kernel
theorem dX3_join_0 : decode cX3_join 0 = .ok (.iload_n 0, 1) := by decide +kernel
theorem dX3_join_1 : decode cX3_join 1 = .ok (.iconst 2, 1) := by decide +kernel
theorem dX3_join_2 : decode cX3_join 2 = .ok (.if_icmp .eq 8, 3) := by decide +kernel
theorem dX3_join_5 : decode cX3_join 5 = .ok (.iload_n 0, 1) := by decide +kernel
theorem dX3_join_6 : decode cX3_join 6 = .ok (.iload_n 1, 1) := by decide +kernel
theorem dX3_join_7 : decode cX3_join 7 = .ok (.if_icmp .ne 5, 3) := by decide +kernel
theorem dX3_join_10 : decode cX3_join 10 = .ok (.iload_n 1, 1) := by decide +kernel
theorem dX3_join_11 : decode cX3_join 11 = .ok (.ireturn, 1) := by decide +kernel
theorem dX3_join_12 : decode cX3_join 12 = .ok (.iload_n 1, 1) := by decide +kernel
theorem dX3_join_13 : decode cX3_join 13 = .ok (.iconst 2, 1) := by decide +kernel
theorem dX3_join_14 : decode cX3_join 14 = .ok (.if_icmp .ne 7, 3) := by decide +kernel
theorem dX3_join_17 : decode cX3_join 17 = .ok (.iload_n 0, 1) := by decide +kernel
theorem dX3_join_18 : decode cX3_join 18 = .ok (.goto 4, 3) := by decide +kernel
theorem dX3_join_21 : decode cX3_join 21 = .ok (.iconst 3, 1) := by decide +kernel
theorem dX3_join_22 : decode cX3_join 22 = .ok (.ireturn, 1) := by decide +kernel
theorem dX3_outcome_0 : decode cX3_outcome 0 = .ok (.iload_n 1, 1) := by decide +kernel
theorem dX3_outcome_1 : decode cX3_outcome 1 = .ok (.iconst 2, 1) := by decide +kernel
theorem dX3_outcome_2 : decode cX3_outcome 2 = .ok (.if_icmp .ne 7, 3) := by decide +kernel
theorem dX3_outcome_5 : decode cX3_outcome 5 = .ok (.iconst 3, 1) := by decide +kernel
theorem dX3_outcome_6 : decode cX3_outcome 6 = .ok (.goto 4, 3) := by decide +kernel
theorem dX3_outcome_9 : decode cX3_outcome 9 = .ok (.iload_n 1, 1) := by decide +kernel
theorem dX3_outcome_10 : decode cX3_outcome 10 = .ok (.istore 4, 2) := by decide +kernel
theorem dX3_outcome_12 : decode cX3_outcome 12 = .ok (.iload_n 2, 1) := by decide +kernel
theorem dX3_outcome_13 : decode cX3_outcome 13 = .ok (.iconst 2, 1) := by decide +kernel
theorem dX3_outcome_14 : decode cX3_outcome 14 = .ok (.if_icmp .ne 7, 3) := by decide +kernel
theorem dX3_outcome_17 : decode cX3_outcome 17 = .ok (.iconst 3, 1) := by decide +kernel
theorem dX3_outcome_18 : decode cX3_outcome 18 = .ok (.goto 4, 3) := by decide +kernel
theorem dX3_outcome_21 : decode cX3_outcome 21 = .ok (.iload_n 2, 1) := by decide +kernel
theorem dX3_outcome_22 : decode cX3_outcome 22 = .ok (.istore 5, 2) := by decide +kernel
theorem dX3_outcome_24 : decode cX3_outcome 24 = .ok (.iload 4, 2) := by decide +kernel
theorem dX3_outcome_26 : decode cX3_outcome 26 = .ok (.iconst 3, 1) := by decide +kernel
theorem dX3_outcome_27 : decode cX3_outcome 27 = .ok (.if_icmp .eq 9, 3) := by decide +kernel
theorem dX3_outcome_30 : decode cX3_outcome 30 = .ok (.iload 5, 2) := by decide +kernel
theorem dX3_outcome_32 : decode cX3_outcome 32 = .ok (.iconst 3, 1) := by decide +kernel
theorem dX3_outcome_33 : decode cX3_outcome 33 = .ok (.if_icmp .ne 7, 3) := by decide +kernel
theorem dX3_outcome_36 : decode cX3_outcome 36 = .ok (.iconst 1, 1) := by decide +kernel
theorem dX3_outcome_37 : decode cX3_outcome 37 = .ok (.goto 4, 3) := by decide +kernel
theorem dX3_outcome_40 : decode cX3_outcome 40 = .ok (.iconst 0, 1) := by decide +kernel
theorem dX3_outcome_41 : decode cX3_outcome 41 = .ok (.istore 6, 2) := by decide +kernel
theorem dX3_outcome_43 : decode cX3_outcome 43 = .ok (.iload_n 0, 1) := by decide +kernel
theorem dX3_outcome_44 : decode cX3_outcome 44 = .ok (.tableswitch 140 0 4 #[36, 51, 76, 103, 118], 36) := by decide +kernel
theorem dX3_outcome_80 : decode cX3_outcome 80 = .ok (.iload 4, 2) := by decide +kernel
theorem dX3_outcome_82 : decode cX3_outcome 82 = .ok (.iconst 3, 1) := by decide +kernel
theorem dX3_outcome_83 : decode cX3_outcome 83 = .ok (.if_icmp .ne 7, 3) := by decide +kernel
theorem dX3_outcome_86 : decode cX3_outcome 86 = .ok (.iconst 3, 1) := by decide +kernel
theorem dX3_outcome_87 : decode cX3_outcome 87 = .ok (.goto 7, 3) := by decide +kernel
theorem dX3_outcome_90 : decode cX3_outcome 90 = .ok (.iconst 1, 1) := by decide +kernel
theorem dX3_outcome_91 : decode cX3_outcome 91 = .ok (.iload 4, 2) := by decide +kernel
theorem dX3_outcome_93 : decode cX3_outcome 93 = .ok (.isub, 1) := by decide +kernel
theorem dX3_outcome_94 : decode cX3_outcome 94 = .ok (.ireturn, 1) := by decide +kernel
theorem dX3_outcome_95 : decode cX3_outcome 95 = .ok (.iload 4, 2) := by decide +kernel
theorem dX3_outcome_97 : decode cX3_outcome 97 = .ok (.ifCond .eq 8, 3) := by decide +kernel
theorem dX3_outcome_100 : decode cX3_outcome 100 = .ok (.iload 5, 2) := by decide +kernel
theorem dX3_outcome_102 : decode cX3_outcome 102 = .ok (.ifCond .ne 7, 3) := by decide +kernel
theorem dX3_outcome_105 : decode cX3_outcome 105 = .ok (.iconst 0, 1) := by decide +kernel
theorem dX3_outcome_106 : decode cX3_outcome 106 = .ok (.goto 13, 3) := by decide +kernel
theorem dX3_outcome_109 : decode cX3_outcome 109 = .ok (.iload 6, 2) := by decide +kernel
theorem dX3_outcome_111 : decode cX3_outcome 111 = .ok (.ifCond .eq 7, 3) := by decide +kernel
theorem dX3_outcome_114 : decode cX3_outcome 114 = .ok (.iconst 3, 1) := by decide +kernel
theorem dX3_outcome_115 : decode cX3_outcome 115 = .ok (.goto 4, 3) := by decide +kernel
theorem dX3_outcome_118 : decode cX3_outcome 118 = .ok (.iconst 1, 1) := by decide +kernel
theorem dX3_outcome_119 : decode cX3_outcome 119 = .ok (.ireturn, 1) := by decide +kernel
theorem dX3_outcome_120 : decode cX3_outcome 120 = .ok (.iload 4, 2) := by decide +kernel
theorem dX3_outcome_122 : decode cX3_outcome 122 = .ok (.iconst 1, 1) := by decide +kernel
theorem dX3_outcome_123 : decode cX3_outcome 123 = .ok (.if_icmp .eq 9, 3) := by decide +kernel
theorem dX3_outcome_126 : decode cX3_outcome 126 = .ok (.iload 5, 2) := by decide +kernel
theorem dX3_outcome_128 : decode cX3_outcome 128 = .ok (.iconst 1, 1) := by decide +kernel
theorem dX3_outcome_129 : decode cX3_outcome 129 = .ok (.if_icmp .ne 7, 3) := by decide +kernel
theorem dX3_outcome_132 : decode cX3_outcome 132 = .ok (.iconst 1, 1) := by decide +kernel
theorem dX3_outcome_133 : decode cX3_outcome 133 = .ok (.goto 13, 3) := by decide +kernel
theorem dX3_outcome_136 : decode cX3_outcome 136 = .ok (.iload 6, 2) := by decide +kernel
theorem dX3_outcome_138 : decode cX3_outcome 138 = .ok (.ifCond .eq 7, 3) := by decide +kernel
theorem dX3_outcome_141 : decode cX3_outcome 141 = .ok (.iconst 3, 1) := by decide +kernel
theorem dX3_outcome_142 : decode cX3_outcome 142 = .ok (.goto 4, 3) := by decide +kernel
theorem dX3_outcome_145 : decode cX3_outcome 145 = .ok (.iconst 0, 1) := by decide +kernel
theorem dX3_outcome_146 : decode cX3_outcome 146 = .ok (.ireturn, 1) := by decide +kernel
theorem dX3_outcome_147 : decode cX3_outcome 147 = .ok (.iload 6, 2) := by decide +kernel
theorem dX3_outcome_149 : decode cX3_outcome 149 = .ok (.ifCond .eq 7, 3) := by decide +kernel
theorem dX3_outcome_152 : decode cX3_outcome 152 = .ok (.iconst 3, 1) := by decide +kernel
theorem dX3_outcome_153 : decode cX3_outcome 153 = .ok (.goto 8, 3) := by decide +kernel
theorem dX3_outcome_156 : decode cX3_outcome 156 = .ok (.iload 4, 2) := by decide +kernel
theorem dX3_outcome_158 : decode cX3_outcome 158 = .ok (.iload 5, 2) := by decide +kernel
theorem dX3_outcome_160 : decode cX3_outcome 160 = .ok (.ixor, 1) := by decide +kernel
theorem dX3_outcome_161 : decode cX3_outcome 161 = .ok (.ireturn, 1) := by decide +kernel
theorem dX3_outcome_162 : decode cX3_outcome 162 = .ok (.iload 5, 2) := by decide +kernel
theorem dX3_outcome_164 : decode cX3_outcome 164 = .ok (.ifCond .ne 7, 3) := by decide +kernel
theorem dX3_outcome_167 : decode cX3_outcome 167 = .ok (.iconst 2, 1) := by decide +kernel
theorem dX3_outcome_168 : decode cX3_outcome 168 = .ok (.goto 15, 3) := by decide +kernel
theorem dX3_outcome_171 : decode cX3_outcome 171 = .ok (.iload 5, 2) := by decide +kernel
theorem dX3_outcome_173 : decode cX3_outcome 173 = .ok (.iconst 1, 1) := by decide +kernel
theorem dX3_outcome_174 : decode cX3_outcome 174 = .ok (.if_icmp .ne 8, 3) := by decide +kernel
theorem dX3_outcome_177 : decode cX3_outcome 177 = .ok (.iload 4, 2) := by decide +kernel
theorem dX3_outcome_179 : decode cX3_outcome 179 = .ok (.goto 4, 3) := by decide +kernel
theorem dX3_outcome_182 : decode cX3_outcome 182 = .ok (.iconst 3, 1) := by decide +kernel
theorem dX3_outcome_183 : decode cX3_outcome 183 = .ok (.ireturn, 1) := by decide +kernel
theorem dX3_outcome_184 : decode cX3_outcome 184 = .ok (.iload 5, 2) := by decide +kernel
theorem dX3_outcome_186 : decode cX3_outcome 186 = .ok (.iconst 1, 1) := by decide +kernel
theorem dX3_outcome_187 : decode cX3_outcome 187 = .ok (.if_icmp .ne 8, 3) := by decide +kernel
theorem dX3_outcome_190 : decode cX3_outcome 190 = .ok (.iload 4, 2) := by decide +kernel
theorem dX3_outcome_192 : decode cX3_outcome 192 = .ok (.goto 4, 3) := by decide +kernel
theorem dX3_outcome_195 : decode cX3_outcome 195 = .ok (.iload_n 3, 1) := by decide +kernel
theorem dX3_outcome_196 : decode cX3_outcome 196 = .ok (.ireturn, 1) := by decide +kernel
theorem dX4_init_0 : decode cX4_init 0 = .ok (.aload_n 0, 1) := by decide +kernel
theorem dX4_init_1 : decode cX4_init 1 = .ok (.invokespecial 3, 3) := by decide +kernel
theorem dX4_init_4 : decode cX4_init 4 = .ok (.aload_n 0, 1) := by decide +kernel
theorem dX4_init_5 : decode cX4_init 5 = .ok (.bipush 8, 2) := by decide +kernel
theorem dX4_init_7 : decode cX4_init 7 = .ok (.newarray .int, 2) := by decide +kernel
theorem dX4_init_9 : decode cX4_init 9 = .ok (.putfield 9, 3) := by decide +kernel
theorem dX4_init_12 : decode cX4_init 12 = .ok (.aload_n 0, 1) := by decide +kernel
theorem dX4_init_13 : decode cX4_init 13 = .ok (.bipush 8, 2) := by decide +kernel
theorem dX4_init_15 : decode cX4_init 15 = .ok (.newarray .int, 2) := by decide +kernel
theorem dX4_init_17 : decode cX4_init 17 = .ok (.putfield 15, 3) := by decide +kernel
theorem dX4_init_20 : decode cX4_init 20 = .ok (.aload_n 0, 1) := by decide +kernel
theorem dX4_init_21 : decode cX4_init 21 = .ok (.bipush 8, 2) := by decide +kernel
theorem dX4_init_23 : decode cX4_init 23 = .ok (.newarray .int, 2) := by decide +kernel
theorem dX4_init_25 : decode cX4_init 25 = .ok (.putfield 18, 3) := by decide +kernel
theorem dX4_init_28 : decode cX4_init 28 = .ok (.aload_n 0, 1) := by decide +kernel
theorem dX4_init_29 : decode cX4_init 29 = .ok (.bipush 8, 2) := by decide +kernel
theorem dX4_init_31 : decode cX4_init 31 = .ok (.newarray .int, 2) := by decide +kernel
theorem dX4_init_33 : decode cX4_init 33 = .ok (.putfield 21, 3) := by decide +kernel
theorem dX4_init_36 : decode cX4_init 36 = .ok (.aload_n 0, 1) := by decide +kernel
theorem dX4_init_37 : decode cX4_init 37 = .ok (.bipush 64, 2) := by decide +kernel
theorem dX4_init_39 : decode cX4_init 39 = .ok (.newarray .int, 2) := by decide +kernel
theorem dX4_init_41 : decode cX4_init 41 = .ok (.putfield 24, 3) := by decide +kernel
theorem dX4_init_44 : decode cX4_init 44 = .ok (.aload_n 0, 1) := by decide +kernel
theorem dX4_init_45 : decode cX4_init 45 = .ok (.bipush 64, 2) := by decide +kernel
theorem dX4_init_47 : decode cX4_init 47 = .ok (.newarray .int, 2) := by decide +kernel
theorem dX4_init_49 : decode cX4_init 49 = .ok (.putfield 27, 3) := by decide +kernel
theorem dX4_init_52 : decode cX4_init 52 = .ok (.aload_n 0, 1) := by decide +kernel
theorem dX4_init_53 : decode cX4_init 53 = .ok (.bipush 8, 2) := by decide +kernel
theorem dX4_init_55 : decode cX4_init 55 = .ok (.newarray .int, 2) := by decide +kernel
theorem dX4_init_57 : decode cX4_init 57 = .ok (.putfield 30, 3) := by decide +kernel
theorem dX4_init_60 : decode cX4_init 60 = .ok (.aload_n 0, 1) := by decide +kernel
theorem dX4_init_61 : decode cX4_init 61 = .ok (.bipush 8, 2) := by decide +kernel
theorem dX4_init_63 : decode cX4_init 63 = .ok (.newarray .int, 2) := by decide +kernel
theorem dX4_init_65 : decode cX4_init 65 = .ok (.putfield 33, 3) := by decide +kernel
theorem dX4_init_68 : decode cX4_init 68 = .ok (.aload_n 0, 1) := by decide +kernel
theorem dX4_init_69 : decode cX4_init 69 = .ok (.bipush 64, 2) := by decide +kernel
theorem dX4_init_71 : decode cX4_init 71 = .ok (.newarray .int, 2) := by decide +kernel
theorem dX4_init_73 : decode cX4_init 73 = .ok (.putfield 36, 3) := by decide +kernel
theorem dX4_init_76 : decode cX4_init 76 = .ok (.aload_n 0, 1) := by decide +kernel
theorem dX4_init_77 : decode cX4_init 77 = .ok (.bipush 64, 2) := by decide +kernel
theorem dX4_init_79 : decode cX4_init 79 = .ok (.newarray .int, 2) := by decide +kernel
theorem dX4_init_81 : decode cX4_init 81 = .ok (.putfield 39, 3) := by decide +kernel
theorem dX4_init_84 : decode cX4_init 84 = .ok (.aload_n 0, 1) := by decide +kernel
theorem dX4_init_85 : decode cX4_init 85 = .ok (.bipush 8, 2) := by decide +kernel
theorem dX4_init_87 : decode cX4_init 87 = .ok (.newarray .int, 2) := by decide +kernel
theorem dX4_init_89 : decode cX4_init 89 = .ok (.putfield 42, 3) := by decide +kernel
theorem dX4_init_92 : decode cX4_init 92 = .ok (.aload_n 0, 1) := by decide +kernel
theorem dX4_init_93 : decode cX4_init 93 = .ok (.bipush 8, 2) := by decide +kernel
theorem dX4_init_95 : decode cX4_init 95 = .ok (.newarray .int, 2) := by decide +kernel
theorem dX4_init_97 : decode cX4_init 97 = .ok (.putfield 45, 3) := by decide +kernel
theorem dX4_init_100 : decode cX4_init 100 = .ok (.aload_n 0, 1) := by decide +kernel
theorem dX4_init_101 : decode cX4_init 101 = .ok (.bipush 8, 2) := by decide +kernel
theorem dX4_init_103 : decode cX4_init 103 = .ok (.newarray .int, 2) := by decide +kernel
theorem dX4_init_105 : decode cX4_init 105 = .ok (.putfield 48, 3) := by decide +kernel
theorem dX4_init_108 : decode cX4_init 108 = .ok (.return_, 1) := by decide +kernel
theorem dX4_copyFrom_0 : decode cX4_copyFrom 0 = .ok (.aload_n 0, 1) := by decide +kernel
theorem dX4_copyFrom_1 : decode cX4_copyFrom 1 = .ok (.aload_n 1, 1) := by decide +kernel
theorem dX4_copyFrom_2 : decode cX4_copyFrom 2 = .ok (.getfield 51, 3) := by decide +kernel
theorem dX4_copyFrom_5 : decode cX4_copyFrom 5 = .ok (.putfield 51, 3) := by decide +kernel
theorem dX4_copyFrom_8 : decode cX4_copyFrom 8 = .ok (.aload_n 0, 1) := by decide +kernel
theorem dX4_copyFrom_9 : decode cX4_copyFrom 9 = .ok (.aload_n 1, 1) := by decide +kernel
theorem dX4_copyFrom_10 : decode cX4_copyFrom 10 = .ok (.getfield 55, 3) := by decide +kernel
theorem dX4_copyFrom_13 : decode cX4_copyFrom 13 = .ok (.putfield 55, 3) := by decide +kernel
theorem dX4_copyFrom_16 : decode cX4_copyFrom 16 = .ok (.aload_n 0, 1) := by decide +kernel
theorem dX4_copyFrom_17 : decode cX4_copyFrom 17 = .ok (.aload_n 1, 1) := by decide +kernel
theorem dX4_copyFrom_18 : decode cX4_copyFrom 18 = .ok (.getfield 58, 3) := by decide +kernel
theorem dX4_copyFrom_21 : decode cX4_copyFrom 21 = .ok (.putfield 58, 3) := by decide +kernel
theorem dX4_copyFrom_24 : decode cX4_copyFrom 24 = .ok (.aload_n 0, 1) := by decide +kernel
theorem dX4_copyFrom_25 : decode cX4_copyFrom 25 = .ok (.aload_n 1, 1) := by decide +kernel
theorem dX4_copyFrom_26 : decode cX4_copyFrom 26 = .ok (.getfield 62, 3) := by decide +kernel
theorem dX4_copyFrom_29 : decode cX4_copyFrom 29 = .ok (.putfield 62, 3) := by decide +kernel
theorem dX4_copyFrom_32 : decode cX4_copyFrom 32 = .ok (.aload_n 0, 1) := by decide +kernel
theorem dX4_copyFrom_33 : decode cX4_copyFrom 33 = .ok (.aload_n 1, 1) := by decide +kernel
theorem dX4_copyFrom_34 : decode cX4_copyFrom 34 = .ok (.getfield 65, 3) := by decide +kernel
theorem dX4_copyFrom_37 : decode cX4_copyFrom 37 = .ok (.putfield 65, 3) := by decide +kernel
theorem dX4_copyFrom_40 : decode cX4_copyFrom 40 = .ok (.aload_n 1, 1) := by decide +kernel
theorem dX4_copyFrom_41 : decode cX4_copyFrom 41 = .ok (.getfield 9, 3) := by decide +kernel
theorem dX4_copyFrom_44 : decode cX4_copyFrom 44 = .ok (.aload_n 0, 1) := by decide +kernel
theorem dX4_copyFrom_45 : decode cX4_copyFrom 45 = .ok (.getfield 9, 3) := by decide +kernel
theorem dX4_copyFrom_48 : decode cX4_copyFrom 48 = .ok (.invokestatic 68, 3) := by decide +kernel
theorem dX4_copyFrom_51 : decode cX4_copyFrom 51 = .ok (.aload_n 1, 1) := by decide +kernel
theorem dX4_copyFrom_52 : decode cX4_copyFrom 52 = .ok (.getfield 15, 3) := by decide +kernel
theorem dX4_copyFrom_55 : decode cX4_copyFrom 55 = .ok (.aload_n 0, 1) := by decide +kernel
theorem dX4_copyFrom_56 : decode cX4_copyFrom 56 = .ok (.getfield 15, 3) := by decide +kernel
theorem dX4_copyFrom_59 : decode cX4_copyFrom 59 = .ok (.invokestatic 68, 3) := by decide +kernel
theorem dX4_copyFrom_62 : decode cX4_copyFrom 62 = .ok (.aload_n 1, 1) := by decide +kernel
theorem dX4_copyFrom_63 : decode cX4_copyFrom 63 = .ok (.getfield 18, 3) := by decide +kernel
theorem dX4_copyFrom_66 : decode cX4_copyFrom 66 = .ok (.aload_n 0, 1) := by decide +kernel
theorem dX4_copyFrom_67 : decode cX4_copyFrom 67 = .ok (.getfield 18, 3) := by decide +kernel
theorem dX4_copyFrom_70 : decode cX4_copyFrom 70 = .ok (.invokestatic 68, 3) := by decide +kernel
theorem dX4_copyFrom_73 : decode cX4_copyFrom 73 = .ok (.aload_n 1, 1) := by decide +kernel
theorem dX4_copyFrom_74 : decode cX4_copyFrom 74 = .ok (.getfield 21, 3) := by decide +kernel
theorem dX4_copyFrom_77 : decode cX4_copyFrom 77 = .ok (.aload_n 0, 1) := by decide +kernel
theorem dX4_copyFrom_78 : decode cX4_copyFrom 78 = .ok (.getfield 21, 3) := by decide +kernel
theorem dX4_copyFrom_81 : decode cX4_copyFrom 81 = .ok (.invokestatic 68, 3) := by decide +kernel
theorem dX4_copyFrom_84 : decode cX4_copyFrom 84 = .ok (.aload_n 1, 1) := by decide +kernel
theorem dX4_copyFrom_85 : decode cX4_copyFrom 85 = .ok (.getfield 24, 3) := by decide +kernel
theorem dX4_copyFrom_88 : decode cX4_copyFrom 88 = .ok (.aload_n 0, 1) := by decide +kernel
theorem dX4_copyFrom_89 : decode cX4_copyFrom 89 = .ok (.getfield 24, 3) := by decide +kernel
theorem dX4_copyFrom_92 : decode cX4_copyFrom 92 = .ok (.invokestatic 68, 3) := by decide +kernel
theorem dX4_copyFrom_95 : decode cX4_copyFrom 95 = .ok (.aload_n 1, 1) := by decide +kernel
theorem dX4_copyFrom_96 : decode cX4_copyFrom 96 = .ok (.getfield 27, 3) := by decide +kernel
theorem dX4_copyFrom_99 : decode cX4_copyFrom 99 = .ok (.aload_n 0, 1) := by decide +kernel
theorem dX4_copyFrom_100 : decode cX4_copyFrom 100 = .ok (.getfield 27, 3) := by decide +kernel
theorem dX4_copyFrom_103 : decode cX4_copyFrom 103 = .ok (.invokestatic 68, 3) := by decide +kernel
theorem dX4_copyFrom_106 : decode cX4_copyFrom 106 = .ok (.aload_n 1, 1) := by decide +kernel
theorem dX4_copyFrom_107 : decode cX4_copyFrom 107 = .ok (.getfield 30, 3) := by decide +kernel
theorem dX4_copyFrom_110 : decode cX4_copyFrom 110 = .ok (.aload_n 0, 1) := by decide +kernel
theorem dX4_copyFrom_111 : decode cX4_copyFrom 111 = .ok (.getfield 30, 3) := by decide +kernel
theorem dX4_copyFrom_114 : decode cX4_copyFrom 114 = .ok (.invokestatic 68, 3) := by decide +kernel
theorem dX4_copyFrom_117 : decode cX4_copyFrom 117 = .ok (.aload_n 1, 1) := by decide +kernel
theorem dX4_copyFrom_118 : decode cX4_copyFrom 118 = .ok (.getfield 33, 3) := by decide +kernel
theorem dX4_copyFrom_121 : decode cX4_copyFrom 121 = .ok (.aload_n 0, 1) := by decide +kernel
theorem dX4_copyFrom_122 : decode cX4_copyFrom 122 = .ok (.getfield 33, 3) := by decide +kernel
theorem dX4_copyFrom_125 : decode cX4_copyFrom 125 = .ok (.invokestatic 68, 3) := by decide +kernel
theorem dX4_copyFrom_128 : decode cX4_copyFrom 128 = .ok (.aload_n 1, 1) := by decide +kernel
theorem dX4_copyFrom_129 : decode cX4_copyFrom 129 = .ok (.getfield 36, 3) := by decide +kernel
theorem dX4_copyFrom_132 : decode cX4_copyFrom 132 = .ok (.aload_n 0, 1) := by decide +kernel
theorem dX4_copyFrom_133 : decode cX4_copyFrom 133 = .ok (.getfield 36, 3) := by decide +kernel
theorem dX4_copyFrom_136 : decode cX4_copyFrom 136 = .ok (.invokestatic 68, 3) := by decide +kernel
theorem dX4_copyFrom_139 : decode cX4_copyFrom 139 = .ok (.aload_n 1, 1) := by decide +kernel
theorem dX4_copyFrom_140 : decode cX4_copyFrom 140 = .ok (.getfield 39, 3) := by decide +kernel
theorem dX4_copyFrom_143 : decode cX4_copyFrom 143 = .ok (.aload_n 0, 1) := by decide +kernel
theorem dX4_copyFrom_144 : decode cX4_copyFrom 144 = .ok (.getfield 39, 3) := by decide +kernel
theorem dX4_copyFrom_147 : decode cX4_copyFrom 147 = .ok (.invokestatic 68, 3) := by decide +kernel
theorem dX4_copyFrom_150 : decode cX4_copyFrom 150 = .ok (.aload_n 1, 1) := by decide +kernel
theorem dX4_copyFrom_151 : decode cX4_copyFrom 151 = .ok (.getfield 42, 3) := by decide +kernel
theorem dX4_copyFrom_154 : decode cX4_copyFrom 154 = .ok (.aload_n 0, 1) := by decide +kernel
theorem dX4_copyFrom_155 : decode cX4_copyFrom 155 = .ok (.getfield 42, 3) := by decide +kernel
theorem dX4_copyFrom_158 : decode cX4_copyFrom 158 = .ok (.invokestatic 68, 3) := by decide +kernel
theorem dX4_copyFrom_161 : decode cX4_copyFrom 161 = .ok (.aload_n 1, 1) := by decide +kernel
theorem dX4_copyFrom_162 : decode cX4_copyFrom 162 = .ok (.getfield 45, 3) := by decide +kernel
theorem dX4_copyFrom_165 : decode cX4_copyFrom 165 = .ok (.aload_n 0, 1) := by decide +kernel
theorem dX4_copyFrom_166 : decode cX4_copyFrom 166 = .ok (.getfield 45, 3) := by decide +kernel
theorem dX4_copyFrom_169 : decode cX4_copyFrom 169 = .ok (.invokestatic 68, 3) := by decide +kernel
theorem dX4_copyFrom_172 : decode cX4_copyFrom 172 = .ok (.aload_n 1, 1) := by decide +kernel
theorem dX4_copyFrom_173 : decode cX4_copyFrom 173 = .ok (.getfield 48, 3) := by decide +kernel
theorem dX4_copyFrom_176 : decode cX4_copyFrom 176 = .ok (.aload_n 0, 1) := by decide +kernel
theorem dX4_copyFrom_177 : decode cX4_copyFrom 177 = .ok (.getfield 48, 3) := by decide +kernel
theorem dX4_copyFrom_180 : decode cX4_copyFrom 180 = .ok (.invokestatic 68, 3) := by decide +kernel
theorem dX4_copyFrom_183 : decode cX4_copyFrom 183 = .ok (.return_, 1) := by decide +kernel
theorem dX4_copyRow_0 : decode cX4_copyRow 0 = .ok (.aload_n 0, 1) := by decide +kernel
theorem dX4_copyRow_1 : decode cX4_copyRow 1 = .ok (.iconst 0, 1) := by decide +kernel
theorem dX4_copyRow_2 : decode cX4_copyRow 2 = .ok (.aload_n 1, 1) := by decide +kernel
theorem dX4_copyRow_3 : decode cX4_copyRow 3 = .ok (.iconst 0, 1) := by decide +kernel
theorem dX4_copyRow_4 : decode cX4_copyRow 4 = .ok (.aload_n 0, 1) := by decide +kernel
theorem dX4_copyRow_5 : decode cX4_copyRow 5 = .ok (.arraylength, 1) := by decide +kernel
theorem dX4_copyRow_6 : decode cX4_copyRow 6 = .ok (.aload_n 1, 1) := by decide +kernel
theorem dX4_copyRow_7 : decode cX4_copyRow 7 = .ok (.arraylength, 1) := by decide +kernel
theorem dX4_copyRow_8 : decode cX4_copyRow 8 = .ok (.invokestatic 72, 3) := by decide +kernel
theorem dX4_copyRow_11 : decode cX4_copyRow 11 = .ok (.invokestatic 78, 3) := by decide +kernel
theorem dX4_copyRow_14 : decode cX4_copyRow 14 = .ok (.return_, 1) := by decide +kernel
theorem dX4_begin_0 : decode cX4_begin 0 = .ok (.aload_n 0, 1) := by decide +kernel
theorem dX4_begin_1 : decode cX4_begin 1 = .ok (.iconst 0, 1) := by decide +kernel
theorem dX4_begin_2 : decode cX4_begin 2 = .ok (.putfield 51, 3) := by decide +kernel
theorem dX4_begin_5 : decode cX4_begin 5 = .ok (.aload_n 0, 1) := by decide +kernel
theorem dX4_begin_6 : decode cX4_begin 6 = .ok (.iconst 0, 1) := by decide +kernel
theorem dX4_begin_7 : decode cX4_begin 7 = .ok (.putfield 55, 3) := by decide +kernel
theorem dX4_begin_10 : decode cX4_begin 10 = .ok (.aload_n 0, 1) := by decide +kernel
theorem dX4_begin_11 : decode cX4_begin 11 = .ok (.iconst 0, 1) := by decide +kernel
theorem dX4_begin_12 : decode cX4_begin 12 = .ok (.putfield 58, 3) := by decide +kernel
theorem dX4_begin_15 : decode cX4_begin 15 = .ok (.aload_n 0, 1) := by decide +kernel
theorem dX4_begin_16 : decode cX4_begin 16 = .ok (.iconst 0, 1) := by decide +kernel
theorem dX4_begin_17 : decode cX4_begin 17 = .ok (.putfield 62, 3) := by decide +kernel
theorem dX4_begin_20 : decode cX4_begin 20 = .ok (.aload_n 0, 1) := by decide +kernel
theorem dX4_begin_21 : decode cX4_begin 21 = .ok (.invokevirtual 84, 3) := by decide +kernel
theorem dX4_begin_24 : decode cX4_begin 24 = .ok (.iconst 0, 1) := by decide +kernel
theorem dX4_begin_25 : decode cX4_begin 25 = .ok (.istore_n 2, 1) := by decide +kernel
theorem dX4_begin_26 : decode cX4_begin 26 = .ok (.iload_n 2, 1) := by decide +kernel
theorem dX4_begin_27 : decode cX4_begin 27 = .ok (.bipush 8, 2) := by decide +kernel
theorem dX4_begin_29 : decode cX4_begin 29 = .ok (.if_icmp .ge 42, 3) := by decide +kernel
theorem dX4_begin_32 : decode cX4_begin 32 = .ok (.aload_n 0, 1) := by decide +kernel
theorem dX4_begin_33 : decode cX4_begin 33 = .ok (.getfield 9, 3) := by decide +kernel
theorem dX4_begin_36 : decode cX4_begin 36 = .ok (.iload_n 2, 1) := by decide +kernel
theorem dX4_begin_37 : decode cX4_begin 37 = .ok (.aload_n 1, 1) := by decide +kernel
theorem dX4_begin_38 : decode cX4_begin 38 = .ok (.getfield 87, 3) := by decide +kernel
theorem dX4_begin_41 : decode cX4_begin 41 = .ok (.iload_n 2, 1) := by decide +kernel
theorem dX4_begin_42 : decode cX4_begin 42 = .ok (.iaload, 1) := by decide +kernel
theorem dX4_begin_43 : decode cX4_begin 43 = .ok (.iastore, 1) := by decide +kernel
theorem dX4_begin_44 : decode cX4_begin 44 = .ok (.aload_n 0, 1) := by decide +kernel
theorem dX4_begin_45 : decode cX4_begin 45 = .ok (.getfield 15, 3) := by decide +kernel
theorem dX4_begin_48 : decode cX4_begin 48 = .ok (.iload_n 2, 1) := by decide +kernel
theorem dX4_begin_49 : decode cX4_begin 49 = .ok (.iconst 0, 1) := by decide +kernel
theorem dX4_begin_50 : decode cX4_begin 50 = .ok (.iastore, 1) := by decide +kernel
theorem dX4_begin_51 : decode cX4_begin 51 = .ok (.aload_n 0, 1) := by decide +kernel
theorem dX4_begin_52 : decode cX4_begin 52 = .ok (.getfield 18, 3) := by decide +kernel
theorem dX4_begin_55 : decode cX4_begin 55 = .ok (.iload_n 2, 1) := by decide +kernel
theorem dX4_begin_56 : decode cX4_begin 56 = .ok (.iconst (-1), 1) := by decide +kernel
theorem dX4_begin_57 : decode cX4_begin 57 = .ok (.iastore, 1) := by decide +kernel
theorem dX4_begin_58 : decode cX4_begin 58 = .ok (.aload_n 0, 1) := by decide +kernel
theorem dX4_begin_59 : decode cX4_begin 59 = .ok (.getfield 21, 3) := by decide +kernel
theorem dX4_begin_62 : decode cX4_begin 62 = .ok (.iload_n 2, 1) := by decide +kernel
theorem dX4_begin_63 : decode cX4_begin 63 = .ok (.iconst 0, 1) := by decide +kernel
theorem dX4_begin_64 : decode cX4_begin 64 = .ok (.iastore, 1) := by decide +kernel
theorem dX4_begin_65 : decode cX4_begin 65 = .ok (.iinc 2 1, 3) := by decide +kernel
theorem dX4_begin_68 : decode cX4_begin 68 = .ok (.goto (-42), 3) := by decide +kernel
theorem dX4_begin_71 : decode cX4_begin 71 = .ok (.iconst 0, 1) := by decide +kernel
theorem dX4_begin_72 : decode cX4_begin 72 = .ok (.istore_n 2, 1) := by decide +kernel
theorem dX4_begin_73 : decode cX4_begin 73 = .ok (.iload_n 2, 1) := by decide +kernel
theorem dX4_begin_74 : decode cX4_begin 74 = .ok (.aload_n 1, 1) := by decide +kernel
theorem dX4_begin_75 : decode cX4_begin 75 = .ok (.getfield 92, 3) := by decide +kernel
theorem dX4_begin_78 : decode cX4_begin 78 = .ok (.if_icmp .ge 26, 3) := by decide +kernel
theorem dX4_begin_81 : decode cX4_begin 81 = .ok (.aload_n 0, 1) := by decide +kernel
theorem dX4_begin_82 : decode cX4_begin 82 = .ok (.getfield 30, 3) := by decide +kernel
theorem dX4_begin_85 : decode cX4_begin 85 = .ok (.iload_n 2, 1) := by decide +kernel
theorem dX4_begin_86 : decode cX4_begin 86 = .ok (.aload_n 1, 1) := by decide +kernel
theorem dX4_begin_87 : decode cX4_begin 87 = .ok (.getfield 87, 3) := by decide +kernel
theorem dX4_begin_90 : decode cX4_begin 90 = .ok (.aload_n 1, 1) := by decide +kernel
theorem dX4_begin_91 : decode cX4_begin 91 = .ok (.getfield 95, 3) := by decide +kernel
theorem dX4_begin_94 : decode cX4_begin 94 = .ok (.iload_n 2, 1) := by decide +kernel
theorem dX4_begin_95 : decode cX4_begin 95 = .ok (.iaload, 1) := by decide +kernel
theorem dX4_begin_96 : decode cX4_begin 96 = .ok (.iaload, 1) := by decide +kernel
theorem dX4_begin_97 : decode cX4_begin 97 = .ok (.iastore, 1) := by decide +kernel
theorem dX4_begin_98 : decode cX4_begin 98 = .ok (.iinc 2 1, 3) := by decide +kernel
theorem dX4_begin_101 : decode cX4_begin 101 = .ok (.goto (-28), 3) := by decide +kernel
theorem dX4_begin_104 : decode cX4_begin 104 = .ok (.aload_n 0, 1) := by decide +kernel
theorem dX4_begin_105 : decode cX4_begin 105 = .ok (.aload_n 1, 1) := by decide +kernel
theorem dX4_begin_106 : decode cX4_begin 106 = .ok (.invokevirtual 98, 3) := by decide +kernel
theorem dX4_begin_109 : decode cX4_begin 109 = .ok (.return_, 1) := by decide +kernel
theorem dX4_isStill_0 : decode cX4_isStill 0 = .ok (.aload_n 0, 1) := by decide +kernel
theorem dX4_isStill_1 : decode cX4_isStill 1 = .ok (.invokevirtual 102, 3) := by decide +kernel
theorem dX4_isStill_4 : decode cX4_isStill 4 = .ok (.ldc 106, 2) := by decide +kernel
theorem dX4_isStill_6 : decode cX4_isStill 6 = .ok (.if_icmp .ne 7, 3) := by decide +kernel
theorem dX4_isStill_9 : decode cX4_isStill 9 = .ok (.iconst 1, 1) := by decide +kernel
theorem dX4_isStill_10 : decode cX4_isStill 10 = .ok (.goto 4, 3) := by decide +kernel
theorem dX4_isStill_13 : decode cX4_isStill 13 = .ok (.iconst 0, 1) := by decide +kernel
theorem dX4_isStill_14 : decode cX4_isStill 14 = .ok (.ireturn, 1) := by decide +kernel
theorem dX4_earliest_0 : decode cX4_earliest 0 = .ok (.aload_n 0, 1) := by decide +kernel
theorem dX4_earliest_1 : decode cX4_earliest 1 = .ok (.getfield 65, 3) := by decide +kernel
theorem dX4_earliest_4 : decode cX4_earliest 4 = .ok (.ifCond .le 12, 3) := by decide +kernel
theorem dX4_earliest_7 : decode cX4_earliest 7 = .ok (.aload_n 0, 1) := by decide +kernel
theorem dX4_earliest_8 : decode cX4_earliest 8 = .ok (.getfield 42, 3) := by decide +kernel
theorem dX4_earliest_11 : decode cX4_earliest 11 = .ok (.iconst 0, 1) := by decide +kernel
theorem dX4_earliest_12 : decode cX4_earliest 12 = .ok (.iaload, 1) := by decide +kernel
theorem dX4_earliest_13 : decode cX4_earliest 13 = .ok (.goto 5, 3) := by decide +kernel
theorem dX4_earliest_16 : decode cX4_earliest 16 = .ok (.ldc 106, 2) := by decide +kernel
theorem dX4_earliest_18 : decode cX4_earliest 18 = .ok (.istore_n 1, 1) := by decide +kernel
theorem dX4_earliest_19 : decode cX4_earliest 19 = .ok (.iconst 0, 1) := by decide +kernel
theorem dX4_earliest_20 : decode cX4_earliest 20 = .ok (.istore_n 2, 1) := by decide +kernel
theorem dX4_earliest_21 : decode cX4_earliest 21 = .ok (.iload_n 2, 1) := by decide +kernel
theorem dX4_earliest_22 : decode cX4_earliest 22 = .ok (.bipush 8, 2) := by decide +kernel
theorem dX4_earliest_24 : decode cX4_earliest 24 = .ok (.if_icmp .ge 32, 3) := by decide +kernel
theorem dX4_earliest_27 : decode cX4_earliest 27 = .ok (.aload_n 0, 1) := by decide +kernel
theorem dX4_earliest_28 : decode cX4_earliest 28 = .ok (.getfield 33, 3) := by decide +kernel
theorem dX4_earliest_31 : decode cX4_earliest 31 = .ok (.iload_n 2, 1) := by decide +kernel
theorem dX4_earliest_32 : decode cX4_earliest 32 = .ok (.iaload, 1) := by decide +kernel
theorem dX4_earliest_33 : decode cX4_earliest 33 = .ok (.ifCond .le 17, 3) := by decide +kernel
theorem dX4_earliest_36 : decode cX4_earliest 36 = .ok (.iload_n 1, 1) := by decide +kernel
theorem dX4_earliest_37 : decode cX4_earliest 37 = .ok (.aload_n 0, 1) := by decide +kernel
theorem dX4_earliest_38 : decode cX4_earliest 38 = .ok (.getfield 36, 3) := by decide +kernel
theorem dX4_earliest_41 : decode cX4_earliest 41 = .ok (.iload_n 2, 1) := by decide +kernel
theorem dX4_earliest_42 : decode cX4_earliest 42 = .ok (.bipush 8, 2) := by decide +kernel
theorem dX4_earliest_44 : decode cX4_earliest 44 = .ok (.imul, 1) := by decide +kernel
theorem dX4_earliest_45 : decode cX4_earliest 45 = .ok (.iaload, 1) := by decide +kernel
theorem dX4_earliest_46 : decode cX4_earliest 46 = .ok (.invokestatic 72, 3) := by decide +kernel
theorem dX4_earliest_49 : decode cX4_earliest 49 = .ok (.istore_n 1, 1) := by decide +kernel
theorem dX4_earliest_50 : decode cX4_earliest 50 = .ok (.iinc 2 1, 3) := by decide +kernel
theorem dX4_earliest_53 : decode cX4_earliest 53 = .ok (.goto (-32), 3) := by decide +kernel
theorem dX4_earliest_56 : decode cX4_earliest 56 = .ok (.iload_n 1, 1) := by decide +kernel
theorem dX4_earliest_57 : decode cX4_earliest 57 = .ok (.ireturn, 1) := by decide +kernel
theorem dX4_outcomeOf_0 : decode cX4_outcomeOf 0 = .ok (.aload_n 1, 1) := by decide +kernel
theorem dX4_outcomeOf_1 : decode cX4_outcomeOf 1 = .ok (.getfield 107, 3) := by decide +kernel
theorem dX4_outcomeOf_4 : decode cX4_outcomeOf 4 = .ok (.iload_n 2, 1) := by decide +kernel
theorem dX4_outcomeOf_5 : decode cX4_outcomeOf 5 = .ok (.iaload, 1) := by decide +kernel
theorem dX4_outcomeOf_6 : decode cX4_outcomeOf 6 = .ok (.aload_n 0, 1) := by decide +kernel
theorem dX4_outcomeOf_7 : decode cX4_outcomeOf 7 = .ok (.getfield 9, 3) := by decide +kernel
theorem dX4_outcomeOf_10 : decode cX4_outcomeOf 10 = .ok (.aload_n 1, 1) := by decide +kernel
theorem dX4_outcomeOf_11 : decode cX4_outcomeOf 11 = .ok (.getfield 110, 3) := by decide +kernel
theorem dX4_outcomeOf_14 : decode cX4_outcomeOf 14 = .ok (.iload_n 2, 1) := by decide +kernel
theorem dX4_outcomeOf_15 : decode cX4_outcomeOf 15 = .ok (.iaload, 1) := by decide +kernel
theorem dX4_outcomeOf_16 : decode cX4_outcomeOf 16 = .ok (.iaload, 1) := by decide +kernel
theorem dX4_outcomeOf_17 : decode cX4_outcomeOf 17 = .ok (.aload_n 0, 1) := by decide +kernel
theorem dX4_outcomeOf_18 : decode cX4_outcomeOf 18 = .ok (.getfield 9, 3) := by decide +kernel
theorem dX4_outcomeOf_21 : decode cX4_outcomeOf 21 = .ok (.aload_n 1, 1) := by decide +kernel
theorem dX4_outcomeOf_22 : decode cX4_outcomeOf 22 = .ok (.getfield 113, 3) := by decide +kernel
theorem dX4_outcomeOf_25 : decode cX4_outcomeOf 25 = .ok (.iload_n 2, 1) := by decide +kernel
theorem dX4_outcomeOf_26 : decode cX4_outcomeOf 26 = .ok (.iaload, 1) := by decide +kernel
theorem dX4_outcomeOf_27 : decode cX4_outcomeOf 27 = .ok (.iaload, 1) := by decide +kernel
theorem dX4_outcomeOf_28 : decode cX4_outcomeOf 28 = .ok (.aload_n 0, 1) := by decide +kernel
theorem dX4_outcomeOf_29 : decode cX4_outcomeOf 29 = .ok (.getfield 30, 3) := by decide +kernel
theorem dX4_outcomeOf_32 : decode cX4_outcomeOf 32 = .ok (.iload_n 2, 1) := by decide +kernel
theorem dX4_outcomeOf_33 : decode cX4_outcomeOf 33 = .ok (.iaload, 1) := by decide +kernel
theorem dX4_outcomeOf_34 : decode cX4_outcomeOf 34 = .ok (.invokestatic 116, 3) := by decide +kernel
theorem dX4_outcomeOf_37 : decode cX4_outcomeOf 37 = .ok (.ireturn, 1) := by decide +kernel
theorem dX4_drivenLevel_0 : decode cX4_drivenLevel 0 = .ok (.iconst 2, 1) := by decide +kernel
theorem dX4_drivenLevel_1 : decode cX4_drivenLevel 1 = .ok (.istore 4, 2) := by decide +kernel
theorem dX4_drivenLevel_3 : decode cX4_drivenLevel 3 = .ok (.iconst 0, 1) := by decide +kernel
theorem dX4_drivenLevel_4 : decode cX4_drivenLevel 4 = .ok (.istore 5, 2) := by decide +kernel
theorem dX4_drivenLevel_6 : decode cX4_drivenLevel 6 = .ok (.iload 5, 2) := by decide +kernel
theorem dX4_drivenLevel_8 : decode cX4_drivenLevel 8 = .ok (.aload_n 1, 1) := by decide +kernel
theorem dX4_drivenLevel_9 : decode cX4_drivenLevel 9 = .ok (.getfield 92, 3) := by decide +kernel
theorem dX4_drivenLevel_12 : decode cX4_drivenLevel 12 = .ok (.if_icmp .ge 40, 3) := by decide +kernel
theorem dX4_drivenLevel_15 : decode cX4_drivenLevel 15 = .ok (.aload_n 1, 1) := by decide +kernel
theorem dX4_drivenLevel_16 : decode cX4_drivenLevel 16 = .ok (.getfield 95, 3) := by decide +kernel
theorem dX4_drivenLevel_19 : decode cX4_drivenLevel 19 = .ok (.iload 5, 2) := by decide +kernel
theorem dX4_drivenLevel_21 : decode cX4_drivenLevel 21 = .ok (.iaload, 1) := by decide +kernel
theorem dX4_drivenLevel_22 : decode cX4_drivenLevel 22 = .ok (.iload_n 2, 1) := by decide +kernel
theorem dX4_drivenLevel_23 : decode cX4_drivenLevel 23 = .ok (.if_icmp .ne 23, 3) := by decide +kernel
theorem dX4_drivenLevel_26 : decode cX4_drivenLevel 26 = .ok (.iload 5, 2) := by decide +kernel
theorem dX4_drivenLevel_28 : decode cX4_drivenLevel 28 = .ok (.iload_n 3, 1) := by decide +kernel
theorem dX4_drivenLevel_29 : decode cX4_drivenLevel 29 = .ok (.if_icmp .eq 17, 3) := by decide +kernel
theorem dX4_drivenLevel_32 : decode cX4_drivenLevel 32 = .ok (.iload 4, 2) := by decide +kernel
theorem dX4_drivenLevel_34 : decode cX4_drivenLevel 34 = .ok (.aload_n 0, 1) := by decide +kernel
theorem dX4_drivenLevel_35 : decode cX4_drivenLevel 35 = .ok (.getfield 30, 3) := by decide +kernel
theorem dX4_drivenLevel_38 : decode cX4_drivenLevel 38 = .ok (.iload 5, 2) := by decide +kernel
theorem dX4_drivenLevel_40 : decode cX4_drivenLevel 40 = .ok (.iaload, 1) := by decide +kernel
theorem dX4_drivenLevel_41 : decode cX4_drivenLevel 41 = .ok (.invokestatic 122, 3) := by decide +kernel
theorem dX4_drivenLevel_44 : decode cX4_drivenLevel 44 = .ok (.istore 4, 2) := by decide +kernel
theorem dX4_drivenLevel_46 : decode cX4_drivenLevel 46 = .ok (.iinc 5 1, 3) := by decide +kernel
theorem dX4_drivenLevel_49 : decode cX4_drivenLevel 49 = .ok (.goto (-43), 3) := by decide +kernel
theorem dX4_drivenLevel_52 : decode cX4_drivenLevel 52 = .ok (.iload 4, 2) := by decide +kernel
theorem dX4_drivenLevel_54 : decode cX4_drivenLevel 54 = .ok (.ireturn, 1) := by decide +kernel
theorem dX4_holdingGates_0 : decode cX4_holdingGates 0 = .ok (.iconst 0, 1) := by decide +kernel
theorem dX4_holdingGates_1 : decode cX4_holdingGates 1 = .ok (.istore_n 2, 1) := by decide +kernel
theorem dX4_holdingGates_2 : decode cX4_holdingGates 2 = .ok (.iconst 0, 1) := by decide +kernel
theorem dX4_holdingGates_3 : decode cX4_holdingGates 3 = .ok (.istore_n 3, 1) := by decide +kernel
theorem dX4_holdingGates_4 : decode cX4_holdingGates 4 = .ok (.iload_n 3, 1) := by decide +kernel
theorem dX4_holdingGates_5 : decode cX4_holdingGates 5 = .ok (.aload_n 1, 1) := by decide +kernel
theorem dX4_holdingGates_6 : decode cX4_holdingGates 6 = .ok (.getfield 92, 3) := by decide +kernel
theorem dX4_holdingGates_9 : decode cX4_holdingGates 9 = .ok (.if_icmp .ge 30, 3) := by decide +kernel
theorem dX4_holdingGates_12 : decode cX4_holdingGates 12 = .ok (.aload_n 0, 1) := by decide +kernel
theorem dX4_holdingGates_13 : decode cX4_holdingGates 13 = .ok (.getfield 30, 3) := by decide +kernel
theorem dX4_holdingGates_16 : decode cX4_holdingGates 16 = .ok (.iload_n 3, 1) := by decide +kernel
theorem dX4_holdingGates_17 : decode cX4_holdingGates 17 = .ok (.iaload, 1) := by decide +kernel
theorem dX4_holdingGates_18 : decode cX4_holdingGates 18 = .ok (.aload_n 0, 1) := by decide +kernel
theorem dX4_holdingGates_19 : decode cX4_holdingGates 19 = .ok (.aload_n 1, 1) := by decide +kernel
theorem dX4_holdingGates_20 : decode cX4_holdingGates 20 = .ok (.iload_n 3, 1) := by decide +kernel
theorem dX4_holdingGates_21 : decode cX4_holdingGates 21 = .ok (.invokevirtual 125, 3) := by decide +kernel
theorem dX4_holdingGates_24 : decode cX4_holdingGates 24 = .ok (.if_icmp .ne 9, 3) := by decide +kernel
theorem dX4_holdingGates_27 : decode cX4_holdingGates 27 = .ok (.iload_n 2, 1) := by decide +kernel
theorem dX4_holdingGates_28 : decode cX4_holdingGates 28 = .ok (.iconst 1, 1) := by decide +kernel
theorem dX4_holdingGates_29 : decode cX4_holdingGates 29 = .ok (.iload_n 3, 1) := by decide +kernel
theorem dX4_holdingGates_30 : decode cX4_holdingGates 30 = .ok (.ishl, 1) := by decide +kernel
theorem dX4_holdingGates_31 : decode cX4_holdingGates 31 = .ok (.ior, 1) := by decide +kernel
theorem dX4_holdingGates_32 : decode cX4_holdingGates 32 = .ok (.istore_n 2, 1) := by decide +kernel
theorem dX4_holdingGates_33 : decode cX4_holdingGates 33 = .ok (.iinc 3 1, 3) := by decide +kernel
theorem dX4_holdingGates_36 : decode cX4_holdingGates 36 = .ok (.goto (-32), 3) := by decide +kernel
theorem dX4_holdingGates_39 : decode cX4_holdingGates 39 = .ok (.iload_n 2, 1) := by decide +kernel
theorem dX4_holdingGates_40 : decode cX4_holdingGates 40 = .ok (.ireturn, 1) := by decide +kernel
theorem dX4_changeTime_0 : decode cX4_changeTime 0 = .ok (.aload_n 0, 1) := by decide +kernel
theorem dX4_changeTime_1 : decode cX4_changeTime 1 = .ok (.iload_n 1, 1) := by decide +kernel
theorem dX4_changeTime_2 : decode cX4_changeTime 2 = .ok (.iload_n 2, 1) := by decide +kernel
theorem dX4_changeTime_3 : decode cX4_changeTime 3 = .ok (.invokevirtual 129, 3) := by decide +kernel
theorem dX4_changeTime_6 : decode cX4_changeTime 6 = .ok (.ifCond .eq 17, 3) := by decide +kernel
theorem dX4_changeTime_9 : decode cX4_changeTime 9 = .ok (.aload_n 0, 1) := by decide +kernel
theorem dX4_changeTime_10 : decode cX4_changeTime 10 = .ok (.getfield 24, 3) := by decide +kernel
theorem dX4_changeTime_13 : decode cX4_changeTime 13 = .ok (.aload_n 0, 1) := by decide +kernel
theorem dX4_changeTime_14 : decode cX4_changeTime 14 = .ok (.iload_n 1, 1) := by decide +kernel
theorem dX4_changeTime_15 : decode cX4_changeTime 15 = .ok (.iload_n 2, 1) := by decide +kernel
theorem dX4_changeTime_16 : decode cX4_changeTime 16 = .ok (.invokevirtual 133, 3) := by decide +kernel
theorem dX4_changeTime_19 : decode cX4_changeTime 19 = .ok (.iaload, 1) := by decide +kernel
theorem dX4_changeTime_20 : decode cX4_changeTime 20 = .ok (.goto 4, 3) := by decide +kernel
theorem dX4_changeTime_23 : decode cX4_changeTime 23 = .ok (.iconst (-1), 1) := by decide +kernel
theorem dX4_changeTime_24 : decode cX4_changeTime 24 = .ok (.ireturn, 1) := by decide +kernel
theorem dX4_changeLevel_0 : decode cX4_changeLevel 0 = .ok (.aload_n 0, 1) := by decide +kernel
theorem dX4_changeLevel_1 : decode cX4_changeLevel 1 = .ok (.iload_n 1, 1) := by decide +kernel
theorem dX4_changeLevel_2 : decode cX4_changeLevel 2 = .ok (.iload_n 2, 1) := by decide +kernel
theorem dX4_changeLevel_3 : decode cX4_changeLevel 3 = .ok (.invokevirtual 129, 3) := by decide +kernel
theorem dX4_changeLevel_6 : decode cX4_changeLevel 6 = .ok (.ifCond .eq 17, 3) := by decide +kernel
theorem dX4_changeLevel_9 : decode cX4_changeLevel 9 = .ok (.aload_n 0, 1) := by decide +kernel
theorem dX4_changeLevel_10 : decode cX4_changeLevel 10 = .ok (.getfield 27, 3) := by decide +kernel
theorem dX4_changeLevel_13 : decode cX4_changeLevel 13 = .ok (.aload_n 0, 1) := by decide +kernel
theorem dX4_changeLevel_14 : decode cX4_changeLevel 14 = .ok (.iload_n 1, 1) := by decide +kernel
theorem dX4_changeLevel_15 : decode cX4_changeLevel 15 = .ok (.iload_n 2, 1) := by decide +kernel
theorem dX4_changeLevel_16 : decode cX4_changeLevel 16 = .ok (.invokevirtual 133, 3) := by decide +kernel
theorem dX4_changeLevel_19 : decode cX4_changeLevel 19 = .ok (.iaload, 1) := by decide +kernel
theorem dX4_changeLevel_20 : decode cX4_changeLevel 20 = .ok (.goto 4, 3) := by decide +kernel
theorem dX4_changeLevel_23 : decode cX4_changeLevel 23 = .ok (.iconst (-1), 1) := by decide +kernel
theorem dX4_changeLevel_24 : decode cX4_changeLevel 24 = .ok (.ireturn, 1) := by decide +kernel
theorem dX4_hasChange_0 : decode cX4_hasChange 0 = .ok (.iload_n 2, 1) := by decide +kernel
theorem dX4_hasChange_1 : decode cX4_hasChange 1 = .ok (.ifCond .lt 22, 3) := by decide +kernel
theorem dX4_hasChange_4 : decode cX4_hasChange 4 = .ok (.iload_n 2, 1) := by decide +kernel
theorem dX4_hasChange_5 : decode cX4_hasChange 5 = .ok (.aload_n 0, 1) := by decide +kernel
theorem dX4_hasChange_6 : decode cX4_hasChange 6 = .ok (.getfield 15, 3) := by decide +kernel
theorem dX4_hasChange_9 : decode cX4_hasChange 9 = .ok (.iload_n 1, 1) := by decide +kernel
theorem dX4_hasChange_10 : decode cX4_hasChange 10 = .ok (.iaload, 1) := by decide +kernel
theorem dX4_hasChange_11 : decode cX4_hasChange 11 = .ok (.bipush 8, 2) := by decide +kernel
theorem dX4_hasChange_13 : decode cX4_hasChange 13 = .ok (.invokestatic 72, 3) := by decide +kernel
theorem dX4_hasChange_16 : decode cX4_hasChange 16 = .ok (.if_icmp .ge 7, 3) := by decide +kernel
theorem dX4_hasChange_19 : decode cX4_hasChange 19 = .ok (.iconst 1, 1) := by decide +kernel
theorem dX4_hasChange_20 : decode cX4_hasChange 20 = .ok (.goto 4, 3) := by decide +kernel
theorem dX4_hasChange_23 : decode cX4_hasChange 23 = .ok (.iconst 0, 1) := by decide +kernel
theorem dX4_hasChange_24 : decode cX4_hasChange 24 = .ok (.ireturn, 1) := by decide +kernel
theorem dX4_wavePlace_0 : decode cX4_wavePlace 0 = .ok (.iload_n 1, 1) := by decide +kernel
theorem dX4_wavePlace_1 : decode cX4_wavePlace 1 = .ok (.bipush 8, 2) := by decide +kernel
theorem dX4_wavePlace_3 : decode cX4_wavePlace 3 = .ok (.imul, 1) := by decide +kernel
theorem dX4_wavePlace_4 : decode cX4_wavePlace 4 = .ok (.aload_n 0, 1) := by decide +kernel
theorem dX4_wavePlace_5 : decode cX4_wavePlace 5 = .ok (.getfield 21, 3) := by decide +kernel
theorem dX4_wavePlace_8 : decode cX4_wavePlace 8 = .ok (.iload_n 1, 1) := by decide +kernel
theorem dX4_wavePlace_9 : decode cX4_wavePlace 9 = .ok (.iaload, 1) := by decide +kernel
theorem dX4_wavePlace_10 : decode cX4_wavePlace 10 = .ok (.iconst 1, 1) := by decide +kernel
theorem dX4_wavePlace_11 : decode cX4_wavePlace 11 = .ok (.isub, 1) := by decide +kernel
theorem dX4_wavePlace_12 : decode cX4_wavePlace 12 = .ok (.iload_n 2, 1) := by decide +kernel
theorem dX4_wavePlace_13 : decode cX4_wavePlace 13 = .ok (.isub, 1) := by decide +kernel
theorem dX4_wavePlace_14 : decode cX4_wavePlace 14 = .ok (.bipush 8, 2) := by decide +kernel
theorem dX4_wavePlace_16 : decode cX4_wavePlace 16 = .ok (.invokestatic 136, 3) := by decide +kernel
theorem dX4_wavePlace_19 : decode cX4_wavePlace 19 = .ok (.iadd, 1) := by decide +kernel
theorem dX4_wavePlace_20 : decode cX4_wavePlace 20 = .ok (.ireturn, 1) := by decide +kernel
theorem dX4_waitingTime_0 : decode cX4_waitingTime 0 = .ok (.aload_n 0, 1) := by decide +kernel
theorem dX4_waitingTime_1 : decode cX4_waitingTime 1 = .ok (.iload_n 1, 1) := by decide +kernel
theorem dX4_waitingTime_2 : decode cX4_waitingTime 2 = .ok (.iload_n 2, 1) := by decide +kernel
theorem dX4_waitingTime_3 : decode cX4_waitingTime 3 = .ok (.invokevirtual 139, 3) := by decide +kernel
theorem dX4_waitingTime_6 : decode cX4_waitingTime 6 = .ok (.ifCond .eq 17, 3) := by decide +kernel
theorem dX4_waitingTime_9 : decode cX4_waitingTime 9 = .ok (.aload_n 0, 1) := by decide +kernel
theorem dX4_waitingTime_10 : decode cX4_waitingTime 10 = .ok (.getfield 36, 3) := by decide +kernel
theorem dX4_waitingTime_13 : decode cX4_waitingTime 13 = .ok (.iload_n 1, 1) := by decide +kernel
theorem dX4_waitingTime_14 : decode cX4_waitingTime 14 = .ok (.bipush 8, 2) := by decide +kernel
theorem dX4_waitingTime_16 : decode cX4_waitingTime 16 = .ok (.imul, 1) := by decide +kernel
theorem dX4_waitingTime_17 : decode cX4_waitingTime 17 = .ok (.iload_n 2, 1) := by decide +kernel
theorem dX4_waitingTime_18 : decode cX4_waitingTime 18 = .ok (.iadd, 1) := by decide +kernel
theorem dX4_waitingTime_19 : decode cX4_waitingTime 19 = .ok (.iaload, 1) := by decide +kernel
theorem dX4_waitingTime_20 : decode cX4_waitingTime 20 = .ok (.goto 4, 3) := by decide +kernel
theorem dX4_waitingTime_23 : decode cX4_waitingTime 23 = .ok (.iconst (-1), 1) := by decide +kernel
theorem dX4_waitingTime_24 : decode cX4_waitingTime 24 = .ok (.ireturn, 1) := by decide +kernel
theorem dX4_waitingLevel_0 : decode cX4_waitingLevel 0 = .ok (.aload_n 0, 1) := by decide +kernel
theorem dX4_waitingLevel_1 : decode cX4_waitingLevel 1 = .ok (.iload_n 1, 1) := by decide +kernel
theorem dX4_waitingLevel_2 : decode cX4_waitingLevel 2 = .ok (.iload_n 2, 1) := by decide +kernel
theorem dX4_waitingLevel_3 : decode cX4_waitingLevel 3 = .ok (.invokevirtual 139, 3) := by decide +kernel
theorem dX4_waitingLevel_6 : decode cX4_waitingLevel 6 = .ok (.ifCond .eq 17, 3) := by decide +kernel
theorem dX4_waitingLevel_9 : decode cX4_waitingLevel 9 = .ok (.aload_n 0, 1) := by decide +kernel
theorem dX4_waitingLevel_10 : decode cX4_waitingLevel 10 = .ok (.getfield 39, 3) := by decide +kernel
theorem dX4_waitingLevel_13 : decode cX4_waitingLevel 13 = .ok (.iload_n 1, 1) := by decide +kernel
theorem dX4_waitingLevel_14 : decode cX4_waitingLevel 14 = .ok (.bipush 8, 2) := by decide +kernel
theorem dX4_waitingLevel_16 : decode cX4_waitingLevel 16 = .ok (.imul, 1) := by decide +kernel
theorem dX4_waitingLevel_17 : decode cX4_waitingLevel 17 = .ok (.iload_n 2, 1) := by decide +kernel
theorem dX4_waitingLevel_18 : decode cX4_waitingLevel 18 = .ok (.iadd, 1) := by decide +kernel
theorem dX4_waitingLevel_19 : decode cX4_waitingLevel 19 = .ok (.iaload, 1) := by decide +kernel
theorem dX4_waitingLevel_20 : decode cX4_waitingLevel 20 = .ok (.goto 4, 3) := by decide +kernel
theorem dX4_waitingLevel_23 : decode cX4_waitingLevel 23 = .ok (.iconst (-1), 1) := by decide +kernel
theorem dX4_waitingLevel_24 : decode cX4_waitingLevel 24 = .ok (.ireturn, 1) := by decide +kernel
theorem dX4_hasWaiting_0 : decode cX4_hasWaiting 0 = .ok (.iload_n 2, 1) := by decide +kernel
theorem dX4_hasWaiting_1 : decode cX4_hasWaiting 1 = .ok (.ifCond .lt 17, 3) := by decide +kernel
theorem dX4_hasWaiting_4 : decode cX4_hasWaiting 4 = .ok (.iload_n 2, 1) := by decide +kernel
theorem dX4_hasWaiting_5 : decode cX4_hasWaiting 5 = .ok (.aload_n 0, 1) := by decide +kernel
theorem dX4_hasWaiting_6 : decode cX4_hasWaiting 6 = .ok (.getfield 33, 3) := by decide +kernel
theorem dX4_hasWaiting_9 : decode cX4_hasWaiting 9 = .ok (.iload_n 1, 1) := by decide +kernel
theorem dX4_hasWaiting_10 : decode cX4_hasWaiting 10 = .ok (.iaload, 1) := by decide +kernel
theorem dX4_hasWaiting_11 : decode cX4_hasWaiting 11 = .ok (.if_icmp .ge 7, 3) := by decide +kernel
theorem dX4_hasWaiting_14 : decode cX4_hasWaiting 14 = .ok (.iconst 1, 1) := by decide +kernel
theorem dX4_hasWaiting_15 : decode cX4_hasWaiting 15 = .ok (.goto 4, 3) := by decide +kernel
theorem dX4_hasWaiting_18 : decode cX4_hasWaiting 18 = .ok (.iconst 0, 1) := by decide +kernel
theorem dX4_hasWaiting_19 : decode cX4_hasWaiting 19 = .ok (.ireturn, 1) := by decide +kernel
theorem dX4_handIsFull_0 : decode cX4_handIsFull 0 = .ok (.aload_n 0, 1) := by decide +kernel
theorem dX4_handIsFull_1 : decode cX4_handIsFull 1 = .ok (.getfield 65, 3) := by decide +kernel
theorem dX4_handIsFull_4 : decode cX4_handIsFull 4 = .ok (.bipush 8, 2) := by decide +kernel
theorem dX4_handIsFull_6 : decode cX4_handIsFull 6 = .ok (.if_icmp .lt 7, 3) := by decide +kernel
theorem dX4_handIsFull_9 : decode cX4_handIsFull 9 = .ok (.iconst 1, 1) := by decide +kernel
theorem dX4_handIsFull_10 : decode cX4_handIsFull 10 = .ok (.goto 4, 3) := by decide +kernel
theorem dX4_handIsFull_13 : decode cX4_handIsFull 13 = .ok (.iconst 0, 1) := by decide +kernel
theorem dX4_handIsFull_14 : decode cX4_handIsFull 14 = .ok (.ireturn, 1) := by decide +kernel
theorem dX4_addByHand_0 : decode cX4_addByHand 0 = .ok (.aload_n 0, 1) := by decide +kernel
theorem dX4_addByHand_1 : decode cX4_addByHand 1 = .ok (.invokevirtual 142, 3) := by decide +kernel
theorem dX4_addByHand_4 : decode cX4_addByHand 4 = .ok (.ifCond .eq 4, 3) := by decide +kernel
theorem dX4_addByHand_7 : decode cX4_addByHand 7 = .ok (.return_, 1) := by decide +kernel
theorem dX4_addByHand_8 : decode cX4_addByHand 8 = .ok (.aload_n 0, 1) := by decide +kernel
theorem dX4_addByHand_9 : decode cX4_addByHand 9 = .ok (.getfield 65, 3) := by decide +kernel
theorem dX4_addByHand_12 : decode cX4_addByHand 12 = .ok (.istore 4, 2) := by decide +kernel
theorem dX4_addByHand_14 : decode cX4_addByHand 14 = .ok (.iload 4, 2) := by decide +kernel
theorem dX4_addByHand_16 : decode cX4_addByHand 16 = .ok (.ifCond .le 70, 3) := by decide +kernel
theorem dX4_addByHand_19 : decode cX4_addByHand 19 = .ok (.aload_n 0, 1) := by decide +kernel
theorem dX4_addByHand_20 : decode cX4_addByHand 20 = .ok (.getfield 42, 3) := by decide +kernel
theorem dX4_addByHand_23 : decode cX4_addByHand 23 = .ok (.iload 4, 2) := by decide +kernel
theorem dX4_addByHand_25 : decode cX4_addByHand 25 = .ok (.iconst 1, 1) := by decide +kernel
theorem dX4_addByHand_26 : decode cX4_addByHand 26 = .ok (.isub, 1) := by decide +kernel
theorem dX4_addByHand_27 : decode cX4_addByHand 27 = .ok (.iaload, 1) := by decide +kernel
theorem dX4_addByHand_28 : decode cX4_addByHand 28 = .ok (.iload_n 3, 1) := by decide +kernel
theorem dX4_addByHand_29 : decode cX4_addByHand 29 = .ok (.if_icmp .le 57, 3) := by decide +kernel
theorem dX4_addByHand_32 : decode cX4_addByHand 32 = .ok (.aload_n 0, 1) := by decide +kernel
theorem dX4_addByHand_33 : decode cX4_addByHand 33 = .ok (.getfield 42, 3) := by decide +kernel
theorem dX4_addByHand_36 : decode cX4_addByHand 36 = .ok (.iload 4, 2) := by decide +kernel
theorem dX4_addByHand_38 : decode cX4_addByHand 38 = .ok (.aload_n 0, 1) := by decide +kernel
theorem dX4_addByHand_39 : decode cX4_addByHand 39 = .ok (.getfield 42, 3) := by decide +kernel
theorem dX4_addByHand_42 : decode cX4_addByHand 42 = .ok (.iload 4, 2) := by decide +kernel
theorem dX4_addByHand_44 : decode cX4_addByHand 44 = .ok (.iconst 1, 1) := by decide +kernel
theorem dX4_addByHand_45 : decode cX4_addByHand 45 = .ok (.isub, 1) := by decide +kernel
theorem dX4_addByHand_46 : decode cX4_addByHand 46 = .ok (.iaload, 1) := by decide +kernel
theorem dX4_addByHand_47 : decode cX4_addByHand 47 = .ok (.iastore, 1) := by decide +kernel
theorem dX4_addByHand_48 : decode cX4_addByHand 48 = .ok (.aload_n 0, 1) := by decide +kernel
theorem dX4_addByHand_49 : decode cX4_addByHand 49 = .ok (.getfield 45, 3) := by decide +kernel
theorem dX4_addByHand_52 : decode cX4_addByHand 52 = .ok (.iload 4, 2) := by decide +kernel
theorem dX4_addByHand_54 : decode cX4_addByHand 54 = .ok (.aload_n 0, 1) := by decide +kernel
theorem dX4_addByHand_55 : decode cX4_addByHand 55 = .ok (.getfield 45, 3) := by decide +kernel
theorem dX4_addByHand_58 : decode cX4_addByHand 58 = .ok (.iload 4, 2) := by decide +kernel
theorem dX4_addByHand_60 : decode cX4_addByHand 60 = .ok (.iconst 1, 1) := by decide +kernel
theorem dX4_addByHand_61 : decode cX4_addByHand 61 = .ok (.isub, 1) := by decide +kernel
theorem dX4_addByHand_62 : decode cX4_addByHand 62 = .ok (.iaload, 1) := by decide +kernel
theorem dX4_addByHand_63 : decode cX4_addByHand 63 = .ok (.iastore, 1) := by decide +kernel
theorem dX4_addByHand_64 : decode cX4_addByHand 64 = .ok (.aload_n 0, 1) := by decide +kernel
theorem dX4_addByHand_65 : decode cX4_addByHand 65 = .ok (.getfield 48, 3) := by decide +kernel
theorem dX4_addByHand_68 : decode cX4_addByHand 68 = .ok (.iload 4, 2) := by decide +kernel
theorem dX4_addByHand_70 : decode cX4_addByHand 70 = .ok (.aload_n 0, 1) := by decide +kernel
theorem dX4_addByHand_71 : decode cX4_addByHand 71 = .ok (.getfield 48, 3) := by decide +kernel
theorem dX4_addByHand_74 : decode cX4_addByHand 74 = .ok (.iload 4, 2) := by decide +kernel
theorem dX4_addByHand_76 : decode cX4_addByHand 76 = .ok (.iconst 1, 1) := by decide +kernel
theorem dX4_addByHand_77 : decode cX4_addByHand 77 = .ok (.isub, 1) := by decide +kernel
theorem dX4_addByHand_78 : decode cX4_addByHand 78 = .ok (.iaload, 1) := by decide +kernel
theorem dX4_addByHand_79 : decode cX4_addByHand 79 = .ok (.iastore, 1) := by decide +kernel
theorem dX4_addByHand_80 : decode cX4_addByHand 80 = .ok (.iinc 4 (-1), 3) := by decide +kernel
theorem dX4_addByHand_83 : decode cX4_addByHand 83 = .ok (.goto (-69), 3) := by decide +kernel
theorem dX4_addByHand_86 : decode cX4_addByHand 86 = .ok (.aload_n 0, 1) := by decide +kernel
theorem dX4_addByHand_87 : decode cX4_addByHand 87 = .ok (.getfield 42, 3) := by decide +kernel
theorem dX4_addByHand_90 : decode cX4_addByHand 90 = .ok (.iload 4, 2) := by decide +kernel
theorem dX4_addByHand_92 : decode cX4_addByHand 92 = .ok (.iload_n 3, 1) := by decide +kernel
theorem dX4_addByHand_93 : decode cX4_addByHand 93 = .ok (.iastore, 1) := by decide +kernel
theorem dX4_addByHand_94 : decode cX4_addByHand 94 = .ok (.aload_n 0, 1) := by decide +kernel
theorem dX4_addByHand_95 : decode cX4_addByHand 95 = .ok (.getfield 45, 3) := by decide +kernel
theorem dX4_addByHand_98 : decode cX4_addByHand 98 = .ok (.iload 4, 2) := by decide +kernel
theorem dX4_addByHand_100 : decode cX4_addByHand 100 = .ok (.iload_n 1, 1) := by decide +kernel
theorem dX4_addByHand_101 : decode cX4_addByHand 101 = .ok (.iastore, 1) := by decide +kernel
theorem dX4_addByHand_102 : decode cX4_addByHand 102 = .ok (.aload_n 0, 1) := by decide +kernel
theorem dX4_addByHand_103 : decode cX4_addByHand 103 = .ok (.getfield 48, 3) := by decide +kernel
theorem dX4_addByHand_106 : decode cX4_addByHand 106 = .ok (.iload 4, 2) := by decide +kernel
theorem dX4_addByHand_108 : decode cX4_addByHand 108 = .ok (.iload_n 2, 1) := by decide +kernel
theorem dX4_addByHand_109 : decode cX4_addByHand 109 = .ok (.iastore, 1) := by decide +kernel
theorem dX4_addByHand_110 : decode cX4_addByHand 110 = .ok (.aload_n 0, 1) := by decide +kernel
theorem dX4_addByHand_111 : decode cX4_addByHand 111 = .ok (.dup, 1) := by decide +kernel
theorem dX4_addByHand_112 : decode cX4_addByHand 112 = .ok (.getfield 65, 3) := by decide +kernel
theorem dX4_addByHand_115 : decode cX4_addByHand 115 = .ok (.iconst 1, 1) := by decide +kernel
theorem dX4_addByHand_116 : decode cX4_addByHand 116 = .ok (.iadd, 1) := by decide +kernel
theorem dX4_addByHand_117 : decode cX4_addByHand 117 = .ok (.putfield 65, 3) := by decide +kernel
theorem dX4_addByHand_120 : decode cX4_addByHand 120 = .ok (.return_, 1) := by decide +kernel
theorem dX4_tellAll_0 : decode cX4_tellAll 0 = .ok (.iconst 0, 1) := by decide +kernel
theorem dX4_tellAll_1 : decode cX4_tellAll 1 = .ok (.istore_n 2, 1) := by decide +kernel
theorem dX4_tellAll_2 : decode cX4_tellAll 2 = .ok (.iload_n 2, 1) := by decide +kernel
theorem dX4_tellAll_3 : decode cX4_tellAll 3 = .ok (.aload_n 1, 1) := by decide +kernel
theorem dX4_tellAll_4 : decode cX4_tellAll 4 = .ok (.getfield 92, 3) := by decide +kernel
theorem dX4_tellAll_7 : decode cX4_tellAll 7 = .ok (.if_icmp .ge 21, 3) := by decide +kernel
theorem dX4_tellAll_10 : decode cX4_tellAll 10 = .ok (.aload_n 0, 1) := by decide +kernel
theorem dX4_tellAll_11 : decode cX4_tellAll 11 = .ok (.aload_n 1, 1) := by decide +kernel
theorem dX4_tellAll_12 : decode cX4_tellAll 12 = .ok (.iload_n 2, 1) := by decide +kernel
theorem dX4_tellAll_13 : decode cX4_tellAll 13 = .ok (.aload_n 0, 1) := by decide +kernel
theorem dX4_tellAll_14 : decode cX4_tellAll 14 = .ok (.aload_n 1, 1) := by decide +kernel
theorem dX4_tellAll_15 : decode cX4_tellAll 15 = .ok (.iload_n 2, 1) := by decide +kernel
theorem dX4_tellAll_16 : decode cX4_tellAll 16 = .ok (.invokevirtual 125, 3) := by decide +kernel
theorem dX4_tellAll_19 : decode cX4_tellAll 19 = .ok (.invokevirtual 146, 3) := by decide +kernel
theorem dX4_tellAll_22 : decode cX4_tellAll 22 = .ok (.iinc 2 1, 3) := by decide +kernel
theorem dX4_tellAll_25 : decode cX4_tellAll 25 = .ok (.goto (-23), 3) := by decide +kernel
theorem dX4_tellAll_28 : decode cX4_tellAll 28 = .ok (.return_, 1) := by decide +kernel
theorem dX4_tellLookers_0 : decode cX4_tellLookers 0 = .ok (.iconst 0, 1) := by decide +kernel
theorem dX4_tellLookers_1 : decode cX4_tellLookers 1 = .ok (.istore_n 3, 1) := by decide +kernel
theorem dX4_tellLookers_2 : decode cX4_tellLookers 2 = .ok (.iload_n 3, 1) := by decide +kernel
theorem dX4_tellLookers_3 : decode cX4_tellLookers 3 = .ok (.aload_n 1, 1) := by decide +kernel
theorem dX4_tellLookers_4 : decode cX4_tellLookers 4 = .ok (.getfield 92, 3) := by decide +kernel
theorem dX4_tellLookers_7 : decode cX4_tellLookers 7 = .ok (.if_icmp .ge 31, 3) := by decide +kernel
theorem dX4_tellLookers_10 : decode cX4_tellLookers 10 = .ok (.aload_n 1, 1) := by decide +kernel
theorem dX4_tellLookers_11 : decode cX4_tellLookers 11 = .ok (.iload_n 3, 1) := by decide +kernel
theorem dX4_tellLookers_12 : decode cX4_tellLookers 12 = .ok (.invokevirtual 150, 3) := by decide +kernel
theorem dX4_tellLookers_15 : decode cX4_tellLookers 15 = .ok (.iload_n 2, 1) := by decide +kernel
theorem dX4_tellLookers_16 : decode cX4_tellLookers 16 = .ok (.iand, 1) := by decide +kernel
theorem dX4_tellLookers_17 : decode cX4_tellLookers 17 = .ok (.ifCond .eq 15, 3) := by decide +kernel
theorem dX4_tellLookers_20 : decode cX4_tellLookers 20 = .ok (.aload_n 0, 1) := by decide +kernel
theorem dX4_tellLookers_21 : decode cX4_tellLookers 21 = .ok (.aload_n 1, 1) := by decide +kernel
theorem dX4_tellLookers_22 : decode cX4_tellLookers 22 = .ok (.iload_n 3, 1) := by decide +kernel
theorem dX4_tellLookers_23 : decode cX4_tellLookers 23 = .ok (.aload_n 0, 1) := by decide +kernel
theorem dX4_tellLookers_24 : decode cX4_tellLookers 24 = .ok (.aload_n 1, 1) := by decide +kernel
theorem dX4_tellLookers_25 : decode cX4_tellLookers 25 = .ok (.iload_n 3, 1) := by decide +kernel
theorem dX4_tellLookers_26 : decode cX4_tellLookers 26 = .ok (.invokevirtual 125, 3) := by decide +kernel
theorem dX4_tellLookers_29 : decode cX4_tellLookers 29 = .ok (.invokevirtual 146, 3) := by decide +kernel
theorem dX4_tellLookers_32 : decode cX4_tellLookers 32 = .ok (.iinc 3 1, 3) := by decide +kernel
theorem dX4_tellLookers_35 : decode cX4_tellLookers 35 = .ok (.goto (-33), 3) := by decide +kernel
theorem dX4_tellLookers_38 : decode cX4_tellLookers 38 = .ok (.return_, 1) := by decide +kernel
theorem dX4_tellGate_0 : decode cX4_tellGate 0 = .ok (.aload_n 0, 1) := by decide +kernel
theorem dX4_tellGate_1 : decode cX4_tellGate 1 = .ok (.getfield 51, 3) := by decide +kernel
theorem dX4_tellGate_4 : decode cX4_tellGate 4 = .ok (.aload_n 1, 1) := by decide +kernel
theorem dX4_tellGate_5 : decode cX4_tellGate 5 = .ok (.getfield 154, 3) := by decide +kernel
theorem dX4_tellGate_8 : decode cX4_tellGate 8 = .ok (.iload_n 2, 1) := by decide +kernel
theorem dX4_tellGate_9 : decode cX4_tellGate 9 = .ok (.iaload, 1) := by decide +kernel
theorem dX4_tellGate_10 : decode cX4_tellGate 10 = .ok (.iadd, 1) := by decide +kernel
theorem dX4_tellGate_11 : decode cX4_tellGate 11 = .ok (.istore 4, 2) := by decide +kernel
theorem dX4_tellGate_13 : decode cX4_tellGate 13 = .ok (.iload_n 2, 1) := by decide +kernel
theorem dX4_tellGate_14 : decode cX4_tellGate 14 = .ok (.bipush 8, 2) := by decide +kernel
theorem dX4_tellGate_16 : decode cX4_tellGate 16 = .ok (.imul, 1) := by decide +kernel
theorem dX4_tellGate_17 : decode cX4_tellGate 17 = .ok (.istore 5, 2) := by decide +kernel
theorem dX4_tellGate_19 : decode cX4_tellGate 19 = .ok (.aload_n 0, 1) := by decide +kernel
theorem dX4_tellGate_20 : decode cX4_tellGate 20 = .ok (.getfield 33, 3) := by decide +kernel
theorem dX4_tellGate_23 : decode cX4_tellGate 23 = .ok (.iload_n 2, 1) := by decide +kernel
theorem dX4_tellGate_24 : decode cX4_tellGate 24 = .ok (.iaload, 1) := by decide +kernel
theorem dX4_tellGate_25 : decode cX4_tellGate 25 = .ok (.ifCond .le 37, 3) := by decide +kernel
theorem dX4_tellGate_28 : decode cX4_tellGate 28 = .ok (.aload_n 0, 1) := by decide +kernel
theorem dX4_tellGate_29 : decode cX4_tellGate 29 = .ok (.getfield 36, 3) := by decide +kernel
theorem dX4_tellGate_32 : decode cX4_tellGate 32 = .ok (.iload 5, 2) := by decide +kernel
theorem dX4_tellGate_34 : decode cX4_tellGate 34 = .ok (.aload_n 0, 1) := by decide +kernel
theorem dX4_tellGate_35 : decode cX4_tellGate 35 = .ok (.getfield 33, 3) := by decide +kernel
theorem dX4_tellGate_38 : decode cX4_tellGate 38 = .ok (.iload_n 2, 1) := by decide +kernel
theorem dX4_tellGate_39 : decode cX4_tellGate 39 = .ok (.iaload, 1) := by decide +kernel
theorem dX4_tellGate_40 : decode cX4_tellGate 40 = .ok (.iadd, 1) := by decide +kernel
theorem dX4_tellGate_41 : decode cX4_tellGate 41 = .ok (.iconst 1, 1) := by decide +kernel
theorem dX4_tellGate_42 : decode cX4_tellGate 42 = .ok (.isub, 1) := by decide +kernel
theorem dX4_tellGate_43 : decode cX4_tellGate 43 = .ok (.iaload, 1) := by decide +kernel
theorem dX4_tellGate_44 : decode cX4_tellGate 44 = .ok (.iload 4, 2) := by decide +kernel
theorem dX4_tellGate_46 : decode cX4_tellGate 46 = .ok (.if_icmp .lt 16, 3) := by decide +kernel
theorem dX4_tellGate_49 : decode cX4_tellGate 49 = .ok (.aload_n 0, 1) := by decide +kernel
theorem dX4_tellGate_50 : decode cX4_tellGate 50 = .ok (.getfield 33, 3) := by decide +kernel
theorem dX4_tellGate_53 : decode cX4_tellGate 53 = .ok (.iload_n 2, 1) := by decide +kernel
theorem dX4_tellGate_54 : decode cX4_tellGate 54 = .ok (.dup2, 1) := by decide +kernel
theorem dX4_tellGate_55 : decode cX4_tellGate 55 = .ok (.iaload, 1) := by decide +kernel
theorem dX4_tellGate_56 : decode cX4_tellGate 56 = .ok (.iconst 1, 1) := by decide +kernel
theorem dX4_tellGate_57 : decode cX4_tellGate 57 = .ok (.isub, 1) := by decide +kernel
theorem dX4_tellGate_58 : decode cX4_tellGate 58 = .ok (.iastore, 1) := by decide +kernel
theorem dX4_tellGate_59 : decode cX4_tellGate 59 = .ok (.goto (-40), 3) := by decide +kernel
theorem dX4_tellGate_62 : decode cX4_tellGate 62 = .ok (.aload_n 1, 1) := by decide +kernel
theorem dX4_tellGate_63 : decode cX4_tellGate 63 = .ok (.getfield 157, 3) := by decide +kernel
theorem dX4_tellGate_66 : decode cX4_tellGate 66 = .ok (.iload_n 2, 1) := by decide +kernel
theorem dX4_tellGate_67 : decode cX4_tellGate 67 = .ok (.iaload, 1) := by decide +kernel
theorem dX4_tellGate_68 : decode cX4_tellGate 68 = .ok (.iconst 1, 1) := by decide +kernel
theorem dX4_tellGate_69 : decode cX4_tellGate 69 = .ok (.if_icmp .ne 21, 3) := by decide +kernel
theorem dX4_tellGate_72 : decode cX4_tellGate 72 = .ok (.aload_n 0, 1) := by decide +kernel
theorem dX4_tellGate_73 : decode cX4_tellGate 73 = .ok (.iload_n 2, 1) := by decide +kernel
theorem dX4_tellGate_74 : decode cX4_tellGate 74 = .ok (.aload_n 0, 1) := by decide +kernel
theorem dX4_tellGate_75 : decode cX4_tellGate 75 = .ok (.getfield 33, 3) := by decide +kernel
theorem dX4_tellGate_78 : decode cX4_tellGate 78 = .ok (.iload_n 2, 1) := by decide +kernel
theorem dX4_tellGate_79 : decode cX4_tellGate 79 = .ok (.iaload, 1) := by decide +kernel
theorem dX4_tellGate_80 : decode cX4_tellGate 80 = .ok (.aload_n 0, 1) := by decide +kernel
theorem dX4_tellGate_81 : decode cX4_tellGate 81 = .ok (.iload_n 2, 1) := by decide +kernel
theorem dX4_tellGate_82 : decode cX4_tellGate 82 = .ok (.iload_n 3, 1) := by decide +kernel
theorem dX4_tellGate_83 : decode cX4_tellGate 83 = .ok (.invokevirtual 160, 3) := by decide +kernel
theorem dX4_tellGate_86 : decode cX4_tellGate 86 = .ok (.isub, 1) := by decide +kernel
theorem dX4_tellGate_87 : decode cX4_tellGate 87 = .ok (.invokevirtual 163, 3) := by decide +kernel
theorem dX4_tellGate_90 : decode cX4_tellGate 90 = .ok (.aload_n 0, 1) := by decide +kernel
theorem dX4_tellGate_91 : decode cX4_tellGate 91 = .ok (.getfield 33, 3) := by decide +kernel
theorem dX4_tellGate_94 : decode cX4_tellGate 94 = .ok (.iload_n 2, 1) := by decide +kernel
theorem dX4_tellGate_95 : decode cX4_tellGate 95 = .ok (.iaload, 1) := by decide +kernel
theorem dX4_tellGate_96 : decode cX4_tellGate 96 = .ok (.bipush 8, 2) := by decide +kernel
theorem dX4_tellGate_98 : decode cX4_tellGate 98 = .ok (.if_icmp .lt 9, 3) := by decide +kernel
theorem dX4_tellGate_101 : decode cX4_tellGate 101 = .ok (.aload_n 0, 1) := by decide +kernel
theorem dX4_tellGate_102 : decode cX4_tellGate 102 = .ok (.iload_n 2, 1) := by decide +kernel
theorem dX4_tellGate_103 : decode cX4_tellGate 103 = .ok (.iconst 1, 1) := by decide +kernel
theorem dX4_tellGate_104 : decode cX4_tellGate 104 = .ok (.invokevirtual 163, 3) := by decide +kernel
theorem dX4_tellGate_107 : decode cX4_tellGate 107 = .ok (.aload_n 0, 1) := by decide +kernel
theorem dX4_tellGate_108 : decode cX4_tellGate 108 = .ok (.getfield 36, 3) := by decide +kernel
theorem dX4_tellGate_111 : decode cX4_tellGate 111 = .ok (.iload 5, 2) := by decide +kernel
theorem dX4_tellGate_113 : decode cX4_tellGate 113 = .ok (.aload_n 0, 1) := by decide +kernel
theorem dX4_tellGate_114 : decode cX4_tellGate 114 = .ok (.getfield 33, 3) := by decide +kernel
theorem dX4_tellGate_117 : decode cX4_tellGate 117 = .ok (.iload_n 2, 1) := by decide +kernel
theorem dX4_tellGate_118 : decode cX4_tellGate 118 = .ok (.iaload, 1) := by decide +kernel
theorem dX4_tellGate_119 : decode cX4_tellGate 119 = .ok (.iadd, 1) := by decide +kernel
theorem dX4_tellGate_120 : decode cX4_tellGate 120 = .ok (.iload 4, 2) := by decide +kernel
theorem dX4_tellGate_122 : decode cX4_tellGate 122 = .ok (.iastore, 1) := by decide +kernel
theorem dX4_tellGate_123 : decode cX4_tellGate 123 = .ok (.aload_n 0, 1) := by decide +kernel
theorem dX4_tellGate_124 : decode cX4_tellGate 124 = .ok (.getfield 39, 3) := by decide +kernel
theorem dX4_tellGate_127 : decode cX4_tellGate 127 = .ok (.iload 5, 2) := by decide +kernel
theorem dX4_tellGate_129 : decode cX4_tellGate 129 = .ok (.aload_n 0, 1) := by decide +kernel
theorem dX4_tellGate_130 : decode cX4_tellGate 130 = .ok (.getfield 33, 3) := by decide +kernel
theorem dX4_tellGate_133 : decode cX4_tellGate 133 = .ok (.iload_n 2, 1) := by decide +kernel
theorem dX4_tellGate_134 : decode cX4_tellGate 134 = .ok (.iaload, 1) := by decide +kernel
theorem dX4_tellGate_135 : decode cX4_tellGate 135 = .ok (.iadd, 1) := by decide +kernel
theorem dX4_tellGate_136 : decode cX4_tellGate 136 = .ok (.iload_n 3, 1) := by decide +kernel
theorem dX4_tellGate_137 : decode cX4_tellGate 137 = .ok (.iastore, 1) := by decide +kernel
theorem dX4_tellGate_138 : decode cX4_tellGate 138 = .ok (.aload_n 0, 1) := by decide +kernel
theorem dX4_tellGate_139 : decode cX4_tellGate 139 = .ok (.getfield 33, 3) := by decide +kernel
theorem dX4_tellGate_142 : decode cX4_tellGate 142 = .ok (.iload_n 2, 1) := by decide +kernel
theorem dX4_tellGate_143 : decode cX4_tellGate 143 = .ok (.dup2, 1) := by decide +kernel
theorem dX4_tellGate_144 : decode cX4_tellGate 144 = .ok (.iaload, 1) := by decide +kernel
theorem dX4_tellGate_145 : decode cX4_tellGate 145 = .ok (.iconst 1, 1) := by decide +kernel
theorem dX4_tellGate_146 : decode cX4_tellGate 146 = .ok (.iadd, 1) := by decide +kernel
theorem dX4_tellGate_147 : decode cX4_tellGate 147 = .ok (.iastore, 1) := by decide +kernel
theorem dX4_tellGate_148 : decode cX4_tellGate 148 = .ok (.return_, 1) := by decide +kernel
theorem dX4_alikeAtEnd_0 : decode cX4_alikeAtEnd 0 = .ok (.iload_n 1, 1) := by decide +kernel
theorem dX4_alikeAtEnd_1 : decode cX4_alikeAtEnd 1 = .ok (.bipush 8, 2) := by decide +kernel
theorem dX4_alikeAtEnd_3 : decode cX4_alikeAtEnd 3 = .ok (.imul, 1) := by decide +kernel
theorem dX4_alikeAtEnd_4 : decode cX4_alikeAtEnd 4 = .ok (.istore_n 3, 1) := by decide +kernel
theorem dX4_alikeAtEnd_5 : decode cX4_alikeAtEnd 5 = .ok (.iconst 0, 1) := by decide +kernel
theorem dX4_alikeAtEnd_6 : decode cX4_alikeAtEnd 6 = .ok (.istore 4, 2) := by decide +kernel
theorem dX4_alikeAtEnd_8 : decode cX4_alikeAtEnd 8 = .ok (.iload 4, 2) := by decide +kernel
theorem dX4_alikeAtEnd_10 : decode cX4_alikeAtEnd 10 = .ok (.aload_n 0, 1) := by decide +kernel
theorem dX4_alikeAtEnd_11 : decode cX4_alikeAtEnd 11 = .ok (.getfield 33, 3) := by decide +kernel
theorem dX4_alikeAtEnd_14 : decode cX4_alikeAtEnd 14 = .ok (.iload_n 1, 1) := by decide +kernel
theorem dX4_alikeAtEnd_15 : decode cX4_alikeAtEnd 15 = .ok (.iaload, 1) := by decide +kernel
theorem dX4_alikeAtEnd_16 : decode cX4_alikeAtEnd 16 = .ok (.if_icmp .ge 31, 3) := by decide +kernel
theorem dX4_alikeAtEnd_19 : decode cX4_alikeAtEnd 19 = .ok (.aload_n 0, 1) := by decide +kernel
theorem dX4_alikeAtEnd_20 : decode cX4_alikeAtEnd 20 = .ok (.getfield 39, 3) := by decide +kernel
theorem dX4_alikeAtEnd_23 : decode cX4_alikeAtEnd 23 = .ok (.iload_n 3, 1) := by decide +kernel
theorem dX4_alikeAtEnd_24 : decode cX4_alikeAtEnd 24 = .ok (.aload_n 0, 1) := by decide +kernel
theorem dX4_alikeAtEnd_25 : decode cX4_alikeAtEnd 25 = .ok (.getfield 33, 3) := by decide +kernel
theorem dX4_alikeAtEnd_28 : decode cX4_alikeAtEnd 28 = .ok (.iload_n 1, 1) := by decide +kernel
theorem dX4_alikeAtEnd_29 : decode cX4_alikeAtEnd 29 = .ok (.iaload, 1) := by decide +kernel
theorem dX4_alikeAtEnd_30 : decode cX4_alikeAtEnd 30 = .ok (.iadd, 1) := by decide +kernel
theorem dX4_alikeAtEnd_31 : decode cX4_alikeAtEnd 31 = .ok (.iconst 1, 1) := by decide +kernel
theorem dX4_alikeAtEnd_32 : decode cX4_alikeAtEnd 32 = .ok (.isub, 1) := by decide +kernel
theorem dX4_alikeAtEnd_33 : decode cX4_alikeAtEnd 33 = .ok (.iload 4, 2) := by decide +kernel
theorem dX4_alikeAtEnd_35 : decode cX4_alikeAtEnd 35 = .ok (.isub, 1) := by decide +kernel
theorem dX4_alikeAtEnd_36 : decode cX4_alikeAtEnd 36 = .ok (.iaload, 1) := by decide +kernel
theorem dX4_alikeAtEnd_37 : decode cX4_alikeAtEnd 37 = .ok (.iload_n 2, 1) := by decide +kernel
theorem dX4_alikeAtEnd_38 : decode cX4_alikeAtEnd 38 = .ok (.if_icmp .ne 9, 3) := by decide +kernel
theorem dX4_alikeAtEnd_41 : decode cX4_alikeAtEnd 41 = .ok (.iinc 4 1, 3) := by decide +kernel
theorem dX4_alikeAtEnd_44 : decode cX4_alikeAtEnd 44 = .ok (.goto (-36), 3) := by decide +kernel
theorem dX4_alikeAtEnd_47 : decode cX4_alikeAtEnd 47 = .ok (.iload 4, 2) := by decide +kernel
theorem dX4_alikeAtEnd_49 : decode cX4_alikeAtEnd 49 = .ok (.ireturn, 1) := by decide +kernel
theorem dX4_dropFirst_0 : decode cX4_dropFirst 0 = .ok (.iload_n 1, 1) := by decide +kernel
theorem dX4_dropFirst_1 : decode cX4_dropFirst 1 = .ok (.bipush 8, 2) := by decide +kernel
theorem dX4_dropFirst_3 : decode cX4_dropFirst 3 = .ok (.imul, 1) := by decide +kernel
theorem dX4_dropFirst_4 : decode cX4_dropFirst 4 = .ok (.istore_n 3, 1) := by decide +kernel
theorem dX4_dropFirst_5 : decode cX4_dropFirst 5 = .ok (.aload_n 0, 1) := by decide +kernel
theorem dX4_dropFirst_6 : decode cX4_dropFirst 6 = .ok (.getfield 33, 3) := by decide +kernel
theorem dX4_dropFirst_9 : decode cX4_dropFirst 9 = .ok (.iload_n 1, 1) := by decide +kernel
theorem dX4_dropFirst_10 : decode cX4_dropFirst 10 = .ok (.iaload, 1) := by decide +kernel
theorem dX4_dropFirst_11 : decode cX4_dropFirst 11 = .ok (.iload_n 2, 1) := by decide +kernel
theorem dX4_dropFirst_12 : decode cX4_dropFirst 12 = .ok (.isub, 1) := by decide +kernel
theorem dX4_dropFirst_13 : decode cX4_dropFirst 13 = .ok (.istore 4, 2) := by decide +kernel
theorem dX4_dropFirst_15 : decode cX4_dropFirst 15 = .ok (.iconst 0, 1) := by decide +kernel
theorem dX4_dropFirst_16 : decode cX4_dropFirst 16 = .ok (.istore 5, 2) := by decide +kernel
theorem dX4_dropFirst_18 : decode cX4_dropFirst 18 = .ok (.iload 5, 2) := by decide +kernel
theorem dX4_dropFirst_20 : decode cX4_dropFirst 20 = .ok (.iload 4, 2) := by decide +kernel
theorem dX4_dropFirst_22 : decode cX4_dropFirst 22 = .ok (.if_icmp .ge 49, 3) := by decide +kernel
theorem dX4_dropFirst_25 : decode cX4_dropFirst 25 = .ok (.aload_n 0, 1) := by decide +kernel
theorem dX4_dropFirst_26 : decode cX4_dropFirst 26 = .ok (.getfield 36, 3) := by decide +kernel
theorem dX4_dropFirst_29 : decode cX4_dropFirst 29 = .ok (.iload_n 3, 1) := by decide +kernel
theorem dX4_dropFirst_30 : decode cX4_dropFirst 30 = .ok (.iload 5, 2) := by decide +kernel
theorem dX4_dropFirst_32 : decode cX4_dropFirst 32 = .ok (.iadd, 1) := by decide +kernel
theorem dX4_dropFirst_33 : decode cX4_dropFirst 33 = .ok (.aload_n 0, 1) := by decide +kernel
theorem dX4_dropFirst_34 : decode cX4_dropFirst 34 = .ok (.getfield 36, 3) := by decide +kernel
theorem dX4_dropFirst_37 : decode cX4_dropFirst 37 = .ok (.iload_n 3, 1) := by decide +kernel
theorem dX4_dropFirst_38 : decode cX4_dropFirst 38 = .ok (.iload 5, 2) := by decide +kernel
theorem dX4_dropFirst_40 : decode cX4_dropFirst 40 = .ok (.iadd, 1) := by decide +kernel
theorem dX4_dropFirst_41 : decode cX4_dropFirst 41 = .ok (.iload_n 2, 1) := by decide +kernel
theorem dX4_dropFirst_42 : decode cX4_dropFirst 42 = .ok (.iadd, 1) := by decide +kernel
theorem dX4_dropFirst_43 : decode cX4_dropFirst 43 = .ok (.iaload, 1) := by decide +kernel
theorem dX4_dropFirst_44 : decode cX4_dropFirst 44 = .ok (.iastore, 1) := by decide +kernel
theorem dX4_dropFirst_45 : decode cX4_dropFirst 45 = .ok (.aload_n 0, 1) := by decide +kernel
theorem dX4_dropFirst_46 : decode cX4_dropFirst 46 = .ok (.getfield 39, 3) := by decide +kernel
theorem dX4_dropFirst_49 : decode cX4_dropFirst 49 = .ok (.iload_n 3, 1) := by decide +kernel
theorem dX4_dropFirst_50 : decode cX4_dropFirst 50 = .ok (.iload 5, 2) := by decide +kernel
theorem dX4_dropFirst_52 : decode cX4_dropFirst 52 = .ok (.iadd, 1) := by decide +kernel
theorem dX4_dropFirst_53 : decode cX4_dropFirst 53 = .ok (.aload_n 0, 1) := by decide +kernel
theorem dX4_dropFirst_54 : decode cX4_dropFirst 54 = .ok (.getfield 39, 3) := by decide +kernel
theorem dX4_dropFirst_57 : decode cX4_dropFirst 57 = .ok (.iload_n 3, 1) := by decide +kernel
theorem dX4_dropFirst_58 : decode cX4_dropFirst 58 = .ok (.iload 5, 2) := by decide +kernel
theorem dX4_dropFirst_60 : decode cX4_dropFirst 60 = .ok (.iadd, 1) := by decide +kernel
theorem dX4_dropFirst_61 : decode cX4_dropFirst 61 = .ok (.iload_n 2, 1) := by decide +kernel
theorem dX4_dropFirst_62 : decode cX4_dropFirst 62 = .ok (.iadd, 1) := by decide +kernel
theorem dX4_dropFirst_63 : decode cX4_dropFirst 63 = .ok (.iaload, 1) := by decide +kernel
theorem dX4_dropFirst_64 : decode cX4_dropFirst 64 = .ok (.iastore, 1) := by decide +kernel
theorem dX4_dropFirst_65 : decode cX4_dropFirst 65 = .ok (.iinc 5 1, 3) := by decide +kernel
theorem dX4_dropFirst_68 : decode cX4_dropFirst 68 = .ok (.goto (-50), 3) := by decide +kernel
theorem dX4_dropFirst_71 : decode cX4_dropFirst 71 = .ok (.aload_n 0, 1) := by decide +kernel
theorem dX4_dropFirst_72 : decode cX4_dropFirst 72 = .ok (.getfield 33, 3) := by decide +kernel
theorem dX4_dropFirst_75 : decode cX4_dropFirst 75 = .ok (.iload_n 1, 1) := by decide +kernel
theorem dX4_dropFirst_76 : decode cX4_dropFirst 76 = .ok (.iload 4, 2) := by decide +kernel
theorem dX4_dropFirst_78 : decode cX4_dropFirst 78 = .ok (.iastore, 1) := by decide +kernel
theorem dX4_dropFirst_79 : decode cX4_dropFirst 79 = .ok (.return_, 1) := by decide +kernel
theorem dX4_emptyQueues_0 : decode cX4_emptyQueues 0 = .ok (.iconst 0, 1) := by decide +kernel
theorem dX4_emptyQueues_1 : decode cX4_emptyQueues 1 = .ok (.istore_n 1, 1) := by decide +kernel
theorem dX4_emptyQueues_2 : decode cX4_emptyQueues 2 = .ok (.iload_n 1, 1) := by decide +kernel
theorem dX4_emptyQueues_3 : decode cX4_emptyQueues 3 = .ok (.bipush 8, 2) := by decide +kernel
theorem dX4_emptyQueues_5 : decode cX4_emptyQueues 5 = .ok (.if_icmp .ge 16, 3) := by decide +kernel
theorem dX4_emptyQueues_8 : decode cX4_emptyQueues 8 = .ok (.aload_n 0, 1) := by decide +kernel
theorem dX4_emptyQueues_9 : decode cX4_emptyQueues 9 = .ok (.getfield 33, 3) := by decide +kernel
theorem dX4_emptyQueues_12 : decode cX4_emptyQueues 12 = .ok (.iload_n 1, 1) := by decide +kernel
theorem dX4_emptyQueues_13 : decode cX4_emptyQueues 13 = .ok (.iconst 0, 1) := by decide +kernel
theorem dX4_emptyQueues_14 : decode cX4_emptyQueues 14 = .ok (.iastore, 1) := by decide +kernel
theorem dX4_emptyQueues_15 : decode cX4_emptyQueues 15 = .ok (.iinc 1 1, 3) := by decide +kernel
theorem dX4_emptyQueues_18 : decode cX4_emptyQueues 18 = .ok (.goto (-16), 3) := by decide +kernel
theorem dX4_emptyQueues_21 : decode cX4_emptyQueues 21 = .ok (.aload_n 0, 1) := by decide +kernel
theorem dX4_emptyQueues_22 : decode cX4_emptyQueues 22 = .ok (.iconst 0, 1) := by decide +kernel
theorem dX4_emptyQueues_23 : decode cX4_emptyQueues 23 = .ok (.putfield 65, 3) := by decide +kernel
theorem dX4_emptyQueues_26 : decode cX4_emptyQueues 26 = .ok (.return_, 1) := by decide +kernel
theorem dX4_advanceTo_0 : decode cX4_advanceTo 0 = .ok (.iconst 0, 1) := by decide +kernel
theorem dX4_advanceTo_1 : decode cX4_advanceTo 1 = .ok (.istore_n 3, 1) := by decide +kernel
theorem dX4_advanceTo_2 : decode cX4_advanceTo 2 = .ok (.iload_n 3, 1) := by decide +kernel
theorem dX4_advanceTo_3 : decode cX4_advanceTo 3 = .ok (.sipush 200, 3) := by decide +kernel
theorem dX4_advanceTo_6 : decode cX4_advanceTo 6 = .ok (.if_icmp .gt 29, 3) := by decide +kernel
theorem dX4_advanceTo_9 : decode cX4_advanceTo 9 = .ok (.aload_n 0, 1) := by decide +kernel
theorem dX4_advanceTo_10 : decode cX4_advanceTo 10 = .ok (.getfield 58, 3) := by decide +kernel
theorem dX4_advanceTo_13 : decode cX4_advanceTo 13 = .ok (.ifCond .ne 22, 3) := by decide +kernel
theorem dX4_advanceTo_16 : decode cX4_advanceTo 16 = .ok (.aload_n 0, 1) := by decide +kernel
theorem dX4_advanceTo_17 : decode cX4_advanceTo 17 = .ok (.invokevirtual 102, 3) := by decide +kernel
theorem dX4_advanceTo_20 : decode cX4_advanceTo 20 = .ok (.iload_n 2, 1) := by decide +kernel
theorem dX4_advanceTo_21 : decode cX4_advanceTo 21 = .ok (.if_icmp .gt 14, 3) := by decide +kernel
theorem dX4_advanceTo_24 : decode cX4_advanceTo 24 = .ok (.aload_n 0, 1) := by decide +kernel
theorem dX4_advanceTo_25 : decode cX4_advanceTo 25 = .ok (.aload_n 1, 1) := by decide +kernel
theorem dX4_advanceTo_26 : decode cX4_advanceTo 26 = .ok (.invokevirtual 167, 3) := by decide +kernel
theorem dX4_advanceTo_29 : decode cX4_advanceTo 29 = .ok (.iinc 3 1, 3) := by decide +kernel
theorem dX4_advanceTo_32 : decode cX4_advanceTo 32 = .ok (.goto (-30), 3) := by decide +kernel
theorem dX4_advanceTo_35 : decode cX4_advanceTo 35 = .ok (.aload_n 0, 1) := by decide +kernel
theorem dX4_advanceTo_36 : decode cX4_advanceTo 36 = .ok (.getfield 58, 3) := by decide +kernel
theorem dX4_advanceTo_39 : decode cX4_advanceTo 39 = .ok (.ifCond .ne 8, 3) := by decide +kernel
theorem dX4_advanceTo_42 : decode cX4_advanceTo 42 = .ok (.aload_n 0, 1) := by decide +kernel
theorem dX4_advanceTo_43 : decode cX4_advanceTo 43 = .ok (.iload_n 2, 1) := by decide +kernel
theorem dX4_advanceTo_44 : decode cX4_advanceTo 44 = .ok (.putfield 51, 3) := by decide +kernel
theorem dX4_advanceTo_47 : decode cX4_advanceTo 47 = .ok (.iload_n 3, 1) := by decide +kernel
theorem dX4_advanceTo_48 : decode cX4_advanceTo 48 = .ok (.ireturn, 1) := by decide +kernel
theorem dX4_advance_0 : decode cX4_advance 0 = .ok (.aload_n 0, 1) := by decide +kernel
theorem dX4_advance_1 : decode cX4_advance 1 = .ok (.aload_n 0, 1) := by decide +kernel
theorem dX4_advance_2 : decode cX4_advance 2 = .ok (.getfield 51, 3) := by decide +kernel
theorem dX4_advance_5 : decode cX4_advance 5 = .ok (.aload_n 0, 1) := by decide +kernel
theorem dX4_advance_6 : decode cX4_advance 6 = .ok (.invokevirtual 102, 3) := by decide +kernel
theorem dX4_advance_9 : decode cX4_advance 9 = .ok (.invokestatic 170, 3) := by decide +kernel
theorem dX4_advance_12 : decode cX4_advance 12 = .ok (.putfield 51, 3) := by decide +kernel
theorem dX4_advance_15 : decode cX4_advance 15 = .ok (.iconst 0, 1) := by decide +kernel
theorem dX4_advance_16 : decode cX4_advance 16 = .ok (.istore_n 2, 1) := by decide +kernel
theorem dX4_advance_17 : decode cX4_advance 17 = .ok (.iconst 0, 1) := by decide +kernel
theorem dX4_advance_18 : decode cX4_advance 18 = .ok (.istore_n 3, 1) := by decide +kernel
theorem dX4_advance_19 : decode cX4_advance 19 = .ok (.iload_n 3, 1) := by decide +kernel
theorem dX4_advance_20 : decode cX4_advance 20 = .ok (.sipush 1000, 3) := by decide +kernel
theorem dX4_advance_23 : decode cX4_advance 23 = .ok (.if_icmp .ge 53, 3) := by decide +kernel
theorem dX4_advance_26 : decode cX4_advance 26 = .ok (.aload_n 0, 1) := by decide +kernel
theorem dX4_advance_27 : decode cX4_advance 27 = .ok (.getfield 58, 3) := by decide +kernel
theorem dX4_advance_30 : decode cX4_advance 30 = .ok (.ifCond .ne 46, 3) := by decide +kernel
theorem dX4_advance_33 : decode cX4_advance 33 = .ok (.aload_n 0, 1) := by decide +kernel
theorem dX4_advance_34 : decode cX4_advance 34 = .ok (.invokevirtual 102, 3) := by decide +kernel
theorem dX4_advance_37 : decode cX4_advance 37 = .ok (.aload_n 0, 1) := by decide +kernel
theorem dX4_advance_38 : decode cX4_advance 38 = .ok (.getfield 51, 3) := by decide +kernel
theorem dX4_advance_41 : decode cX4_advance 41 = .ok (.if_icmp .gt 35, 3) := by decide +kernel
theorem dX4_advance_44 : decode cX4_advance 44 = .ok (.aload_n 0, 1) := by decide +kernel
theorem dX4_advance_45 : decode cX4_advance 45 = .ok (.aload_n 1, 1) := by decide +kernel
theorem dX4_advance_46 : decode cX4_advance 46 = .ok (.invokevirtual 173, 3) := by decide +kernel
theorem dX4_advance_49 : decode cX4_advance 49 = .ok (.ifCond .eq 6, 3) := by decide +kernel
theorem dX4_advance_52 : decode cX4_advance 52 = .ok (.iinc 2 1, 3) := by decide +kernel
theorem dX4_advance_55 : decode cX4_advance 55 = .ok (.iload_n 2, 1) := by decide +kernel
theorem dX4_advance_56 : decode cX4_advance 56 = .ok (.bipush 40, 2) := by decide +kernel
theorem dX4_advance_58 : decode cX4_advance 58 = .ok (.if_icmp .lt 12, 3) := by decide +kernel
theorem dX4_advance_61 : decode cX4_advance 61 = .ok (.aload_n 0, 1) := by decide +kernel
theorem dX4_advance_62 : decode cX4_advance 62 = .ok (.iconst 1, 1) := by decide +kernel
theorem dX4_advance_63 : decode cX4_advance 63 = .ok (.putfield 58, 3) := by decide +kernel
theorem dX4_advance_66 : decode cX4_advance 66 = .ok (.aload_n 0, 1) := by decide +kernel
theorem dX4_advance_67 : decode cX4_advance 67 = .ok (.invokevirtual 84, 3) := by decide +kernel
theorem dX4_advance_70 : decode cX4_advance 70 = .ok (.iinc 3 1, 3) := by decide +kernel
theorem dX4_advance_73 : decode cX4_advance 73 = .ok (.goto (-54), 3) := by decide +kernel
theorem dX4_advance_76 : decode cX4_advance 76 = .ok (.return_, 1) := by decide +kernel
theorem dX4_makeCycle_0 : decode cX4_makeCycle 0 = .ok (.aload_n 0, 1) := by decide +kernel
theorem dX4_makeCycle_1 : decode cX4_makeCycle 1 = .ok (.aload_n 1, 1) := by decide +kernel
theorem dX4_makeCycle_2 : decode cX4_makeCycle 2 = .ok (.invokevirtual 177, 3) := by decide +kernel
theorem dX4_makeCycle_5 : decode cX4_makeCycle 5 = .ok (.istore_n 2, 1) := by decide +kernel
theorem dX4_makeCycle_6 : decode cX4_makeCycle 6 = .ok (.aload_n 0, 1) := by decide +kernel
theorem dX4_makeCycle_7 : decode cX4_makeCycle 7 = .ok (.invokevirtual 181, 3) := by decide +kernel
theorem dX4_makeCycle_10 : decode cX4_makeCycle 10 = .ok (.istore_n 3, 1) := by decide +kernel
theorem dX4_makeCycle_11 : decode cX4_makeCycle 11 = .ok (.iconst 0, 1) := by decide +kernel
theorem dX4_makeCycle_12 : decode cX4_makeCycle 12 = .ok (.istore 4, 2) := by decide +kernel
theorem dX4_makeCycle_14 : decode cX4_makeCycle 14 = .ok (.iload 4, 2) := by decide +kernel
theorem dX4_makeCycle_16 : decode cX4_makeCycle 16 = .ok (.aload_n 1, 1) := by decide +kernel
theorem dX4_makeCycle_17 : decode cX4_makeCycle 17 = .ok (.getfield 184, 3) := by decide +kernel
theorem dX4_makeCycle_20 : decode cX4_makeCycle 20 = .ok (.if_icmp .ge 36, 3) := by decide +kernel
theorem dX4_makeCycle_23 : decode cX4_makeCycle 23 = .ok (.iload_n 2, 1) := by decide +kernel
theorem dX4_makeCycle_24 : decode cX4_makeCycle 24 = .ok (.iload 4, 2) := by decide +kernel
theorem dX4_makeCycle_26 : decode cX4_makeCycle 26 = .ok (.ishr, 1) := by decide +kernel
theorem dX4_makeCycle_27 : decode cX4_makeCycle 27 = .ok (.iconst 1, 1) := by decide +kernel
theorem dX4_makeCycle_28 : decode cX4_makeCycle 28 = .ok (.iand, 1) := by decide +kernel
theorem dX4_makeCycle_29 : decode cX4_makeCycle 29 = .ok (.iconst 1, 1) := by decide +kernel
theorem dX4_makeCycle_30 : decode cX4_makeCycle 30 = .ok (.if_icmp .ne 20, 3) := by decide +kernel
theorem dX4_makeCycle_33 : decode cX4_makeCycle 33 = .ok (.iload_n 3, 1) := by decide +kernel
theorem dX4_makeCycle_34 : decode cX4_makeCycle 34 = .ok (.aload_n 0, 1) := by decide +kernel
theorem dX4_makeCycle_35 : decode cX4_makeCycle 35 = .ok (.iload 4, 2) := by decide +kernel
theorem dX4_makeCycle_37 : decode cX4_makeCycle 37 = .ok (.aload_n 0, 1) := by decide +kernel
theorem dX4_makeCycle_38 : decode cX4_makeCycle 38 = .ok (.aload_n 1, 1) := by decide +kernel
theorem dX4_makeCycle_39 : decode cX4_makeCycle 39 = .ok (.iload 4, 2) := by decide +kernel
theorem dX4_makeCycle_41 : decode cX4_makeCycle 41 = .ok (.iconst (-1), 1) := by decide +kernel
theorem dX4_makeCycle_42 : decode cX4_makeCycle 42 = .ok (.invokevirtual 187, 3) := by decide +kernel
theorem dX4_makeCycle_45 : decode cX4_makeCycle 45 = .ok (.invokevirtual 191, 3) := by decide +kernel
theorem dX4_makeCycle_48 : decode cX4_makeCycle 48 = .ok (.ior, 1) := by decide +kernel
theorem dX4_makeCycle_49 : decode cX4_makeCycle 49 = .ok (.istore_n 3, 1) := by decide +kernel
theorem dX4_makeCycle_50 : decode cX4_makeCycle 50 = .ok (.iinc 4 1, 3) := by decide +kernel
theorem dX4_makeCycle_53 : decode cX4_makeCycle 53 = .ok (.goto (-39), 3) := by decide +kernel
theorem dX4_makeCycle_56 : decode cX4_makeCycle 56 = .ok (.aload_n 0, 1) := by decide +kernel
theorem dX4_makeCycle_57 : decode cX4_makeCycle 57 = .ok (.aload_n 0, 1) := by decide +kernel
theorem dX4_makeCycle_58 : decode cX4_makeCycle 58 = .ok (.getfield 55, 3) := by decide +kernel
theorem dX4_makeCycle_61 : decode cX4_makeCycle 61 = .ok (.iconst 1, 1) := by decide +kernel
theorem dX4_makeCycle_62 : decode cX4_makeCycle 62 = .ok (.iadd, 1) := by decide +kernel
theorem dX4_makeCycle_63 : decode cX4_makeCycle 63 = .ok (.ldc 194, 2) := by decide +kernel
theorem dX4_makeCycle_65 : decode cX4_makeCycle 65 = .ok (.invokestatic 72, 3) := by decide +kernel
theorem dX4_makeCycle_68 : decode cX4_makeCycle 68 = .ok (.putfield 55, 3) := by decide +kernel
theorem dX4_makeCycle_71 : decode cX4_makeCycle 71 = .ok (.aload_n 0, 1) := by decide +kernel
theorem dX4_makeCycle_72 : decode cX4_makeCycle 72 = .ok (.aload_n 1, 1) := by decide +kernel
theorem dX4_makeCycle_73 : decode cX4_makeCycle 73 = .ok (.iload_n 3, 1) := by decide +kernel
theorem dX4_makeCycle_74 : decode cX4_makeCycle 74 = .ok (.invokevirtual 195, 3) := by decide +kernel
theorem dX4_makeCycle_77 : decode cX4_makeCycle 77 = .ok (.iload_n 3, 1) := by decide +kernel
theorem dX4_makeCycle_78 : decode cX4_makeCycle 78 = .ok (.ifCond .eq 7, 3) := by decide +kernel
theorem dX4_makeCycle_81 : decode cX4_makeCycle 81 = .ok (.iconst 1, 1) := by decide +kernel
theorem dX4_makeCycle_82 : decode cX4_makeCycle 82 = .ok (.goto 4, 3) := by decide +kernel
theorem dX4_makeCycle_85 : decode cX4_makeCycle 85 = .ok (.iconst 0, 1) := by decide +kernel
theorem dX4_makeCycle_86 : decode cX4_makeCycle 86 = .ok (.ireturn, 1) := by decide +kernel
theorem dX4_takeFromQueues_0 : decode cX4_takeFromQueues 0 = .ok (.iconst 0, 1) := by decide +kernel
theorem dX4_takeFromQueues_1 : decode cX4_takeFromQueues 1 = .ok (.istore_n 2, 1) := by decide +kernel
theorem dX4_takeFromQueues_2 : decode cX4_takeFromQueues 2 = .ok (.iconst 0, 1) := by decide +kernel
theorem dX4_takeFromQueues_3 : decode cX4_takeFromQueues 3 = .ok (.istore_n 3, 1) := by decide +kernel
theorem dX4_takeFromQueues_4 : decode cX4_takeFromQueues 4 = .ok (.iload_n 3, 1) := by decide +kernel
theorem dX4_takeFromQueues_5 : decode cX4_takeFromQueues 5 = .ok (.aload_n 1, 1) := by decide +kernel
theorem dX4_takeFromQueues_6 : decode cX4_takeFromQueues 6 = .ok (.getfield 92, 3) := by decide +kernel
theorem dX4_takeFromQueues_9 : decode cX4_takeFromQueues 9 = .ok (.if_icmp .ge 66, 3) := by decide +kernel
theorem dX4_takeFromQueues_12 : decode cX4_takeFromQueues 12 = .ok (.aload_n 0, 1) := by decide +kernel
theorem dX4_takeFromQueues_13 : decode cX4_takeFromQueues 13 = .ok (.getfield 33, 3) := by decide +kernel
theorem dX4_takeFromQueues_16 : decode cX4_takeFromQueues 16 = .ok (.iload_n 3, 1) := by decide +kernel
theorem dX4_takeFromQueues_17 : decode cX4_takeFromQueues 17 = .ok (.iaload, 1) := by decide +kernel
theorem dX4_takeFromQueues_18 : decode cX4_takeFromQueues 18 = .ok (.ifCond .le 51, 3) := by decide +kernel
theorem dX4_takeFromQueues_21 : decode cX4_takeFromQueues 21 = .ok (.aload_n 0, 1) := by decide +kernel
theorem dX4_takeFromQueues_22 : decode cX4_takeFromQueues 22 = .ok (.getfield 36, 3) := by decide +kernel
theorem dX4_takeFromQueues_25 : decode cX4_takeFromQueues 25 = .ok (.iload_n 3, 1) := by decide +kernel
theorem dX4_takeFromQueues_26 : decode cX4_takeFromQueues 26 = .ok (.bipush 8, 2) := by decide +kernel
theorem dX4_takeFromQueues_28 : decode cX4_takeFromQueues 28 = .ok (.imul, 1) := by decide +kernel
theorem dX4_takeFromQueues_29 : decode cX4_takeFromQueues 29 = .ok (.iaload, 1) := by decide +kernel
theorem dX4_takeFromQueues_30 : decode cX4_takeFromQueues 30 = .ok (.aload_n 0, 1) := by decide +kernel
theorem dX4_takeFromQueues_31 : decode cX4_takeFromQueues 31 = .ok (.getfield 51, 3) := by decide +kernel
theorem dX4_takeFromQueues_34 : decode cX4_takeFromQueues 34 = .ok (.if_icmp .gt 35, 3) := by decide +kernel
theorem dX4_takeFromQueues_37 : decode cX4_takeFromQueues 37 = .ok (.aload_n 0, 1) := by decide +kernel
theorem dX4_takeFromQueues_38 : decode cX4_takeFromQueues 38 = .ok (.getfield 30, 3) := by decide +kernel
theorem dX4_takeFromQueues_41 : decode cX4_takeFromQueues 41 = .ok (.iload_n 3, 1) := by decide +kernel
theorem dX4_takeFromQueues_42 : decode cX4_takeFromQueues 42 = .ok (.aload_n 0, 1) := by decide +kernel
theorem dX4_takeFromQueues_43 : decode cX4_takeFromQueues 43 = .ok (.getfield 39, 3) := by decide +kernel
theorem dX4_takeFromQueues_46 : decode cX4_takeFromQueues 46 = .ok (.iload_n 3, 1) := by decide +kernel
theorem dX4_takeFromQueues_47 : decode cX4_takeFromQueues 47 = .ok (.bipush 8, 2) := by decide +kernel
theorem dX4_takeFromQueues_49 : decode cX4_takeFromQueues 49 = .ok (.imul, 1) := by decide +kernel
theorem dX4_takeFromQueues_50 : decode cX4_takeFromQueues 50 = .ok (.iaload, 1) := by decide +kernel
theorem dX4_takeFromQueues_51 : decode cX4_takeFromQueues 51 = .ok (.iastore, 1) := by decide +kernel
theorem dX4_takeFromQueues_52 : decode cX4_takeFromQueues 52 = .ok (.aload_n 0, 1) := by decide +kernel
theorem dX4_takeFromQueues_53 : decode cX4_takeFromQueues 53 = .ok (.iload_n 3, 1) := by decide +kernel
theorem dX4_takeFromQueues_54 : decode cX4_takeFromQueues 54 = .ok (.iconst 1, 1) := by decide +kernel
theorem dX4_takeFromQueues_55 : decode cX4_takeFromQueues 55 = .ok (.invokevirtual 163, 3) := by decide +kernel
theorem dX4_takeFromQueues_58 : decode cX4_takeFromQueues 58 = .ok (.iload_n 2, 1) := by decide +kernel
theorem dX4_takeFromQueues_59 : decode cX4_takeFromQueues 59 = .ok (.iconst 1, 1) := by decide +kernel
theorem dX4_takeFromQueues_60 : decode cX4_takeFromQueues 60 = .ok (.aload_n 1, 1) := by decide +kernel
theorem dX4_takeFromQueues_61 : decode cX4_takeFromQueues 61 = .ok (.getfield 95, 3) := by decide +kernel
theorem dX4_takeFromQueues_64 : decode cX4_takeFromQueues 64 = .ok (.iload_n 3, 1) := by decide +kernel
theorem dX4_takeFromQueues_65 : decode cX4_takeFromQueues 65 = .ok (.iaload, 1) := by decide +kernel
theorem dX4_takeFromQueues_66 : decode cX4_takeFromQueues 66 = .ok (.ishl, 1) := by decide +kernel
theorem dX4_takeFromQueues_67 : decode cX4_takeFromQueues 67 = .ok (.ior, 1) := by decide +kernel
theorem dX4_takeFromQueues_68 : decode cX4_takeFromQueues 68 = .ok (.istore_n 2, 1) := by decide +kernel
theorem dX4_takeFromQueues_69 : decode cX4_takeFromQueues 69 = .ok (.iinc 3 1, 3) := by decide +kernel
theorem dX4_takeFromQueues_72 : decode cX4_takeFromQueues 72 = .ok (.goto (-68), 3) := by decide +kernel
theorem dX4_takeFromQueues_75 : decode cX4_takeFromQueues 75 = .ok (.iload_n 2, 1) := by decide +kernel
theorem dX4_takeFromQueues_76 : decode cX4_takeFromQueues 76 = .ok (.ireturn, 1) := by decide +kernel
theorem dX4_takeByHand_0 : decode cX4_takeByHand 0 = .ok (.aload_n 0, 1) := by decide +kernel
theorem dX4_takeByHand_1 : decode cX4_takeByHand 1 = .ok (.getfield 65, 3) := by decide +kernel
theorem dX4_takeByHand_4 : decode cX4_takeByHand 4 = .ok (.ifCond .eq 16, 3) := by decide +kernel
theorem dX4_takeByHand_7 : decode cX4_takeByHand 7 = .ok (.aload_n 0, 1) := by decide +kernel
theorem dX4_takeByHand_8 : decode cX4_takeByHand 8 = .ok (.getfield 42, 3) := by decide +kernel
theorem dX4_takeByHand_11 : decode cX4_takeByHand 11 = .ok (.iconst 0, 1) := by decide +kernel
theorem dX4_takeByHand_12 : decode cX4_takeByHand 12 = .ok (.iaload, 1) := by decide +kernel
theorem dX4_takeByHand_13 : decode cX4_takeByHand 13 = .ok (.aload_n 0, 1) := by decide +kernel
theorem dX4_takeByHand_14 : decode cX4_takeByHand 14 = .ok (.getfield 51, 3) := by decide +kernel
theorem dX4_takeByHand_17 : decode cX4_takeByHand 17 = .ok (.if_icmp .le 5, 3) := by decide +kernel
theorem dX4_takeByHand_20 : decode cX4_takeByHand 20 = .ok (.iconst 0, 1) := by decide +kernel
theorem dX4_takeByHand_21 : decode cX4_takeByHand 21 = .ok (.ireturn, 1) := by decide +kernel
theorem dX4_takeByHand_22 : decode cX4_takeByHand 22 = .ok (.aload_n 0, 1) := by decide +kernel
theorem dX4_takeByHand_23 : decode cX4_takeByHand 23 = .ok (.getfield 45, 3) := by decide +kernel
theorem dX4_takeByHand_26 : decode cX4_takeByHand 26 = .ok (.iconst 0, 1) := by decide +kernel
theorem dX4_takeByHand_27 : decode cX4_takeByHand 27 = .ok (.iaload, 1) := by decide +kernel
theorem dX4_takeByHand_28 : decode cX4_takeByHand 28 = .ok (.istore_n 1, 1) := by decide +kernel
theorem dX4_takeByHand_29 : decode cX4_takeByHand 29 = .ok (.aload_n 0, 1) := by decide +kernel
theorem dX4_takeByHand_30 : decode cX4_takeByHand 30 = .ok (.getfield 48, 3) := by decide +kernel
theorem dX4_takeByHand_33 : decode cX4_takeByHand 33 = .ok (.iconst 0, 1) := by decide +kernel
theorem dX4_takeByHand_34 : decode cX4_takeByHand 34 = .ok (.iaload, 1) := by decide +kernel
theorem dX4_takeByHand_35 : decode cX4_takeByHand 35 = .ok (.istore_n 2, 1) := by decide +kernel
theorem dX4_takeByHand_36 : decode cX4_takeByHand 36 = .ok (.aload_n 0, 1) := by decide +kernel
theorem dX4_takeByHand_37 : decode cX4_takeByHand 37 = .ok (.dup, 1) := by decide +kernel
theorem dX4_takeByHand_38 : decode cX4_takeByHand 38 = .ok (.getfield 65, 3) := by decide +kernel
theorem dX4_takeByHand_41 : decode cX4_takeByHand 41 = .ok (.iconst 1, 1) := by decide +kernel
theorem dX4_takeByHand_42 : decode cX4_takeByHand 42 = .ok (.isub, 1) := by decide +kernel
theorem dX4_takeByHand_43 : decode cX4_takeByHand 43 = .ok (.putfield 65, 3) := by decide +kernel
theorem dX4_takeByHand_46 : decode cX4_takeByHand 46 = .ok (.iconst 0, 1) := by decide +kernel
theorem dX4_takeByHand_47 : decode cX4_takeByHand 47 = .ok (.istore_n 3, 1) := by decide +kernel
theorem dX4_takeByHand_48 : decode cX4_takeByHand 48 = .ok (.iload_n 3, 1) := by decide +kernel
theorem dX4_takeByHand_49 : decode cX4_takeByHand 49 = .ok (.aload_n 0, 1) := by decide +kernel
theorem dX4_takeByHand_50 : decode cX4_takeByHand 50 = .ok (.getfield 65, 3) := by decide +kernel
theorem dX4_takeByHand_53 : decode cX4_takeByHand 53 = .ok (.if_icmp .ge 51, 3) := by decide +kernel
theorem dX4_takeByHand_56 : decode cX4_takeByHand 56 = .ok (.aload_n 0, 1) := by decide +kernel
theorem dX4_takeByHand_57 : decode cX4_takeByHand 57 = .ok (.getfield 42, 3) := by decide +kernel
theorem dX4_takeByHand_60 : decode cX4_takeByHand 60 = .ok (.iload_n 3, 1) := by decide +kernel
theorem dX4_takeByHand_61 : decode cX4_takeByHand 61 = .ok (.aload_n 0, 1) := by decide +kernel
theorem dX4_takeByHand_62 : decode cX4_takeByHand 62 = .ok (.getfield 42, 3) := by decide +kernel
